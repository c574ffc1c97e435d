/-! A NEW NODE -/
def nodS (S : St) (k fa fb nu : Nat) : St := sI (sR (sR (sR (sR S 1 (uN (S.2 1) (S.1 1) k)) 2 (uN (S.2 2) (S.1 1) fa)) 3 (uN (S.2 3) (S.1 1) fb)) 4 (uN (S.2 4) (S.1 1) nu)) 1 (S.1 1 + 1)
def NewN (S : St) (k fa fb nu : Nat) : Prop := k ≤ 16 ∧ fa < 32 ∧ fb < 32 ∧ (k = 0 → fa < S.1 0) ∧ (2 ≤ k → fa < S.1 1) ∧ (2 ≤ k ∧ k ≤ 7 → fb < S.1 1) ∧ Cn nu
theorem nod_old {S : St} {k fa fb nu i : Nat} (hi : i < S.1 1) : (nodS S k fa fb nu).2 1 i = S.2 1 i ∧ (nodS S k fa fb nu).2 2 i = S.2 2 i ∧ (nodS S k fa fb nu).2 3 i = S.2 3 i ∧ (nodS S k fa fb nu).2 4 i = S.2 4 i := by
  have h : i ≠ S.1 1 := by omega
  exact ⟨uN_n (S.2 1) k h, uN_n (S.2 2) fa h, uN_n (S.2 3) fb h, uN_n (S.2 4) nu h⟩
theorem nod_new (S : St) (k fa fb nu : Nat) : (nodS S k fa fb nu).2 1 (S.1 1) = k ∧ (nodS S k fa fb nu).2 2 (S.1 1) = fa ∧ (nodS S k fa fb nu).2 3 (S.1 1) = fb ∧ (nodS S k fa fb nu).2 4 (S.1 1) = nu := ⟨uN_s _ _ _, uN_s _ _ _, uN_s _ _ _, uN_s _ _ _⟩
theorem nod_nd {S : St} {k fa fb nu i : Nat} (hi : i < S.1 1 + 1) (hN : ∀ i, i < S.1 1 → NdS S i) (hW : NewN S k fa fb nu) : NdS (nodS S k fa fb nu) i := by
  by_cases e : i = S.1 1
  · subst e
    obtain ⟨e1, e2, e3, e4⟩ := nod_new S k fa fb nu
    unfold NdS; rw [e1, e2, e3, e4]; exact hW
  · have hi' : i < S.1 1 := by omega
    obtain ⟨e1, e2, e3, e4⟩ := nod_old (k := k) (fa := fa) (fb := fb) (nu := nu) hi'
    unfold NdS; rw [e1, e2, e3, e4]; exact hN i hi'
theorem nod_ned {S : St} {l : Int32} {k fa fb nu : Nat} (h32 : S.1 1 < 32) (h : NedC l S) : NedC l (nodS S k fa fb nu) := by
  obtain ⟨h1, h2, h3⟩ := h
  refine ⟨fun i hi b k2 => ?_, h2, fun j hj q => h3 j hj (Nat.le_of_succ_le q)⟩
  have hi : i < S.1 1 + 1 := hi
  by_cases e : i = S.1 1
  · subst e
    rw [h3 _ h32 (Nat.le_refl _)] at b; exact Bool.noConfusion b
  · have hi' : i < S.1 1 := by omega
    obtain ⟨e1, e2, e3, -⟩ := nod_old (k := k) (fa := fa) (fb := fb) (nu := nu) hi'
    rw [e1] at k2 ⊢
    rw [e2, e3]; exact h1 i hi' b k2
theorem rc_node {c d : CS} {S : St} (hc : RC c S) (h32 : S.1 1 < 32) {k fa fb nu : Nat} (hW : NewN S k fa fb nu) (f1 : ∀ j, j ≠ 2 → d.1 j = c.1 j) (f2 : d.1 2 = nI (S.1 1 + 1)) (f3 : ∀ j, j ≠ 6 → j ≠ 7 → j ≠ 8 → d.2.1 j = c.2.1 j) (f4 : ∀ j, j ≠ 9 → d.2.2 j = c.2.2 j)
    (g6 : d.2.1 6 = upd (c.2.1 6) (S.1 1) (nI k)) (g7 : d.2.1 7 = upd (c.2.1 7) (S.1 1) (nI fa)) (g8 : d.2.1 8 = upd (c.2.1 8) (S.1 1) (nI fb)) (g9 : d.2.2 9 = vp_updL (c.2.2 9) (S.1 1) (lN nu)) : RC d (nodS S k fa fb nu) := by
  obtain ⟨⟨wf, a0, a3, hN, hro, hs⟩, hR⟩ := hc
  refine ⟨⟨wf, by rw [f1 0 (by decide)]; exact a0, by rw [f1 3 (by decide)]; exact a3, ⟨f2, h32, fun i hi => ⟨nod_nd hi (fun i hi => (hN.2.2 i hi).1) hW, ?_⟩⟩, fun r hr => ?_, ?_⟩, fun q => ?_⟩
  · have hi : i < S.1 1 + 1 := hi
    rw [g6, g7, g8, g9]
    unfold upd vp_updL
    by_cases e : i = S.1 1
    · subst e
      obtain ⟨e1, e2, e3, e4⟩ := nod_new S k fa fb nu
      rw [e1, e2, e3, e4, if_pos rfl, if_pos rfl, if_pos rfl, if_pos rfl]; exact ⟨rfl, rfl, rfl, rfl⟩
    · have hi' : i < S.1 1 := by omega
      obtain ⟨e1, e2, e3, e4⟩ := nod_old (k := k) (fa := fa) (fb := fb) (nu := nu) hi'
      rw [e1, e2, e3, e4, if_neg e, if_neg e, if_neg e, if_neg e]; exact (hN.2.2 i hi').2
  · rw [f3 2 (by decide) (by decide) (by decide)]
    exact ⟨(hro r hr).1, Nat.le_succ_of_le (hro r hr).2⟩
  · rw [f4 1 (by decide)]; exact hs
  · obtain ⟨p, e4, hned, hb⟩ := hR q
    refine ⟨p, by rw [f1 4 (by decide)]; exact e4, by rw [f1 1 (by decide)]; exact nod_ned h32 hned, fun b hb' => ?_⟩
    obtain ⟨⟨s1, s2, s3⟩, bx⟩ := hb b hb'
    obtain ⟨bC, bS⟩ := bx trivial
    have w3 := wf.1
    have cg : ∀ j, j < 6 → (nodS S k fa fb nu).2 6 (6 * b + j) = S.2 6 (6 * b + j) := fun _ _ => rfl
    have s1' : SidC d (nodS S k fa fb nu) b := by unfold SidC; rw [f4 12 (by decide)]; exact s1
    refine ⟨⟨s1', s2, s3⟩, fun _ => ⟨⟨s1', ?_, ?_, ?_, ?_, ?_, ?_⟩, bS⟩⟩
    · rw [f3 15 (by decide) (by decide) (by decide)]; exact bC.2.1
    · rw [f4 13 (by decide)]; exact bC.2.2.1
    · rw [f4 14 (by decide)]; exact bC.2.2.2.1
    · rw [f3 17 (by decide) (by decide) (by decide), wid_cg (S := S) (T := nodS S k fa fb nu) rfl w3 cg]; exact bC.2.2.2.2.1
    · rw [f4 18 (by decide), mid_cg (S := S) (T := nodS S k fa fb nu) rfl w3 p cg]; exact bC.2.2.2.2.2.1
    · rw [f3 19 (by decide) (by decide) (by decide), if_iff (tgt_cg (S := S) (T := nodS S k fa fb nu) rfl w3 p cg)]; exact bC.2.2.2.2.2.2
theorem rm_node {m d : MS} {S : St} (hm : RM m S) (h32 : S.1 1 < 32) {k fa fb nu : Nat} {A B : Int32} (hW : NewN S k fa fb nu) (hA : k ≠ 1 → A = nI fa) (hB : 2 ≤ k ∧ k ≤ 7 → B = nI fb) (f1 : ∀ j, j ≠ 2 → d.1 j = m.1 j) (f2 : d.1 2 = nI (S.1 1 + 1)) (f3 : ∀ j, j ≠ 23 → j ≠ 24 → j ≠ 25 → d.2.1 j = m.2.1 j) (f4 : ∀ j, j ≠ 26 → d.2.2 j = m.2.2 j)
    (g6 : d.2.1 23 = upd (m.2.1 23) (S.1 1) (nI k)) (g7 : d.2.1 24 = upd (m.2.1 24) (S.1 1) A) (g8 : d.2.1 25 = upd (m.2.1 25) (S.1 1) B) (g9 : d.2.2 26 = vf_upd (m.2.2 26) (S.1 1) (dN nu)) : RM d (nodS S k fa fb nu) := by
  obtain ⟨⟨wf, a1, a4, hN, hro, hs⟩, e3, e5, hR⟩ := hm
  refine ⟨⟨wf, by rw [f1 1 (by decide)]; exact a1, by rw [f1 4 (by decide)]; exact a4, ⟨f2, h32, fun i hi => ⟨nod_nd hi (fun i hi => (hN.2.2 i hi).1) hW, ?_⟩⟩, fun r hr => ?_, ?_⟩, by rw [f1 3 (by decide)]; exact e3, by rw [f1 5 (by decide)]; exact e5, fun q => ?_⟩
  · have hi : i < S.1 1 + 1 := hi
    rw [g6, g7, g8, g9]
    unfold upd vf_upd
    by_cases e : i = S.1 1
    · subst e
      obtain ⟨n1, n2, n3, n4⟩ := nod_new S k fa fb nu
      rw [n1, n2, n3, n4, if_pos rfl, if_pos rfl, if_pos rfl, if_pos rfl]; exact ⟨rfl, hA, hB, rfl⟩
    · have hi' : i < S.1 1 := by omega
      obtain ⟨n1, n2, n3, n4⟩ := nod_old (k := k) (fa := fa) (fb := fb) (nu := nu) hi'
      rw [n1, n2, n3, n4, if_neg e, if_neg e, if_neg e, if_neg e]; exact (hN.2.2 i hi').2
  · rw [f3 27 (by decide) (by decide) (by decide)]
    exact ⟨(hro r hr).1, Nat.le_succ_of_le (hro r hr).2⟩
  · rw [f4 21 (by decide), f4 22 (by decide)]; exact hs
  · obtain ⟨p, hb⟩ := hR q
    refine ⟨p, fun b hb' => ?_⟩
    obtain ⟨⟨s1, s2, s3⟩, bx⟩ := hb b hb'
    obtain ⟨bC, bS⟩ := bx trivial
    have s1' : SidM d (nodS S k fa fb nu) b := by unfold SidM; rw [f4 28 (by decide), f4 29 (by decide)]; exact s1
    refine ⟨⟨s1', s2, s3⟩, fun _ => ⟨⟨s1', ?_, ?_, ?_⟩, bS⟩⟩
    · rw [f3 30 (by decide) (by decide) (by decide)]; exact bC.2.1
    · rw [f4 31 (by decide)]; exact bC.2.2.1
    · rw [f4 32 (by decide)]; exact bC.2.2.2
def ntail (X : MS) (a b d : Int32) (e : Int64) (kr : Int32 → MS → Prop) : Prop :=
  (vp_in (X.1 2) 32 ∧ (vp_in ((msetA X 23 (upd (X.2.1 23) (X.1 2).toNatClampNeg a)).1 2) 32 ∧ (∀ Y21 : MS, Y21 = (msetA (msetA X 23 (upd (X.2.1 23) (X.1 2).toNatClampNeg a)) 24 (upd ((msetA X 23 (upd (X.2.1 23) (X.1 2).toNatClampNeg a)).2.1 24) ((msetA X 23 (upd (X.2.1 23) (X.1 2).toNatClampNeg a)).1 2).toNatClampNeg b)) → (vp_in (Y21.1 2) 32 ∧ (wX4_of e (fun r22 => (vp_in ((msetA Y21 25 (upd (Y21.2.1 25) (Y21.1 2).toNatClampNeg d)).1 2) 32 ∧ (∀ Y23 : MS, Y23 = (msetL (msetA Y21 25 (upd (Y21.2.1 25) (Y21.1 2).toNatClampNeg d)) 26 (vf_upd ((msetA Y21 25 (upd (Y21.2.1 25) (Y21.1 2).toNatClampNeg d)).2.2 26) ((msetA Y21 25 (upd (Y21.2.1 25) (Y21.1 2).toNatClampNeg d)).1 2).toNatClampNeg r22)) → kr (((msetI Y23 2 ((Y23.1 2) + (1 : Int32))).1 2) - (1 : Int32)) (msetI Y23 2 ((Y23.1 2) + (1 : Int32)))))))))))
theorem m_ntail {X : MS} {S : St} (hm : RM X S) (h32 : S.1 1 < 32) {k fa fb u : Nat} (hu : u < 2 ^ 64) {A B : Int32} (hW : NewN S k fa fb (tld u)) (hA : k ≠ 1 → A = nI fa) (hB : 2 ≤ k ∧ k ≤ 7 → B = nI fb) {kr : Int32 → MS → Prop} (K : ∀ d, RM d (nodS S k fa fb (tld u)) → kr (nI (S.1 1)) d) : ntail X (nI k) A B (lN u) kr := by
  have e2 := hm.1.2.2.2.1.1
  have ii := in_nI h32 (by decide)
  unfold ntail
  have e2' : ∀ f, (msetA X 23 f).1 2 = nI (S.1 1) := fun f => e2
  rw [e2', e2, nI_cl (by omega)]
  refine ⟨ii, ii, fun Y21 h21 => ?_⟩
  have y2 : Y21.1 2 = nI (S.1 1) := by rw [h21]; exact e2
  have y2' : ∀ f, (msetA Y21 25 f).1 2 = nI (S.1 1) := fun f => y2
  rw [y2, nI_cl (by omega)]
  refine ⟨ii, m_of hu ?_⟩
  rw [y2', nI_cl (by omega)]
  refine ⟨ii, fun Y23 h23 => ?_⟩
  have z2 : Y23.1 2 = nI (S.1 1) := by rw [h23]; exact y2
  rw [z2, nI_s (by omega)]
  have g : (msetI Y23 2 (nI (S.1 1 + 1))).1 2 = nI (S.1 1 + 1) := rfl
  rw [g, show nI (S.1 1 + 1) - (1 : Int32) = nI (S.1 1) from by rw [show (1 : Int32) = nI 1 from rfl, nI_sb (by omega) (by omega), Nat.add_sub_cancel]]
  subst h23
  subst h21
  refine K _ (rm_node hm h32 hW hA hB (fun j hj => ?_) rfl (fun j a1 a2 a3 => ?_) (fun j hj => ?_) rfl rfl rfl rfl)
  · show (if j = 2 then _ else X.1 j) = _
    rw [if_neg hj]
  · show (if j = 25 then _ else if j = 24 then _ else if j = 23 then _ else X.2.1 j) = _
    rw [if_neg a3, if_neg a2, if_neg a1]
  · show (if j = 26 then _ else X.2.2 j) = _
    rw [if_neg hj]
theorem c_nadd {c : CS} {S : St} (hc : RC c S) (h32 : S.1 1 < 32) {k fa fb u : Nat} (hu : u < 2 ^ 64) (hW : NewN S k fa fb (tld u)) : RC (setI (setL (setA (setA (setA c 6 (upd (c.2.1 6) (c.1 2).toNatClampNeg (nI k))) 7 (upd (c.2.1 7) (c.1 2).toNatClampNeg (nI fa))) 8 (upd (c.2.1 8) (c.1 2).toNatClampNeg (nI fb))) 9 (vp_updL (c.2.2 9) (c.1 2).toNatClampNeg (fX1_told (lN u)))) 2 (c.1 2 + (1 : Int32))) (nodS S k fa fb (tld u)) := by
  have e2 := hc.1.2.2.2.1.1
  rw [e2, nI_cl (by omega), nI_s (by omega), c_told hu]
  refine rc_node hc h32 hW (fun j hj => ?_) rfl (fun j a1 a2 a3 => ?_) (fun j hj => ?_) rfl rfl rfl rfl
  · show (if j = 2 then _ else c.1 j) = _
    rw [if_neg hj]
  · show (if j = 8 then _ else if j = 7 then _ else if j = 6 then _ else c.2.1 j) = _
    rw [if_neg a3, if_neg a2, if_neg a1]
  · show (if j = 9 then _ else c.2.2 j) = _
    rw [if_neg hj]
theorem v_add (c : CS) (a b d : Int32) (e : Int64) : vX0_add c a b d e = c.1 2 := by
  unfold vX0_add
  repeat' split
  all_goals rfl
theorem a_node {c : CS} {m : MS} {S : St} (hc : RC c S) (hm : RM m S) (a b d : Int32) (e : Int64) : Agr Int32 (wX3_node c a b d e) (wX4_node m a b d e) := by
  have h3 := hc.1.1.1
  have h32 := hc.1.2.2.2.1.2.1
  have hm0 := hm.f0 0
  obtain ⟨u, hu, rfl⟩ := any_lN e
  have e2 := hc.1.2.2.2.1.1
  have e2m : (msetI m 0 (0 : Int32)).1 2 = nI (S.1 1) := hm0.1.2.2.2.1.1
  have e1m : (msetI m 0 (0 : Int32)).1 1 = nI (S.1 0) := hm0.1.2.1
  have t16 : (16 : Int32).toInt = 16 := rfl
  have n0 : ∀ {x : Nat}, x ≠ 0 → x ≤ 16 → nI x ≠ (0 : Int32) := fun h h2 => nI_n0 (by omega) h
  rcases i_dec a 17 (by decide) with ⟨a0, a1, k, hk, rfl⟩ | ha
  · have isk : fX0_isKind (nI k) = 1 := by
      unfold fX0_isKind
      rw [if_neg (by rw [Int32.lt_iff_toInt_lt, t0]; omega), if_neg (by rw [Int32.lt_iff_toInt_lt, t16]; omega)]
    have gi : ∀ {kr : Int32 → Prop}, kr 1 → wX4_in (nI k) (0 : Int32) (16 : Int32) kr := fun K => m_in1 (by rw [t0]; exact a0) (by rw [t16]; omega) K
    have ctn := Cn_tld hu
    /- full or not, once the parts are right -/
    have fullC : ∀ (kr : Int32 → CS → Prop), ¬ S.1 1 < 32 → vX0_areParts c (nI k) b d (c.1 0) ≠ 0 → kr (-4) c → wX3_node c (nI k) b d (lN u) kr := by
      intro kr f hp K
      unfold wX3_node bX3_node_0
      rw [isk, e2]
      exact ifn (by decide) (ifn hp (ifn (fun q => by rw [show (32 : Int32) = nI 32 from rfl, nI_ltX (by omega) (by omega)] at q; omega) K))
    have addC : ∀ (kr : Int32 → CS → Prop), S.1 1 < 32 → vX0_areParts c (nI k) b d (c.1 0) ≠ 0 → kr (nI (S.1 1)) (gX0_add c (nI k) b d (lN u)) → wX3_node c (nI k) b d (lN u) kr := by
      intro kr f hp K
      unfold wX3_node bX3_node_0
      rw [isk, v_add, e2]
      exact ifn (by decide) (ifn hp (ifp ((nI_ltX (b := 32) (by omega) (by decide)).mpr f) ⟨in_nI f (by decide), K⟩))
    have badC : ∀ (kr : Int32 → CS → Prop), vX0_areParts c (nI k) b d (c.1 0) = 0 → kr (-1) c → wX3_node c (nI k) b d (lN u) kr := by
      intro kr hp K
      unfold wX3_node bX3_node_0
      rw [isk, hp]
      exact ifn (by decide) (ifp rfl K)
    have finM : ∀ {kr : Int32 → MS → Prop} {fa fb : Nat}, NewN S k fa fb (tld u) → (k ≠ 1 → b = nI fa) → (2 ≤ k ∧ k ≤ 7 → d = nI fb) → (S.1 1 < 32 → ∀ x, RM x (nodS S k fa fb (tld u)) → kr (nI (S.1 1)) x) → (¬ S.1 1 < 32 → kr (-4) (msetI m 0 0)) → (if ((msetI m 0 (0 : Int32)).1 2) = (32 : Int32) then kr (-4 : Int32) (msetI m 0 (0 : Int32)) else ntail (msetI m 0 (0 : Int32)) (nI k) b d (lN u) kr) := by
      intro kr fa fb hW hA hB K1 K2
      rw [e2m]
      by_cases f : S.1 1 < 32
      · exact ifn (nI_ne (b := 32) (by omega) (by decide) (by omega)) (m_ntail hm0 f hu hW hA hB (K1 f))
      · exact ifp (by rw [show S.1 1 = 32 by omega]; rfl) (K2 f)
    have tw0 : ¬ (2 ≤ k ∧ k ≤ 7) → ∀ {kr : Int32 → Prop}, kr 0 → wX4_isTwo (nI k) kr := fun h kr K => m_two (by omega) (by rw [if_neg h]; exact K)
    have tw1 : (2 ≤ k ∧ k ≤ 7) → ∀ {kr : Int32 → Prop}, kr 1 → wX4_isTwo (nI k) kr := fun h kr K => m_two (by omega) (by rw [if_pos h]; exact K)
    /- both ends of a call whose parts are right -/
    have close : ∀ fa fb, NewN S k fa fb (tld u) → vX0_areParts c (nI k) b d (c.1 0) ≠ 0 → (S.1 1 < 32 → RC (gX0_add c (nI k) b d (lN u)) (nodS S k fa fb (tld u))) → (∀ kr : Int32 → MS → Prop, (S.1 1 < 32 → ∀ x, RM x (nodS S k fa fb (tld u)) → kr (nI (S.1 1)) x) → (¬ S.1 1 < 32 → kr (-4) (msetI m 0 0)) → wX4_node m (nI k) b d (lN u) kr) → Agr Int32 (wX3_node c (nI k) b d (lN u)) (wX4_node m (nI k) b d (lN u)) := by
      intro fa fb hW hp hC hM
      by_cases f : S.1 1 < 32
      · exact ⟨nI (S.1 1), nodS S k fa fb (tld u), fun kr K => addC kr f hp (K _ (hC f)), fun kr K => hM kr (fun _ x hx => K x hx) (fun q => absurd f q)⟩
      · exact ⟨-4, S, fun kr K => fullC kr f hp (K c hc), fun kr K => hM kr (fun q => absurd q f) (fun _ => K _ hm0)⟩
    by_cases k0 : k = 0
    · subst k0
      rcases i_dec b (S.1 0) (by omega) with ⟨b0, b1, p, hp, rfl⟩ | hb
      · have hW : NewN S 0 p 0 (tld u) := ⟨by decide, by omega, by decide, fun _ => hp, fun q => by omega, fun q => by omega, ctn⟩
        refine close p 0 hW ?_ (fun f => ?_) (fun kr K1 K2 => ?_)
        · unfold vX0_areParts
          rw [hc.1.2.1, if_pos (show nI 0 = (0 : Int32) from rfl), if_neg (by rw [Int32.lt_iff_toInt_lt, t0]; omega), if_neg (by rw [nI_leX (by omega) (by omega)]; omega)]; decide
        · unfold gX0_add
          rw [if_pos (show nI 0 = (0 : Int32) from rfl), show fX0_hasSecond (nI 0) = 0 from by decide, if_pos rfl]
          exact c_nadd hc f hu hW
        · unfold wX4_node bX4_node_0
          refine gi (ifn (by decide) (ifp rfl ?_))
          rw [e1m]
          refine m_in1 (by rw [t0]; exact b0) (by rw [pred_t (by omega)]; omega) (ifn (by decide) (ifp (by decide) (tw0 (by decide) (ifp rfl ?_))))
          exact finM hW (fun _ => rfl) (fun q => by omega) K1 K2
      · refine ⟨-1, S, fun kr K => badC kr ?_ (K c hc), fun kr K => ?_⟩
        · unfold vX0_areParts
          rw [hc.1.2.1, if_pos (show nI 0 = (0 : Int32) from rfl)]
          by_cases q : b < 0
          · rw [if_pos q]
          · rw [if_neg q, if_pos]
            rw [Int32.lt_iff_toInt_lt, t0] at q
            rw [Int32.le_iff_toInt_le, nI_toInt (by omega)]; omega
        · unfold wX4_node bX4_node_0
          refine gi (ifn (by decide) (ifp rfl ?_))
          rw [e1m]
          exact m_in0 (by rw [t0, pred_t (by omega)]; omega) (ifp rfl (K _ hm0))
    · by_cases k1 : k = 1
      · subst k1
        have hW : NewN S 1 0 0 (tld u) := ⟨by decide, by decide, by decide, fun q => by omega, fun q => by omega, fun q => by omega, ctn⟩
        refine close 0 0 hW ?_ (fun f => ?_) (fun kr K1 K2 => ?_)
        · unfold vX0_areParts
          rw [if_neg (show ¬ nI 1 = (0 : Int32) by decide), show fX0_hasFirst (nI 1) = 0 from by decide, show fX0_hasSecond (nI 1) = 0 from by decide, if_pos rfl, if_pos rfl]; decide
        · unfold gX0_add
          rw [if_neg (show ¬ nI 1 = (0 : Int32) by decide), show fX0_hasFirst (nI 1) = 0 from by decide, show fX0_hasSecond (nI 1) = 0 from by decide, if_pos rfl, if_pos rfl]
          exact c_nadd hc f hu hW
        · unfold wX4_node bX4_node_0
          refine gi (ifn (by decide) (ifn (by decide) (ifp (by decide) (tw0 (by decide) (ifp rfl ?_)))))
          exact finM hW (fun q => absurd rfl q) (fun q => by omega) K1 K2
      · have k2 : 2 ≤ k := by omega
        have kn0 : nI k ≠ (0 : Int32) := nI_n0 (by omega) k0
        have hf : fX0_hasFirst (nI k) = 1 := by rw [c_hf (by omega), if_pos k2]
        have i10 : ¬ (1 : Int32) = 0 := by decide
        have kle : ¬ nI k ≤ (1 : Int32) := fun q => by rw [show (1 : Int32) = nI 1 from rfl, nI_leX (by omega) (by omega)] at q; omega
        rcases i_dec b (S.1 1) (by omega) with ⟨b0, b1, p, hp, rfl⟩ | hb
        · by_cases k7 : k ≤ 7
          · rcases i_dec d (S.1 1) (by omega) with ⟨d0', d1', q, hq, rfl⟩ | hd
            · have hW : NewN S k p q (tld u) := ⟨by omega, by omega, by omega, fun z => absurd z k0, fun _ => hp, fun _ => hq, ctn⟩
              refine close p q hW ?_ (fun f => ?_) (fun kr K1 K2 => ?_)
              · unfold vX0_areParts
                rw [if_neg kn0, hf, hasN1 hc.1 hp, hasN1 hc.1 hq, if_neg i10, if_neg i10, c_hs (k := k) (by omega), if_pos (show 2 ≤ k ∧ k ≤ 7 from ⟨k2, k7⟩), if_neg i10, if_neg i10]; decide
              · unfold gX0_add
                rw [if_neg kn0, hf, if_neg i10, c_hs (k := k) (by omega), if_pos (show 2 ≤ k ∧ k ≤ 7 from ⟨k2, k7⟩), if_neg i10]
                exact c_nadd hc f hu hW
              · unfold wX4_node bX4_node_0
                refine gi (ifn (by decide) (ifn kn0 (ifn kle (m_nod1 hm0.1 hp (ifn (by decide) (tw1 ⟨k2, k7⟩ (ifn (by decide) (m_nod1 hm0.1 hq (ifn (by decide) ?_)))))))))
                exact finM hW (fun _ => rfl) (fun _ => rfl) K1 K2
            · refine ⟨-1, S, fun kr K => badC kr ?_ (K c hc), fun kr K => ?_⟩
              · unfold vX0_areParts
                rw [if_neg kn0, hf, hasN1 hc.1 hp, hasN0 hc.1 hd, if_neg i10, if_neg i10, c_hs (k := k) (by omega), if_pos (show 2 ≤ k ∧ k ≤ 7 from ⟨k2, k7⟩), if_neg i10, if_pos rfl]
              · unfold wX4_node bX4_node_0
                exact gi (ifn (by decide) (ifn kn0 (ifn kle (m_nod1 hm0.1 hp (ifn (by decide) (tw1 ⟨k2, k7⟩ (ifn (by decide) (m_nod0 hm0.1 hd (ifp rfl (K _ hm0))))))))))
          · have hW : NewN S k p 0 (tld u) := ⟨by omega, by omega, by decide, fun z => absurd z k0, fun _ => hp, fun z => absurd z.2 k7, ctn⟩
            have nt : ¬ (2 ≤ k ∧ k ≤ 7) := fun z => k7 z.2
            refine close p 0 hW ?_ (fun f => ?_) (fun kr K1 K2 => ?_)
            · unfold vX0_areParts
              rw [if_neg kn0, hf, hasN1 hc.1 hp, if_neg i10, if_neg i10, c_hs (k := k) (by omega), if_neg nt, if_pos rfl]; decide
            · unfold gX0_add
              rw [if_neg kn0, hf, if_neg i10, c_hs (k := k) (by omega), if_neg nt, if_pos rfl]
              exact c_nadd hc f hu hW
            · unfold wX4_node bX4_node_0
              refine gi (ifn (by decide) (ifn kn0 (ifn kle (m_nod1 hm0.1 hp (ifn (by decide) (tw0 nt (ifp rfl ?_)))))))
              exact finM hW (fun _ => rfl) (fun z => absurd z nt) K1 K2
        · refine ⟨-1, S, fun kr K => badC kr ?_ (K c hc), fun kr K => ?_⟩
          · unfold vX0_areParts
            rw [if_neg kn0, hf, hasN0 hc.1 hb, if_neg i10, if_pos rfl]
          · unfold wX4_node bX4_node_0
            exact gi (ifn (by decide) (ifn kn0 (ifn kle (m_nod0 hm0.1 hb (ifp rfl (K _ hm0))))))
  · refine ⟨-2, S, fun kr K => ?_, fun kr K => ?_⟩
    · unfold wX3_node bX3_node_0
      have isk : fX0_isKind a = 0 := by
        unfold fX0_isKind
        by_cases q : a < 0
        · rw [if_pos q]
        · rw [if_neg q, if_pos]
          rw [Int32.lt_iff_toInt_lt, t0] at q
          rw [Int32.lt_iff_toInt_lt, t16]; omega
      rw [isk]; exact ifp rfl (K c hc)
    · unfold wX4_node bX4_node_0
      exact m_in0 (by rw [t0, t16]; omega) (ifp rfl (K _ hm0))
