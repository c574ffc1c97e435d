/-! CALLS THAT ONLY LOOK -/
theorem RC.fr {c d : CS} {S : St} (h : RC c S) (f1 : d.1 = c.1) (f2 : d.2.1 = c.2.1) (f3 : ∀ j, j ≠ 4 → j ≠ 5 → j ≠ 10 → d.2.2 j = c.2.2 j) : RC d S := by
  obtain ⟨⟨w, a0, a3, hN, hr, hs⟩, hR⟩ := h
  refine ⟨⟨w, by rw [f1]; exact a0, by rw [f1]; exact a3, ?_, ?_, ?_⟩, fun q => ?_⟩
  · unfold NodC; rw [f1, f2, f3 9 (by decide) (by decide) (by decide)]; exact hN
  · unfold RolC; rw [f2]; exact hr
  · rw [f3 1 (by decide) (by decide) (by decide)]; exact hs
  · obtain ⟨p, e4, hned, hb⟩ := hR q
    refine ⟨p, by rw [f1]; exact e4, by rw [f1]; exact hned, fun b q => ?_⟩
    unfold BoxC SidC
    rw [f2, f3 12 (by decide) (by decide) (by decide), f3 13 (by decide) (by decide) (by decide), f3 14 (by decide) (by decide) (by decide), f3 18 (by decide) (by decide) (by decide)]
    exact hb b q
theorem RM.fm {m d : MS} {S : St} (h : RM m S) (f : Fm m d) : RM d S := by
  obtain ⟨⟨w, a1, a4, hN, hr, hs⟩, e3, e5, hR⟩ := h
  refine ⟨⟨w, by rw [f.1]; exact a1, by rw [f.1]; exact a4, f.nod hN, f.rol hr, ?_⟩, by rw [f.1]; exact e3, by rw [f.1]; exact e5, fun q => ?_⟩
  · rw [f.2.2 21 (by decide), f.2.2 22 (by decide)]; exact hs
  · obtain ⟨p, hb⟩ := hR q
    refine ⟨p, fun b q => ?_⟩
    unfold SidM BoxM SidM
    rw [f.2.1, f.2.2 28 (by decide), f.2.2 29 (by decide), f.2.2 31 (by decide), f.2.2 32 (by decide)]
    exact hb b q
theorem has1 {x y : Int32} (h0 : 0 ≤ x.toInt) (h1 : x.toInt < y.toInt) : (if x < 0 then (0 : Int32) else if y ≤ x then 0 else 1) = 1 := by
  rw [if_neg (by rw [Int32.lt_iff_toInt_lt, t0]; omega), if_neg (by rw [Int32.le_iff_toInt_le]; omega)]
theorem has0 {x y : Int32} (h : x.toInt < 0 ∨ y.toInt ≤ x.toInt) : (if x < 0 then (0 : Int32) else if y ≤ x then 0 else 1) = 0 := by
  by_cases q : x < 0
  · rw [if_pos q]
  · rw [if_neg q, if_pos]
    rw [Int32.lt_iff_toInt_lt, t0] at q
    rw [Int32.le_iff_toInt_le]; omega
theorem hasB1 {c : CS} {S : St} {b : Nat} (hB : BaC c S) (hb : b < S.1 2) : vX2_has c (nI b) = 1 := by
  have := hB.1.2.1
  unfold vX2_has; rw [hB.2.2.1]
  exact has1 (by rw [nI_toInt (by omega)]; omega) (by rw [nI_toInt (by omega), nI_toInt (by omega)]; omega)
theorem hasB0 {c : CS} {S : St} {x : Int32} (hB : BaC c S) (h : x.toInt < 0 ∨ (S.1 2 : Int) ≤ x.toInt) : vX2_has c x = 0 := by
  have := hB.1.2.1
  unfold vX2_has; rw [hB.2.2.1]
  exact has0 (by rw [nI_toInt (by omega)]; exact h)
theorem hasN1 {c : CS} {S : St} {b : Nat} (hB : BaC c S) (hb : b < S.1 1) : vX0_has c (nI b) = 1 := by
  have := hB.2.2.2.1.2.1
  unfold vX0_has; rw [hB.2.2.2.1.1]
  exact has1 (by rw [nI_toInt (by omega)]; omega) (by rw [nI_toInt (by omega), nI_toInt (by omega)]; omega)
theorem hasN0 {c : CS} {S : St} {x : Int32} (hB : BaC c S) (h : x.toInt < 0 ∨ (S.1 1 : Int) ≤ x.toInt) : vX0_has c x = 0 := by
  have := hB.2.2.2.1.2.1
  unfold vX0_has; rw [hB.2.2.2.1.1]
  exact has0 (by rw [nI_toInt (by omega)]; exact h)
theorem pred_t {n : Nat} (h : n < 1000) : (nI n - (1 : Int32)).toInt = (n : Int) - 1 := by
  have hn := nI_toInt (n := n) (by omega)
  have h1 : (1 : Int32).toInt = 1 := rfl
  rw [i_sub, hn, h1]
  rw [hn, h1]; omega
theorem m_box1 {m : MS} {S : St} {b : Nat} (hB : BaM m S) (hb : b < S.1 2) {kr : Int32 → MS → Prop} (K : kr 1 m) : wX4_isBox m (nI b) kr := by
  have := hB.1.2.1
  unfold wX4_isBox bX4_isBox_0
  rw [hB.2.2.1]
  exact m_in1 (by rw [t0, nI_toInt (by omega)]; omega) (by rw [pred_t (by omega), nI_toInt (by omega)]; omega) ⟨.inr rfl, K⟩
theorem m_box0 {m : MS} {S : St} {x : Int32} (hB : BaM m S) (h : x.toInt < 0 ∨ (S.1 2 : Int) ≤ x.toInt) {kr : Int32 → MS → Prop} (K : kr 0 m) : wX4_isBox m x kr := by
  have := hB.1.2.1
  unfold wX4_isBox bX4_isBox_0
  rw [hB.2.2.1]
  exact m_in0 (by rw [t0, pred_t (by omega)]; omega) ⟨.inl rfl, K⟩
theorem m_nod1 {m : MS} {S : St} {b : Nat} (hB : BaM m S) (hb : b < S.1 1) {kr : Int32 → MS → Prop} (K : kr 1 m) : wX4_isNode m (nI b) kr := by
  have := hB.2.2.2.1.2.1
  unfold wX4_isNode bX4_isNode_0
  rw [hB.2.2.2.1.1]
  exact m_in1 (by rw [t0, nI_toInt (by omega)]; omega) (by rw [pred_t (by omega), nI_toInt (by omega)]; omega) ⟨.inr rfl, K⟩
theorem m_nod0 {m : MS} {S : St} {x : Int32} (hB : BaM m S) (h : x.toInt < 0 ∨ (S.1 1 : Int) ≤ x.toInt) {kr : Int32 → MS → Prop} (K : kr 0 m) : wX4_isNode m x kr := by
  have := hB.2.2.2.1.2.1
  unfold wX4_isNode bX4_isNode_0
  rw [hB.2.2.2.1.1]
  exact m_in0 (by rw [t0, pred_t (by omega)]; omega) ⟨.inl rfl, K⟩
theorem end_dec (x : Int32) : x = nI 0 ∨ x = nI 1 ∨ (fX3_isEnd x = 0 ∧ (x.toInt < 0 ∨ 1 < x.toInt)) := by
  rcases i_dec x 2 (by decide) with ⟨-, -, k, hk, rfl⟩ | h
  · have : k = 0 ∨ k = 1 := by omega
    rcases this with rfl | rfl
    · exact .inl rfl
    · exact .inr (.inl rfl)
  · refine .inr (.inr ⟨?_, by omega⟩)
    unfold fX3_isEnd
    have h1 : (1 : Int32).toInt = 1 := rfl
    rw [if_neg (fun e => by rw [e, t0] at h; omega), if_neg (fun e => by rw [e, h1] at h; omega)]
theorem end_0 : fX3_isEnd (nI 0) = 1 := by decide
theorem end_1 : fX3_isEnd (nI 1) = 1 := by decide
theorem t1 : (1 : Int32).toInt = 1 := rfl
theorem t3 : (3 : Int32).toInt = 3 := rfl
theorem a_boxes {c : CS} {m : MS} {S : St} (hc : RC c S) (hm : RM m S) : Agr Int32 (wX3_boxes c) (wX4_boxes m) := by
  refine ⟨nI (S.1 2), S, fun k K => ?_, fun k K => ?_⟩
  · unfold wX3_boxes bX3_boxes_0; rw [hc.1.2.2.1]; exact K c hc
  · unfold wX4_boxes bX4_boxes_0
    show k (m.1 4) _
    rw [hm.1.2.2.1]; exact K _ (hm.f0 0)
theorem a_kind {c : CS} {m : MS} {S : St} (hc : RC c S) (hm : RM m S) (x : Int32) : Agr Int32 (wX3_kind c x) (wX4_kind m x) := by
  have h100 := hc.1.1.2.1
  have hm0 := hm.f0 0
  rcases i_dec x (S.1 2) (by omega) with ⟨-, -, b, hb, rfl⟩ | hx
  · have bc := ((hc.2 (by omega)).2.2.2 b hb).2 trivial
    have bm := ((hm0.2.2.2 (by omega)).2 b hb).2 trivial
    have ib := in_nI (show b < 100 by omega) (by decide)
    refine ⟨nI (S.2 7 b), S, fun k K => ?_, fun k K => ?_⟩
    · unfold wX3_kind bX3_kind_0
      rw [hasB1 hc.1 hb, nI_cl (by omega), bc.1.2.1]
      exact ifn (by decide) ⟨ib, K c hc⟩
    · unfold wX4_kind bX4_kind_0
      refine m_box1 hm0.1 hb (ifn (by decide) ⟨ib, ?_⟩)
      rw [nI_cl (by omega), bm.1.2.1]; exact K _ hm0
  · refine ⟨-1, S, fun k K => ?_, fun k K => ?_⟩
    · unfold wX3_kind bX3_kind_0
      rw [hasB0 hc.1 hx]; exact ifp rfl (K c hc)
    · unfold wX4_kind bX4_kind_0
      exact m_box0 hm0.1 hx (ifp rfl (K _ hm0))
theorem a_weight {c : CS} {m : MS} {S : St} (hc : RC c S) (hm : RM m S) (x y : Int32) : Agr Int64 (wX3_weight c x y) (wX4_weight m x y) := by
  have h100 := hc.1.1.2.1
  have hm0 := hm.f0 0
  rcases i_dec x (S.1 2) (by omega) with ⟨-, -, b, hb, rfl⟩ | hx
  · obtain ⟨bc, bS⟩ := ((hc.2 (by omega)).2.2.2 b hb).2 trivial
    have bm := (((hm0.2.2.2 (by omega)).2 b hb).2 trivial).1
    have ib := in_nI (show b < 100 by omega) (by decide)
    rcases end_dec y with rfl | rfl | ⟨h, hy⟩
    · refine ⟨lN (S.2 8 b), S, fun k K => ?_, fun k K => ?_⟩
      · unfold wX3_weight bX3_weight_0
        rw [hasB1 hc.1 hb, nI_cl (by omega), bc.2.2.1, end_0]
        exact ifn (by decide) (ifn (by decide) (ifp rfl ⟨ib, K c hc⟩))
      · unfold wX4_weight bX4_weight_0
        refine m_box1 hm0.1 hb (ifn (by decide) (m_in1 (by decide) (by decide) (ifn (by decide) (ifp rfl ⟨ib, ?_⟩))))
        rw [nI_cl (by omega), bm.2.2.1]; exact m_bits bS.2.2.2.1.cn (K _ hm0)
    · refine ⟨lN (S.2 9 b), S, fun k K => ?_, fun k K => ?_⟩
      · unfold wX3_weight bX3_weight_0
        rw [hasB1 hc.1 hb, nI_cl (by omega), bc.2.2.2.1, end_1]
        exact ifn (by decide) (ifn (by decide) (ifn (by decide) ⟨ib, K c hc⟩))
      · unfold wX4_weight bX4_weight_0
        refine m_box1 hm0.1 hb (ifn (by decide) (m_in1 (by decide) (by decide) (ifn (by decide) (ifn (by decide) ⟨ib, ?_⟩))))
        rw [nI_cl (by omega), bm.2.2.2]; exact m_bits bS.2.2.2.2.cn (K _ hm0)
    · refine ⟨0, S, fun k K => ?_, fun k K => ?_⟩
      · unfold wX3_weight bX3_weight_0
        rw [hasB1 hc.1 hb, h]
        exact ifn (by decide) (ifp rfl (K c hc))
      · unfold wX4_weight bX4_weight_0
        exact m_box1 hm0.1 hb (ifn (by decide) (m_in0 (by rw [t0, t1]; exact hy) (ifp rfl (K _ hm0))))
  · refine ⟨0, S, fun k K => ?_, fun k K => ?_⟩
    · unfold wX3_weight bX3_weight_0
      rw [hasB0 hc.1 hx]; exact ifp rfl (K c hc)
    · unfold wX4_weight bX4_weight_0
      exact m_box0 hm0.1 hx (ifp rfl (K _ hm0))
theorem a_value {c : CS} {m : MS} {S : St} (hc : RC c S) (hm : RM m S) (i : Int32) (x y z : Int64) : Agr Int64 (wX3_value c i x y z) (wX4_value m i x y z) := by
  have h32 := hc.1.2.2.2.1.2.1
  have hm0 := hm.f0 0
  obtain ⟨u, hu, rfl⟩ := any_lN x
  obtain ⟨v, hv, rfl⟩ := any_lN y
  obtain ⟨w, hw, rfl⟩ := any_lN z
  rcases i_dec i (S.1 1) (by omega) with ⟨-, -, n, hn, rfl⟩ | hx
  · refine ⟨lN (val S u v w n), S, fun k K => ?_, fun k K => ?_⟩
    · unfold wX3_value bX3_value_0
      rw [hasN1 hc.1 hn]
      refine ifn (by decide) (c_value hc.1.2.2.2.1 hu hv hw hn (fun f => K _ (hc.fr rfl rfl (fun j _ _ h => ?_))))
      show (if j = 10 then _ else c.2.2 j) = _
      rw [if_neg h]
    · unfold wX4_value bX4_value_0
      have cv := val_cn (S := S) (x := u) (y := v) (z := w) (fun i hi => (hc.1.2.2.2.1.2.2 i hi).1) hu hv hw n hn
      exact m_nod1 hm0.1 hn (ifn (by decide) (m_of hu (m_of hv (m_of hw (m_valueAt hm0.1.2.2.2.1 hu hv hw hn (fun d f => m_bits cv (K _ (hm0.fm f))))))))
  · refine ⟨0, S, fun k K => ?_, fun k K => ?_⟩
    · unfold wX3_value bX3_value_0
      rw [hasN0 hc.1 hx]; exact ifp rfl (K c hc)
    · unfold wX4_value bX4_value_0
      exact m_nod0 hm0.1 hx (ifp rfl (K _ hm0))
theorem pl0 {b : Nat} (h : b < 100) : fX2_place (nI b) (0 : Int32) = nI (6 * b) := c_pl (b := b) (d := 0) (by omega)
theorem a_enclosed {c : CS} {m : MS} {S : St} (hc : RC c S) (hm : RM m S) (x i y : Int32) : Agr Int64 (wX3_enclosed c x i y) (wX4_enclosed m x i y) := by
  have h100 := hc.1.1.2.1
  have h3 := hc.1.1.1
  have h32 := hc.1.2.2.2.1.2.1
  have hm0 := hm.f0 0
  rcases i_dec x (S.1 2) (by omega) with ⟨-, -, b, hb, rfl⟩ | hx
  · rcases i_dec i (S.1 1) (by omega) with ⟨-, -, n, hn, rfl⟩ | hi
    · obtain ⟨⟨sc, sS, sO⟩, -⟩ := (hc.2 (by omega)).2.2.2 b hb
      obtain ⟨⟨sm, -⟩, -⟩ := (hm0.2.2.2 (by omega)).2 b hb
      have ev := enc_ev (b := b) (n := S.1 1) (fun i hi => (hc.1.2.2.2.1.2.2 i hi).1) sS n hn
      have ii := in_nI (show n < 32 by omega) (by decide)
      have go : ∀ {k : Int64 → CS → Prop} (y : Int32), fX3_isEnd y = 1 → (∀ d, RC d S → d.2.2 4 n = lN (enc S b n).1 → d.2.2 5 n = lN (enc S b n).2 → (if y = 0 then (vp_in (nI n) 32 ∧ k (d.2.2 4 (nI n).toNatClampNeg) d) else (vp_in (nI n) 32 ∧ k (d.2.2 5 (nI n).toNatClampNeg) d))) → wX3_enclosed c (nI b) (nI n) y k := by
        intro k y hy H
        unfold wX3_enclosed bX3_enclosed_0
        rw [hasB1 hc.1 hb, hasN1 hc.1 hn, hy, pl0 (by omega)]
        refine ifn (by decide) (ifn (by decide) (ifn (by decide) (c_parts hc.1.2.2.2.1 _ (fun l' a1 a2 a3 => c_enclose hc.1.2.2.2.1 (by omega) h3 sc sS a3 (fun d f E => ?_)))))
        have e := E n hn (a1 n (by omega) (by rw [bt_one (by omega) (by omega)]; simp))
        exact H d (hc.fr f.1 f.2.1 (fun j a b _ => f.2.2 j a b)) e.1 e.2
      have gm : ∀ {k : Int64 → MS → Prop} (y : Int32), 0 ≤ y.toInt → y.toInt ≤ 1 → (∀ d, RM d S → d.2.2 34 n = dN (enc S b n).1 → d.2.2 35 n = dN (enc S b n).2 → (if y = 0 then (vp_in (nI n) 32 ∧ (wX4_bits (d.2.2 34 (nI n).toNatClampNeg) (fun r6 => k r6 d))) else (vp_in (nI n) 32 ∧ (wX4_bits (d.2.2 35 (nI n).toNatClampNeg) (fun r5 => k r5 d))))) → wX4_enclosed m (nI b) (nI n) y k := by
        intro k y y0 y1 H
        unfold wX4_enclosed bX4_enclosed_0
        exact m_box1 hm0.1 hb (ifn (by decide) (m_nod1 hm0.1 hn (ifn (by decide) (m_in1 (by rw [t0]; exact y0) (by rw [t1]; exact y1) (ifn (by decide) (m_encloseTo hm0.1.2.2.2.1 (by omega) h3 sm sS hn (fun d f b1 b2 => H d (hm0.fm f) b1 b2)))))))
      rcases end_dec y with rfl | rfl | ⟨h, hy⟩
      · refine ⟨lN (enc S b n).1, S, fun k K => go _ end_0 (fun d hd e1 e2 => ifp rfl ⟨ii, ?_⟩), fun k K => gm _ (by decide) (by decide) (fun d hd e1 e2 => ifp rfl ⟨ii, ?_⟩)⟩
        · rw [nI_cl (by omega), e1]; exact K d hd
        · rw [nI_cl (by omega), e1]; exact m_bits (Cn_of ev.1.1 ev.1.2) (K d hd)
      · refine ⟨lN (enc S b n).2, S, fun k K => go _ end_1 (fun d hd e1 e2 => ifn (by decide) ⟨ii, ?_⟩), fun k K => gm _ (by decide) (by decide) (fun d hd e1 e2 => ifn (by decide) ⟨ii, ?_⟩)⟩
        · rw [nI_cl (by omega), e2]; exact K d hd
        · rw [nI_cl (by omega), e2]; exact m_bits (Cn_of ev.2.1 ev.2.2) (K d hd)
      · refine ⟨0, S, fun k K => ?_, fun k K => ?_⟩
        · unfold wX3_enclosed bX3_enclosed_0
          rw [hasB1 hc.1 hb, hasN1 hc.1 hn, h]
          exact ifn (by decide) (ifn (by decide) (ifp rfl (K c hc)))
        · unfold wX4_enclosed bX4_enclosed_0
          exact m_box1 hm0.1 hb (ifn (by decide) (m_nod1 hm0.1 hn (ifn (by decide) (m_in0 (by rw [t0, t1]; exact hy) (ifp rfl (K _ hm0))))))
    · refine ⟨0, S, fun k K => ?_, fun k K => ?_⟩
      · unfold wX3_enclosed bX3_enclosed_0
        rw [hasB1 hc.1 hb, hasN0 hc.1 hi]
        exact ifn (by decide) (ifp rfl (K c hc))
      · unfold wX4_enclosed bX4_enclosed_0
        exact m_box1 hm0.1 hb (ifn (by decide) (m_nod0 hm0.1 hi (ifp rfl (K _ hm0))))
  · refine ⟨0, S, fun k K => ?_, fun k K => ?_⟩
    · unfold wX3_enclosed bX3_enclosed_0
      rw [hasB0 hc.1 hx]; exact ifp rfl (K c hc)
    · unfold wX4_enclosed bX4_enclosed_0
      exact m_box0 hm0.1 hx (ifp rfl (K _ hm0))
