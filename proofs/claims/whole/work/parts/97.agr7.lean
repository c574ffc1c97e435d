/-! A RUN BEGINS -/
def pre1 (S : St) : St := sI (sR S 6 (fun j => if j < 2 * S.1 0 then S.2 0 j else S.2 6 j)) 2 1
theorem pre_6 (S : St) (j : Nat) : (pre1 S).2 6 j = if j < 2 * S.1 0 then S.2 0 j else S.2 6 j := rfl
theorem pre_sd {S : St} (h : WF0 S) : SdS (pre1 S) 0 ∧ SdO (pre1 S) 0 := by
  constructor
  · intro j hj
    have hj : j < 2 * S.1 0 := hj
    rw [pre_6, if_pos (by omega), show 6 * 0 + j = j by omega]
    have := h.2.2 (j / 2) (by omega)
    by_cases e : j % 2 = 0
    · rw [show j = 2 * (j / 2) by omega]; exact this.1
    · rw [show j = 2 * (j / 2) + 1 by omega]; exact this.2.1
  · intro d hd
    have hd : d < S.1 0 := hd
    rw [pre_6, pre_6, if_pos (by omega), if_pos (by omega), show 6 * 0 + 2 * d = 2 * d by omega]
    exact Int.le_of_lt (h.2.2 d hd).2.2
theorem rn_all {c : CS} {S : St} {P : Nat → Prop} (h : RnC c S P) (hp : ∀ b, b < S.1 2 → P b) : RnC c S (fun _ => True) := ⟨h.1, h.2.1, h.2.2.1, fun b hb => ⟨(h.2.2.2 b hb).1, fun _ => (h.2.2.2 b hb).2 (hp b hb)⟩⟩
theorem rnm_all {m : MS} {S : St} {P : Nat → Prop} (h : RnM m S P) (hp : ∀ b, b < S.1 2 → P b) : RnM m S (fun _ => True) := ⟨h.1, fun b hb => ⟨(h.2 b hb).1, fun _ => (h.2 b hb).2 (hp b hb)⟩⟩
theorem a_begin {c : CS} {m : MS} {S : St} (hc : RC c S) (hm : RM m S) : Agr Int32 (wX3_begin c) (wX4_begin m) := by
  have h3 := hc.1.1.1
  have hm0 := hm.f0 0
  have e1m : (msetI m 0 (0 : Int32)).1 1 = nI (S.1 0) := hm0.1.2.1
  by_cases z : S.1 0 = 0
  · refine ⟨-3, S, fun k K => ?_, fun k K => ?_⟩
    · unfold wX3_begin bX3_begin_0
      rw [hc.1.2.1]; exact ifp (by rw [z]; rfl) (K c hc)
    · unfold wX4_begin bX4_begin_0
      rw [e1m]; exact ifp (by rw [z]; rfl) (K _ hm0)
  · have z0 : 0 < S.1 0 := by omega
    refine ⟨nI (S.1 0), begS S, fun k K => ?_, fun k K => ?_⟩
    · unfold wX3_begin bX3_begin_0
      rw [hc.1.2.1]
      refine ifn (nI_n0 (by omega) z) ⟨6, ?_⟩
      obtain ⟨⟨wf, a0, a3, hN, hro, hs⟩, -⟩ := hc
      have h32 := hN.2.1
      have loop : ∀ (j i : Nat) (l : Int32), j + i = 5 → (∀ r, r < i → S.2 5 r ≠ 0 → bt l (S.2 5 r - 1) = true) → (∀ j, j < 32 → S.1 1 ≤ j → bt l j = false) → itX3_begin_14 k (j + 1) l (nI i) c := by
        intro j
        induction j with
        | zero =>
          intro i l e b1 b2
          have : i = 5 := by omega
          subst this
          show bX3_begin_14 c l (nI 5) k _
          unfold bX3_begin_14
          refine ifp (by decide) (c_parts hN l (fun l' p1 p2 p3 => ?_))
          have hned : NedC l' (pre1 S) := ⟨p3, fun r hr q => p1 (S.2 5 r - 1) (by have := (hro r hr).2; omega) (b1 r hr q), fun j hj q => by rw [p2 j hj q]; exact b2 j hj q⟩
          unfold wX2_start bX2_start_0
          have e0' : (setI c 1 l').1 0 = nI (S.1 0) := a0
          rw [e0']
          have n2 : (2 : Int32) * nI (S.1 0) = nI (2 * S.1 0) := by
            have := nI_2a (a := S.1 0) (p := 0) (by omega)
            rw [Nat.zero_add] at this
            rw [← this]
            exact (Int32.zero_add _).symm
          refine ⟨2 * S.1 0 + 1, ?_⟩
          have copy : ∀ (j i : Nat) (d : CS), j + i = 2 * S.1 0 → d.1 = (setI (setI c 1 l') 4 (nI (S.1 0))).1 → d.2.1 = c.2.1 → (∀ x, x ≠ 12 → d.2.2 x = c.2.2 x) → (∀ x, x < i → d.2.2 12 x = c.2.2 1 x) → itX2_start_7 (fun X2 => wX3_settle X2 (0 : Int32) (fun X3 => k (X3.1 0) X3)) (j + 1) (nI (S.1 0)) (nI i) d := by
            intro j
            induction j with
            | zero =>
              intro i d e f1 f2 f3 f4
              have : i = 2 * S.1 0 := by omega
              subst this
              show bX2_start_7 d (nI (S.1 0)) (nI (2 * S.1 0)) _ _
              unfold bX2_start_7
              rw [n2]
              refine ifp ((nI_leX (by omega) (by omega)).mpr (Nat.le_refl _)) ?_
              have i1 : ∀ j, j ≠ 3 → (setI d 3 (1 : Int32)).1 j = (setI (setI c 1 l') 4 (nI (S.1 0))).1 j := fun j hj => by
                show (if j = 3 then _ else d.1 j) = _
                rw [if_neg hj, f1]
              have hB : BaC (setI d 3 (1 : Int32)) (pre1 S) := by
                refine ⟨⟨wf.1, (by decide : 1 ≤ 100), wf.2.2⟩, by rw [i1 0 (by decide)]; exact a0, rfl, ?_, ?_, ?_⟩
                · unfold NodC
                  rw [i1 2 (by decide)]
                  show c.1 2 = _ ∧ _ ∧ ∀ i, i < S.1 1 → NdS S i ∧ d.2.1 6 i = _ ∧ d.2.1 7 i = _ ∧ d.2.1 8 i = _ ∧ d.2.2 9 i = _
                  rw [f2, f3 9 (by decide)]; exact hN
                · unfold RolC
                  show ∀ r, r < 5 → d.2.1 2 r = _ ∧ _
                  rw [f2]; exact hro
                · show ∀ j, j < 2 * S.1 0 → d.2.2 1 j = _
                  rw [f3 1 (by decide)]; exact hs
              have hR : RnC (setI d 3 (1 : Int32)) (pre1 S) (fun _ => False) := by
                refine ⟨z0, by rw [i1 4 (by decide)]; rfl, by rw [i1 1 (by decide)]; exact hned, fun b hb => ⟨?_, fun q => q.elim⟩⟩
                have : b = 0 := by have hb : b < 1 := hb; omega
                subst this
                refine ⟨fun j hj => ?_, pre_sd wf⟩
                have hj : j < 2 * S.1 0 := hj
                show d.2.2 12 (6 * 0 + j) = _
                rw [show 6 * 0 + j = j by omega, f4 j hj, pre_6, if_pos hj]; exact hs j hj
              refine g_settle hB hR (b := 0) (by decide : 0 < 1) (fun d2 hB2 hR2 => ?_)
              rw [hB2.2.1]
              exact K d2 ⟨hB2, fun _ => rn_all hR2 (fun b hb => .inr (by have hb : b < 1 := hb; omega))⟩
            | succ j ih =>
              intro i d e f1 f2 f3 f4
              show bX2_start_7 d (nI (S.1 0)) (nI i) _ (fun z2 z3 X => itX2_start_7 (fun X2 => wX3_settle X2 (0 : Int32) (fun X3 => k (X3.1 0) X3)) (j + 1) z2 z3 X)
              unfold bX2_start_7
              rw [n2, nI_cl (i := i) (by omega), nI_s (a := i) (by omega)]
              refine ifn (fun z => by rw [nI_leX (by omega) (by omega)] at z; omega) ⟨in_nI (by omega) (by decide), in_nI (by omega) (by decide), ih (i + 1) _ (by omega) f1 f2 (fun x hx => ?_) (fun x hx => ?_)⟩
              · show (if x = 12 then _ else d.2.2 x) = _
                rw [if_neg hx]; exact f3 x hx
              · show vp_updL (d.2.2 12) i (d.2.2 1 i) x = _
                unfold vp_updL
                by_cases q : x = i
                · rw [if_pos q, f3 1 (by decide), q]
                · rw [if_neg q]; exact f4 x (by omega)
          exact copy (2 * S.1 0) 0 _ (by omega) rfl rfl (fun _ _ => rfl) (fun x hx => by omega)
        | succ j ih =>
          intro i l e b1 b2
          show bX3_begin_14 c l (nI i) k (fun z1 z2 X => itX3_begin_14 k (j + 1) z1 z2 X)
          unfold bX3_begin_14
          have rr := hro i (by omega)
          rw [nI_cl (i := i) (by omega), nI_s (a := i) (by omega), rr.1]
          have ii := in_nI (show i < 5 by omega) (by decide)
          refine ifn (fun z => by rw [show (5 : Int32) = nI 5 from rfl, nI_leX (by omega) (by omega)] at z; omega) ⟨ii, ifx (rI_none (by omega)) (fun q => ?_) (fun q => ⟨ii, ?_⟩)⟩
          · refine ih (i + 1) l (by omega) (fun r hr n => ?_) b2
            by_cases e : r = i
            · subst e; exact absurd q n
            · exact b1 r (by omega) n
          · rw [rI_node q]
            refine ih (i + 1) _ (by omega) (fun r hr n => ?_) (fun j hj n => ?_)
            · have le := (hro r (by omega)).2
              rw [bt_or]
              by_cases e : r = i
              · subst e; rw [bt_one (by omega) (by omega)]; simp
              · rw [b1 r (by omega) n]; rfl
            · rw [bt_or, b2 j hj n, bt_one (by omega) hj, decide_eq_false (by omega)]; rfl
      refine loop 5 0 0 rfl (fun r hr => by omega) (fun j _ _ => ?_)
      unfold bt
      show (0#32).getLsbD j = false
      exact BitVec.getLsbD_zero
    · unfold wX4_begin bX4_begin_0
      rw [e1m]
      refine ifn (nI_n0 (by omega) z) ⟨.inr rfl, S.1 0 + 1, ?_⟩
      obtain ⟨⟨wf, a1, a4, hN, hro, hs⟩, -⟩ := hm0
      have copy : ∀ (j i : Nat) (d : MS), j + i = S.1 0 → d.1 = (msetI (msetI (msetI (msetI m 0 (0 : Int32)) 3 (1 : Int32)) 4 (1 : Int32)) 5 (0 : Int32)).1 → d.2.1 = m.2.1 → (∀ x, x ≠ 28 → x ≠ 29 → d.2.2 x = m.2.2 x) → (∀ x, x < i → d.2.2 28 x = m.2.2 21 x ∧ d.2.2 29 x = m.2.2 22 x) → itX4_begin_32 k (j + 1) (nI i) d := by
        intro j
        induction j with
        | zero =>
          intro i d e f1 f2 f3 f4
          have : i = S.1 0 := by omega
          subst this
          show bX4_begin_32 d (nI (S.1 0)) k _
          unfold bX4_begin_32
          have ed : d.1 1 = nI (S.1 0) := by rw [f1]; exact a1
          rw [ed]
          refine ifp ((nI_leX (by omega) (by omega)).mpr (Nat.le_refl _)) ?_
          have hB : BaM d (pre1 S) := by
            refine ⟨⟨wf.1, (by decide : 1 ≤ 100), wf.2.2⟩, ed, by rw [f1]; rfl, ?_, ?_, ?_⟩
            · unfold NodM
              rw [f1, f2, f3 26 (by decide) (by decide)]; exact hN
            · unfold RolM
              rw [f2]; exact hro
            · rw [f3 21 (by decide) (by decide), f3 22 (by decide) (by decide)]; exact hs
          have hR : RnM d (pre1 S) (fun _ => False) := by
            refine ⟨z0, fun b hb => ⟨?_, fun q => q.elim⟩⟩
            have : b = 0 := by have hb : b < 1 := hb; omega
            subst this
            refine ⟨fun x hx => ?_, pre_sd wf⟩
            have hx : x < S.1 0 := hx
            rw [show 3 * 0 + x = x by omega, (f4 x hx).1, (f4 x hx).2, pre_6, pre_6, if_pos (by omega), if_pos (by omega), show 6 * 0 + 2 * x = 2 * x by omega]; exact hs x hx
          refine g_judge hB hR (b := 0) (by decide : 0 < 1) (fun d2 q2 hB2 hR2 => ?_)
          rw [hB2.2.1]
          refine K d2 ⟨hB2, ?_, ?_, fun _ => rnm_all hR2 (fun b hb => .inr (by have hb : b < 1 := hb; omega))⟩
          · rw [q2, f1]; rfl
          · rw [q2, f1]; rfl
        | succ j ih =>
          intro i d e f1 f2 f3 f4
          show bX4_begin_32 d (nI i) k (fun z1 X => itX4_begin_32 k (j + 1) z1 X)
          unfold bX4_begin_32
          have ed : d.1 1 = nI (S.1 0) := by rw [f1]; exact a1
          rw [ed, nI_cl (i := i) (by omega), nI_s (a := i) (by omega)]
          refine ifn (fun z => by rw [nI_leX (by omega) (by omega)] at z; omega) ⟨in_nI (by omega) (by decide), in_nI (by omega) (by decide), in_nI (by omega) (by decide), in_nI (by omega) (by decide), fun Y hY => ?_⟩
          subst hY
          refine ih (i + 1) _ (by omega) f1 f2 (fun x a b => ?_) (fun x hx => ?_)
          · show (if x = 29 then _ else if x = 28 then _ else d.2.2 x) = _
            rw [if_neg b, if_neg a]; exact f3 x a b
          · show vf_upd (d.2.2 28) i (d.2.2 21 i) x = _ ∧ vf_upd (d.2.2 29) i (d.2.2 22 i) x = _
            unfold vf_upd
            by_cases q : x = i
            · rw [if_pos q, if_pos q, f3 21 (by decide) (by decide), f3 22 (by decide) (by decide), q]; exact ⟨rfl, rfl⟩
            · rw [if_neg q, if_neg q]; exact f4 x (by omega)
      exact copy (S.1 0) 0 _ (by omega) rfl rfl (fun _ _ _ => rfl) (fun x hx => by omega)
/-! side and share: in the model, and what the class looks at -/
theorem o_side {c : CS} {m : MS} {S : St} (hc : RC c S) (hm : RM m S) (x y z : Int32) :
    (∃ b d e, b < S.1 2 ∧ d < S.1 0 ∧ e ≤ 1 ∧ x = nI b ∧ y = nI d ∧ z = nI e ∧ c.2.2 12 (6 * b + 2 * d + e) = lN (S.2 6 (6 * b + 2 * d + e)) ∧ ∀ k : Int64 → MS → Prop, k (lN (S.2 6 (6 * b + 2 * d + e))) (msetI m 0 0) → wX4_side m x y z k)
    ∨ ((x.toInt < 0 ∨ (S.1 2 : Int) ≤ x.toInt ∨ y.toInt < 0 ∨ (S.1 0 : Int) ≤ y.toInt ∨ z.toInt < 0 ∨ 1 < z.toInt) ∧ ∀ k : Int64 → MS → Prop, k 0 (msetI m 0 1) → wX4_side m x y z k) := by
  have h100 := hc.1.1.2.1
  have h3 := hc.1.1.1
  rcases i_dec x (S.1 2) (by omega) with ⟨x0, x1, b, hb, rfl⟩ | hx
  · rcases i_dec y (S.1 0) (by omega) with ⟨y0, y1, d, hd, rfl⟩ | hy
    · rcases i_dec z 2 (by decide) with ⟨z0, z1, e, he, rfl⟩ | hz
      · refine .inl ⟨b, d, e, hb, hd, by omega, rfl, rfl, rfl, ?_, fun k K => ?_⟩
        · have := ((hc.2 (by omega)).2.2.2 b hb).1.1 (2 * d + e) (by omega)
          rw [← Nat.add_assoc] at this; exact this
        · obtain ⟨⟨sm, sS, -⟩, -⟩ := (hm.2.2.2 (by omega)).2 b hb
          have s1 := sm d hd
          have f1 := sS (2 * d + e) (by omega)
          rw [← Nat.add_assoc] at f1
          unfold wX4_side bX4_side_0
          refine m_box1 hm.1 hb (ifn (by decide) ?_)
          rw [hm.1.2.1]
          have ii := in_nI (show 3 * b + d < 300 by omega) (by decide)
          refine m_in1 (by rw [t0]; exact y0) (by rw [pred_t (by omega)]; omega) (ifn (by decide) (m_in1 (by rw [t0]; exact z0) (by rw [t1]; omega) (ifn (by decide) ?_)))
          have he : e = 0 ∨ e = 1 := by omega
          rw [nI_3a (by omega), nI_cl (by omega)]
          rcases he with rfl | rfl
          · refine ifp rfl ⟨ii, ?_⟩
            show wX4_bits (m.2.2 28 (3 * b + d)) _
            rw [s1.1]; exact m_bits (Cn_of f1.1 (fin_n f1)) K
          · refine ifn (by decide) ⟨ii, ?_⟩
            show wX4_bits (m.2.2 29 (3 * b + d)) _
            rw [s1.2]; exact m_bits (Cn_of f1.1 (fin_n f1)) K
      · refine .inr ⟨by omega, fun k K => ?_⟩
        unfold wX4_side bX4_side_0
        refine m_box1 hm.1 hb (ifn (by decide) ?_)
        rw [hm.1.2.1]
        exact m_in1 (by rw [t0]; exact y0) (by rw [pred_t (by omega)]; omega) (ifn (by decide) (m_in0 (by rw [t0, t1]; omega) (ifp rfl K)))
    · refine .inr ⟨by omega, fun k K => ?_⟩
      unfold wX4_side bX4_side_0
      refine m_box1 hm.1 hb (ifn (by decide) ?_)
      rw [hm.1.2.1]
      exact m_in0 (by rw [t0, pred_t (by omega)]; omega) (ifp rfl K)
  · refine .inr ⟨by omega, fun k K => ?_⟩
    unfold wX4_side bX4_side_0
    exact m_box0 hm.1 hx (ifp rfl K)
theorem o_share {c : CS} {m : MS} {S : St} (hc : RC c S) (hm : RM m S) (x : Int32) :
    (fX3_isBoxKind x = 0 ∧ ∀ k : Int32 → MS → Prop, k (-2) (msetI m 0 0) → wX4_share m x k)
    ∨ (fX3_isBoxKind x = 1 ∧ c.1 3 = 0 ∧ ∀ k : Int32 → MS → Prop, k (-3) (msetI m 0 0) → wX4_share m x k)
    ∨ (∃ p q, fX3_isBoxKind x = 1 ∧ c.1 3 ≠ 0 ∧ p ≤ 100 ∧ q ≤ 100 ∧ (∀ kr : Int32 → CS → Prop, kr (nI q) c → wX2_howMany c 3 kr) ∧ (∀ kr : Int32 → CS → Prop, kr (nI p) c → wX2_howMany c x kr) ∧ (q = 0 → ∀ k : Int32 → MS → Prop, k 0 (msetI (msetI m 0 0) 0 1) → wX4_share m x k) ∧ (q ≠ 0 → ∀ k : Int32 → MS → Prop, k (nI p / nI q) (msetI m 0 0) → wX4_share m x k)) := by
  have h100 := hc.1.1.2.1
  have hm0 := hm.f0 0
  rcases kind_dec x with ⟨p, hp, rfl, hk⟩ | ⟨hk, hx⟩
  · have q0 : (0 : Int32).toInt ≤ (nI p).toInt := by rw [t0, nI_toInt (by omega)]; omega
    have q3 : (nI p).toInt ≤ (3 : Int32).toInt := by rw [t3, nI_toInt (by omega)]; omega
    by_cases z : S.1 2 = 0
    · refine .inr (.inl ⟨hk, by rw [hc.1.2.2.1, z]; rfl, fun k K => ?_⟩)
      unfold wX4_share bX4_share_0
      exact m_in1 q0 q3 (ifn (by decide) (ifp (show m.1 3 = 0 by rw [hm.2.1, if_pos z]) K))
    · have hz : 0 < S.1 2 := by omega
      have z3 : ¬ (msetI m 0 (0 : Int32)).1 3 = 0 := by show ¬ m.1 3 = 0; rw [hm.2.1, if_neg z]; decide
      have l1 := cnT_le S p (S.1 2)
      have l3 := cnT_le S 3 (S.1 2)
      refine .inr (.inr ⟨cnT S p (S.1 2), cnT S 3 (S.1 2), hk, by rw [hc.1.2.2.1]; exact nI_n0 (by omega) z, by omega, by omega, fun kr K => c_howMany (q := 3) hc hz (by decide) K, fun kr K => c_howMany hc hz hp K, fun q k K => ?_, fun q k K => ?_⟩)
      · unfold wX4_share bX4_share_0
        refine m_in1 q0 q3 (ifn (by decide) (ifn z3 (m_countOf (q := 3) hm0 hz (by decide) ?_)))
        rw [q]; exact ifp rfl K
      · unfold wX4_share bX4_share_0
        have n := nI_n0 (a := cnT S 3 (S.1 2)) (by omega) q
        exact m_in1 q0 q3 (ifn (by decide) (ifn z3 (m_countOf (q := 3) hm0 hz (by decide) (ifn n (m_countOf hm0 hz hp ⟨n, K⟩)))))
  · refine .inl ⟨hk, fun k K => ?_⟩
    unfold wX4_share bX4_share_0
    exact m_in0 (by rw [t0, t3]; exact hx) (ifp rfl K)
