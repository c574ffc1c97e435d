def rolS (S : St) (r v : Nat) : St := sI (sR S 5 (uN (S.2 5) r v)) 2 0
theorem rc_role {c : CS} {S : St} (hc : RC c S) {r v : Nat} (hr : r < 5) (hv : v ≤ S.1 1) : RC (gX2_end (setA c 2 (upd (c.2.1 2) r (rI v)))) (rolS S r v) := by
  obtain ⟨⟨⟨w3, w100, wsp⟩, a0, a3, hN, hro, hs⟩, hR⟩ := hc
  refine ⟨⟨⟨w3, Nat.zero_le _, wsp⟩, a0, rfl, hN, fun q hq => ?_, hs⟩, fun q => absurd q (Nat.lt_irrefl _)⟩
  show upd (c.2.1 2) r (rI v) q = rI (uN (S.2 5) r v q) ∧ uN (S.2 5) r v q ≤ S.1 1
  unfold upd uN
  by_cases e : q = r
  · rw [if_pos e, if_pos e]; exact ⟨rfl, hv⟩
  · rw [if_neg e, if_neg e]; exact hro q hq
theorem rm_role {m : MS} {S : St} (hm : RM m S) {r v : Nat} (hr : r < 5) (hv : v ≤ S.1 1) : RM (msetI (msetI (msetI (msetA m 27 (upd (m.2.1 27) r (rI v))) 3 (0 : Int32)) 4 (0 : Int32)) 5 (0 : Int32)) (rolS S r v) := by
  obtain ⟨⟨⟨w3, w100, wsp⟩, a1, a4, hN, hro, hs⟩, e3, e5, hR⟩ := hm
  refine ⟨⟨⟨w3, Nat.zero_le _, wsp⟩, a1, rfl, hN, fun q hq => ?_, hs⟩, rfl, rfl, fun q => absurd q (Nat.lt_irrefl _)⟩
  show upd (m.2.1 27) r (rI v) q = rI (uN (S.2 5) r v q) ∧ uN (S.2 5) r v q ≤ S.1 1
  unfold upd uN
  by_cases e : q = r
  · rw [if_pos e, if_pos e]; exact ⟨rfl, hv⟩
  · rw [if_neg e, if_neg e]; exact hro q hq
theorem a_role {c : CS} {m : MS} {S : St} (hc : RC c S) (hm : RM m S) (x y : Int32) : Agr Int32 (wX3_role c x y) (wX4_role m x y) := by
  have h3 := hc.1.1.1
  have h32 := hc.1.2.2.2.1.2.1
  have hm0 := hm.f0 0
  have e1 : (msetI m 0 (0 : Int32)).1 1 = nI (S.1 0) := hm.1.2.1
  have z1 : ((1 : Int32) + nI (S.1 0)).toInt = 1 + (S.1 0 : Int) := by
    rw [i_add, nI_toInt (by omega), t1]
    rw [nI_toInt (by omega), t1]; omega
  rcases i_dec x (2 + S.1 0) (by omega) with ⟨x0, x1, r, hr, rfl⟩ | hx
  · have ir := in_nI (show r < 5 by omega) (by decide)
    have erC := (hc.1.2.2.2.2.1 r (by omega)).1
    have erM : (msetI m 0 (0 : Int32)).2.1 27 r = rI (S.2 5 r) := (hm.1.2.2.2.2.1 r (by omega)).1
    have c1 : ¬ nI r < (0 : Int32) := by rw [Int32.lt_iff_toInt_lt, t0]; omega
    have c2 : ¬ (2 : Int32) + nI (S.1 0) ≤ nI r := by rw [nI_2d (by omega), nI_leX (by omega) (by omega)]; omega
    have c3 : nI r < (5 : Int32) := (nI_ltX (b := 5) (by omega) (by decide)).mpr (by omega)
    have mi : ∀ {kr : Int32 → Prop}, kr 1 → wX4_in (nI r) (0 : Int32) ((1 : Int32) + nI (S.1 0)) kr := fun K => m_in1 (by rw [t0]; exact x0) (by rw [z1, nI_toInt (by omega)]; omega) K
    by_cases y5 : y = -5
    · subst y5
      refine ⟨rI (S.2 5 r), rolS S r 0, fun k K => ?_, fun k K => ?_⟩
      · unfold wX3_role bX3_role_0
        rw [hc.1.2.1, nI_cl (by omega), erC]
        exact ifn c1 (ifn c2 (ifp c3 (ifp rfl ⟨ir, ir, K _ (rc_role hc (by omega) (Nat.zero_le _))⟩)))
      · unfold wX4_role bX4_role_0
        rw [e1]
        refine mi (ifn (by decide) (ifp rfl ⟨ir, ir, ?_⟩))
        unfold wX4_ends bX4_ends_0
        rw [nI_cl (by omega), erM]
        exact ⟨.inl rfl, K _ (rm_role hm0 (by omega) (Nat.zero_le _))⟩
    · rcases i_dec y (S.1 1) (by omega) with ⟨-, -, n, hn, rfl⟩ | hy
      · have ev : nI n = rI (n + 1) := by rw [rI_node (by omega), Nat.add_sub_cancel]
        refine ⟨rI (S.2 5 r), rolS S r (n + 1), fun k K => ?_, fun k K => ?_⟩
        · unfold wX3_role bX3_role_0
          rw [hc.1.2.1, nI_cl (by omega), erC, hasN1 hc.1 hn]
          refine ifn c1 (ifn c2 (ifp c3 (ifn y5 (ifn (by decide) ⟨ir, ir, ?_⟩))))
          rw [ev]; exact K _ (rc_role hc (by omega) (by omega))
        · unfold wX4_role bX4_role_0
          rw [e1]
          refine mi (ifn (by decide) (ifn y5 (m_nod1 hm0.1 hn (ifn (by decide) ⟨ir, ir, ?_⟩))))
          unfold wX4_ends bX4_ends_0
          rw [nI_cl (by omega), erM, ev]
          exact ⟨.inl rfl, K _ (rm_role hm0 (by omega) (by omega))⟩
      · refine ⟨-1, S, fun k K => ?_, fun k K => ?_⟩
        · unfold wX3_role bX3_role_0
          rw [hc.1.2.1, hasN0 hc.1 hy]
          exact ifn c1 (ifn c2 (ifp c3 (ifn y5 (ifp rfl (K c hc)))))
        · unfold wX4_role bX4_role_0
          rw [e1]
          exact mi (ifn (by decide) (ifn y5 (m_nod0 hm0.1 hy (ifp rfl (K _ hm0)))))
  · refine ⟨-2, S, fun k K => ?_, fun k K => ?_⟩
    · unfold wX3_role bX3_role_0
      rw [hc.1.2.1]
      by_cases q : x < 0
      · exact ifp q (K c hc)
      · refine ifn q (ifp ?_ (K c hc))
        rw [Int32.lt_iff_toInt_lt, t0] at q
        rw [nI_2d (by omega), Int32.le_iff_toInt_le, nI_toInt (by omega)]; omega
    · unfold wX4_role bX4_role_0
      rw [e1]
      exact m_in0 (by rw [t0, z1]; omega) (ifp rfl (K _ hm0))
def drwS (S : St) (u v : Nat) : St := sI (sI (sR (sR S 0 (uN (uN (S.2 0) (2 * S.1 0) u) (2 * S.1 0 + 1) v)) 5 (fun _ => 0)) 0 (S.1 0 + 1)) 2 0
theorem drw_sp (S : St) (u v j : Nat) : (drwS S u v).2 0 j = if j = 2 * S.1 0 + 1 then v else if j = 2 * S.1 0 then u else S.2 0 j := rfl
theorem drw_wf {S : St} {u v : Nat} (h : WF0 S) (h2 : S.1 0 < 3) (hu : fin u) (hv : fin v) (o : rk u < rk v) : WF0 (drwS S u v) := by
  refine ⟨h2, Nat.zero_le _, fun d hd => ?_⟩
  have hd : d < S.1 0 + 1 := hd
  rw [drw_sp, drw_sp]
  by_cases e : d = S.1 0
  · subst e
    rw [if_neg (by omega), if_pos rfl, if_pos rfl]; exact ⟨hu, hv, o⟩
  · rw [if_neg (by omega), if_neg (by omega), if_neg (by omega), if_neg (by omega)]; exact h.2.2 d (by omega)
theorem drw_nd {S : St} {u v i : Nat} (h : NdS S i) : NdS (drwS S u v) i := ⟨h.1, h.2.1, h.2.2.1, fun q => Nat.lt_succ_of_lt (h.2.2.2.1 q), h.2.2.2.2.1, h.2.2.2.2.2.1, h.2.2.2.2.2.2⟩
theorem a_draw {c : CS} {m : MS} {S : St} (hc : RC c S) (hm : RM m S) (x y : Int64) : Agr Int32 (wX3_draw c x y) (wX4_draw m x y) := by
  have h3 := hc.1.1.1
  have hm0 := hm.f0 0
  obtain ⟨u, hu, rfl⟩ := any_lN x
  obtain ⟨v, hv, rfl⟩ := any_lN y
  have ht := (Cn_tld hu).1
  have hw := (Cn_tld hv).1
  have e1 : (msetI m 0 (0 : Int32)).1 1 = nI (S.1 0) := hm.1.2.1
  by_cases ok : fin u ∧ fin v ∧ bLt u v
  · obtain ⟨fu, fv, o⟩ := ok
    have tu : tld u = u := by unfold tld; rw [if_neg (fin_n fu)]
    have tv : tld v = v := by unfold tld; rw [if_neg (fin_n fv)]
    have gm : ∀ (k : Int32 → MS → Prop), (if ((msetI m 0 (0 : Int32)).1 1) = (3 : Int32) then k (-4 : Int32) (msetI m 0 (0 : Int32)) else
          (vp_in ((msetI m 0 (0 : Int32)).1 1) 3 ∧ (vp_in ((msetL (msetI m 0 (0 : Int32)) 21 (vf_upd ((msetI m 0 (0 : Int32)).2.2 21) ((msetI m 0 (0 : Int32)).1 1).toNatClampNeg (dN u))).1 1) 3 ∧ (∀ Y3 : MS, Y3 = (msetL (msetL (msetI m 0 (0 : Int32)) 21 (vf_upd ((msetI m 0 (0 : Int32)).2.2 21) ((msetI m 0 (0 : Int32)).1 1).toNatClampNeg (dN u))) 22 (vf_upd ((msetL (msetI m 0 (0 : Int32)) 21 (vf_upd ((msetI m 0 (0 : Int32)).2.2 21) ((msetI m 0 (0 : Int32)).1 1).toNatClampNeg (dN u))).2.2 22) ((msetL (msetI m 0 (0 : Int32)) 21 (vf_upd ((msetI m 0 (0 : Int32)).2.2 21) ((msetI m 0 (0 : Int32)).1 1).toNatClampNeg (dN u))).1 1).toNatClampNeg (dN v))) → ∃ N, itX4_draw_92 k N (0 : Int32) (msetI Y3 1 ((Y3.1 1) + (1 : Int32))))))) → wX4_draw m (lN u) (lN v) k := by
      intro k H
      unfold wX4_draw bX4_draw_0
      refine m_of hu (m_of hv ?_)
      rw [tu, tv, dMI, dI]
      refine ifn (fun q => (cvg_ge hu hv).mp q o) (ifn (fun q => ?_) (ifn (fun q => ?_) H))
      · have := (eq_minf hu).mp ((cvl_eq hu (by decide)).mp q)
        have := fu.2; omega
      · have := (eq_inf hv).mp ((cvl_eq hv (by decide)).mp q)
        have := fv.2; omega
    by_cases f : S.1 0 = 3
    · refine ⟨-4, S, fun k K => ?_, fun k K => gm k (ifp (by rw [e1, f]; rfl) (K _ hm0))⟩
      unfold wX3_draw bX3_draw_0
      rw [r_isFinite hu, r_isFinite hv, if_pos fu.2, if_pos fv.2, c_below hu hv, if_pos o, hc.1.2.1, f]
      exact ifn (by decide) (ifn (by decide) (ifn (by decide) (ifn (by decide) (K c hc))))
    · have n2 : (2 : Int32) * nI (S.1 0) = nI (2 * S.1 0) := by
        have := nI_2a (a := S.1 0) (p := 0) (by omega)
        rw [Nat.zero_add] at this
        rw [← this]
        exact (Int32.zero_add _).symm
      refine ⟨nI (S.1 0), drwS S u v, fun k K => ?_, fun k K => gm k (ifn (by rw [e1]; exact nI_ne (b := 3) (by omega) (by decide) f) ?_)⟩
      · unfold wX3_draw bX3_draw_0
        rw [r_isFinite hu, r_isFinite hv, if_pos fu.2, if_pos fv.2, c_below hu hv, if_pos o]
        have e0 := hc.1.2.1
        have e0' : ∀ f, (setL c 1 f).1 0 = nI (S.1 0) := fun f => e0
        have e0'' : ∀ f g, (setL (setL c 1 f) 1 g).1 0 = nI (S.1 0) := fun f g => e0
        rw [e0'', e0', e0, n2, nI_s (by omega), nI_s (by omega), nI_cl (by omega), nI_cl (by omega)]
        refine ifn (by decide) (ifn (by decide) (ifn (by decide) (ifp ((nI_ltX (b := 3) (by omega) (by decide)).mpr (by omega)) ⟨in_nI (by omega) (by decide), in_nI (by omega) (by decide), ?_⟩)))
        refine c_forget (fun d f1 f2 f3 f4 => ?_)
        have g0 : (gX2_end d).1 0 = nI (S.1 0 + 1) := by show d.1 0 = _; rw [f1]; rfl
        rw [g0, show nI (S.1 0 + 1) - (1 : Int32) = nI (S.1 0) from by rw [show (1 : Int32) = nI 1 from rfl, nI_sb (by omega) (by omega), Nat.add_sub_cancel]]
        obtain ⟨⟨wf, a0, a3, hN, hro, hs⟩, -⟩ := hc
        refine K _ ⟨⟨drw_wf wf (by omega) fu fv o.2.2, g0, rfl, ⟨?_, hN.2.1, fun i hi => ?_⟩, fun r hr => ⟨f4 r hr, Nat.zero_le _⟩, fun j hj => ?_⟩, fun q => absurd q (Nat.lt_irrefl _)⟩
        · show d.1 2 = _
          rw [f1]; exact hN.1
        · obtain ⟨nd, b6, b7, b8, b9⟩ := hN.2.2 i hi
          refine ⟨drw_nd nd, ?_, ?_, ?_, ?_⟩
          · show d.2.1 6 i = _; rw [f3 6 (by decide)]; exact b6
          · show d.2.1 7 i = _; rw [f3 7 (by decide)]; exact b7
          · show d.2.1 8 i = _; rw [f3 8 (by decide)]; exact b8
          · show d.2.2 9 i = _; rw [f2]; exact b9
        · have hj : j < 2 * (S.1 0 + 1) := hj
          show d.2.2 1 j = _
          rw [f2, drw_sp]
          show vp_updL (vp_updL (c.2.2 1) (2 * S.1 0) (lN u)) (2 * S.1 0 + 1) (lN v) j = _
          unfold vp_updL
          by_cases q1 : j = 2 * S.1 0 + 1
          · rw [if_pos q1, if_pos q1]
          · rw [if_neg q1, if_neg q1]
            by_cases q2 : j = 2 * S.1 0
            · rw [if_pos q2, if_pos q2]
            · rw [if_neg q2, if_neg q2]; exact hs j (by omega)
      · have e1' : ∀ f, (msetL (msetI m 0 (0 : Int32)) 21 f).1 1 = nI (S.1 0) := fun f => hm.1.2.1
        rw [e1', e1, nI_cl (by omega)]
        refine ⟨in_nI (by omega) (by decide), in_nI (by omega) (by decide), fun Y hY => ⟨6, ?_⟩⟩
        have y1 : Y.1 1 = nI (S.1 0) := by rw [hY]; exact hm.1.2.1
        rw [y1, nI_s (by omega)]
        have loop : ∀ (j k2 : Nat) (d : MS), j + k2 = 5 → d.1 1 = nI (S.1 0 + 1) → d.1 2 = nI (S.1 1) → d.2.2 = Y.2.2 → (∀ i, i ≠ 27 → d.2.1 i = m.2.1 i) → (∀ r, r < k2 → d.2.1 27 r = -5) → itX4_draw_92 k (j + 1) (nI k2) d := by
          intro j
          induction j with
          | zero =>
            intro k2 d e f1 f2 f3 f5 f4
            have : k2 = 5 := by omega
            subst this
            show bX4_draw_92 d (nI 5) k _
            unfold bX4_draw_92
            refine ifp (by decide) ?_
            unfold wX4_ends bX4_ends_0
            refine ⟨.inl rfl, ?_⟩
            have g1 : (msetI (msetI (msetI d 3 (0 : Int32)) 4 (0 : Int32)) 5 (0 : Int32)).1 1 = nI (S.1 0 + 1) := f1
            show k ((msetI (msetI (msetI d 3 (0 : Int32)) 4 (0 : Int32)) 5 (0 : Int32)).1 1 - (1 : Int32)) (msetI (msetI (msetI d 3 (0 : Int32)) 4 (0 : Int32)) 5 (0 : Int32))
            rw [g1, show nI (S.1 0 + 1) - (1 : Int32) = nI (S.1 0) from by rw [show (1 : Int32) = nI 1 from rfl, nI_sb (by omega) (by omega), Nat.add_sub_cancel]]
            obtain ⟨⟨wf, a1, a4, hN, hro, hs⟩, -⟩ := hm
            refine K _ ⟨⟨drw_wf wf (by omega) fu fv o.2.2, f1, rfl, ⟨f2, hN.2.1, fun i hi => ?_⟩, fun r hr => ⟨f4 r hr, Nat.zero_le _⟩, fun j hj => ?_⟩, rfl, rfl, fun q => absurd q (Nat.lt_irrefl _)⟩
            · obtain ⟨nd, b6, b7, b8, b9⟩ := hN.2.2 i hi
              refine ⟨drw_nd nd, ?_, fun q => ?_, fun q => ?_, ?_⟩
              · show d.2.1 23 i = _; rw [f5 23 (by decide)]; exact b6
              · show d.2.1 24 i = _; rw [f5 24 (by decide)]; exact b7 q
              · show d.2.1 25 i = _; rw [f5 25 (by decide)]; exact b8 q
              · show d.2.2 26 i = _; rw [f3, hY]; exact b9
            · have hj : j < S.1 0 + 1 := hj
              show d.2.2 21 j = _ ∧ d.2.2 22 j = _
              rw [f3, hY, drw_sp, drw_sp]
              show vf_upd (m.2.2 21) (S.1 0) (dN u) j = _ ∧ vf_upd (m.2.2 22) (S.1 0) (dN v) j = _
              unfold vf_upd
              by_cases q : j = S.1 0
              · rw [if_pos q, if_pos q, if_neg (by omega), if_pos (by omega), if_pos (by omega)]; exact ⟨rfl, rfl⟩
              · rw [if_neg q, if_neg q, if_neg (by omega), if_neg (by omega), if_neg (by omega), if_neg (by omega)]; exact hs j (by omega)
          | succ j ih =>
            intro k2 d e f1 f2 f3 f5 f4
            show bX4_draw_92 d (nI k2) k (fun z9 X => itX4_draw_92 k (j + 1) z9 X)
            unfold bX4_draw_92
            rw [nI_cl (by omega), nI_s (by omega)]
            refine ifn (fun z => by rw [show (5 : Int32) = nI 5 from rfl, nI_leX (by omega) (by omega)] at z; omega) ⟨in_nI (by omega) (by decide), ih (k2 + 1) _ (by omega) f1 f2 f3 (fun i hi => ?_) (fun r hr => ?_)⟩
            · show (if i = 27 then _ else d.2.1 i) = _
              rw [if_neg hi]; exact f5 i hi
            · show upd (d.2.1 27) k2 (-5) r = _
              unfold upd
              by_cases q : r = k2
              · rw [if_pos q]
              · rw [if_neg q]; exact f4 r (by omega)
        refine loop 5 0 _ rfl rfl ?_ rfl (fun i hi => ?_) (fun r h => by omega)
        · show Y.1 2 = _
          rw [hY]; exact hm.1.2.2.2.1.1
        · show Y.2.1 i = _
          rw [hY]; rfl
  · refine ⟨-2, S, fun k K => ?_, fun k K => ?_⟩
    · unfold wX3_draw bX3_draw_0
      rw [r_isFinite hu, r_isFinite hv, c_below hu hv]
      by_cases q1 : u % 2 ^ 63 < 9218868437227405312
      · rw [if_pos q1]
        refine ifn (by decide) ?_
        by_cases q2 : v % 2 ^ 63 < 9218868437227405312
        · rw [if_pos q2]
          refine ifn (by decide) ?_
          rw [if_neg (fun q => ok ⟨⟨hu, q1⟩, ⟨hv, q2⟩, q⟩)]
          exact ifp rfl (K c hc)
        · rw [if_neg q2]; exact ifp rfl (K c hc)
      · rw [if_neg q1]; exact ifp rfl (K c hc)
    · unfold wX4_draw bX4_draw_0
      refine m_of hu (m_of hv ?_)
      rw [dMI, dI]
      refine ifx (cvg_ge ht hw) (fun _ => K _ hm0) (fun q => ifx ((cvl_eq ht (by decide)).trans (eq_minf ht)) (fun _ => K _ hm0) (fun q1 => ifx ((cvl_eq hw (by decide)).trans (eq_inf hw)) (fun _ => K _ hm0) (fun q2 => absurd ?_ ok)))
      have o := Classical.not_not.mp q
      have nu : ¬ isN u := fun z => o.1 ((tld_n u).mpr z)
      have nv : ¬ isN v := fun z => o.2.1 ((tld_n v).mpr z)
      have tu : tld u = u := by unfold tld; rw [if_neg nu]
      have tv : tld v = v := by unfold tld; rw [if_neg nv]
      rw [tu] at o q1
      rw [tv] at o q2
      have o2 := o.2.2
      have l1 := rk_lo hu nu
      have l2 := rk_lo hv nv
      have iu : ¬ isI u := fun z => by
        rcases inf_two hu z with r | r
        · rw [r, show rk 9218868437227405312 = 9218868437227405312 from by decide] at o2; omega
        · exact q1 r
      have iv : ¬ isI v := fun z => by
        rcases inf_two hv z with r | r
        · exact q2 r
        · rw [r, show rk 18442240474082181120 = -9218868437227405312 from by decide] at o2; omega
      exact ⟨⟨hu, by omega⟩, ⟨hv, by omega⟩, o⟩
