/-! A STEP, on both sides -/
theorem c_heav {c : CS} {S : St} (hB : BaC c S) (hR : RnC c S (fun _ => True)) {kr : Int32 → CS → Prop} (K : kr (if nxt S = 0 then -5 else nI (nxt S - 1)) c) : wX2_heaviest c kr := by
  obtain ⟨⟨w3, w100, -⟩, -, e3, -⟩ := hB
  obtain ⟨p0, -, -, hbx⟩ := hR
  unfold wX2_heaviest bX2_heaviest_0
  refine ⟨S.1 2 + 1, ?_⟩
  have loop : ∀ (j k : Nat), j + k = S.1 2 → itX2_heaviest_5 kr (j + 1) (if nxT S k = 0 then -5 else nI (nxT S k - 1)) (nI k) c := by
    intro j
    induction j with
    | zero =>
      intro k q
      show bX2_heaviest_5 c _ (nI k) kr _
      unfold bX2_heaviest_5
      rw [e3]
      refine ifp ((nI_leX (by omega) (by omega)).mpr (by omega)) ?_
      have : k = S.1 2 := by omega
      rw [this]; exact K
    | succ j ih =>
      intro k q
      have nx := ih (k + 1) (by omega)
      have en : nxT S (k + 1) = if S.2 7 k = 3 ∧ ¬ tgt S k ∧ (nxT S k = 0 ∨ bLt (S.2 9 (nxT S k - 1)) (S.2 9 k)) then k + 1 else nxT S k := rfl
      show bX2_heaviest_5 c (if nxT S k = 0 then -5 else nI (nxT S k - 1)) (nI k) kr (fun z1 z2 X => itX2_heaviest_5 kr (j + 1) z1 z2 X)
      unfold bX2_heaviest_5
      obtain ⟨bm, bs⟩ := (hbx k (by omega)).2 trivial
      rw [e3, nI_cl (i := k) (by omega), bm.2.1, bm.2.2.2.2.2.2, nI_s (by omega)]
      have ik := in_nI (show k < 100 by omega) (by decide)
      have ek : nI (S.2 7 k) = (3 : Int32) ↔ S.2 7 k = 3 := by
        constructor
        · intro z; exact Classical.byContradiction fun y => nI_ne (a := S.2 7 k) (b := 3) (by have := bs.2.2.1; omega) (by decide) y z
        · intro z; rw [z]; rfl
      refine ifn (fun z => by rw [nI_leX (by omega) (by omega)] at z; omega) ⟨ik, ifx ek (fun k3 => ⟨ik, ?_⟩) (fun k3 => ?_)⟩
      · by_cases t : tgt S k
        · rw [if_pos t]
          refine ifn (by decide) ?_
          rw [en.trans (if_neg (fun z => z.2.1 t))] at nx; exact nx
        · rw [if_neg t]
          refine ifp rfl ?_
          by_cases z : nxT S k = 0
          · rw [if_pos z]
            rw [en.trans (if_pos ⟨k3, t, .inl z⟩), if_neg (by omega), Nat.add_sub_cancel] at nx
            exact ifp rfl nx
          · have le := nxT_le S k
            obtain ⟨bp, ws⟩ := (hbx (nxT S k - 1) (by omega)).2 trivial
            rw [if_neg z, nI_cl (i := nxT S k - 1) (by omega), bp.2.2.2.1, bm.2.2.2.1, c_below ws.2.2.2.2.1 bs.2.2.2.2.1]
            refine ifn (fun y => ?_) ⟨in_nI (by omega) (by decide), ik, ?_⟩
            · have := congrArg Int32.toInt y
              rw [nI_toInt (by omega)] at this
              have h5 : (-5 : Int32).toInt = -5 := rfl
              omega
            · by_cases y : bLt (S.2 9 (nxT S k - 1)) (S.2 9 k)
              · rw [if_pos y]
                rw [en.trans (if_pos ⟨k3, t, .inr y⟩), if_neg (by omega), Nat.add_sub_cancel] at nx; exact ifn (by decide) nx
              · rw [if_neg y]
                rw [en.trans (if_neg (fun w => w.2.2.elim z y)), if_neg z] at nx; exact ifp rfl nx
      · rw [en.trans (if_neg (fun z => k3 z.1))] at nx; exact nx
  exact loop (S.1 2) 0 rfl
theorem sp_6 (S : St) (b J : Nat) : (split S b).2 6 J = if J = 6 * b + 2 * wid S b + 1 then mid S b else if J = 6 * S.1 2 + 2 * wid S b then mid S b else if 6 * S.1 2 ≤ J ∧ J < 6 * S.1 2 + 6 then S.2 6 (6 * b + (J - 6 * S.1 2)) else S.2 6 J := rfl
theorem sp_old {S : St} {b x j : Nat} (hw : wid S b < 3) (hx : x < S.1 2) (hb : x ≠ b) (hj : j < 6) : (split S b).2 6 (6 * x + j) = S.2 6 (6 * x + j) := by
  rw [sp_6, if_neg (by omega), if_neg (by omega), if_neg (by omega)]
theorem sp_b {S : St} {b j : Nat} (hw : wid S b < 3) (hx : b < S.1 2) (hj : j < 6) : (split S b).2 6 (6 * b + j) = if j = 2 * wid S b + 1 then mid S b else S.2 6 (6 * b + j) := by
  rw [sp_6]
  by_cases e : j = 2 * wid S b + 1
  · rw [if_pos (by omega), if_pos e]
  · rw [if_neg (by omega), if_neg (by omega), if_neg (by omega), if_neg e]
theorem sp_n {S : St} {b j : Nat} (hw : wid S b < 3) (hx : b < S.1 2) (hj : j < 6) : (split S b).2 6 (6 * S.1 2 + j) = if j = 2 * wid S b then mid S b else S.2 6 (6 * b + j) := by
  rw [sp_6]
  by_cases e : j = 2 * wid S b
  · rw [if_neg (by omega), if_pos (by omega), if_pos e]
  · rw [if_neg (by omega), if_neg (by omega), if_pos (by omega), if_neg e, show 6 * S.1 2 + j - 6 * S.1 2 = j by omega]
theorem fin_btw {a m b : Nat} (ha : fin a) (hb : fin b) (hm : m < 2 ^ 64) (h1 : bLt a m) (h2 : bLt m b) : fin m := by
  refine ⟨hm, ?_⟩
  have x := h1.2.2
  have y := h2.2.2
  have f1 := ha.2
  have f2 := hb.2
  have g1 := ha.1
  have g2 := hb.1
  rcases rk_cases a with ⟨a1, a2⟩ | ⟨a1, a2⟩ <;> rcases rk_cases b with ⟨b1, b2⟩ | ⟨b1, b2⟩ <;> rcases rk_cases m with ⟨m1, m2⟩ | ⟨m1, m2⟩ <;> omega
theorem sp_ok {S : St} {b : Nat} (h0 : 0 < S.1 0) (h3 : S.1 0 ≤ 3) (hb : b < S.1 2) (hs : ∀ x, x < S.1 2 → SdS S x ∧ SdO S x) (ht : ¬ tgt S b) : ∀ x, x < S.1 2 + 1 → SdS (split S b) x ∧ SdO (split S b) x := by
  have hw := wid_lt (b := b) h0
  obtain ⟨s, o⟩ := hs b hb
  have md := mid_ok s h0
  have t1 : bLt (S.2 6 (6 * b + 2 * wid S b)) (mid S b) := Classical.byContradiction fun q => ht (.inl q)
  have t2 : bLt (mid S b) (S.2 6 (6 * b + 2 * wid S b + 1)) := Classical.byContradiction fun q => ht (.inr q)
  have fm : fin (mid S b) := fin_btw (s _ (by omega)) (by rw [Nat.add_assoc]; exact s _ (by omega)) md.2 t1 t2
  have e0 : (split S b).1 0 = S.1 0 := rfl
  intro x hx
  by_cases xn : x = S.1 2
  · subst xn
    constructor
    · intro j hj
      rw [e0] at hj
      rw [sp_n (by omega) hb (by omega)]
      split
      · exact fm
      · exact s j hj
    · intro d hd
      rw [e0] at hd
      rw [Nat.add_assoc, sp_n (by omega) hb (by omega), sp_n (by omega) hb (by omega), if_neg (show ¬ 2 * d + 1 = 2 * wid S b by omega)]
      have od := o d hd
      rw [Nat.add_assoc] at od
      split
      · rename_i q
        have : d = wid S b := by omega
        subst this
        rw [← Nat.add_assoc]; exact Int.le_of_lt t2.2.2
      · exact od
  · by_cases xb : x = b
    · subst xb
      constructor
      · intro j hj
        rw [e0] at hj
        rw [sp_b (by omega) hb (by omega)]
        split
        · exact fm
        · exact s j hj
      · intro d hd
        rw [e0] at hd
        rw [Nat.add_assoc, sp_b (by omega) hb (by omega), sp_b (by omega) hb (by omega), if_neg (show ¬ 2 * d = 2 * wid S x + 1 by omega)]
        have od := o d hd
        rw [Nat.add_assoc] at od
        split
        · rename_i q
          have : d = wid S x := by omega
          subst this
          exact Int.le_of_lt t1.2.2
        · exact od
    · have hx' : x < S.1 2 := by omega
      obtain ⟨sx, ox⟩ := hs x hx'
      constructor
      · intro j hj
        rw [e0] at hj
        rw [sp_old (by omega) hx' xb (by omega)]; exact sx j hj
      · intro d hd
        rw [e0] at hd
        rw [Nat.add_assoc, sp_old (by omega) hx' xb (by omega), sp_old (by omega) hx' xb (by omega)]
        have := ox d hd
        rw [Nat.add_assoc] at this; exact this
theorem sp_box {S : St} {b x : Nat} (hw : wid S b < 3) (h3 : S.1 0 ≤ 3) (hx : x < S.1 2) (hb : x ≠ b) (hB : BoxS S x) (s : SdS (split S b) x ∧ SdO (split S b) x) : BoxS (split S b) x := ⟨s.1, s.2, hB.2.2⟩
theorem nI_ad {a b : Nat} (h : a + b < 1000) : nI a + nI b = nI (a + b) := by
  apply i_nI (by omega)
  have ha := nI_toInt (n := a) (by omega)
  have hb := nI_toInt (n := b) (by omega)
  rw [i_add, ha, hb]
  · omega
  · rw [ha, hb]; omega
theorem nI_sb {a b : Nat} (h : b ≤ a) (ha : a < 1000) : nI a - nI b = nI (a - b) := by
  apply i_nI (by omega)
  have ha := nI_toInt (n := a) (by omega)
  have hb := nI_toInt (n := b) (by omega)
  rw [i_sub, ha, hb]
  · omega
  · rw [ha, hb]; omega
theorem g_split {c : CS} {S : St} (hB : BaC c S) (hR : RnC c S (fun _ => True)) {b : Nat} (hb : b < S.1 2) (hn : S.1 2 < 100) (ht : ¬ tgt S b) {kr : Int32 → CS → Prop}
    (K : ∀ d, BaC d (split S b) → RnC d (split S b) (fun x => x ≠ b ∧ x ≠ S.1 2) → kr (nI (S.1 2)) d) : wX2_split c (nI b) kr := by
  obtain ⟨⟨w3, w100, wsp⟩, e0, e3, hN, hro, hsp⟩ := hB
  obtain ⟨p0, e4, hned, hbx⟩ := hR
  have hw := wid_lt (b := b) p0
  obtain ⟨⟨sb, db, ob⟩, bb⟩ := hbx b hb
  obtain ⟨bC, bS⟩ := bb trivial
  unfold wX2_split bX2_split_0
  refine ⟨7, ?_⟩
  rw [e3]
  have ib := in_nI (show b < 100 by omega) (by decide)
  have loop : ∀ (j k : Nat) (d : CS), j + k = 6 → d.1 = c.1 → d.2.1 = c.2.1 → (∀ i, i ≠ 12 → d.2.2 i = c.2.2 i) → (∀ J, d.2.2 12 J = if 6 * S.1 2 ≤ J ∧ J < 6 * S.1 2 + k then c.2.2 12 (6 * b + (J - 6 * S.1 2)) else c.2.2 12 J) → itX2_split_7 kr (j + 1) (nI b) (nI (S.1 2)) (nI k) d := by
    intro j
    induction j with
    | zero =>
      intro k d q f1 f2 f3 f12
      have : k = 6 := by omega
      subst this
      show bX2_split_7 d (nI b) (nI (S.1 2)) (nI 6) kr _
      unfold bX2_split_7
      have e17 : d.2.1 17 b = nI (wid S b) := by rw [f2]; exact bC.2.2.2.2.1
      have e18 : d.2.2 18 b = lN (mid S b) := by rw [f3 18 (by decide)]; exact bC.2.2.2.2.2.1
      have e3' : d.1 3 = nI (S.1 2) := by rw [f1]; exact e3
      have e17' : (setL d 12 (vp_updL (d.2.2 12) (6 * b + 2 * wid S b + 1) (lN (mid S b)))).2.1 17 b = nI (wid S b) := e17
      have e18' : (setL d 12 (vp_updL (d.2.2 12) (6 * b + 2 * wid S b + 1) (lN (mid S b)))).2.2 18 b = lN (mid S b) := e18
      rw [nI_cl (i := b) (by omega), e17, e18, c_pl (b := b) (d := wid S b) (by omega), nI_s (a := 6 * b + 2 * wid S b) (by omega), nI_cl (i := 6 * b + 2 * wid S b + 1) (by omega), e17', e18', c_pl (b := S.1 2) (d := wid S b) (by omega), nI_cl (i := 6 * S.1 2 + 2 * wid S b) (by omega)]
      have i1 := in_nI (show 6 * b + 2 * wid S b + 1 < 600 by omega) (by decide)
      have i2 := in_nI (show 6 * S.1 2 + 2 * wid S b < 600 by omega) (by decide)
      refine ifp (by decide) ⟨ib, ib, i1, ib, ib, i2, ?_⟩
      have G : ∀ e : CS, (∀ i, i ≠ 3 → e.1 i = d.1 i) → e.1 3 = nI (S.1 2 + 1) → e.2.1 = d.2.1 → (∀ i, i ≠ 12 → e.2.2 i = d.2.2 i) → (∀ J, e.2.2 12 J = if J = 6 * S.1 2 + 2 * wid S b then lN (mid S b) else if J = 6 * b + 2 * wid S b + 1 then lN (mid S b) else d.2.2 12 J) → kr (nI (S.1 2)) e := by
        intro e g1 g2 g3 g4 g5
        have so := sp_ok p0 w3 hb (fun x hx => (hbx x hx).1.2) ht
        have sid : ∀ x, x < S.1 2 + 1 → SidC e (split S b) x := by
          intro x hx j hj
          have hj : j < 2 * S.1 0 := hj
          rw [g5, f12, sp_6]
          by_cases c1 : 6 * x + j = 6 * S.1 2 + 2 * wid S b
          · rw [if_pos c1, if_neg (by omega), if_pos c1]
          · rw [if_neg c1]
            by_cases c2 : 6 * x + j = 6 * b + 2 * wid S b + 1
            · rw [if_pos c2, if_pos c2]
            · rw [if_neg c2, if_neg c2, if_neg c1]
              by_cases c3 : 6 * S.1 2 ≤ 6 * x + j ∧ 6 * x + j < 6 * S.1 2 + 6
              · rw [if_pos c3, if_pos c3]
                exact sb _ (by omega)
              · rw [if_neg c3, if_neg c3]
                exact (hbx x (by omega)).1.1 j hj
        refine K e ⟨⟨w3, hn, wsp⟩, by rw [g1 0 (by decide), f1]; exact e0, g2, ?_, ?_, ?_⟩ ⟨p0, by rw [g1 4 (by decide), f1]; exact e4, by rw [g1 1 (by decide), f1]; exact hned, fun x hx => ⟨⟨sid x hx, so x hx⟩, fun hp => ?_⟩⟩
        · unfold NodC; rw [g1 2 (by decide), f1, g3, f2, g4 9 (by decide), f3 9 (by decide)]; exact hN
        · unfold RolC; rw [g3, f2]; exact hro
        · rw [g4 1 (by decide), f3 1 (by decide)]; exact hsp
        · have hx : x < S.1 2 + 1 := hx
          have hx' : x < S.1 2 := by have := hp.2; omega
          obtain ⟨xC, xS⟩ := (hbx x hx').2 trivial
          have cg : ∀ j, j < 6 → (split S b).2 6 (6 * x + j) = S.2 6 (6 * x + j) := fun j hj => sp_old (by omega) hx' hp.1 hj
          refine ⟨⟨sid x hx, ?_, ?_, ?_, ?_, ?_, ?_⟩, sp_box (by omega) w3 hx' hp.1 xS (so x hx)⟩
          · rw [g3, f2]; exact xC.2.1
          · rw [g4 13 (by decide), f3 13 (by decide)]; exact xC.2.2.1
          · rw [g4 14 (by decide), f3 14 (by decide)]; exact xC.2.2.2.1
          · rw [g3, f2, wid_cg (S := S) (T := split S b) rfl w3 cg]; exact xC.2.2.2.2.1
          · rw [g4 18 (by decide), f3 18 (by decide), mid_cg (S := S) (T := split S b) rfl w3 p0 cg]; exact xC.2.2.2.2.2.1
          · rw [g3, f2, if_iff (tgt_cg (S := S) (T := split S b) rfl w3 p0 cg)]; exact xC.2.2.2.2.2.2
      refine G _ (fun i hi => ?_) ?_ rfl (fun i hi => ?_) (fun J => rfl)
      · show (if i = 3 then _ else d.1 i) = _
        rw [if_neg hi]
      · show d.1 3 + 1 = _
        rw [e3', nI_s (by omega)]
      · show (if i = 12 then _ else if i = 12 then _ else d.2.2 i) = _
        rw [if_neg hi, if_neg hi]
    | succ j ih =>
      intro k d q f1 f2 f3 f12
      show bX2_split_7 d (nI b) (nI (S.1 2)) (nI k) kr (fun z1 z2 z3 X => itX2_split_7 kr (j + 1) z1 z2 z3 X)
      unfold bX2_split_7
      have z0 : fX2_place (nI b) (0 : Int32) = nI (6 * b) := c_pl (b := b) (d := 0) (by omega)
      have z1 : fX2_place (nI (S.1 2)) (0 : Int32) = nI (6 * S.1 2) := c_pl (b := S.1 2) (d := 0) (by omega)
      rw [z0, z1, nI_ad (a := 6 * b) (b := k) (by omega), nI_ad (a := 6 * S.1 2) (b := k) (by omega), nI_s (a := k) (by omega), nI_cl (i := 6 * b + k) (by omega), nI_cl (i := 6 * S.1 2 + k) (by omega)]
      refine ifn (fun z => by rw [show (6 : Int32) = nI 6 from rfl, nI_leX (by omega) (by omega)] at z; omega) ⟨in_nI (by omega) (by decide), in_nI (by omega) (by decide), ?_⟩
      refine ih (k + 1) _ (by omega) f1 f2 (fun i hi => ?_) (fun J => ?_)
      · show (if i = 12 then _ else d.2.2 i) = _
        rw [if_neg hi]; exact f3 i hi
      · show vp_updL (d.2.2 12) (6 * S.1 2 + k) (d.2.2 12 (6 * b + k)) J = _
        unfold vp_updL
        by_cases c1 : J = 6 * S.1 2 + k
        · rw [if_pos c1, f12, if_neg (by omega), if_pos (by omega), show J - 6 * S.1 2 = k by omega]
        · rw [if_neg c1, f12]
          by_cases c2 : 6 * S.1 2 ≤ J ∧ J < 6 * S.1 2 + k
          · rw [if_pos c2, if_pos (by omega)]
          · rw [if_neg c2, if_neg (by omega)]
  exact loop 6 0 c rfl rfl rfl (fun _ _ => rfl) (fun J => by rw [if_neg (by omega)])
