/-! THE MODEL JUDGES A BOX -/
def mW (c : MS) (b : Nat) (p : Nat × Nat) : MS := msetL (msetL c 31 (vf_upd (c.2.2 31) b (dN p.1))) 32 (vf_upd (c.2.2 32) b (dN p.2))
theorem m_tail (c : MS) {b x y : Nat} (hb : b < 100) (hx : x < 2 ^ 64) (hy : y < 2 ^ 64) {kr : MS → Prop} (K : kr (mW c b (sZl x, if isN y then 9218868437227405312 else y))) :
    (if (Op.cmpValue (FP.dcmp (dN x) (dN 0)) .l) < 0 then
        (vp_in (nI b) 100 ∧ (if (Op.cmpValue (FP.dcmp (dN y) (dN y)) .l) = 0 then
          (vp_in (nI b) 100 ∧ (∀ Y : MS, Y = (msetL (msetL c 31 (vf_upd (c.2.2 31) b (dN 0))) 32 (vf_upd ((msetL c 31 (vf_upd (c.2.2 31) b (dN 0))).2.2 32) b (dN y))) → kr Y))
        else
          (vp_in (nI b) 100 ∧ (∀ Y : MS, Y = (msetL (msetL c 31 (vf_upd (c.2.2 31) b (dN 0))) 32 (vf_upd ((msetL c 31 (vf_upd (c.2.2 31) b (dN 0))).2.2 32) b (9218868437227405312 : UInt64))) → kr Y))))
      else
        (vp_in (nI b) 100 ∧ (if (Op.cmpValue (FP.dcmp (dN y) (dN y)) .l) = 0 then
          (vp_in (nI b) 100 ∧ (∀ Y : MS, Y = (msetL (msetL c 31 (vf_upd (c.2.2 31) b (dN x))) 32 (vf_upd ((msetL c 31 (vf_upd (c.2.2 31) b (dN x))).2.2 32) b (dN y))) → kr Y))
        else
          (vp_in (nI b) 100 ∧ (∀ Y : MS, Y = (msetL (msetL c 31 (vf_upd (c.2.2 31) b (dN x))) 32 (vf_upd ((msetL c 31 (vf_upd (c.2.2 31) b (dN x))).2.2 32) b (9218868437227405312 : UInt64))) → kr Y))))) := by
  have ib := in_nI hb (by decide)
  have r0 : rk 0 = 0 := by decide
  have ez : ¬ bLe 0 x ↔ isN x ∨ bLt x 0 := by
    constructor
    · intro q
      by_cases n : isN x
      · exact .inl n
      · exact .inr ⟨n, by decide, Int.not_le.mp fun z => q ⟨by decide, n, z⟩⟩
    · rintro (n | l) q
      · exact q.2.1 n
      · have := q.2.2; have := l.2.2; omega
  refine ifx ((cvl_lt hx (by decide)).trans ez) (fun q => ⟨ib, ?_⟩) (fun q => ⟨ib, ?_⟩)
  · have e : sZl x = 0 := by unfold sZl; rw [if_pos q]
    rw [e] at K
    refine n_self hy (fun n => ⟨ib, fun Y h => ?_⟩) (fun n => ⟨ib, fun Y h => ?_⟩)
    · rw [if_pos n] at K; rw [h]; exact K
    · rw [if_neg n] at K; rw [h]; exact K
  · have e : sZl x = x := by unfold sZl; rw [if_neg q]
    rw [e] at K
    refine n_self hy (fun n => ⟨ib, fun Y h => ?_⟩) (fun n => ⟨ib, fun Y h => ?_⟩)
    · rw [if_pos n] at K; rw [h]; exact K
    · rw [if_neg n] at K; rw [h]; exact K
theorem m_times (c : MS) {b p q l h : Nat} (hb : b < 100) (e1 : c.2.2 31 b = dN p) (e2 : c.2.2 32 b = dN q) (hp : p < 2 ^ 64) (hq : q < 2 ^ 64) (hl : l < 2 ^ 64) (nl : ¬ isN l) (hh : h < 2 ^ 64) (nh : ¬ isN h) {kr : MS → Prop} (K : kr (mW c b (sLt p l, sHt q h))) : wX4_times c (nI b) (dN l) (dN h) kr := by
  unfold wX4_times bX4_times_0
  have ib := in_nI hb (by decide)
  rw [nI_cl (by omega), e1, e2, d0]
  have K : kr (mW c b (sZl (sDn (sTi p (sZl l))), if isN (sUp (sTi q (sZl h))) then 9218868437227405312 else sUp (sTi q (sZl h)))) := K
  rw [zl_sZl nl, zl_sZl nh] at K
  refine ⟨ib, ifx (cvg_ge hl (by decide)) (fun a => ?_) (fun a => ?_)⟩
  · rw [zl_id a] at K
    have t := sTi_cn hp hl
    refine m_timed hp hl (m_down t ⟨ib, ifx (cvg_ge hh (by decide)) (fun b => ?_) (fun b => ?_)⟩)
    · rw [zl_id b] at K
      have t2 := sTi_cn hq hh
      exact m_timed hq hh (m_up t2 (m_tail c hb (sDn_cn t.1).1 (sUp_lt t2.1) K))
    · have e : zl h = 0 := by unfold zl; rw [if_pos (Classical.not_not.mp b)]
      rw [e] at K
      have t2 := sTi_cn hq (show 0 < 2 ^ 64 by decide)
      exact m_timed hq (by decide) (m_up t2 (m_tail c hb (sDn_cn t.1).1 (sUp_lt t2.1) K))
  · have e : zl l = 0 := by unfold zl; rw [if_pos (Classical.not_not.mp a)]
    rw [e] at K
    have t := sTi_cn hp (show 0 < 2 ^ 64 by decide)
    refine m_timed hp (by decide) (m_down t ⟨ib, ifx (cvg_ge hh (by decide)) (fun b => ?_) (fun b => ?_)⟩)
    · rw [zl_id b] at K
      have t2 := sTi_cn hq hh
      exact m_timed hq hh (m_up t2 (m_tail c hb (sDn_cn t.1).1 (sUp_lt t2.1) K))
    · have e : zl h = 0 := by unfold zl; rw [if_pos (Classical.not_not.mp b)]
      rw [e] at K
      have t2 := sTi_cn hq (show 0 < 2 ^ 64 by decide)
      exact m_timed hq (by decide) (m_up t2 (m_tail c hb (sDn_cn t.1).1 (sUp_lt t2.1) K))
def rI (r : Nat) : Int32 := if r = 0 then -5 else nI (r - 1)
theorem rI_none {r : Nat} (h : r ≤ 32) : rI r = (-5 : Int32) ↔ r = 0 := by
  constructor
  · intro e
    refine Classical.byContradiction fun q => ?_
    rw [rI, if_neg q] at e
    have := congrArg Int32.toInt e
    rw [nI_toInt (by omega)] at this
    have h5 : (-5 : Int32).toInt = -5 := rfl
    omega
  · intro e; rw [e]; rfl
theorem rI_node {r : Nat} (h : r ≠ 0) : rI r = nI (r - 1) := by rw [rI, if_neg h]
def hI (h : Nat) : Int32 := if h = 2 then -1 else nI h
def RolM (m : MS) (S : St) : Prop := ∀ r, r < 5 → m.2.1 27 r = rI (S.2 5 r) ∧ S.2 5 r ≤ S.1 1
theorem Fm.rol {m m' : MS} {S : St} (f : Fm m m') (h : RolM m S) : RolM m' S := by
  unfold RolM; rw [f.2.1]; exact h
theorem m_holds {m : MS} {S : St} (h : NodM m S) (hr : RolM m S) {b r : Nat} (hb : b < 100) (hd : S.1 0 ≤ 3) (hs : SidM m S b) (hS : SdS S b) (h5 : r < 5) {kr : Int32 → MS → Prop}
    (K : ∀ d, Fm m d → kr (hI (hold S b r)) d) : wX4_holds m (nI r) (nI b) kr := by
  unfold wX4_holds bX4_holds_0
  obtain ⟨e, le⟩ := hr r h5
  have h32 := h.2.1
  rw [nI_cl (by omega), e]
  refine ⟨in_nI h5 (by decide), ifx (rI_none (by omega)) (fun z => ?_) (fun z => ?_)⟩
  · have := K m (Fm.refl m)
    rw [hold, if_pos z] at this; exact this
  · rw [rI_node z]
    refine m_encloseTo h hb hd hs hS (by omega) (fun d f a1 a2 => ?_)
    have ev := enc_ev (b := b) (n := S.1 1) (fun i hi => (h.2.2 i hi).1) hS (S.2 5 r - 1) (by omega)
    have ir := in_nI (show S.2 5 r - 1 < 32 by omega) (by decide)
    rw [nI_cl (by omega), a1, a2, d0]
    have K := K d f
    unfold hold at K
    rw [if_neg z] at K
    refine ⟨ir, ifx (cvl_le ev.1.1 (by decide)) (fun y => ⟨ir, ifx (cvl_gt ev.2.1 (by decide)) (fun w => ?_) (fun w => ?_)⟩) (fun y => ?_)⟩
    · rw [if_neg y, if_neg (fun q => q w)] at K; exact K
    · rw [if_neg y, if_pos w] at K; exact K
    · rw [if_pos (Classical.not_not.mp y)] at K; exact K
/-- what judging leaves: rows 30, 31, 32 at the box, and the scratch rows -/
def Fj (b : Nat) (m m' : MS) : Prop := m'.1 = m.1 ∧ (∀ j, j ≠ 30 → m'.2.1 j = m.2.1 j) ∧ (∀ j, j < 31 → m'.2.2 j = m.2.2 j) ∧ ∀ i, i ≠ b → m'.2.1 30 i = m.2.1 30 i ∧ m'.2.2 31 i = m.2.2 31 i ∧ m'.2.2 32 i = m.2.2 32 i
theorem Fj.trans {b : Nat} {x y z : MS} (h : Fj b x y) (g : Fj b y z) : Fj b x z :=
  ⟨g.1.trans h.1, fun j q => (g.2.1 j q).trans (h.2.1 j q), fun j q => (g.2.2.1 j q).trans (h.2.2.1 j q), fun i q => ⟨(g.2.2.2 i q).1.trans (h.2.2.2 i q).1, (g.2.2.2 i q).2.1.trans (h.2.2.2 i q).2.1, (g.2.2.2 i q).2.2.trans (h.2.2.2 i q).2.2⟩⟩
theorem Fm.fj {b : Nat} {m m' : MS} (f : Fm m m') : Fj b m m' :=
  ⟨f.1, fun j _ => by rw [f.2.1], fun j q => f.2.2 j (by omega), fun i _ => ⟨by rw [f.2.1], by rw [f.2.2 31 (by decide)], by rw [f.2.2 32 (by decide)]⟩⟩
theorem fj_W (c : MS) (b : Nat) (p : Nat × Nat) : Fj b c (mW c b p) := by
  refine ⟨rfl, fun _ _ => rfl, fun j q => ?_, fun i q => ⟨rfl, ?_, ?_⟩⟩
  · show (if j = 32 then _ else if j = 31 then _ else c.2.2 j) = _
    rw [if_neg (by omega), if_neg (by omega)]
  · show vf_upd (c.2.2 31) b (dN p.1) i = _
    unfold vf_upd; exact if_neg q
  · show vf_upd (c.2.2 32) b (dN p.2) i = _
    unfold vf_upd; exact if_neg q
theorem fj_K (c : MS) (b : Nat) (x : Int32) (p : Nat × Nat) : Fj b c (mW (msetA c 30 (upd (c.2.1 30) b x)) b p) := by
  refine Fj.trans (y := msetA c 30 (upd (c.2.1 30) b x)) ⟨rfl, fun j q => ?_, fun j q => rfl, fun i q => ⟨?_, rfl, rfl⟩⟩ (fj_W _ b p)
  · show (if j = 30 then _ else c.2.1 j) = _
    rw [if_neg q]
  · show upd (c.2.1 30) b x i = _
    unfold upd; exact if_neg q
theorem Fj.nod {b : Nat} {m m' : MS} {S : St} (f : Fj b m m') (h : NodM m S) : NodM m' S := by
  unfold NodM; rw [f.1, f.2.1 23 (by decide), f.2.1 24 (by decide), f.2.1 25 (by decide), f.2.2.1 26 (by decide)]; exact h
theorem Fj.sid {b k : Nat} {m m' : MS} {S : St} (f : Fj b m m') (h : SidM m S k) : SidM m' S k := by
  unfold SidM; rw [f.2.2.1 28 (by decide), f.2.2.1 29 (by decide)]; exact h
theorem Fj.rol {b : Nat} {m m' : MS} {S : St} (f : Fj b m m') (h : RolM m S) : RolM m' S := by
  unfold RolM; rw [f.2.1 27 (by decide)]; exact h
theorem mW_1 (c : MS) (b : Nat) (p : Nat × Nat) : (mW c b p).2.2 31 b = dN p.1 ∧ (mW c b p).2.2 32 b = dN p.2 := by
  constructor
  · show vf_upd (c.2.2 31) b (dN p.1) b = _; unfold vf_upd; exact if_pos rfl
  · show vf_upd (c.2.2 32) b (dN p.2) b = _; unfold vf_upd; exact if_pos rfl
theorem wT_WN {S : St} {b : Nat} (hn : ∀ i, i < S.1 1 → NdS S i) (hr : ∀ r, r < 5 → S.2 5 r ≤ S.1 1) (h3 : S.1 0 ≤ 3) (hS : SdS S b) : ∀ d, d ≤ S.1 0 → WN (wT S b d).1 ∧ WN (wT S b d).2
  | 0 => fun _ => ⟨WN_1, WN_1⟩
  | d + 1 => fun hd => by
    have ih := wT_WN hn hr h3 hS d (by omega)
    have w := wdt_ok hS (d := d) (by omega)
    show WN (wS S b d (wT S b d)).1 ∧ WN (wS S b d (wT S b d)).2
    unfold wS
    by_cases z : S.2 5 (2 + d) = 0
    · rw [if_pos z]
      exact ⟨lt_WN ih.1.1 (sDn_cn w.2.2.2).1, ht_WN ih.2 (sUp_lt w.2.2.2)⟩
    · rw [if_neg z]
      have ev := enc_ev (b := b) hn hS (S.2 5 (2 + d) - 1) (by have := hr (2 + d) (by omega); omega)
      exact ⟨lt_WN (lt_WN ih.1.1 (sDn_cn w.2.2.2).1).1 ev.1.1, ht_WN (ht_WN ih.2 (sUp_lt w.2.2.2)) ev.2.1⟩
theorem nI_2d {d : Nat} (h : d < 100) : (2 : Int32) + nI d = nI (2 + d) := by
  apply i_nI (by omega)
  have hd := nI_toInt (n := d) (by omega)
  rw [i_add, hd]
  · show (2 : Int) + d = _; omega
  · rw [hd, show (2 : Int32).toInt = 2 from rfl]; omega
theorem m_weigh {m : MS} {S : St} (h : NodM m S) (hr : RolM m S) {b : Nat} (hb : b < 100) (h3 : S.1 0 ≤ 3) (e : m.1 1 = nI (S.1 0)) (hs : SidM m S b) (hS : SdS S b) {kr : MS → Prop}
    (K : ∀ d, Fj b m d → d.2.1 = m.2.1 → d.2.2 31 b = dN (wT S b (S.1 0)).1 → d.2.2 32 b = dN (wT S b (S.1 0)).2 → kr d) (w1 : m.2.2 31 b = dN ONE64) (w2 : m.2.2 32 b = dN ONE64) : ∃ N, itX4_judge_73 kr N (nI b) (nI 0) m := by
  refine ⟨S.1 0 + 1, ?_⟩
  have hn := fun i hi => (h.2.2 i hi).1
  have wn := wT_WN hn (fun r q => (hr r q).2) h3 hS
  have loop : ∀ (j k : Nat) (d : MS), j + k = S.1 0 → Fj b m d → d.2.1 = m.2.1 → d.2.2 31 b = dN (wT S b k).1 → d.2.2 32 b = dN (wT S b k).2 → itX4_judge_73 kr (j + 1) (nI b) (nI k) d := by
    intro j
    induction j with
    | zero =>
      intro k d q f fa a1 a2
      show bX4_judge_73 d (nI b) (nI k) kr _
      unfold bX4_judge_73
      rw [f.1, e]
      have : k = S.1 0 := by omega
      subst this
      exact ifp ((nI_leX (by omega) (by omega)).mpr (Nat.le_refl _)) (K d f fa a1 a2)
    | succ j ih =>
      intro k d q f fa a1 a2
      show bX4_judge_73 d (nI b) (nI k) kr (fun z1 z4 X => itX4_judge_73 kr (j + 1) z1 z4 X)
      unfold bX4_judge_73
      have s1 := f.sid hs k (by omega)
      have w := wdt_ok hS (d := k) (by omega)
      have i1 := in_nI (show 3 * b + k < 300 by omega) (by decide)
      have i2 := in_nI (show 2 + k < 5 by omega) (by decide)
      rw [f.1, e, nI_3a (by omega), nI_cl (by omega), s1.1, s1.2, w.1, nI_2d (by omega), nI_s (by omega), nI_cl (i := 2 + k) (by omega)]
      have nw := wn k (by omega)
      have c1 := (sDn_cn w.2.2.2).1
      have c2 := sUp_lt w.2.2.2
      have n1 : ¬ isN (sDn (wdt S b k)) := by rw [sDn_n w.2.2.2]; exact w.2.2.1
      have n2 : ¬ isN (sUp (wdt S b k)) := by rw [sUp_n w.2.2.2]; exact w.2.2.1
      refine ifn (fun z => by rw [nI_leX (by omega) (by omega)] at z; omega) ⟨i1, i1, w.2.1, m_down (Cn_of w.2.2.2 w.2.2.1) (m_up (Cn_of w.2.2.2 w.2.2.1) (m_times d hb a1 a2 nw.1.1 nw.2.1 c1 n1 c2 n2 ⟨i2, ?_⟩))⟩
      have g := f.trans (fj_W d b (sLt (wT S b k).1 (sDn (wdt S b k)), sHt (wT S b k).2 (sUp (wdt S b k))))
      have gW := mW_1 d b (sLt (wT S b k).1 (sDn (wdt S b k)), sHt (wT S b k).2 (sUp (wdt S b k)))
      have ga : (mW d b (sLt (wT S b k).1 (sDn (wdt S b k)), sHt (wT S b k).2 (sUp (wdt S b k)))).2.1 = m.2.1 := fa
      generalize mW d b (sLt (wT S b k).1 (sDn (wdt S b k)), sHt (wT S b k).2 (sUp (wdt S b k))) = d1 at *
      have rr := g.rol hr (2 + k) (by omega)
      have h32 := h.2.1
      rw [rr.1]
      have ew : wT S b (k + 1) = wS S b k (wT S b k) := rfl
      unfold wS at ew
      refine ifx (rI_none (by omega)) (fun z => ?_) (fun z => ⟨i2, ?_⟩)
      · rw [if_pos z] at ew
        exact ih (k + 1) d1 (by omega) g ga (by rw [ew]; exact gW.1) (by rw [ew]; exact gW.2)
      · rw [if_neg z] at ew
        rw [rI_node z]
        refine m_encloseTo (g.nod h) hb h3 (g.sid hs) hS (by omega) (fun d2 f2 b1 b2 => ?_)
        have i3 := in_nI (show S.2 5 (2 + k) - 1 < 32 by omega) (by decide)
        have g2 := g.trans (f2.fj (b := b))
        have rr2 := g2.rol hr (2 + k) (by omega)
        have ev := enc_ev (b := b) hn hS (S.2 5 (2 + k) - 1) (by omega)
        rw [rr2.1, rI_node z, nI_cl (i := S.2 5 (2 + k) - 1) (by omega), b1, b2]
        have x1 := lt_WN nw.1.1 c1
        have x2 := ht_WN nw.2 c2
        refine ⟨i2, i3, i2, i3, m_times d2 hb (by rw [f2.2.2 31 (by decide)]; exact gW.1) (by rw [f2.2.2 32 (by decide)]; exact gW.2) x1.1 x2.1 ev.1.1 ev.1.2 ev.2.1 ev.2.2 ?_⟩
        have gW2 := mW_1 d2 b (sLt (sLt (wT S b k).1 (sDn (wdt S b k))) (enc S b (S.2 5 (2 + k) - 1)).1, sHt (sHt (wT S b k).2 (sUp (wdt S b k))) (enc S b (S.2 5 (2 + k) - 1)).2)
        exact ih (k + 1) _ (by omega) (g2.trans (fj_W d2 b _)) (show d2.2.1 = m.2.1 from f2.2.1.trans ga) (by rw [ew]; exact gW2.1) (by rw [ew]; exact gW2.2)
  exact loop (S.1 0) 0 m (by omega) ((Fm.refl m).fj) rfl w1 w2
theorem m_judge {m : MS} {S : St} (h : NodM m S) (hr : RolM m S) {b : Nat} (hb : b < 100) (h3 : S.1 0 ≤ 3) (e : m.1 1 = nI (S.1 0)) (hs : SidM m S b) (hS : SdS S b) {kr : MS → Prop}
    (K : ∀ d, Fj b m d → d.2.1 30 b = nI (kindOf S b) → d.2.2 31 b = dN (wT S b (S.1 0)).1 → d.2.2 32 b = dN (wT S b (S.1 0)).2 → kr d) : wX4_judge m (nI b) kr := by
  unfold wX4_judge bX4_judge_0
  refine m_holds (r := 0) h hr hb h3 hs hS (by decide) (fun d1 f1 => m_holds (r := 1) (f1.nod h) (f1.rol hr) hb h3 (f1.sid hs) hS (by decide) (fun d2 f2 => ?_))
  have f := f1.trans f2
  have ib := in_nI hb (by decide)
  have tail : ∀ (x : Nat), x = kindOf S b → (vp_in (nI b) 100 ∧ (vp_in (nI b) 100 ∧ (∀ Y : MS, Y = (msetL (msetA d2 30 (upd (d2.2.1 30) b (nI x))) 31 (vf_upd ((msetA d2 30 (upd (d2.2.1 30) b (nI x))).2.2 31) b (FP.dconst1 : UInt64))) → (vp_in (nI b) 100 ∧ ∃ N, itX4_judge_73 kr N (nI b) (0 : Int32) (msetL Y 32 (vf_upd (Y.2.2 32) b (FP.dconst1 : UInt64))))))) := by
    intro x hx
    refine ⟨ib, ib, fun Y hY => ⟨ib, ?_⟩⟩
    subst hY
    have g := (f.fj (b := b)).trans (fj_K d2 b (nI x) (ONE64, ONE64))
    have gW := mW_1 (msetA d2 30 (upd (d2.2.1 30) b (nI x))) b (ONE64, ONE64)
    have g30 : (mW (msetA d2 30 (upd (d2.2.1 30) b (nI x))) b (ONE64, ONE64)).2.1 30 b = nI x := by
      show upd (d2.2.1 30) b (nI x) b = _; unfold upd; exact if_pos rfl
    show ∃ N, itX4_judge_73 kr N (nI b) (nI 0) (mW (msetA d2 30 (upd (d2.2.1 30) b (nI x))) b (ONE64, ONE64))
    generalize mW (msetA d2 30 (upd (d2.2.1 30) b (nI x))) b (ONE64, ONE64) = d3 at *
    refine m_weigh (g.nod h) (g.rol hr) hb h3 (by rw [g.1]; exact e) (g.sid hs) hS (fun d4 f4 fa a1 a2 => K d4 (g.trans f4) (by rw [fa, g30, hx]) a1 a2) gW.1 gW.2
  have hc : ∀ r, hold S b r = 0 ∨ hold S b r = 1 ∨ hold S b r = 2 := by
    intro r; unfold hold
    split
    · exact .inr (.inl rfl)
    · split
      · exact .inr (.inl rfl)
      · split
        · exact .inl rfl
        · exact .inr (.inr rfl)
  rw [nI_cl (by omega)]
  have ek : kindOf S b = if hold S b 0 = 0 then 0 else if hold S b 0 = 1 then (if hold S b 1 = 1 then 1 else if hold S b 1 = 0 then 2 else 3) else 3 := rfl
  have i0 : hI 0 = 0 := rfl
  have i1 : hI 1 = 1 := rfl
  have i2 : hI 2 = -1 := rfl
  rcases hc 0 with a | a | a <;> rw [a] at ek ⊢
  · rw [i0]
    exact ifp rfl (tail 0 (by rw [ek]; rfl))
  · rw [i1]
    refine ifn (by decide) (ifp rfl ?_)
    rcases hc 1 with c | c | c <;> rw [c] at ek ⊢
    · rw [i0]; exact ifn (by decide) (ifp rfl (ifp rfl (tail 2 (by rw [ek]; rfl))))
    · rw [i1]; exact ifp rfl (tail 1 (by rw [ek]; rfl))
    · rw [i2]; exact ifn (by decide) (ifp rfl (ifn (by decide) (tail 3 (by rw [ek]; rfl))))
  · rw [i2]
    refine ifn (by decide) (ifn (by decide) (ifn (by decide) (tail 3 (by rw [ek]; rfl))))
