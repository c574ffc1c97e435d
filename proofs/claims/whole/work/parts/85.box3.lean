/-! THE CLASS SETTLES A BOX -/
def RolC (c : CS) (S : St) : Prop := ∀ r, r < 5 → c.2.1 2 r = rI (S.2 5 r) ∧ S.2 5 r ≤ S.1 1
theorem c_pl {b d : Nat} (h : 6 * b + 2 * d < 1000) : fX2_place (nI b) (nI d) = nI (6 * b + 2 * d) := by
  unfold fX2_place
  apply i_nI (by omega)
  have hb := nI_toInt (n := b) (by omega)
  have hd := nI_toInt (n := d) (by omega)
  have e1 : (nI b * (6 : Int32)).toInt = 6 * b := by
    rw [i_mul, hb]
    · show (b : Int) * 6 = _; omega
    · rw [hb, show (6 : Int32).toInt = 6 from rfl]; omega
  have e2 : ((2 : Int32) * nI d).toInt = 2 * d := by
    rw [i_mul, hd]
    · rfl
    · rw [hd, show (2 : Int32).toInt = 2 from rfl]; omega
  rw [i_add, e1, e2]
  · omega
  · rw [e1, e2]; omega
/-- the asked nodes, enclosed: what the scratch rows hold -/
def EncC (c : CS) (S : St) (b : Nat) : Prop := ∀ r, r < 5 → S.2 5 r ≠ 0 → c.2.2 4 (S.2 5 r - 1) = lN (enc S b (S.2 5 r - 1)).1 ∧ c.2.2 5 (S.2 5 r - 1) = lN (enc S b (S.2 5 r - 1)).2
theorem c_surely {c : CS} {S : St} (hr : RolC c S) (h32 : S.1 1 ≤ 32) {b r : Nat} (h5 : r < 5) (he : EncC c S b) (ev : ∀ i, i < S.1 1 → EV (enc S b i)) {kr : Int32 → CS → Prop} (K : kr (if S.2 5 r = 0 ∨ bLt 0 (enc S b (S.2 5 r - 1)).1 then 1 else 0) c) : wX3_surely c (rI (S.2 5 r)) kr := by
  unfold wX3_surely bX3_surely_0
  have le := (hr r h5).2
  refine ifx (rI_none (by omega)) (fun z => ?_) (fun z => ?_)
  · rw [if_pos (.inl z)] at K; exact K
  · rw [rI_node z, nI_cl (by omega), (he r h5 z).1, l0, c_below (by decide) (ev _ (by omega)).1.1]
    refine ⟨in_nI (by omega) (by decide), ?_⟩
    by_cases q : bLt 0 (enc S b (S.2 5 r - 1)).1
    · rw [if_pos (.inr q)] at K; rw [if_pos q]; exact ifn (by decide) K
    · rw [if_neg (fun w => w.elim z q)] at K; rw [if_neg q]; exact ifp rfl K
theorem c_surelyNot {c : CS} {S : St} (hr : RolC c S) (h32 : S.1 1 ≤ 32) {b r : Nat} (h5 : r < 5) (he : EncC c S b) (ev : ∀ i, i < S.1 1 → EV (enc S b i)) {kr : Int32 → CS → Prop} (K : kr (if S.2 5 r ≠ 0 ∧ ¬ bLt 0 (enc S b (S.2 5 r - 1)).2 then 1 else 0) c) : wX3_surelyNot c (rI (S.2 5 r)) kr := by
  unfold wX3_surelyNot bX3_surelyNot_0
  have le := (hr r h5).2
  refine ifx (rI_none (by omega)) (fun z => ?_) (fun z => ?_)
  · rw [if_neg (fun w => w.1 z)] at K; exact K
  · rw [rI_node z, nI_cl (by omega), (he r h5 z).2, l0, c_below (by decide) (ev _ (by omega)).2.1]
    refine ⟨in_nI (by omega) (by decide), ?_⟩
    by_cases q : bLt 0 (enc S b (S.2 5 r - 1)).2
    · rw [if_neg (fun w => w.2 q)] at K; rw [if_pos q]; exact ifn (by decide) K
    · rw [if_pos ⟨z, q⟩] at K; rw [if_neg q]; exact ifp rfl K
theorem c_kindNow {c : CS} {S : St} (hr : RolC c S) (h32 : S.1 1 ≤ 32) {b : Nat} (he : EncC c S b) (ev : ∀ i, i < S.1 1 → EV (enc S b i)) (ord : ∀ i, i < S.1 1 → rk (enc S b i).1 ≤ rk (enc S b i).2) {kr : Int32 → CS → Prop} (K : kr (nI (kindOf S b)) c) : wX3_kindNow c kr := by
  unfold wX3_kindNow bX3_kindNow_0
  have i0 : vp_in (0 : Int32) 5 := in_nI (i := 0) (by decide) (by decide)
  have i1 : vp_in (1 : Int32) 5 := in_nI (i := 1) (by decide) (by decide)
  have c0 : (0 : Int32).toNatClampNeg = 0 := rfl
  have c1 : (1 : Int32).toNatClampNeg = 1 := rfl
  rw [c0, c1, (hr 0 (by decide)).1]
  refine ⟨i0, c_surelyNot hr h32 (by decide) he ev ?_⟩
  rw [(hr 0 (by decide)).1]
  have ek : kindOf S b = if hold S b 0 = 0 then 0 else if hold S b 0 = 1 then (if hold S b 1 = 1 then 1 else if hold S b 1 = 0 then 2 else 3) else 3 := rfl
  by_cases n0 : S.2 5 0 ≠ 0 ∧ ¬ bLt 0 (enc S b (S.2 5 0 - 1)).2
  · rw [if_pos n0]
    refine ifn (by decide) ?_
    have le := (hr 0 (by decide)).2
    have z := n0.1
    have nb : ¬ bLt 0 (enc S b (S.2 5 0 - 1)).1 := fun q => n0.2 ⟨by decide, (ev _ (by omega)).2.2, Int.lt_of_lt_of_le q.2.2 (ord _ (by omega))⟩
    have : hold S b 0 = 0 := by unfold hold; rw [if_neg z, if_neg nb, if_pos n0.2]
    rw [ek, if_pos this] at K; exact K
  · rw [if_neg n0]
    refine ifp rfl ⟨i0, c_surely hr h32 (by decide) he ev ?_⟩
    have h0 : hold S b 0 ≠ 0 := by
      unfold hold
      by_cases z : S.2 5 0 = 0
      · rw [if_pos z]; decide
      · rw [if_neg z]
        by_cases y : bLt 0 (enc S b (S.2 5 0 - 1)).1
        · rw [if_pos y]; decide
        · rw [if_neg y, if_neg (fun q => n0 ⟨z, q⟩)]; decide
    rw [if_neg h0] at ek
    by_cases y0 : S.2 5 0 = 0 ∨ bLt 0 (enc S b (S.2 5 0 - 1)).1
    · rw [if_pos y0]
      have h1 : hold S b 0 = 1 := by
        unfold hold
        by_cases z : S.2 5 0 = 0
        · rw [if_pos z]
        · rw [if_neg z, if_pos (y0.resolve_left z)]
      rw [if_pos h1] at ek
      refine ifn (by decide) ⟨i1, ?_⟩
      rw [(hr 1 (by decide)).1]
      refine c_surely hr h32 (by decide) he ev ?_
      by_cases y1 : S.2 5 1 = 0 ∨ bLt 0 (enc S b (S.2 5 1 - 1)).1
      · rw [if_pos y1]
        have h2 : hold S b 1 = 1 := by
          unfold hold
          by_cases z : S.2 5 1 = 0
          · rw [if_pos z]
          · rw [if_neg z, if_pos (y1.resolve_left z)]
        rw [if_pos h2] at ek
        rw [ek] at K
        exact ifn (by decide) K
      · rw [if_neg y1]
        refine ifp rfl ⟨i1, ?_⟩
        rw [(hr 1 (by decide)).1]
        refine c_surelyNot hr h32 (by decide) he ev ?_
        have z : ¬ S.2 5 1 = 0 := fun q => y1 (.inl q)
        have y : ¬ bLt 0 (enc S b (S.2 5 1 - 1)).1 := fun q => y1 (.inr q)
        have e1 : hold S b 1 = if ¬ bLt 0 (enc S b (S.2 5 1 - 1)).2 then 0 else 2 := by unfold hold; rw [if_neg z, if_neg y]
        by_cases n1 : ¬ bLt 0 (enc S b (S.2 5 1 - 1)).2
        · rw [if_pos (show S.2 5 1 ≠ 0 ∧ ¬ bLt 0 (enc S b (S.2 5 1 - 1)).2 from ⟨z, n1⟩)]
          rw [if_pos n1] at e1
          rw [e1] at ek
          rw [ek] at K
          exact ifn (by decide) K
        · rw [if_neg (show ¬ (S.2 5 1 ≠ 0 ∧ ¬ bLt 0 (enc S b (S.2 5 1 - 1)).2) from fun q => n1 q.2)]
          rw [if_neg n1] at e1
          rw [e1] at ek
          rw [ek] at K
          exact ifp rfl K
    · rw [if_neg y0]
      have h1 : hold S b 0 ≠ 1 := by
        unfold hold
        rw [if_neg (fun q => y0 (.inl q)), if_neg (fun q => y0 (.inr q))]
        split <;> decide
      rw [if_neg h1] at ek
      rw [ek] at K
      exact ifp rfl K
/-- what settling leaves: the rows of the box, and the scratch rows -/
def Fs (b : Nat) (c d : CS) : Prop := d.1 = c.1 ∧ (∀ j, j ≠ 15 → j ≠ 17 → j ≠ 19 → d.2.1 j = c.2.1 j) ∧ (∀ j, j ≠ 4 → j ≠ 5 → j ≠ 13 → j ≠ 14 → j ≠ 16 → j ≠ 18 → d.2.2 j = c.2.2 j) ∧ ∀ i, i ≠ b → d.2.1 15 i = c.2.1 15 i ∧ d.2.1 17 i = c.2.1 17 i ∧ d.2.1 19 i = c.2.1 19 i ∧ d.2.2 13 i = c.2.2 13 i ∧ d.2.2 14 i = c.2.2 14 i ∧ d.2.2 18 i = c.2.2 18 i
theorem Fs.trans {b : Nat} {x y z : CS} (h : Fs b x y) (g : Fs b y z) : Fs b x z :=
  ⟨g.1.trans h.1, fun j a1 a2 a3 => (g.2.1 j a1 a2 a3).trans (h.2.1 j a1 a2 a3), fun j a1 a2 a3 a4 a5 a6 => (g.2.2.1 j a1 a2 a3 a4 a5 a6).trans (h.2.2.1 j a1 a2 a3 a4 a5 a6), fun i q => by
    obtain ⟨a1, a2, a3, a4, a5, a6⟩ := g.2.2.2 i q
    obtain ⟨b1, b2, b3, b4, b5, b6⟩ := h.2.2.2 i q
    exact ⟨a1.trans b1, a2.trans b2, a3.trans b3, a4.trans b4, a5.trans b5, a6.trans b6⟩⟩
theorem Fr45.fs {b : Nat} {c d : CS} (f : Fr45 c d) : Fs b c d := by
  obtain ⟨h1, h2, h3⟩ := f
  refine ⟨h1, fun j _ _ _ => by rw [h2], fun j a1 a2 _ _ _ _ => h3 j a1 a2, fun i _ => ?_⟩
  rw [h2, h3 13 (by decide) (by decide), h3 14 (by decide) (by decide), h3 18 (by decide) (by decide)]
  exact ⟨rfl, rfl, rfl, rfl, rfl, rfl⟩
theorem fs_A {b k : Nat} (c : CS) (x : Int32) (hk : k = 15 ∨ k = 17 ∨ k = 19) : Fs b c (setA c k (upd (c.2.1 k) b x)) := by
  have e : ∀ j, (setA c k (upd (c.2.1 k) b x)).2.1 j = if j = k then upd (c.2.1 k) b x else c.2.1 j := fun j => rfl
  have u : ∀ j i, i ≠ b → (setA c k (upd (c.2.1 k) b x)).2.1 j i = c.2.1 j i := by
    intro j i q
    rw [e]
    by_cases h : j = k
    · subst h; rw [if_pos rfl]; unfold upd; exact if_neg q
    · rw [if_neg h]
  refine ⟨rfl, fun j a1 a2 a3 => ?_, fun _ _ _ _ _ _ _ => rfl, fun i q => ⟨u _ i q, u _ i q, u _ i q, rfl, rfl, rfl⟩⟩
  rw [e, if_neg (by omega)]
theorem fs_L {b k : Nat} (c : CS) (x : Int64) (hk : k = 13 ∨ k = 14 ∨ k = 18) : Fs b c (setL c k (vp_updL (c.2.2 k) b x)) := by
  have e : ∀ j, (setL c k (vp_updL (c.2.2 k) b x)).2.2 j = if j = k then vp_updL (c.2.2 k) b x else c.2.2 j := fun j => rfl
  have u : ∀ j i, i ≠ b → (setL c k (vp_updL (c.2.2 k) b x)).2.2 j i = c.2.2 j i := by
    intro j i q
    rw [e]
    by_cases h : j = k
    · subst h; rw [if_pos rfl]; unfold vp_updL; exact if_neg q
    · rw [if_neg h]
  refine ⟨rfl, fun _ _ _ _ => rfl, fun j a1 a2 a3 a4 a5 a6 => ?_, fun i q => ⟨rfl, rfl, rfl, u _ i q, u _ i q, u _ i q⟩⟩
  rw [e, if_neg (by omega)]
theorem fs_16 {b : Nat} (c : CS) (f : Nat → Int64) : Fs b c (setL c 16 f) := by
  have e : ∀ j, (setL c 16 f).2.2 j = if j = 16 then f else c.2.2 j := fun j => rfl
  refine ⟨rfl, fun _ _ _ _ => rfl, fun j a1 a2 a3 a4 a5 a6 => ?_, fun i q => ⟨rfl, rfl, rfl, rfl, rfl, rfl⟩⟩
  rw [e, if_neg (by omega)]
theorem Fs.sid {b k : Nat} {c d : CS} {S : St} (f : Fs b c d) (h : SidC c S k) : SidC d S k := by
  unfold SidC; rw [f.2.2.1 12 (by decide) (by decide) (by decide) (by decide) (by decide) (by decide)]; exact h
theorem Fs.nod {b : Nat} {c d : CS} {S : St} (f : Fs b c d) (h : NodC c S) : NodC d S := by
  unfold NodC; rw [f.1, f.2.1 6 (by decide) (by decide) (by decide), f.2.1 7 (by decide) (by decide) (by decide), f.2.1 8 (by decide) (by decide) (by decide), f.2.2.1 9 (by decide) (by decide) (by decide) (by decide) (by decide) (by decide)]; exact h
theorem Fs.rol {b : Nat} {c d : CS} {S : St} (f : Fs b c d) (h : RolC c S) : RolC d S := by
  unfold RolC; rw [f.2.1 2 (by decide) (by decide) (by decide)]; exact h
theorem upd_s (f : Nat → Int32) (k : Nat) (x : Int32) : upd f k x k = x := by unfold upd; exact if_pos rfl
theorem updL_s (f : Nat → Int64) (k : Nat) (x : Int64) : vp_updL f k x k = x := by unfold vp_updL; exact if_pos rfl
/-- the class measures a box -/
theorem c_measure {c : CS} {S : St} {b : Nat} (hb : b < 100) (h0 : 0 < S.1 0) (h3 : S.1 0 ≤ 3) (e : c.1 4 = nI (S.1 0)) (hs : SidC c S b) (hS : SdS S b) {kr : CS → Prop}
    (K : ∀ d, Fs b c d → d.2.1 15 = c.2.1 15 → d.2.2 4 = c.2.2 4 → d.2.2 5 = c.2.2 5 → (∀ j, j < S.1 0 → d.2.2 16 j = lN (wdt S b j)) → d.2.1 17 b = nI (wid S b) → d.2.2 18 b = lN (mid S b) → d.2.1 19 b = (if tgt S b then 1 else 0) → kr d) : wX2_measure c (nI b) kr := by
  unfold wX2_measure bX2_measure_0
  refine ⟨S.1 0 + 1, ?_⟩
  have ib := in_nI hb (by decide)
  have loop : ∀ (j k : Nat) (d : CS), j + k = S.1 0 → Fs b c d → d.2.1 = c.2.1 → d.2.2 4 = c.2.2 4 → d.2.2 5 = c.2.2 5 → (∀ j, j < k → d.2.2 16 j = lN (wdt S b j)) → itX2_measure_4 kr (j + 1) (nI b) (nI (widT S b k)) (nI k) d := by
    intro j
    induction j with
    | zero =>
      intro k d q f fa f4 f5 I
      show bX2_measure_4 d (nI b) (nI (widT S b k)) (nI k) kr _
      unfold bX2_measure_4
      have : k = S.1 0 := by omega
      subst this
      have hw := wid_lt (b := b) h0
      have ew : widT S b (S.1 0) = wid S b := rfl
      have md := mid_ok hS h0
      have wd := wdt_ok hS hw
      have l1 : S.2 6 (6 * b + 2 * wid S b) < 2 ^ 64 := (hS _ (by omega)).1
      have l2 : S.2 6 (6 * b + 2 * wid S b + 1) < 2 ^ 64 := by rw [Nat.add_assoc]; exact (hS _ (by omega)).1
      have s1 := f.sid hs (2 * wid S b) (by omega)
      have s2 := f.sid hs (2 * wid S b + 1) (by omega)
      rw [← Nat.add_assoc] at s2
      have em : fX1_plus (lN (S.2 6 (6 * b + 2 * wid S b))) (fX1_over (lN (wdt S b (wid S b))) (4611686018427387904 : Int64)) = lN (mid S b) := by
        rw [show (4611686018427387904 : Int64) = lN TWO64 from rfl, c_over wd.2.2.2 (by decide), c_plus l1 (sDi_cn wd.2.2.2 (by decide)).1]; rfl
      rw [f.1, e, ew, c_pl (by omega), nI_s (by omega), nI_cl (i := 6 * b + 2 * wid S b) (by omega), nI_cl (i := 6 * b + 2 * wid S b + 1) (by omega), nI_cl (i := wid S b) (by omega), nI_cl (i := b) (by omega), s1, s2, I _ hw, em, c_below l1 md.2, c_below md.2 l2]
      have G : ∀ x : Nat, x ≤ 1 → nI x = (if tgt S b then 1 else 0) → kr (setA (setL (setA d 17 (upd (d.2.1 17) b (nI (wid S b)))) 18 (vp_updL (d.2.2 18) b (lN (mid S b)))) 19 (upd (d.2.1 19) b (nI x))) := by
        intro x hx ex
        refine K _ (f.trans ((fs_A d _ (.inr (.inl rfl))).trans ((fs_L _ _ (.inr (.inr rfl))).trans (fs_A _ _ (.inr (.inr rfl)))))) ?_ f4 f5 I (upd_s _ _ _) (updL_s _ _ _) ((upd_s _ _ _).trans ex)
        show d.2.1 15 = _; rw [fa]
      have i1 := in_nI (show 6 * b + 2 * wid S b < 600 by omega) (by decide)
      have i2 := in_nI (show 6 * b + 2 * wid S b + 1 < 600 by omega) (by decide)
      have i3 := in_nI (show wid S b < 3 by omega) (by decide)
      refine ifp ((nI_leX (by omega) (by omega)).mpr (Nat.le_refl _)) ⟨i1, i2, i3, ib, ib, ?_⟩
      by_cases x : bLt (S.2 6 (6 * b + 2 * wid S b)) (mid S b)
      · rw [if_pos x]
        refine ifn (by decide) ?_
        by_cases y : bLt (mid S b) (S.2 6 (6 * b + 2 * wid S b + 1))
        · rw [if_pos y]
          exact ifn (by decide) ⟨ib, G 0 (by decide) (by rw [if_neg (fun q => q.elim (fun z => z x) (fun z => z y))]; rfl)⟩
        · rw [if_neg y]
          exact ifp rfl ⟨ib, G 1 (by decide) (by rw [if_pos (.inr y)]; rfl)⟩
      · rw [if_neg x]
        exact ifp rfl ⟨ib, G 1 (by decide) (by rw [if_pos (.inl x)]; rfl)⟩
    | succ j ih =>
      intro k d q f fa f4 f5 I
      show bX2_measure_4 d (nI b) (nI (widT S b k)) (nI k) kr (fun z1 z2 z3 X => itX2_measure_4 kr (j + 1) z1 z2 z3 X)
      unfold bX2_measure_4
      have wl := widT_lt S b k
      have s1 := f.sid hs (2 * k) (by omega)
      have s2 := f.sid hs (2 * k + 1) (by omega)
      rw [← Nat.add_assoc] at s2
      have l1 : S.2 6 (6 * b + 2 * k) < 2 ^ 64 := (hS _ (by omega)).1
      have l2 : S.2 6 (6 * b + 2 * k + 1) < 2 ^ 64 := by rw [Nat.add_assoc]; exact (hS _ (by omega)).1
      have w1 := wdt_ok hS (d := k) (by omega)
      have w2 := wdt_ok hS (d := widT S b k) (by omega)
      have ewd : fX1_plus (lN (S.2 6 (6 * b + 2 * k + 1))) (fX1_opposite (lN (S.2 6 (6 * b + 2 * k)))) = lN (wdt S b k) := by
        rw [c_opp l1, c_plus l2 (sNeg_cn l1).1]; rfl
      rw [f.1, e, c_pl (b := b) (d := k) (by omega), nI_s (a := 6 * b + 2 * k) (by omega), nI_s (a := k) (by omega), nI_cl (i := 6 * b + 2 * k) (by omega), nI_cl (i := 6 * b + 2 * k + 1) (by omega), nI_cl (i := widT S b k) (by omega), nI_cl (i := k) (by omega), s1, s2, ewd]
      have i1 := in_nI (show 6 * b + 2 * k < 600 by omega) (by decide)
      have i2 := in_nI (show 6 * b + 2 * k + 1 < 600 by omega) (by decide)
      have i3 := in_nI (show k < 3 by omega) (by decide)
      have i4 := in_nI (show widT S b k < 3 by omega) (by decide)
      have I2 : ∀ i, i < k + 1 → (setL d 16 (vp_updL (d.2.2 16) k (lN (wdt S b k)))).2.2 16 i = lN (wdt S b i) := by
        intro i hi
        show vp_updL (d.2.2 16) k (lN (wdt S b k)) i = _
        unfold vp_updL
        by_cases z : i = k
        · rw [if_pos z, z]
        · rw [if_neg z]; exact I i (by omega)
      have nx := ih (k + 1) (setL d 16 (vp_updL (d.2.2 16) k (lN (wdt S b k)))) (by omega) (f.trans (fs_16 _ _)) fa f4 f5 I2
      have ew : widT S b (k + 1) = if bLt (wdt S b (widT S b k)) (wdt S b k) then k else widT S b k := rfl
      rw [I2 (widT S b k) (by omega), I2 k (by omega), c_below w2.2.2.2 w1.2.2.2]
      refine ifn (fun z => by rw [nI_leX (by omega) (by omega)] at z; omega) ⟨i2, i1, i3, i4, i3, ?_⟩
      by_cases x : bLt (wdt S b (widT S b k)) (wdt S b k)
      · rw [if_pos x]; rw [ew, if_pos x] at nx; exact ifn (by decide) nx
      · rw [if_neg x]; rw [ew, if_neg x] at nx; exact ifp rfl nx
  exact loop (S.1 0) 0 c (by omega) ⟨rfl, fun _ _ _ _ => rfl, fun _ _ _ _ _ _ _ => rfl, fun _ _ => ⟨rfl, rfl, rfl, rfl, rfl, rfl⟩⟩ rfl rfl rfl (fun i hi => by omega)
