theorem c_weigh {c : CS} {S : St} (hr : RolC c S) (h32 : S.1 1 ≤ 32) {b : Nat} (hb : b < 100) (h3 : S.1 0 ≤ 3) (e : c.1 0 = nI (S.1 0)) (hS : SdS S b) (hn : ∀ i, i < S.1 1 → NdS S i) (he : EncC c S b) (hw : ∀ j, j < S.1 0 → c.2.2 16 j = lN (wdt S b j)) {kr : CS → Prop}
    (K : kr (setL (setL c 13 (vp_updL (c.2.2 13) b (lN (wT S b (S.1 0)).1))) 14 (vp_updL (c.2.2 14) b (lN (wT S b (S.1 0)).2)))) : wX3_weigh c (nI b) kr := by
  unfold wX3_weigh bX3_weigh_0
  refine ⟨S.1 0 + 1, ?_⟩
  have ib := in_nI hb (by decide)
  have wn := wT_WN hn (fun r q => (hr r q).2) h3 hS
  have loop : ∀ (j k : Nat), j + k = S.1 0 → itX3_weigh_12 kr (j + 1) (nI b) (lN (wT S b k).1) (lN (wT S b k).2) (nI k) c := by
    intro j
    induction j with
    | zero =>
      intro k q
      show bX3_weigh_12 c (nI b) (lN (wT S b k).1) (lN (wT S b k).2) (nI k) kr _
      unfold bX3_weigh_12
      have : k = S.1 0 := by omega
      subst this
      rw [e, nI_cl (i := b) (by omega)]
      exact ifp ((nI_leX (by omega) (by omega)).mpr (Nat.le_refl _)) ⟨ib, ib, K⟩
    | succ j ih =>
      intro k q
      show bX3_weigh_12 c (nI b) (lN (wT S b k).1) (lN (wT S b k).2) (nI k) kr (fun z1 z2 z4 z6 X => itX3_weigh_12 kr (j + 1) z1 z2 z4 z6 X)
      unfold bX3_weigh_12
      have w := wdt_ok hS (d := k) (by omega)
      have i1 := in_nI (show k < 3 by omega) (by decide)
      have i2 := in_nI (show 2 + k < 5 by omega) (by decide)
      have rr := hr (2 + k) (by omega)
      have nw := wn k (by omega)
      have c1 := (sDn_cn w.2.2.2).1
      have c2 := sUp_lt w.2.2.2
      rw [e, nI_2d (by omega), nI_s (a := k) (by omega), nI_cl (i := 2 + k) (by omega), nI_cl (i := k) (by omega), rr.1, hw k (by omega), c_down w.2.2.2, c_up w.2.2.2, c_lowTimes nw.1.1 c1, c_highTimes nw.2.1 c2]
      have nx := ih (k + 1) (by omega)
      have ew : wT S b (k + 1) = wS S b k (wT S b k) := rfl
      unfold wS at ew
      refine ifn (fun z => by rw [nI_leX (by omega) (by omega)] at z; omega) ⟨i1, i1, i2, ifx (rI_none (by omega)) (fun z => ?_) (fun z => ?_)⟩
      · rw [if_pos z] at ew
        rw [ew] at nx; exact nx
      · rw [if_neg z] at ew
        rw [ew] at nx
        have ee := he (2 + k) (by omega) z
        have ev := enc_ev (b := b) hn hS (S.2 5 (2 + k) - 1) (by omega)
        have i3 := in_nI (show S.2 5 (2 + k) - 1 < 32 by omega) (by decide)
        rw [rI_node z, nI_cl (i := S.2 5 (2 + k) - 1) (by omega), ee.1, ee.2, c_lowTimes (lt_WN nw.1.1 c1).1 ev.1.1, c_highTimes (ht_WN nw.2 c2).1 ev.2.1]
        exact ⟨i3, i3, nx⟩
  exact loop (S.1 0) 0 (by omega)
/-- the asked set: closed, with the roles, and no bit above the nodes -/
def NedC (l : Int32) (S : St) : Prop := Clo S l (S.1 1) ∧ (∀ r, r < 5 → S.2 5 r ≠ 0 → bt l (S.2 5 r - 1) = true) ∧ ∀ j, j < 32 → S.1 1 ≤ j → bt l j = false
/-- one box of the class -/
def BoxC (c : CS) (S : St) (b : Nat) : Prop := SidC c S b ∧ c.2.1 15 b = nI (S.2 7 b) ∧ c.2.2 13 b = lN (S.2 8 b) ∧ c.2.2 14 b = lN (S.2 9 b) ∧ c.2.1 17 b = nI (wid S b) ∧ c.2.2 18 b = lN (mid S b) ∧ c.2.1 19 b = (if tgt S b then 1 else 0)
theorem c_settle {c : CS} {S : St} (h : NodC c S) (hr : RolC c S) (hned : NedC (c.1 1) S) {b : Nat} (hb : b < 100) (h0 : 0 < S.1 0) (h3 : S.1 0 ≤ 3) (e : c.1 0 = nI (S.1 0)) (e4 : c.1 4 = nI (S.1 0)) (hs : SidC c S b) (hS : SdS S b) (hO : SdO S b) {kr : CS → Prop}
    (K : ∀ d, Fs b c d → d.2.1 15 b = nI (kindOf S b) → d.2.2 13 b = lN (wT S b (S.1 0)).1 → d.2.2 14 b = lN (wT S b (S.1 0)).2 → d.2.1 17 b = nI (wid S b) → d.2.2 18 b = lN (mid S b) → d.2.1 19 b = (if tgt S b then 1 else 0) → kr d) : wX3_settle c (nI b) kr := by
  unfold wX3_settle bX3_settle_0
  have hn := fun i hi => (h.2.2 i hi).1
  have h32 := h.2.1
  have ib := in_nI hb (by decide)
  rw [show (0 : Int32) = nI 0 from rfl, c_pl (by omega), Nat.mul_zero, Nat.add_zero, nI_cl (i := b) (by omega)]
  refine c_enclose h hb h3 hs hS hned.1 (fun d1 f1 E => ?_)
  have en1 : EncC d1 S b := fun r q z => E _ (by have := (hr r q).2; omega) (hned.2.1 r q z)
  have g1 := f1.fs (b := b)
  have ev := enc_ev (b := b) hn hS
  refine c_kindNow (g1.rol hr) h32 en1 ev (enc_le hn hS hO) ⟨ib, ?_⟩
  have g2 := g1.trans (fs_A (b := b) (k := 15) d1 (nI (kindOf S b)) (.inl rfl))
  refine c_measure hb h0 h3 (by rw [g2.1]; exact e4) (g2.sid hs) hS (fun d3 f3 k15 k4 k5 k16 k17 k18 k19 => ?_)
  have g3 := g2.trans f3
  have en3 : EncC d3 S b := by
    intro r q z
    rw [k4, k5]; exact en1 r q z
  refine c_weigh (g3.rol hr) h32 hb h3 (by rw [g3.1]; exact e) hS hn en3 k16 ?_
  refine K _ (g3.trans ((fs_L (b := b) (k := 13) d3 (lN (wT S b (S.1 0)).1) (.inl rfl)).trans (fs_L (b := b) (k := 14) _ (lN (wT S b (S.1 0)).2) (.inr (.inl rfl))))) ?_ (updL_s _ _ _) (updL_s _ _ _) k17 k18 k19
  show d3.2.1 15 b = _
  rw [k15]; exact upd_s _ _ _
