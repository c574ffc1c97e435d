theorem cp3 (L : Nat → UInt64) {b n : Nat} (h : b < n) (L1 L2 L3 : Nat → UInt64) (e1 : L1 = vf_upd L (3 * n + 0) (L (3 * b + 0))) (e2 : L2 = vf_upd L1 (3 * n + 1) (L1 (3 * b + 1))) (e3 : L3 = vf_upd L2 (3 * n + 2) (L2 (3 * b + 2))) (J : Nat) : L3 J = if 3 * n ≤ J ∧ J < 3 * n + 3 then L (3 * b + (J - 3 * n)) else L J := by
  have a1 : ∀ J, L1 J = if J = 3 * n then L (3 * b) else L J := fun J => by rw [e1]; rfl
  have a2 : ∀ J, L2 J = if J = 3 * n + 1 then L (3 * b + 1) else L1 J := fun J => by
    rw [e2]; show (if J = 3 * n + 1 then L1 (3 * b + 1) else L1 J) = _
    rw [a1 (3 * b + 1), if_neg (show ¬ 3 * b + 1 = 3 * n by omega)]
  have a3 : ∀ J, L3 J = if J = 3 * n + 2 then L (3 * b + 2) else L2 J := fun J => by
    rw [e3]; show (if J = 3 * n + 2 then L2 (3 * b + 2) else L2 J) = _
    rw [a2 (3 * b + 2), if_neg (show ¬ 3 * b + 2 = 3 * n + 1 by omega), a1 (3 * b + 2), if_neg (show ¬ 3 * b + 2 = 3 * n by omega)]
  rw [a3, a2, a1]
  by_cases c : 3 * n ≤ J ∧ J < 3 * n + 3
  · rw [if_pos c]
    by_cases c2 : J = 3 * n + 2
    · rw [if_pos c2, c2, show 3 * n + 2 - 3 * n = 2 by omega]
    · rw [if_neg c2]
      by_cases c1 : J = 3 * n + 1
      · rw [if_pos c1, c1, show 3 * n + 1 - 3 * n = 1 by omega]
      · rw [if_neg c1, if_pos (by omega), show J - 3 * n = 0 by omega]; rfl
  · rw [if_neg c, if_neg (by omega), if_neg (by omega), if_neg (by omega)]
def Fp (m d : MS) (F G : Nat → UInt64) : Prop := d.1 = m.1 ∧ d.2.1 = m.2.1 ∧ d.2.2 28 = F ∧ d.2.2 29 = G ∧ ∀ j, j ≠ 28 → j ≠ 29 → d.2.2 j = m.2.2 j
theorem fp_28 {m d : MS} {F G : Nat → UInt64} (h : Fp m d F G) (J : Nat) (u : UInt64) : Fp m (msetL d 28 (vf_upd (d.2.2 28) J u)) (vf_upd F J u) G := by
  refine ⟨h.1, h.2.1, ?_, h.2.2.2.1, fun j a b => ?_⟩
  · show vf_upd (d.2.2 28) J u = _; rw [h.2.2.1]
  · show (if j = 28 then _ else d.2.2 j) = _
    rw [if_neg a]; exact h.2.2.2.2 j a b
theorem fp_29 {m d : MS} {F G : Nat → UInt64} (h : Fp m d F G) (J : Nat) (u : UInt64) : Fp m (msetL d 29 (vf_upd (d.2.2 29) J u)) F (vf_upd G J u) := by
  refine ⟨h.1, h.2.1, h.2.2.1, ?_, fun j a b => ?_⟩
  · show vf_upd (d.2.2 29) J u = _; rw [h.2.2.2.1]
  · show (if j = 29 then _ else d.2.2 j) = _
    rw [if_neg b]; exact h.2.2.2.2 j a b
theorem g_cut {m d : MS} {S : St} (hB : BaM m S) (hR : RnM m S (fun _ => True)) {b : Nat} (hb : b < S.1 2) (hn : S.1 2 < 100) (ht : ¬ tgt S b) {F G : Nat → UInt64} (h : Fp m d F G)
    (hF : ∀ J, F J = if J = 3 * S.1 2 + wid S b then dN (mid S b) else if 3 * S.1 2 ≤ J ∧ J < 3 * S.1 2 + 3 then m.2.2 28 (3 * b + (J - 3 * S.1 2)) else m.2.2 28 J)
    (hG : ∀ J, G J = if J = 3 * b + wid S b then dN (mid S b) else if 3 * S.1 2 ≤ J ∧ J < 3 * S.1 2 + 3 then m.2.2 29 (3 * b + (J - 3 * S.1 2)) else m.2.2 29 J) :
    BaM (msetI d 4 (nI (S.1 2 + 1))) (split S b) ∧ RnM (msetI d 4 (nI (S.1 2 + 1))) (split S b) (fun x => x ≠ b ∧ x ≠ S.1 2) := by
  obtain ⟨⟨w3, w100, wsp⟩, e1, e4, hN, hro, hsp⟩ := hB
  obtain ⟨p0, hbx⟩ := hR
  obtain ⟨f1, f2, f28, f29, fL⟩ := h
  have hw := wid_lt (b := b) p0
  have so := sp_ok p0 w3 hb (fun x hx => (hbx x hx).1.2) ht
  have i : ∀ j, j ≠ 4 → (msetI d 4 (nI (S.1 2 + 1))).1 j = m.1 j := fun j hj => by
    show (if j = 4 then _ else d.1 j) = _
    rw [if_neg hj, f1]
  have sb := (hbx b hb).1.1
  have sid : ∀ x, x < S.1 2 + 1 → SidM (msetI d 4 (nI (S.1 2 + 1))) (split S b) x := by
    intro x hx k hk
    have hk : k < S.1 0 := hk
    show d.2.2 28 (3 * x + k) = _ ∧ d.2.2 29 (3 * x + k) = _
    rw [f28, f29, hF, hG]
    constructor
    · by_cases c1 : 3 * x + k = 3 * S.1 2 + wid S b
      · have : x = S.1 2 := by omega
        subst this
        have : k = wid S b := by omega
        subst this
        rw [if_pos rfl, sp_n (by omega) hb (by omega), if_pos rfl]
      · rw [if_neg c1]
        by_cases xn : x = S.1 2
        · subst xn
          rw [if_pos (by omega), sp_n (by omega) hb (by omega), if_neg (by omega), show 3 * S.1 2 + k - 3 * S.1 2 = k by omega]
          exact (sb k hk).1
        · rw [if_neg (by omega)]
          by_cases xb : x = b
          · subst xb
            rw [sp_b (by omega) hb (by omega), if_neg (by omega)]; exact (sb k hk).1
          · rw [sp_old (by omega) (by omega) xb (by omega)]; exact ((hbx x (by omega)).1.1 k hk).1
    · by_cases c1 : 3 * x + k = 3 * b + wid S b
      · have : x = b := by omega
        subst this
        have : k = wid S x := by omega
        subst this
        rw [if_pos rfl, Nat.add_assoc, sp_b (by omega) hb (by omega), if_pos rfl]
      · rw [if_neg c1]
        by_cases xn : x = S.1 2
        · subst xn
          rw [if_pos (by omega), Nat.add_assoc (6 * S.1 2), sp_n (by omega) hb (by omega), if_neg (by omega), show 3 * S.1 2 + k - 3 * S.1 2 = k by omega, ← Nat.add_assoc]
          exact (sb k hk).2
        · rw [if_neg (by omega)]
          by_cases xb : x = b
          · subst xb
            rw [Nat.add_assoc (6 * x), sp_b (by omega) hb (by omega), if_neg (by omega), ← Nat.add_assoc]; exact (sb k hk).2
          · rw [Nat.add_assoc (6 * x), sp_old (by omega) (by omega) xb (by omega), ← Nat.add_assoc]; exact ((hbx x (by omega)).1.1 k hk).2
  refine ⟨⟨⟨w3, hn, wsp⟩, by rw [i 1 (by decide)]; exact e1, rfl, ?_, ?_, ?_⟩, p0, fun x hx => ⟨⟨sid x hx, so x hx⟩, fun hp => ?_⟩⟩
  · unfold NodM
    rw [i 2 (by decide)]
    show m.1 2 = _ ∧ _ ∧ ∀ i, i < S.1 1 → NdS S i ∧ d.2.1 23 i = _ ∧ (_ → d.2.1 24 i = _) ∧ (_ → d.2.1 25 i = _) ∧ d.2.2 26 i = _
    rw [f2, fL 26 (by decide) (by decide)]; exact hN
  · unfold RolM
    show ∀ r, r < 5 → d.2.1 27 r = _ ∧ _
    rw [f2]; exact hro
  · show ∀ k, k < S.1 0 → d.2.2 21 k = _ ∧ d.2.2 22 k = _
    rw [fL 21 (by decide) (by decide), fL 22 (by decide) (by decide)]; exact hsp
  · have hx : x < S.1 2 + 1 := hx
    have hx' : x < S.1 2 := by have := hp.2; omega
    obtain ⟨xC, xS⟩ := (hbx x hx').2 trivial
    refine ⟨⟨sid x hx, ?_, ?_, ?_⟩, sp_box (by omega) w3 hx' hp.1 xS (so x hx)⟩
    · show d.2.1 30 x = _; rw [f2]; exact xC.2.1
    · show d.2.2 31 x = _; rw [fL 31 (by decide) (by decide)]; exact xC.2.2.1
    · show d.2.2 32 x = _; rw [fL 32 (by decide) (by decide)]; exact xC.2.2.2
theorem m3_k {b k : Nat} (h : 3 * b + k < 1000) (x : Int32) (e : x = nI k) : (3 : Int32) * nI b + x = nI (3 * b + k) := by rw [e]; exact nI_3a h
theorem st_nb (S : St) (b : Nat) : (step S b).1 2 = S.1 2 + 1 := rfl
theorem st_nd (S : St) (b : Nat) : (step S b).1 0 = S.1 0 := rfl
theorem BaM.ints {m d : MS} {S : St} (h : BaM m S) (e1 : d.1 1 = m.1 1) (e2 : d.1 2 = m.1 2) (e4 : d.1 4 = m.1 4) (f : d.2 = m.2) : BaM d S := by
  obtain ⟨w, a1, a4, hN, hr, hs⟩ := h
  refine ⟨w, e1.trans a1, e4.trans a4, ?_, ?_, ?_⟩
  · unfold NodM; rw [e2, f]; exact hN
  · unfold RolM; rw [f]; exact hr
  · rw [f]; exact hs
theorem RnM.ints {m d : MS} {S : St} {P : Nat → Prop} (h : RnM m S P) (f : d.2 = m.2) : RnM d S P := by
  obtain ⟨p, hb⟩ := h
  refine ⟨p, fun b q => ?_⟩
  unfold SidM BoxM SidM
  rw [f]; exact hb b q
theorem runT_ge : ∀ (k : Nat) (S : St), S.1 2 ≤ (runT k S).1 2
  | 0, S => Nat.le_refl _
  | k + 1, S => by
    show S.1 2 ≤ (if nxt S = 0 ∨ 100 ≤ S.1 2 then S else runT k (step S (nxt S - 1))).1 2
    split
    · exact Nat.le_refl _
    · have := runT_ge k (step S (nxt S - 1))
      rw [st_nb] at this; omega
set_option maxHeartbeats 1000000 in
theorem m_run_loop {kr : Int32 → MS → Prop} {n : Nat} (hn : n ≤ 99) : ∀ (k : Nat) (S : St) (m : MS) (dn : Nat), dn + k = n → BaM m S → m.1 3 = 1 → m.1 5 = nI (S.1 2 - 1) → 0 < S.1 2 → RnM m S (fun _ => True) →
    (∀ d, RM d (runT k S) → kr (nI (dn + ((runT k S).1 2 - S.1 2))) d) → itX4_run_47 kr (k + 1) (nI n) (nI dn) (if nxt S = 0 then -1 else nI (nxt S - 1)) m := by
  intro k
  induction k with
  | zero =>
    intro S m dn e hB e3 e5 hp hR K
    show bX4_run_47 m (nI n) (nI dn) _ kr _
    unfold bX4_run_47
    refine ifp ((nI_leX (by omega) (by omega)).mpr (by omega)) ?_
    have := K m ⟨hB, by rw [if_neg (show ¬ (runT 0 S).1 2 = 0 from Nat.ne_of_gt hp)]; exact e3, e5, fun _ => hR⟩
    rw [show (runT 0 S).1 2 - S.1 2 = 0 from Nat.sub_self _] at this
    exact this
  | succ k ih =>
    intro S m dn e hB e3 e5 hp hR K
    obtain ⟨⟨w3, w100, wsp⟩, e1, e4, hN, hro, hsp⟩ := hB
    have hB : BaM m S := ⟨⟨w3, w100, wsp⟩, e1, e4, hN, hro, hsp⟩
    have stop : (nxt S = 0 ∨ 100 ≤ S.1 2) → kr (nI dn) m := by
      intro q
      have er : runT (k + 1) S = S := by show (if _ then _ else _) = _; rw [if_pos q]
      rw [er] at K
      have := K m ⟨hB, by rw [if_neg (Nat.ne_of_gt hp)]; exact e3, e5, fun _ => hR⟩
      rw [Nat.sub_self] at this
      exact this
    show bX4_run_47 m (nI n) (nI dn) _ kr (fun z1 z2 z3 X => itX4_run_47 kr (k + 1) z1 z2 z3 X)
    unfold bX4_run_47
    rw [e4]
    refine ifn (fun z => by rw [nI_leX (by omega) (by omega)] at z; omega) ?_
    by_cases z : nxt S = 0
    · rw [if_pos z]; exact ifp (by decide) (stop (.inl z))
    · rw [if_neg z]
      have le := nxT_le S (S.1 2)
      have le : nxt S ≤ S.1 2 := le
      refine ifn (fun y => by rw [show (0 : Int32) = nI 0 from rfl, nI_ltX (by omega) (by omega)] at y; omega) ?_
      by_cases f100 : 100 ≤ S.1 2
      · exact ifp ((nI_leX (a := 100) (by omega) (by omega)).mpr f100) (stop (.inr f100))
      · refine ifn (fun y => by rw [show (100 : Int32) = nI 100 from rfl, nI_leX (by omega) (by omega)] at y; omega) ?_
        have er : runT (k + 1) S = runT k (step S (nxt S - 1)) := by show (if _ then _ else _) = _; rw [if_neg (by omega)]
        rw [er] at K
        have ok := nxT_ok S (S.1 2) z
        have hbn : nxt S - 1 < S.1 2 := by omega
        have ok : S.2 7 (nxt S - 1) = 3 ∧ ¬ tgt S (nxt S - 1) := ok
        generalize nxt S - 1 = b at *
        obtain ⟨p0, hbx⟩ := hR
        have hR : RnM m S (fun _ => True) := ⟨p0, hbx⟩
        obtain ⟨⟨s1, s2, s3⟩, -⟩ := hbx b hbn
        have hw := wid_lt (b := b) p0
        refine m_widest (by omega) p0 w3 e1 s1 s2 (m_middle (by omega) p0 w3 e1 s1 s2 ?_)
        have x0 := m3_k (b := b) (k := 0) (by omega) 0 rfl
        have x1 := m3_k (b := b) (k := 1) (by omega) 1 rfl
        have x2 := m3_k (b := b) (k := 2) (by omega) 2 rfl
        have y0 := m3_k (b := S.1 2) (k := 0) (by omega) 0 rfl
        have y1 := m3_k (b := S.1 2) (k := 1) (by omega) 1 rfl
        have y2 := m3_k (b := S.1 2) (k := 2) (by omega) 2 rfl
        have j0 := in_nI (show 3 * b + 0 < 300 by omega) (by decide)
        have j1 := in_nI (show 3 * b + 1 < 300 by omega) (by decide)
        have j2 := in_nI (show 3 * b + 2 < 300 by omega) (by decide)
        have l0 := in_nI (show 3 * S.1 2 + 0 < 300 by omega) (by decide)
        have l1 := in_nI (show 3 * S.1 2 + 1 < 300 by omega) (by decide)
        have l2 := in_nI (show 3 * S.1 2 + 2 < 300 by omega) (by decide)
        have jw := in_nI (show 3 * b + wid S b < 300 by omega) (by decide)
        have lw := in_nI (show 3 * S.1 2 + wid S b < 300 by omega) (by decide)
        have F0 : Fp m m (m.2.2 28) (m.2.2 29) := ⟨rfl, rfl, rfl, rfl, fun _ _ _ => rfl⟩
        rw [e4, x0, x1, x2, y0, nI_cl (i := 3 * b + 0) (by omega), nI_cl (i := 3 * S.1 2 + 0) (by omega)]
        refine ⟨j0, l0, fun Y5 h5 => ?_⟩
        have F5 := fp_28 F0 (3 * S.1 2 + 0) (m.2.2 28 (3 * b + 0))
        rw [← h5] at F5
        rw [F5.1, e4, y0, nI_cl (i := 3 * S.1 2 + 0) (by omega)]
        refine ⟨j0, l0, fun Y6 h6 => ?_⟩
        have F6 := fp_29 F5 (3 * S.1 2 + 0) (Y5.2.2 29 (3 * b + 0))
        rw [← h6] at F6
        rw [F6.1, e4, y1, nI_cl (i := 3 * b + 1) (by omega), nI_cl (i := 3 * S.1 2 + 1) (by omega)]
        refine ⟨j1, l1, fun Y7 h7 => ?_⟩
        have F7 := fp_28 F6 (3 * S.1 2 + 1) (Y6.2.2 28 (3 * b + 1))
        rw [← h7] at F7
        rw [F7.1, e4, y1, nI_cl (i := 3 * S.1 2 + 1) (by omega)]
        refine ⟨j1, l1, fun Y8 h8 => ?_⟩
        have F8 := fp_29 F7 (3 * S.1 2 + 1) (Y7.2.2 29 (3 * b + 1))
        rw [← h8] at F8
        rw [F8.1, e4, y2, nI_cl (i := 3 * b + 2) (by omega), nI_cl (i := 3 * S.1 2 + 2) (by omega)]
        refine ⟨j2, l2, fun Y9 h9 => ?_⟩
        have F9 := fp_28 F8 (3 * S.1 2 + 2) (Y8.2.2 28 (3 * b + 2))
        rw [← h9] at F9
        rw [F9.1, e4, y2, nI_cl (i := 3 * S.1 2 + 2) (by omega)]
        refine ⟨j2, l2, fun Y10 h10 => ?_⟩
        have F10 := fp_29 F9 (3 * S.1 2 + 2) (Y9.2.2 29 (3 * b + 2))
        rw [← h10] at F10
        rw [nI_3a (b := b) (d := wid S b) (by omega), nI_cl (i := 3 * b + wid S b) (by omega)]
        have F10' := fp_29 F10 (3 * b + wid S b) (dN (mid S b))
        rw [F10'.1, e4, nI_3a (b := S.1 2) (d := wid S b) (by omega), nI_cl (i := 3 * S.1 2 + wid S b) (by omega)]
        refine ⟨jw, lw, fun Y11 h11 => ?_⟩
        have F11 := fp_28 F10' (3 * S.1 2 + wid S b) (dN (mid S b))
        rw [← h11] at F11
        have c28 := cp3 (m.2.2 28) hbn (Y6.2.2 28) (Y8.2.2 28) (Y10.2.2 28) F6.2.2.1 (by rw [F8.2.2.1, ← F6.2.2.1]) (by rw [F10.2.2.1, ← F8.2.2.1])
        have c29 := cp3 (m.2.2 29) hbn (Y7.2.2 29) (Y9.2.2 29) (Y10.2.2 29) (by rw [F7.2.2.2.1, F5.2.2.2.1]) (by rw [F9.2.2.2.1, ← F7.2.2.2.1]) (by rw [F10.2.2.2.1, ← F9.2.2.2.1])
        obtain ⟨hB2, hR2⟩ := g_cut hB hR hbn (by omega) ok.2 F11 (fun J => by
          show (if J = 3 * S.1 2 + wid S b then dN (mid S b) else _) = _
          rw [← F10.2.2.1, c28]) (fun J => by
          show (if J = 3 * b + wid S b then dN (mid S b) else _) = _
          rw [← F10.2.2.2.1, c29])
        rw [F11.1, e4, nI_s (by omega)]
        have nb2 : (split S b).1 2 = S.1 2 + 1 := rfl
        refine g_judge hB2 hR2 (show b < S.1 2 + 1 by omega) (fun d1 q1 hB3 hR3 => ?_)
        have e14 : d1.1 4 = nI (S.1 2 + 1) := by rw [q1]; rfl
        rw [e14, show nI (S.1 2 + 1) - (1 : Int32) = nI (S.1 2) from by rw [show (1 : Int32) = nI 1 from rfl, nI_sb (by omega) (by omega), Nat.add_sub_cancel]]
        refine g_judge hB3 hR3 (show S.1 2 < S.1 2 + 1 by omega) (fun d2 q2 hB4 hR4 => ?_)
        have hB4 : BaM d2 (step S b) := hB4
        have hR4 : RnM d2 (step S b) (fun _ => True) := ⟨hR4.1, fun x hx => ⟨(hR4.2 x hx).1, fun _ => (hR4.2 x hx).2 (by
          by_cases xb : x = b
          · exact .inl (.inr xb)
          · by_cases xn : x = S.1 2
            · exact .inr xn
            · exact .inl (.inl ⟨xb, xn⟩))⟩⟩
        have e25 : d2.1 5 = nI (S.1 2 - 1) := by
          rw [q2, q1]
          show Y11.1 5 = _
          rw [F11.1]; exact e5
        have e23 : d2.1 3 = 1 := by
          rw [q2, q1]
          show Y11.1 3 = _
          rw [F11.1]; exact e3
        rw [e25, nI_s (by omega), show S.1 2 - 1 + 1 = S.1 2 by omega]
        have hB5 : BaM (msetI d2 5 (nI (S.1 2))) (step S b) := hB4.ints rfl rfl rfl rfl
        have hR5 : RnM (msetI d2 5 (nI (S.1 2))) (step S b) (fun _ => True) := hR4.ints rfl
        refine m_next (S := step S b) (fun _ => p0) w3 (show S.1 2 + 1 ≤ 100 by omega) hB5.2.1 hB5.2.2.1 (fun x hx => ((hR5.2 x hx).2 trivial).1) (fun x hx => ((hR5.2 x hx).2 trivial).2) ?_
        rw [nI_s (a := dn) (by omega)]
        refine ih (step S b) _ (dn + 1) (by omega) hB5 e23 rfl (Nat.succ_pos _) hR5 (fun d hd => ?_)
        have := K d hd
        have le2 := runT_ge k (step S b)
        rw [st_nb] at le2 ⊢
        rw [show dn + 1 + ((runT k (step S b)).1 2 - (S.1 2 + 1)) = dn + ((runT k (step S b)).1 2 - S.1 2) by omega]
        exact this
