/-- roots in order -/
theorem sq_mono {X Y g s g' s' : Nat} (h : SqI X (g, s)) (h' : SqI Y (g', s')) (o : X ≤ Y) : g ≤ g' := by
  obtain ⟨a, b⟩ := h
  obtain ⟨a', b'⟩ := h'
  have a : g * g + s = X := a
  have a' : g' * g' + s' = Y := a'
  have b' : s' ≤ 2 * g' := b'
  refine Nat.le_of_not_lt fun q => ?_
  have : (g' + 1) * (g' + 1) ≤ g * g := Nat.mul_le_mul q q
  rw [Nat.succ_mul, Nat.mul_succ] at this
  omega
theorem lk_mono {a b : Nat} (ha : 0 < a) (h : a ≤ b) (hb : b < 2 ^ 53) : nLk b ≤ nLk a ∧ (nLk a = nLk b → a * 2 ^ nLk a ≤ b * 2 ^ nLk b) := by
  obtain ⟨-, -, h1, h2⟩ := r_lack ha (by omega)
  obtain ⟨-, -, h3, h4⟩ := r_lack (show 0 < b by omega) hb
  constructor
  · refine Nat.le_of_not_lt fun q => ?_
    have : a * 2 ^ (nLk a + 1) ≤ b * 2 ^ nLk b := Nat.mul_le_mul h (Nat.pow_le_pow_right (by decide) q)
    rw [Nat.pow_succ, ← Nat.mul_assoc] at this
    omega
  · intro e; rw [e]; exact Nat.mul_le_mul_right _ h
theorem rt_lex {u v : Nat} (h0 : 0 < u) (h : u ≤ v) (hI : v < 9218868437227405312) : rtS u < rtS v ∨ (rtS u = rtS v ∧ rtM u ≤ rtM v) := by
  have mu : u % 2 ^ 63 = u := Nat.mod_eq_of_lt (by omega)
  have mv : v % 2 ^ 63 = v := Nat.mod_eq_of_lt (by omega)
  have eu := mag_eq u
  have ev := mag_eq v
  rw [mu] at eu
  rw [mv] at ev
  have pu := nFr_pos (u := u) (by omega)
  have pv := nFr_pos (u := v) (by omega)
  have lu := nFr_lt u
  have lv := nFr_lt v
  obtain ⟨-, k1, h1, h2⟩ := r_lack pu lu
  obtain ⟨-, k2, h3, h4⟩ := r_lack pv lv
  have S := sc_mono h (.inl (by omega))
  have p1 : 1 ≤ nSc u := by unfold nSc; split <;> omega
  have full : ∀ w, 2 ≤ nSc w → nLk (nFr w) = 0 := by
    intro w hw
    have f := nFr_full hw
    obtain ⟨-, -, -, g⟩ := r_lack (show 0 < nFr w by omega) (nFr_lt w)
    refine Classical.byContradiction fun q => ?_
    have : nFr w * 2 ^ 1 ≤ nFr w * 2 ^ nLk (nFr w) := Nat.mul_le_mul_left _ (Nat.pow_le_pow_right (by decide) (by omega))
    omega
  have lex : nSc u + nLk (nFr v) < nSc v + nLk (nFr u) ∨ (nSc u + nLk (nFr v) = nSc v + nLk (nFr u) ∧ nFr u * 2 ^ nLk (nFr u) ≤ nFr v * 2 ^ nLk (nFr v)) := by
    by_cases c : nSc u = nSc v
    · rw [c] at eu ⊢
      have L := lk_mono pu (show nFr u ≤ nFr v by omega) lv
      by_cases e : nLk (nFr u) = nLk (nFr v)
      · exact .inr ⟨by omega, L.2 e⟩
      · exact .inl (by omega)
    · have := full v (by omega)
      exact .inl (by omega)
  unfold rtS rtM
  generalize nFr u * 2 ^ nLk (nFr u) = fu at *
  generalize nFr v * 2 ^ nLk (nFr v) = fv at *
  generalize nLk (nFr u) = a at *
  generalize nLk (nFr v) = b at *
  by_cases c1 : (nSc u + a) % 2 = 1
  · rw [if_pos c1]
    by_cases c2 : (nSc v + b) % 2 = 1
    · rw [if_pos c2]; omega
    · rw [if_neg c2]; omega
  · rw [if_neg c1]
    by_cases c2 : (nSc v + b) % 2 = 1
    · rw [if_pos c2]; omega
    · rw [if_neg c2]; omega
theorem rt_form {u : Nat} (h0 : 0 < u) (hI : u < 9218868437227405312) : ∃ g s, SqI (rtM u * 2 ^ 54) (g, s) ∧ sRt u = (rtS u - 1) * 2 ^ 52 + (g + 1) / 2 ∧ 2 ^ 53 ≤ g ∧ g < 2 ^ 54 ∧ 1 ≤ rtS u ∧ rtS u ≤ 1600 := by
  obtain ⟨g, s, hg⟩ := sq_ex (rtM u * 2 ^ 54)
  obtain ⟨h2, h3, h4⟩ := c_root h0 hI g s hg
  have e : lN (sRt u) = lN ((rtS u - 1) * 2 ^ 52 + (g + 1) / 2) := (c_rt u).symm.trans h2
  have hS : rtS u ≤ 1600 := by unfold rtS; have := nSc_le u; omega
  obtain ⟨-, k1, -, -⟩ := r_lack (nFr_pos (u := u) (by omega)) (nFr_lt u)
  have hS2 : 1 ≤ rtS u := by unfold rtS; omega
  exact ⟨g, s, hg, (lN_inj64 (sRt_lt u) (by omega)).mp e, h3, h4, hS2, hS⟩
theorem rt_pos_mono {u v : Nat} (h0 : 0 < u) (h : u ≤ v) (hI : v < 9218868437227405312) : sRt u ≤ sRt v ∧ sRt v < 2 ^ 63 := by
  obtain ⟨g, s, q, e, a, b, c, d⟩ := rt_form h0 (by omega)
  obtain ⟨g', s', q', e', a', b', c', d'⟩ := rt_form (show 0 < v by omega) hI
  rw [e, e']
  refine ⟨?_, by omega⟩
  rcases rt_lex h0 h hI with r | ⟨r, r2⟩
  · omega
  · have := sq_mono q q' (Nat.mul_le_mul_right _ r2)
    rw [r]; omega
theorem rt_zero {u : Nat} (hu : u < 2 ^ 64) (z : u % 2 ^ 63 = 0) : sRt u = u := by
  unfold sRt fX1_root
  rw [c_isNone hu, c_isZero hu, if_neg (show ¬ isN u by omega), if_pos rfl, if_pos z, if_neg (by decide)]
  show (lN u).toBitVec.toNat = u
  rw [wb_tb]; exact Nat.mod_eq_of_lt hu
theorem rt_inf : sRt 9218868437227405312 = 9218868437227405312 := by decide +kernel
theorem zl_rk {u : Nat} (n : ¬ isN u) : rk (zl u) = if rk u < 0 then 0 else rk u := by
  unfold zl
  have e : bLt u 0 ↔ rk u < 0 := ⟨fun q => by have := q.2.2; rw [show rk 0 = 0 from by decide] at this; exact this, fun q => ⟨n, by decide, by rw [show rk 0 = 0 from by decide]; exact q⟩⟩
  by_cases h : rk u < 0
  · rw [if_pos (e.mpr h), if_pos h]; decide
  · rw [if_neg (fun z => h (e.mp z)), if_neg h]
theorem rt_mono {u v : Nat} (hu : u < 2 ^ 64) (hv : v < 2 ^ 64) (nu : ¬ isN u) (nv : ¬ isN v) (p : 0 ≤ rk u) (o : rk u ≤ rk v) : rk (sRt u) ≤ rk (sRt v) ∧ 0 ≤ rk (sRt v) := by
  by_cases zv : v % 2 ^ 63 = 0
  · have zu : u % 2 ^ 63 = 0 := by
      rcases rk_cases u with ⟨a, e⟩ | ⟨a, e⟩ <;> rcases rk_cases v with ⟨b, f⟩ | ⟨b, f⟩ <;> omega
    rw [rt_zero hu zu, rt_zero hv zv]; omega
  · have pv : v < 2 ^ 63 := by rcases rk_cases v with ⟨b, f⟩ | ⟨b, f⟩ <;> omega
    have rv := rk_nat pv
    by_cases iv : v = 9218868437227405312
    · rw [iv, rt_inf, show rk 9218868437227405312 = 9218868437227405312 from by decide]
      refine ⟨?_, by decide⟩
      exact (rk_lo (sRt_lt u) (rt_nn hu nu (fun q => by have := q.2.2; rw [show rk 0 = 0 from by decide] at this; omega))).2
    · by_cases zu : u % 2 ^ 63 = 0
      · rw [rt_zero hu zu]
        have m := (rt_pos_mono (u := v) (v := v) (by omega) (Nat.le_refl _) (by omega)).2
        rw [rk_nat m]
        rcases rk_cases u with ⟨a, e⟩ | ⟨a, e⟩ <;> omega
      · have pu : u < 2 ^ 63 := by rcases rk_cases u with ⟨b, f⟩ | ⟨b, f⟩ <;> omega
        have ru := rk_nat pu
        have m := rt_pos_mono (u := u) (v := v) (by omega) (by omega) (by omega)
        rw [rk_nat (show sRt u < 2 ^ 63 by omega), rk_nat m.2]; omega
/-- the ends of every node are in order -/
theorem put_le {l h : Nat} (o : ¬ isN l → ¬ isN h → rk l ≤ rk h) : rk (oPut l h).1 ≤ rk (oPut l h).2 := by
  unfold oPut
  by_cases q : isN l ∨ isN h
  · rw [if_pos q]; decide
  · rw [if_neg q]; exact o (fun z => q (.inl z)) (fun z => q (.inr z))
theorem up_ge {u : Nat} (hu : u < 2 ^ 64) (n : ¬ isN u) : rk u ≤ rk (sUp u) := by rw [up_rk hu n]; split <;> omega
theorem dn_le {u : Nat} (hu : u < 2 ^ 64) (n : ¬ isN u) : rk (sDn u) ≤ rk u := by rw [dn_rk hu n]; split <;> omega
theorem four_le {p q r s : Nat} (hp : p < 2 ^ 64) (hq : q < 2 ^ 64) (hr : r < 2 ^ 64) (hs : s < 2 ^ 64) : rk (oFour p q r s).1 ≤ rk (oFour p q r s).2 := by
  have a1 := (sMi_cn hp hq).1
  have a2 := (sMi_cn hr hs).1
  have b1 := (sMa_cn hp hq).1
  have b2 := (sMa_cn hr hs).1
  refine put_le (fun n1 n2 => ?_)
  rw [sDn_n (sMi_cn a1 a2).1, sMi_n, sMi_n, sMi_n] at n1
  have np : ¬ isN p := fun z => n1 (.inl (.inl z))
  have nq : ¬ isN q := fun z => n1 (.inl (.inr z))
  have nr : ¬ isN r := fun z => n1 (.inr (.inl z))
  have ns : ¬ isN s := fun z => n1 (.inr (.inr z))
  have m1 : ¬ isN (sMi p q) := by rw [sMi_n]; simp only [np, nq, or_self, not_false_eq_true]
  have m2 : ¬ isN (sMi r s) := by rw [sMi_n]; simp only [nr, ns, or_self, not_false_eq_true]
  have M1 : ¬ isN (sMa p q) := by rw [sMa_n]; simp only [np, nq, or_self, not_false_eq_true]
  have M2 : ¬ isN (sMa r s) := by rw [sMa_n]; simp only [nr, ns, or_self, not_false_eq_true]
  have m3 : ¬ isN (sMi (sMi p q) (sMi r s)) := by rw [sMi_n]; simp only [m1, m2, or_self, not_false_eq_true]
  have M3 : ¬ isN (sMa (sMa p q) (sMa r s)) := by rw [sMa_n]; simp only [M1, M2, or_self, not_false_eq_true]
  have x1 := dn_le (sMi_cn a1 a2).1 m3
  have x2 := up_ge (sMa_cn b1 b2).1 M3
  have y1 := (mi_rk m1 m2).1
  have y2 := (mi_rk np nq).1
  have z1 := (ma_rk M1 M2).1
  have z2 := (ma_rk np nq).1
  omega
theorem size_le {l h : Nat} (hl : l < 2 ^ 64) (hh : h < 2 ^ 64) (nl : ¬ isN l) (nh : ¬ isN h) (o : rk l ≤ rk h) : rk (sL l h) ≤ rk (sH l h) ∧ 0 ≤ rk (sL l h) := by
  have r0 : rk 0 = 0 := by decide
  unfold sL sH
  by_cases a : bLt l 0
  · rw [if_pos a, if_pos a]
    have := a.2.2
    by_cases b : bLt 0 h
    · rw [if_pos b, if_pos b]
      have := b.2.2
      have := (ma_rk (u := sNeg l) (v := h) (by rw [sNeg_n hl]; exact nl) nh).2.1
      omega
    · rw [if_neg b, if_neg b, neg_rk hl nl, neg_rk hh nh]
      have : rk h ≤ 0 := Int.not_lt.mp fun q => b ⟨by decide, nh, by omega⟩
      omega
  · rw [if_neg a, if_neg a]
    have : 0 ≤ rk l := Int.not_lt.mp fun q => a ⟨nl, by decide, by omega⟩
    omega
theorem oEnc_le {k al ah bl bh : Nat} (hk : 2 ≤ k ∧ k ≤ 16) (ha : EV (al, ah)) (hb : EV (bl, bh)) (oa : rk al ≤ rk ah) (ob : rk bl ≤ rk bh) : rk (oEnc k al ah bl bh).1 ≤ rk (oEnc k al ah bl bh).2 := by
  have hal : al < 2 ^ 64 := ha.1.1
  have hah : ah < 2 ^ 64 := ha.2.1
  have nal : ¬ isN al := ha.1.2
  have nah : ¬ isN ah := ha.2.2
  have hbl : bl < 2 ^ 64 := hb.1.1
  have hbh : bh < 2 ^ 64 := hb.2.1
  have nbl : ¬ isN bl := hb.1.2
  have nbh : ¬ isN bh := hb.2.2
  have mp : rk (MI, PI).1 ≤ rk (MI, PI).2 := by decide
  rcases k_two hk with rfl | rfl | rfl | rfl | rfl | rfl | rfl | rfl | rfl | rfl | rfl | rfl | rfl | rfl | rfl
  · rw [oE2]
    refine put_le (fun n1 n2 => ?_)
    rw [sDn_n (sPl_lt hal hbl)] at n1
    rw [sUp_n (sPl_lt hah hbh)] at n2
    exact add_slack hal hbl hah hbh nal nbl nah nbh oa ob n1 n2
  · rw [oE3]
    have c1 := (sNeg_cn hbh).1
    have c2 := (sNeg_cn hbl).1
    refine put_le (fun n1 n2 => ?_)
    rw [sDn_n (sPl_lt hal c1)] at n1
    rw [sUp_n (sPl_lt hah c2)] at n2
    exact add_slack hal c1 hah c2 nal (by rw [sNeg_n hbh]; exact nbh) nah (by rw [sNeg_n hbl]; exact nbl) oa (by rw [neg_rk hbh nbh, neg_rk hbl nbl]; omega) n1 n2
  · rw [oE4]; exact four_le (sTi_cn hal hbl).1 (sTi_cn hal hbh).1 (sTi_cn hah hbl).1 (sTi_cn hah hbh).1
  · rw [oE5]; split
    · exact mp
    · exact four_le (sDi_cn hal hbl).1 (sDi_cn hal hbh).1 (sDi_cn hah hbl).1 (sDi_cn hah hbh).1
  · rw [oE6, oM6, oM6]
    have a := mi_rk nal nbl
    have b := mi_rk nah nbh
    exact put_le (fun _ _ => by omega)
  · rw [oE7, oM7, oM7]
    have a := ma_rk nal nbl
    have b := ma_rk nah nbh
    exact put_le (fun _ _ => by omega)
  · rw [oE8]; exact put_le (fun _ _ => (size_le hal hah nal nah oa).1)
  · rw [oE9]
    unfold oRoot
    by_cases q : bLt al 0
    · rw [if_pos q]; exact mp
    · rw [if_neg q]
      have p : 0 ≤ rk al := Int.not_lt.mp fun z => q ⟨nal, by decide, by rw [show rk 0 = 0 from by decide]; exact z⟩
      have m := rt_mono hal hah nal nah p oa
      have n1 := rt_nn hal nal q
      have n2 := rt_nn hah nah (fun z => by have := z.2.2; rw [show rk 0 = 0 from by decide] at this; omega)
      refine put_le (fun _ _ => ?_)
      rw [zl_sZl (by rw [sDn_n (sRt_lt al)]; exact n1), zl_rk (by rw [sDn_n (sRt_lt al)]; exact n1)]
      have x := dn_le (sRt_lt al) n1
      have y := up_ge (sRt_lt ah) n2
      split <;> omega
  · rw [oE10]
    unfold oSquare
    have s := size_le hal hah nal nah oa
    have x1 := sL_lt hal hah
    have x2 := sH_lt hal hah
    have y1 := sL_n (l := al) hah nal nah
    have y2 := sH_n (h := ah) hal nal nah
    have m1 := mul_self_n x1 y1
    have m2 := mul_self_n x2 y2
    have n1 : ¬ isN (sTi (sL al ah) (sL al ah)) := by rw [m1.1]; exact m1.2
    have n2 : ¬ isN (sTi (sH al ah) (sH al ah)) := by rw [m2.1]; exact m2.2
    have sl := sq_slack x1 x2 y1 y2 s.2 s.1
    have s0 := sq_slack (l := 0) (h := sH al ah) (by decide) x2 (by decide) y2 (by decide) (by rw [show rk 0 = 0 from by decide]; omega)
    refine put_le (fun _ _ => ?_)
    have c1 := (sTi_cn x1 x1).1
    have c2 := (sTi_cn x2 x2).1
    rw [zl_sZl (by rw [sDn_n c1]; exact n1), zl_rk (by rw [sDn_n c1]; exact n1)]
    have e0 : rk (sDn (sTi 0 0)) = -1 := by decide +kernel
    have up0 : 0 ≤ rk (sUp (sTi (sH al ah) (sH al ah))) := by
      have := sUp_cn (sTi_cn x2 x2)
      have q : rk (sUp (sTi (sH al ah) (sH al ah))) = if sTi (sH al ah) (sH al ah) = 9218868437227405312 then rk (sTi (sH al ah) (sH al ah)) else rk (sTi (sH al ah) (sH al ah)) + 1 := up_rk c2 n2
      by_cases i : sTi (sH al ah) (sH al ah) = 9218868437227405312
      · rw [q, if_pos i, i]; decide
      · rw [if_neg i] at q
        have pH : 0 ≤ rk (sH al ah) := by omega
        have fH : ¬ isI (sH al ah) := fun z => i (by
          rw [m2.1]
          rcases inf_two x2 z with r | r <;> rw [r] <;> decide +kernel)
        have zH : 0 ≤ Zv (sH al ah) := by
          have := (Z_le (u := 0) (v := sH al ah) (by decide) x2 (by decide) y2).mpr (by rw [show rk 0 = 0 from by decide]; exact pH)
          rw [Z_zero] at this; exact this
        have sq := (sq_cmp (u := sH al ah) (V := 0) (by omega) (by decide)).2 (by rw [Z_zero, Int.zero_mul]; exact Int.mul_nonneg zH zH)
        rw [Z_le (by decide) (mul_lt _ _) (by decide) m2.2, show rk 0 = 0 from by decide, ← m2.1] at sq
        omega
    split <;> omega
  · rw [oE11, oM11, oM11]; exact put_le (fun _ _ => fl_mono hal hah nal nah oa)
  · rw [oE12]; exact put_le (fun _ _ => by rw [neg_rk hal nal, neg_rk hah nah]; omega)
  · rw [oE13, oM13, oM13]; exact put_le (fun _ _ => tf_mono hal hah nal nah oa)
  · rw [oE14, oM14, oM14]; exact put_le (fun _ _ => sg_mono hal hah nal nah oa)
  · rw [oE15, oM15, oM15]; exact put_le (fun _ _ => ct_mono (by decide) (by decide) (by decide) (by decide) (by decide) (by decide) hal hah nal nah oa)
  · rw [oE16, oM16, oM16]; exact put_le (fun _ _ => ct_mono (by decide) (by decide) (by decide) (by decide) (by decide) (by decide) hal hah nal nah oa)
def SdO (S : St) (b : Nat) : Prop := ∀ d, d < S.1 0 → rk (S.2 6 (6 * b + 2 * d)) ≤ rk (S.2 6 (6 * b + 2 * d + 1))
theorem enc_le {S : St} {b : Nat} {n : Nat} (hn : ∀ i, i < n → NdS S i) (hb : SdS S b) (ho : SdO S b) : ∀ i, i < n → rk (enc S b i).1 ≤ rk (enc S b i).2 := by
  intro i
  induction i using Nat.strongRecOn with
  | ind i ih =>
    intro hi
    have h := hn i hi
    rw [enc_eq h]
    unfold oNode
    by_cases h0 : S.2 1 i = 0
    · rw [if_pos h0]
      exact put_le (fun _ _ => ho _ (h.2.2.2.1 h0))
    · rw [if_neg h0]
      by_cases h1 : S.2 1 i = 1
      · rw [if_pos h1]; exact put_le (fun _ _ => Int.le_refl _)
      · rw [if_neg h1]
        have hk : 2 ≤ S.2 1 i ∧ S.2 1 i ≤ 16 := ⟨by omega, h.1⟩
        have ha := h.2.2.2.2.1 hk.1
        have ev := fun i hi => enc_ev (b := b) hn hb i hi
        by_cases h8 : 8 ≤ S.2 1 i
        · rw [oEnc_un h8 (bl' := 0) (bh' := 0)]
          exact oEnc_le hk (ev _ (by omega)) ⟨⟨by decide, by decide⟩, ⟨by decide, by decide⟩⟩ (ih _ ha (by omega)) (Int.le_refl _)
        · have hfb := h.2.2.2.2.2.1 (by omega)
          exact oEnc_le hk (ev _ (by omega)) (ev _ (by omega)) (ih _ ha (by omega)) (ih _ hfb (by omega))
