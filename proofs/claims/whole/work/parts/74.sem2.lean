theorem ifn {c P Q : Prop} [Decidable c] (h : ¬ c) (q : Q) : if c then P else Q := by rw [if_neg h]; exact q
theorem ifp {c P Q : Prop} [Decidable c] (h : c) (p : P) : if c then P else Q := by rw [if_pos h]; exact p
theorem ifx {c d P Q : Prop} [Decidable c] (e : c ↔ d) (p : d → P) (q : ¬ d → Q) : if c then P else Q := by
  by_cases h : c
  · rw [if_pos h]; exact p (e.mp h)
  · rw [if_neg h]; exact q (fun z => h (e.mpr z))
def mset (c : MS) (i : Nat) (p : Nat × Nat) : MS := msetL (msetL c 34 (vf_upd (c.2.2 34) i (dN p.1))) 35 (vf_upd (c.2.2 35) i (dN p.2))
theorem in_nI {i n : Nat} (h : i < n) (hn : n ≤ 1000) : vp_in (nI i) n := vp_in_nI (by omega) (by omega)
theorem m_put (c : MS) {i l h : Nat} (hi : i < 32) (hl : l < 2 ^ 64) (hh : h < 2 ^ 64) {kr : MS → Prop} (K : kr (mset c i (oPut l h))) : wX4_put c (nI i) (dN l) (dN h) kr := by
  have hin := in_nI hi (by decide)
  unfold wX4_put bX4_put_0
  refine n_self hl (fun n => ?_) (fun n => n_self hh (fun n2 => ?_) (fun n2 => ?_))
  · refine ⟨hin, hin, fun Y e => ?_⟩
    rw [nI_cl (by omega)] at e; subst e
    have : oPut l h = (MI, PI) := by unfold oPut; rw [if_pos (.inl n)]
    rw [this] at K; exact K
  · refine ⟨hin, hin, fun Y e => ?_⟩
    rw [nI_cl (by omega)] at e; subst e
    have : oPut l h = (MI, PI) := by unfold oPut; rw [if_pos (.inr n2)]
    rw [this] at K; exact K
  · refine ⟨hin, hin, fun Y e => ?_⟩
    rw [nI_cl (by omega)] at e; subst e
    rw [oPut_id n n2] at K; exact K
def zl (l : Nat) : Nat := if bLt l 0 then 0 else l
theorem zl_sZl {l : Nat} (n : ¬ isN l) : sZl l = zl l := by
  unfold sZl zl
  exact if_iff ⟨fun q => q.elim (fun z => absurd z n) id, fun q => .inr q⟩
theorem zl_lt {l : Nat} (h : l < 2 ^ 64) : zl l < 2 ^ 64 := by
  unfold zl; split
  · decide
  · exact h
theorem m_putUp (c : MS) {i l h : Nat} (hi : i < 32) (hl : l < 2 ^ 64) (hh : h < 2 ^ 64) {kr : MS → Prop} (K : kr (mset c i (oPut (zl l) h))) : wX4_putUp c (nI i) (dN l) (dN h) kr := by
  unfold wX4_putUp bX4_putUp_0
  rw [d0]
  refine ifx (cvg_ge hl (by decide)) (fun q => ?_) (fun q => ?_)
  · refine m_put c hi hl hh ?_
    rw [zl, if_neg q] at K; exact K
  · refine m_put c hi (by decide) hh ?_
    rw [zl, if_pos (Classical.not_not.mp q)] at K; exact K
theorem m_four (c : MS) {i p q r s : Nat} (hi : i < 32) (hp : Cn p) (hq : Cn q) (hr : Cn r) (hs : Cn s) {kr : MS → Prop} (K : kr (mset c i (oFour p q r s))) : wX4_putFour c (nI i) (dN p) (dN q) (dN r) (dN s) kr := by
  unfold wX4_putFour bX4_putFour_0
  have a1 := sMi_cn hp.1 hq.1
  have a2 := sMi_cn hr.1 hs.1
  have b1 := sMa_cn hp.1 hq.1
  have b2 := sMa_cn hr.1 hs.1
  refine m_least hp hq (m_least hr hs (m_least a1 a2 (m_down (sMi_cn a1.1 a2.1) (m_greatest hp hq (m_greatest hr hs (m_greatest b1 b2 (m_up (sMa_cn b1.1 b2.1) ?_)))))))
  exact m_put c hi (sDn_cn (sMi_cn a1.1 a2.1).1).1 (sUp_lt (sMa_cn b1.1 b2.1).1) K
theorem m_sizeLow {l h : Nat} (hl : l < 2 ^ 64) (hh : h < 2 ^ 64) (nh : ¬ isN h) {kr : UInt64 → Prop} (K : kr (dN (sL l h))) : wX4_sizeLow (dN l) (dN h) kr := by
  unfold wX4_sizeLow bX4_sizeLow_0
  unfold sL at K
  rw [d0]
  refine ifx (cvg_lt hl (by decide)) (fun q => ?_) (fun q => ?_)
  · rw [if_pos q] at K
    refine ifx (cvl_gt hh (by decide)) (fun q => ?_) (fun q => ?_)
    · rw [if_pos q] at K; exact K
    · rw [if_neg q] at K; rw [dneg_N hh, ← sNeg_flip nh]; exact K
  · rw [if_neg q] at K; exact K
theorem m_sizeHigh {l h : Nat} (hl : l < 2 ^ 64) (hh : h < 2 ^ 64) (nl : ¬ isN l) (nh : ¬ isN h) {kr : UInt64 → Prop} (K : kr (dN (sH l h))) : wX4_sizeHigh (dN l) (dN h) kr := by
  unfold wX4_sizeHigh bX4_sizeHigh_0
  unfold sH at K
  rw [d0]
  refine ifx (cvg_lt hl (by decide)) (fun q => ?_) (fun q => ?_)
  · rw [if_pos q] at K
    rw [dneg_N hl, ← sNeg_flip nl]
    refine ifx (cvl_gt hh (by decide)) (fun q => ?_) (fun q => ?_)
    · rw [if_pos q] at K; exact m_greatest (sNeg_cn hl) (Cn_of hh nh) K
    · rw [if_neg q] at K; exact K
  · rw [if_neg q] at K; exact K
theorem m_in {x : Int32} {lo hi : Int32} {kr : Int32 → Prop} (K : kr (if x < lo ∨ hi < x then 0 else 1)) : wX4_in x lo hi kr := by
  unfold wX4_in bX4_in_0
  by_cases a : x < lo
  · rw [if_pos a]; rw [if_pos (.inl a)] at K; exact K
  · rw [if_neg a]
    by_cases b : hi < x
    · rw [if_pos b]; rw [if_pos (.inr b)] at K; exact K
    · rw [if_neg b]; rw [if_neg (by simp only [a, b, or_self, not_false_eq_true])] at K; exact K
theorem m_two {k : Nat} (h : k ≤ 16) {kr : Int32 → Prop} (K : kr (if 2 ≤ k ∧ k ≤ 7 then 1 else 0)) : wX4_isTwo (nI k) kr := by
  unfold wX4_isTwo bX4_isTwo_0
  refine m_in ?_
  have e : (nI k < (2 : Int32) ∨ (7 : Int32) < nI k) ↔ ¬ (2 ≤ k ∧ k ≤ 7) := by
    rw [show (2 : Int32) = nI 2 from rfl, show (7 : Int32) = nI 7 from rfl, nI_lt' (by omega) (by decide), nI_lt' (by decide) (by omega)]; omega
  by_cases t : 2 ≤ k ∧ k ≤ 7
  · rw [if_neg (fun q => (e.mp q) t)]; rw [if_pos t] at K; exact ⟨.inr rfl, K⟩
  · rw [if_pos (e.mpr t)]; rw [if_neg t] at K; exact ⟨.inl rfl, K⟩
theorem bLt_zs {u : Nat} (hu : u < 2 ^ 64) (n : ¬ isN u) (q : ¬ bLt 0 u) : ¬ bLt (sNeg u) 0 := by
  rw [sNeg_flip n]
  rintro ⟨-, -, h⟩
  rw [flip_rk hu] at h
  refine q ⟨by decide, n, ?_⟩
  have : rk 0 = 0 := by decide
  omega
theorem sL_pos {l h : Nat} (hh : h < 2 ^ 64) (nh : ¬ isN h) : ¬ bLt (sL l h) 0 := by
  unfold sL; split
  · split
    · decide
    · rename_i q; exact bLt_zs hh nh q
  · assumption
theorem zl_id {l : Nat} (h : ¬ bLt l 0) : zl l = l := by unfold zl; rw [if_neg h]
theorem sq_ex (X : Nat) : ∃ g s, SqI X (g, s) := by
  induction X with
  | zero => exact ⟨0, 0, rfl, Nat.le_refl _⟩
  | succ X ih =>
    obtain ⟨g, s, h1, h2⟩ := ih
    have h1 : g * g + s = X := h1
    have h2 : s ≤ 2 * g := h2
    by_cases q : s < 2 * g
    · exact ⟨g, s + 1, by show g * g + (s + 1) = X + 1; omega, by show s + 1 ≤ 2 * g; omega⟩
    · refine ⟨g + 1, 0, ?_, Nat.zero_le _⟩
      show (g + 1) * (g + 1) + 0 = X + 1
      rw [Nat.succ_mul, Nat.mul_succ]; omega
theorem rt_nn {u : Nat} (hu : u < 2 ^ 64) (n : ¬ isN u) (q : ¬ bLt u 0) : ¬ isN (sRt u) := by
  rw [lt_zero hu n] at q
  by_cases z : u % 2 ^ 63 = 0
  · have : sRt u = u := by
      unfold sRt fX1_root
      rw [c_isNone hu, c_isZero hu, if_neg n, if_pos rfl, if_pos z, if_neg (by decide)]
      show (lN u).toBitVec.toNat = u
      rw [wb_tb]; exact Nat.mod_eq_of_lt hu
    rw [this]; exact n
  · by_cases i : u = 9218868437227405312
    · subst i; decide +kernel
    · have h1 := c_root (u := u) (by omega) (by omega)
      obtain ⟨g, s, hg⟩ : ∃ g s, SqI (rtM u * 2 ^ 54) (g, s) := sq_ex _
      have h2 := h1 g s hg
      have h3 : lN (sRt u) = lN ((rtS u - 1) * 2 ^ 52 + (g + 1) / 2) := (c_rt u).symm.trans h2.1
      have hS : rtS u ≤ 1600 := by unfold rtS; have := nSc_le u; omega
      have h4 := (lN_inj64 (sRt_lt u) (by omega)).mp h3
      rw [h4]; omega
theorem mul_self_n {u : Nat} (hu : u < 2 ^ 64) (n : ¬ isN u) : sTi u u = FP.Core.mul FP.Core.b64 u u ∧ ¬ isN (FP.Core.mul FP.Core.b64 u u) := by
  have a : ¬ (u % 2 ^ 63 = 0 ∧ isI u) := by omega
  have b : ¬ (isI u ∧ u % 2 ^ 63 = 0) := by omega
  exact ⟨by unfold sTi; rw [if_pos ⟨n, n, a, b⟩], mul_n hu hu n n a b⟩
theorem sPl_lt {u v : Nat} (hu : u < 2 ^ 64) (hv : v < 2 ^ 64) : sPl u v < 2 ^ 64 := (sPl_cn hu hv).1
set_option maxHeartbeats 1000000 in
theorem m_enc (c : MS) {i k fa fb al ah bl bh : Nat} {box : Int32} (hi : i < 32) (hk : 2 ≤ k ∧ k ≤ 16) (e6 : c.2.1 23 i = nI k) (e7 : c.2.1 24 i = nI fa) (e8 : k ≤ 7 → c.2.1 25 i = nI fb) (hfa : fa < 32) (hfb : fb < 32)
    (a1 : c.2.2 34 fa = dN al) (a2 : c.2.2 35 fa = dN ah) (b1 : k ≤ 7 → c.2.2 34 fb = dN bl) (b2 : k ≤ 7 → c.2.2 35 fb = dN bh) (ha : EV (al, ah)) (hb : EV (bl, bh)) {kr : MS → Prop}
    (K : kr (mset c i (oEnc k al ah bl bh))) : wX4_enclose c (nI i) box kr := by
  have hal : al < 2 ^ 64 := ha.1.1
  have hah : ah < 2 ^ 64 := ha.2.1
  have nal : ¬ isN al := ha.1.2
  have nah : ¬ isN ah := ha.2.2
  have hbl : bl < 2 ^ 64 := hb.1.1
  have hbh : bh < 2 ^ 64 := hb.2.1
  have nbl : ¬ isN bl := hb.1.2
  have nbh : ¬ isN bh := hb.2.2
  have cal := Cn_of hal nal
  have cah := Cn_of hah nah
  have cbl := Cn_of hbl nbl
  have cbh := Cn_of hbh nbh
  have hin := in_nI hi (by decide)
  have hina := in_nI hfa (by decide)
  have hinb := in_nI hfb (by decide)
  have c0 : Cn 0 := Cn_of (by decide) (by decide)
  have tail : ∀ {u v}, Cn u → Cn v → 2 ≤ k ∧ k ≤ 16 → (kr (mset c i (oPut (oMade k al u) (oMade k ah v)))) → wX4_made (nI k) (dN al) (dN u) (fun r85 => (wX4_made (nI k) (dN ah) (dN v) (fun r86 => (wX4_put c (nI i) r85 r86 (fun X => kr X))))) := by
    intro u v hu hv hk K
    exact m_made hk cal hu (m_made hk cah hv (m_put c hi (oMade_cn hk cal hu).1 (oMade_cn hk cah hv).1 K))
  unfold wX4_enclose bX4_enclose_0
  rw [nI_cl (by omega), e6, e7, nI_cl (by omega), a1, a2]
  by_cases h8 : 8 ≤ k
  · have go : ∀ {P Q R : Prop}, P → vp_in (nI i) 32 ∧ (if nI k = 0 then Q else if nI k = (1 : Int32) then R else (vp_in (nI i) 32 ∧ (vp_in (nI fa) 32 ∧ (vp_in (nI i) 32 ∧ (vp_in (nI fa) 32 ∧ P))))) :=
      fun p => ⟨hin, ifn (nI_ne (a := k) (b := 0) (by omega) (by decide) (by omega)) (ifn (nI_ne (a := k) (b := 1) (by omega) (by decide) (by omega)) ⟨hin, hina, hin, hina, p⟩)⟩
    refine go (m_two (by omega) ?_)
    rw [if_neg (show ¬ (2 ≤ k ∧ k ≤ 7) by omega)]
    refine ifp rfl (m_two (by omega) ?_)
    rw [if_neg (show ¬ (2 ≤ k ∧ k ≤ 7) by omega)]
    refine ifp rfl ?_
    rw [oEnc_un h8 (bl' := 0) (bh' := 0)] at K
    rw [d0]
    have h2 : k = 8 ∨ k = 9 ∨ k = 10 ∨ k = 11 ∨ k = 12 ∨ k = 13 ∨ k = 14 ∨ k = 15 ∨ k = 16 := by omega
    rcases h2 with rfl | rfl | rfl | rfl | rfl | rfl | rfl | rfl | rfl
    · refine ifn (by decide) (ifn (by decide) (ifn (by decide) (ifn (by decide) (ifn (by decide) (ifn (by decide) (ifn (by decide) (ifp rfl ?_)))))))
      refine m_sizeLow hal hah nah (m_sizeHigh hal hah nal nah (m_putUp c hi (sL_lt hal hah) (sH_lt hal hah) ?_))
      rw [zl_id (sL_pos hah nah)]; exact K
    · refine ifn (by decide) (ifn (by decide) (ifn (by decide) (ifn (by decide) (ifn (by decide) (ifn (by decide) (ifn (by decide) (ifn (by decide) (ifp rfl ?_))))))))
      have K : kr (mset c i (oRoot al ah)) := K
      refine ifx (cvg_ge hal (by decide)) (fun q => ?_) (fun q => ?_)
      · rw [oRoot, if_neg q, zl_sZl (by rw [sDn_n (sRt_lt _)]; exact rt_nn hal nal q)] at K
        refine m_root cal (m_down (sRt_cn cal) (m_root cah (m_up (sRt_cn cah) (m_putUp c hi (sDn_cn (sRt_lt al)).1 (sUp_lt (sRt_lt ah)) K))))
      · rw [oRoot, if_pos (Classical.not_not.mp q)] at K
        exact m_put c hi (l := NOT64) (h := NOT64) (by decide) (by decide) K
    · refine ifn (by decide) (ifn (by decide) (ifn (by decide) (ifn (by decide) (ifn (by decide) (ifn (by decide) (ifn (by decide) (ifn (by decide) (ifn (by decide) (ifp rfl ?_)))))))))
      have K : kr (mset c i (oSquare (sL al ah) (sH al ah))) := K
      have x1 := sL_lt hal hah
      have x2 := sH_lt hal hah
      have m1 := mul_self_n x1 (sL_n hah nal nah)
      have m2 := mul_self_n x2 (sH_n hal nal nah)
      refine m_sizeLow hal hah nah (m_sizeHigh hal hah nal nah (ifp ((cvg_ge x1 (by decide)).mpr (sL_pos hah nah)) ?_))
      rw [dmul_N x1 x1, dmul_N x2 x2]
      rw [oSquare, m1.1, m2.1, zl_sZl (by rw [sDn_n (mul_lt _ _)]; exact m1.2)] at K
      exact ⟨(n64_N (mul_lt _ _)).mpr m1.2, m_down (Cn_of (mul_lt _ _) m1.2) ⟨(n64_N (mul_lt _ _)).mpr m2.2, m_up (Cn_of (mul_lt _ _) m2.2) (m_putUp c hi (sDn_cn (mul_lt _ _)).1 (sUp_lt (mul_lt _ _)) K)⟩⟩
    · refine ifn (by decide) (ifn (by decide) (ifn (by decide) (ifn (by decide) (ifn (by decide) (ifn (by decide) (ifn (by decide) (ifn (by decide) (ifn (by decide) (ifn (by decide) (ifp rfl ?_))))))))))
      exact tail c0 c0 hk K
    · refine ifn (by decide) (ifn (by decide) (ifn (by decide) (ifn (by decide) (ifn (by decide) (ifn (by decide) (ifn (by decide) (ifn (by decide) (ifn (by decide) (ifn (by decide) (ifn (by decide) ?_))))))))))
      rw [dneg_N hah, dneg_N hal, ← sNeg_flip nal, ← sNeg_flip nah]
      exact m_put c hi (sNeg_cn hah).1 (sNeg_cn hal).1 K
    · exact ifp (by decide) (tail c0 c0 hk K)
    · exact ifp (by decide) (tail c0 c0 hk K)
    · exact ifp (by decide) (tail c0 c0 hk K)
    · exact ifp (by decide) (tail c0 c0 hk K)
  · have h7 : k ≤ 7 := by omega
    have go : ∀ {P Q R : Prop}, P → vp_in (nI i) 32 ∧ (if nI k = 0 then Q else if nI k = (1 : Int32) then R else (vp_in (nI i) 32 ∧ (vp_in (nI fa) 32 ∧ (vp_in (nI i) 32 ∧ (vp_in (nI fa) 32 ∧ P))))) :=
      fun p => ⟨hin, ifn (nI_ne (a := k) (b := 0) (by omega) (by decide) (by omega)) (ifn (nI_ne (a := k) (b := 1) (by omega) (by decide) (by omega)) ⟨hin, hina, hin, hina, p⟩)⟩
    refine go (m_two (by omega) ?_)
    rw [if_pos (show 2 ≤ k ∧ k ≤ 7 by omega)]
    refine ifn (by decide) ?_
    rw [e8 h7, nI_cl (by omega), b1 h7, b2 h7]
    refine ⟨hin, hinb, m_two (by omega) ?_⟩
    rw [if_pos (show 2 ≤ k ∧ k ≤ 7 by omega)]
    refine ifn (by decide) ⟨hin, hinb, ?_⟩
    have h2 : k = 2 ∨ k = 3 ∨ k = 4 ∨ k = 5 ∨ k = 6 ∨ k = 7 := by omega
    rcases h2 with rfl | rfl | rfl | rfl | rfl | rfl
    · refine ifn (by decide) (ifp rfl ?_)
      exact m_added hal hbl (m_down (sPl_cn hal hbl) (m_added hah hbh (m_up (sPl_cn hah hbh) (m_put c hi (sDn_cn (sPl_lt hal hbl)).1 (sUp_lt (sPl_lt hah hbh)) K))))
    · refine ifn (by decide) (ifn (by decide) (ifp rfl ?_))
      have n1 := (sNeg_cn hbh).1
      have n2 := (sNeg_cn hbl).1
      exact m_lessened hal hbh (m_down (sPl_cn hal n1) (m_lessened hah hbl (m_up (sPl_cn hah n2) (m_put c hi (sDn_cn (sPl_lt hal n1)).1 (sUp_lt (sPl_lt hah n2)) K))))
    · refine ifn (by decide) (ifn (by decide) (ifn (by decide) (ifp rfl ?_)))
      exact m_timed hal hbl (m_timed hal hbh (m_timed hah hbl (m_timed hah hbh (m_four c hi (sTi_cn hal hbl) (sTi_cn hal hbh) (sTi_cn hah hbl) (sTi_cn hah hbh) K))))
    · refine ifn (by decide) (ifn (by decide) (ifn (by decide) (ifn (by decide) (ifp rfl ?_))))
      rw [d0]
      have K : kr (mset c i (if ¬ bLt 0 bl ∧ ¬ bLt bh 0 then (MI, PI) else oFour (sDi al bl) (sDi al bh) (sDi ah bl) (sDi ah bh))) := K
      refine ifx (cvl_gt hbl (by decide)) (fun q => ?_) (fun q => ifx (cvg_lt hbh (by decide)) (fun q2 => ?_) (fun q2 => ?_))
      · rw [if_neg (fun z => z.1 q)] at K
        exact m_divided hal hbl (m_divided hal hbh (m_divided hah hbl (m_divided hah hbh (m_four c hi (sDi_cn hal hbl) (sDi_cn hal hbh) (sDi_cn hah hbl) (sDi_cn hah hbh) K))))
      · rw [if_neg (fun z => z.2 q2)] at K
        exact m_divided hal hbl (m_divided hal hbh (m_divided hah hbl (m_divided hah hbh (m_four c hi (sDi_cn hal hbl) (sDi_cn hal hbh) (sDi_cn hah hbl) (sDi_cn hah hbh) K))))
      · rw [if_pos ⟨q, q2⟩] at K
        exact m_put c hi (l := NOT64) (h := NOT64) (by decide) (by decide) K
    · refine ifn (by decide) (ifn (by decide) (ifn (by decide) (ifn (by decide) (ifn (by decide) (ifp rfl ?_)))))
      exact tail cbl cbh hk K
    · refine ifn (by decide) (ifn (by decide) (ifn (by decide) (ifn (by decide) (ifn (by decide) (ifn (by decide) (ifp rfl ?_))))))
      exact tail cbl cbh hk K
