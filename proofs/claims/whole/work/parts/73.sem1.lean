/-! WHAT A NODE MAKES, on both sides -/
def oMade (k u v : Nat) : Nat := if k = 2 then sPl u v else if k = 3 then sPl u (sNeg v) else if k = 4 then sTi u v else if k = 5 then sDi u v else if k = 6 then sMi u v else if k = 7 then sMa u v else if k = 8 then sAb u else if k = 9 then sRt u else if k = 10 then sTi u u else if k = 11 then sFl u else if k = 12 then sNeg u else if k = 13 then sTf u else if k = 14 then sSg u else if k = 15 then sCut u 13970166044103278592 4746794007244308480 else sCut u 14114281232179134464 4890909195324358656
theorem k_two {k : Nat} (h : 2 ≤ k ∧ k ≤ 16) : k = 2 ∨ k = 3 ∨ k = 4 ∨ k = 5 ∨ k = 6 ∨ k = 7 ∨ k = 8 ∨ k = 9 ∨ k = 10 ∨ k = 11 ∨ k = 12 ∨ k = 13 ∨ k = 14 ∨ k = 15 ∨ k = 16 := by omega
theorem oM2 (u v : Nat) : oMade 2 u v = sPl u v := by unfold oMade; rw [if_pos rfl]
theorem oM3 (u v : Nat) : oMade 3 u v = sPl u (sNeg v) := by unfold oMade; rw [if_neg (by decide), if_pos rfl]
theorem oM4 (u v : Nat) : oMade 4 u v = sTi u v := by unfold oMade; rw [if_neg (by decide), if_neg (by decide), if_pos rfl]
theorem oM5 (u v : Nat) : oMade 5 u v = sDi u v := by unfold oMade; rw [if_neg (by decide), if_neg (by decide), if_neg (by decide), if_pos rfl]
theorem oM6 (u v : Nat) : oMade 6 u v = sMi u v := by unfold oMade; rw [if_neg (by decide), if_neg (by decide), if_neg (by decide), if_neg (by decide), if_pos rfl]
theorem oM7 (u v : Nat) : oMade 7 u v = sMa u v := by unfold oMade; rw [if_neg (by decide), if_neg (by decide), if_neg (by decide), if_neg (by decide), if_neg (by decide), if_pos rfl]
theorem oM8 (u v : Nat) : oMade 8 u v = sAb u := by unfold oMade; rw [if_neg (by decide), if_neg (by decide), if_neg (by decide), if_neg (by decide), if_neg (by decide), if_neg (by decide), if_pos rfl]
theorem oM9 (u v : Nat) : oMade 9 u v = sRt u := by unfold oMade; rw [if_neg (by decide), if_neg (by decide), if_neg (by decide), if_neg (by decide), if_neg (by decide), if_neg (by decide), if_neg (by decide), if_pos rfl]
theorem oM10 (u v : Nat) : oMade 10 u v = sTi u u := by unfold oMade; rw [if_neg (by decide), if_neg (by decide), if_neg (by decide), if_neg (by decide), if_neg (by decide), if_neg (by decide), if_neg (by decide), if_neg (by decide), if_pos rfl]
theorem oM11 (u v : Nat) : oMade 11 u v = sFl u := by unfold oMade; rw [if_neg (by decide), if_neg (by decide), if_neg (by decide), if_neg (by decide), if_neg (by decide), if_neg (by decide), if_neg (by decide), if_neg (by decide), if_neg (by decide), if_pos rfl]
theorem oM12 (u v : Nat) : oMade 12 u v = sNeg u := by unfold oMade; rw [if_neg (by decide), if_neg (by decide), if_neg (by decide), if_neg (by decide), if_neg (by decide), if_neg (by decide), if_neg (by decide), if_neg (by decide), if_neg (by decide), if_neg (by decide), if_pos rfl]
theorem oM13 (u v : Nat) : oMade 13 u v = sTf u := by unfold oMade; rw [if_neg (by decide), if_neg (by decide), if_neg (by decide), if_neg (by decide), if_neg (by decide), if_neg (by decide), if_neg (by decide), if_neg (by decide), if_neg (by decide), if_neg (by decide), if_neg (by decide), if_pos rfl]
theorem oM14 (u v : Nat) : oMade 14 u v = sSg u := by unfold oMade; rw [if_neg (by decide), if_neg (by decide), if_neg (by decide), if_neg (by decide), if_neg (by decide), if_neg (by decide), if_neg (by decide), if_neg (by decide), if_neg (by decide), if_neg (by decide), if_neg (by decide), if_neg (by decide), if_pos rfl]
theorem oM15 (u v : Nat) : oMade 15 u v = sCut u 13970166044103278592 4746794007244308480 := by unfold oMade; rw [if_neg (by decide), if_neg (by decide), if_neg (by decide), if_neg (by decide), if_neg (by decide), if_neg (by decide), if_neg (by decide), if_neg (by decide), if_neg (by decide), if_neg (by decide), if_neg (by decide), if_neg (by decide), if_neg (by decide), if_pos rfl]
theorem oM16 (u v : Nat) : oMade 16 u v = sCut u 14114281232179134464 4890909195324358656 := by unfold oMade; rw [if_neg (by decide), if_neg (by decide), if_neg (by decide), if_neg (by decide), if_neg (by decide), if_neg (by decide), if_neg (by decide), if_neg (by decide), if_neg (by decide), if_neg (by decide), if_neg (by decide), if_neg (by decide), if_neg (by decide), if_neg (by decide)]
theorem fM2 (b c : Int64) : fX0_made (nI 2) b c = fX1_plus b c := by unfold fX0_made; rw [if_neg (by decide), if_pos (by decide)]
theorem fM3 (b c : Int64) : fX0_made (nI 3) b c = fX1_plus b (fX1_opposite c) := by unfold fX0_made; rw [if_neg (by decide), if_neg (by decide), if_pos (by decide)]
theorem fM4 (b c : Int64) : fX0_made (nI 4) b c = fX1_times b c := by unfold fX0_made; rw [if_neg (by decide), if_neg (by decide), if_neg (by decide), if_pos (by decide)]
theorem fM5 (b c : Int64) : fX0_made (nI 5) b c = fX1_over b c := by unfold fX0_made; rw [if_neg (by decide), if_neg (by decide), if_neg (by decide), if_neg (by decide), if_pos (by decide)]
theorem fM6 (b c : Int64) : fX0_made (nI 6) b c = fX1_lesser b c := by unfold fX0_made; rw [if_neg (by decide), if_neg (by decide), if_neg (by decide), if_neg (by decide), if_neg (by decide), if_pos (by decide)]
theorem fM7 (b c : Int64) : fX0_made (nI 7) b c = fX1_greater b c := by unfold fX0_made; rw [if_neg (by decide), if_neg (by decide), if_neg (by decide), if_neg (by decide), if_neg (by decide), if_neg (by decide), if_pos (by decide)]
theorem fM8 (b c : Int64) : fX0_made (nI 8) b c = fX1_size b := by unfold fX0_made; rw [if_neg (by decide), if_neg (by decide), if_neg (by decide), if_neg (by decide), if_neg (by decide), if_neg (by decide), if_neg (by decide), if_pos (by decide)]
theorem fM9 (b c : Int64) : fX0_made (nI 9) b c = fX1_root b := by unfold fX0_made; rw [if_neg (by decide), if_neg (by decide), if_neg (by decide), if_neg (by decide), if_neg (by decide), if_neg (by decide), if_neg (by decide), if_neg (by decide), if_pos (by decide)]
theorem fM10 (b c : Int64) : fX0_made (nI 10) b c = fX1_times b b := by unfold fX0_made; rw [if_neg (by decide), if_neg (by decide), if_neg (by decide), if_neg (by decide), if_neg (by decide), if_neg (by decide), if_neg (by decide), if_neg (by decide), if_neg (by decide), if_pos (by decide)]
theorem fM11 (b c : Int64) : fX0_made (nI 11) b c = fX1_floor b := by unfold fX0_made; rw [if_neg (by decide), if_neg (by decide), if_neg (by decide), if_neg (by decide), if_neg (by decide), if_neg (by decide), if_neg (by decide), if_neg (by decide), if_neg (by decide), if_neg (by decide), if_pos (by decide)]
theorem fM12 (b c : Int64) : fX0_made (nI 12) b c = fX1_opposite b := by unfold fX0_made; rw [if_neg (by decide), if_neg (by decide), if_neg (by decide), if_neg (by decide), if_neg (by decide), if_neg (by decide), if_neg (by decide), if_neg (by decide), if_neg (by decide), if_neg (by decide), if_neg (by decide), if_pos (by decide)]
theorem fM13 (b c : Int64) : fX0_made (nI 13) b c = fX1_throughFloat b := by unfold fX0_made; rw [if_neg (by decide), if_neg (by decide), if_neg (by decide), if_neg (by decide), if_neg (by decide), if_neg (by decide), if_neg (by decide), if_neg (by decide), if_neg (by decide), if_neg (by decide), if_neg (by decide), if_neg (by decide), if_pos (by decide)]
theorem fM14 (b c : Int64) : fX0_made (nI 14) b c = fX1_signum b := by unfold fX0_made; rw [if_neg (by decide), if_neg (by decide), if_neg (by decide), if_neg (by decide), if_neg (by decide), if_neg (by decide), if_neg (by decide), if_neg (by decide), if_neg (by decide), if_neg (by decide), if_neg (by decide), if_neg (by decide), if_neg (by decide), if_pos (by decide)]
theorem fM15 (b c : Int64) : fX0_made (nI 15) b c = fX1_cut b (-4476578029606273024 : Int64) (4746794007244308480 : Int64) := by unfold fX0_made; rw [if_neg (by decide), if_neg (by decide), if_neg (by decide), if_neg (by decide), if_neg (by decide), if_neg (by decide), if_neg (by decide), if_neg (by decide), if_neg (by decide), if_neg (by decide), if_neg (by decide), if_neg (by decide), if_neg (by decide), if_neg (by decide)]
theorem fM16 (b c : Int64) : fX0_made (nI 16) b c = fX1_cut b (-4332462841530417152 : Int64) (4890909195324358656 : Int64) := by unfold fX0_made; rw [if_pos (by decide)]
theorem wM2 (b d : UInt64) (kr : UInt64 → Prop) : wX4_made (nI 2) b d kr = wX4_added b d (fun r1 => kr r1) := by unfold wX4_made bX4_made_0; rw [if_neg (by decide), if_pos (by decide)]
theorem wM3 (b d : UInt64) (kr : UInt64 → Prop) : wX4_made (nI 3) b d kr = wX4_lessened b d (fun r1 => kr r1) := by unfold wX4_made bX4_made_0; rw [if_neg (by decide), if_neg (by decide), if_pos (by decide)]
theorem wM4 (b d : UInt64) (kr : UInt64 → Prop) : wX4_made (nI 4) b d kr = wX4_timed b d (fun r1 => kr r1) := by unfold wX4_made bX4_made_0; rw [if_neg (by decide), if_neg (by decide), if_neg (by decide), if_pos (by decide)]
theorem wM5 (b d : UInt64) (kr : UInt64 → Prop) : wX4_made (nI 5) b d kr = wX4_divided b d (fun r1 => kr r1) := by unfold wX4_made bX4_made_0; rw [if_neg (by decide), if_neg (by decide), if_neg (by decide), if_neg (by decide), if_pos (by decide)]
theorem wM6 (b d : UInt64) (kr : UInt64 → Prop) : wX4_made (nI 6) b d kr = wX4_least b d (fun r1 => kr r1) := by unfold wX4_made bX4_made_0; rw [if_neg (by decide), if_neg (by decide), if_neg (by decide), if_neg (by decide), if_neg (by decide), if_pos (by decide)]
theorem wM7 (b d : UInt64) (kr : UInt64 → Prop) : wX4_made (nI 7) b d kr = wX4_greatest b d (fun r1 => kr r1) := by unfold wX4_made bX4_made_0; rw [if_neg (by decide), if_neg (by decide), if_neg (by decide), if_neg (by decide), if_neg (by decide), if_neg (by decide), if_pos (by decide)]
theorem wM8 (b d : UInt64) (kr : UInt64 → Prop) : wX4_made (nI 8) b d kr = wX4_size b (fun r1 => kr r1) := by unfold wX4_made bX4_made_0; rw [if_neg (by decide), if_neg (by decide), if_neg (by decide), if_neg (by decide), if_neg (by decide), if_neg (by decide), if_neg (by decide), if_pos (by decide)]
theorem wM9 (b d : UInt64) (kr : UInt64 → Prop) : wX4_made (nI 9) b d kr = wX4_root b (fun r1 => kr r1) := by unfold wX4_made bX4_made_0; rw [if_neg (by decide), if_neg (by decide), if_neg (by decide), if_neg (by decide), if_neg (by decide), if_neg (by decide), if_neg (by decide), if_neg (by decide), if_pos (by decide)]
theorem wM10 (b d : UInt64) (kr : UInt64 → Prop) : wX4_made (nI 10) b d kr = wX4_timed b b (fun r1 => kr r1) := by unfold wX4_made bX4_made_0; rw [if_neg (by decide), if_neg (by decide), if_neg (by decide), if_neg (by decide), if_neg (by decide), if_neg (by decide), if_neg (by decide), if_neg (by decide), if_neg (by decide), if_pos (by decide)]
theorem wM11 (b d : UInt64) (kr : UInt64 → Prop) : wX4_made (nI 11) b d kr = wX4_floor b (fun r1 => kr r1) := by unfold wX4_made bX4_made_0; rw [if_neg (by decide), if_neg (by decide), if_neg (by decide), if_neg (by decide), if_neg (by decide), if_neg (by decide), if_neg (by decide), if_neg (by decide), if_neg (by decide), if_neg (by decide), if_pos (by decide)]
theorem wM12 (b d : UInt64) (kr : UInt64 → Prop) : wX4_made (nI 12) b d kr = (if (Op.cmpValue (FP.dcmp b b) .l) = 0 then kr (FP.dneg b) else kr b) := by unfold wX4_made bX4_made_0; rw [if_neg (by decide), if_neg (by decide), if_neg (by decide), if_neg (by decide), if_neg (by decide), if_neg (by decide), if_neg (by decide), if_neg (by decide), if_neg (by decide), if_neg (by decide), if_neg (by decide), if_pos (by decide)]
theorem wM13 (b d : UInt64) (kr : UInt64 → Prop) : wX4_made (nI 13) b d kr = (if (Op.cmpValue (FP.dcmp b b) .l) = 0 then (vf_n32 (FP.d2f b) ∧ (vf_n64 (FP.f2d (FP.d2f b)) ∧ kr (FP.f2d (FP.d2f b)))) else kr b) := by unfold wX4_made bX4_made_0; rw [if_neg (by decide), if_neg (by decide), if_neg (by decide), if_neg (by decide), if_neg (by decide), if_neg (by decide), if_neg (by decide), if_neg (by decide), if_neg (by decide), if_neg (by decide), if_neg (by decide), if_neg (by decide), if_pos (by decide)]
theorem wM14 (b d : UInt64) (kr : UInt64 → Prop) : wX4_made (nI 14) b d kr = (if (Op.cmpValue (FP.dcmp b b) .l) = 0 then (if (Op.cmpValue (FP.dcmp b (FP.dconst0 : UInt64)) .l) = 0 then kr b else (if 0 ≤ (Op.cmpValue (FP.dcmp b (FP.dconst0 : UInt64)) .g) then kr (FP.dconst1 : UInt64) else kr (13830554455654793216 : UInt64))) else kr b) := by unfold wX4_made bX4_made_0; rw [if_neg (by decide), if_neg (by decide), if_neg (by decide), if_neg (by decide), if_neg (by decide), if_neg (by decide), if_neg (by decide), if_neg (by decide), if_neg (by decide), if_neg (by decide), if_neg (by decide), if_neg (by decide), if_neg (by decide), if_pos (by decide)]
theorem wM15 (b d : UInt64) (kr : UInt64 → Prop) : wX4_made (nI 15) b d kr = (if (Op.cmpValue (FP.dcmp b b) .l) = 0 then kr (FP.i2d (FP.d2i b)) else kr (FP.dconst0 : UInt64)) := by unfold wX4_made bX4_made_0; rw [if_neg (by decide), if_neg (by decide), if_neg (by decide), if_neg (by decide), if_neg (by decide), if_neg (by decide), if_neg (by decide), if_neg (by decide), if_neg (by decide), if_neg (by decide), if_neg (by decide), if_neg (by decide), if_neg (by decide), if_neg (by decide)]
theorem wM16 (b d : UInt64) (kr : UInt64 → Prop) : wX4_made (nI 16) b d kr = (if (Op.cmpValue (FP.dcmp b b) .l) = 0 then kr (FP.l2d (FP.d2l b)) else kr (FP.dconst0 : UInt64)) := by unfold wX4_made bX4_made_0; rw [if_pos (by decide)]
theorem c_made {k u v : Nat} (h : 2 ≤ k ∧ k ≤ 16) (hu : u < 2 ^ 64) (hv : v < 2 ^ 64) : fX0_made (nI k) (lN u) (lN v) = lN (oMade k u v) := by
  rcases k_two h with rfl | rfl | rfl | rfl | rfl | rfl | rfl | rfl | rfl | rfl | rfl | rfl | rfl | rfl | rfl
  · rw [fM2, oM2]; exact c_plus hu hv
  · rw [fM3, oM3]; rw [c_opp hv]; exact c_plus hu (sNeg_cn hv).1
  · rw [fM4, oM4]; exact c_times hu hv
  · rw [fM5, oM5]; exact c_over hu hv
  · rw [fM6, oM6]; exact c_lesser hu hv
  · rw [fM7, oM7]; exact c_greater hu hv
  · rw [fM8, oM8]; exact c_size hu
  · rw [fM9, oM9]; exact c_rt u
  · rw [fM10, oM10]; exact c_times hu hu
  · rw [fM11, oM11]; exact c_floor hu
  · rw [fM12, oM12]; exact c_opp hu
  · rw [fM13, oM13]; exact c_tf hu
  · rw [fM14, oM14]; exact c_signum hu
  · rw [fM15, oM15]; exact c_cut (L := 13970166044103278592) (G := 4746794007244308480) hu (by decide) (by decide)
  · rw [fM16, oM16]; exact c_cut (L := 14114281232179134464) (G := 4890909195324358656) hu (by decide) (by decide)
theorem oMade_un {k u v w : Nat} (h : 8 ≤ k) : oMade k u v = oMade k u w := by
  have h2 : ¬ k = 2 := by omega
  have h3 : ¬ k = 3 := by omega
  have h4 : ¬ k = 4 := by omega
  have h5 : ¬ k = 5 := by omega
  have h6 : ¬ k = 6 := by omega
  have h7 : ¬ k = 7 := by omega
  unfold oMade
  rw [if_neg h2, if_neg h2, if_neg h3, if_neg h3, if_neg h4, if_neg h4, if_neg h5, if_neg h5, if_neg h6, if_neg h6, if_neg h7, if_neg h7]
theorem Cn_of {u : Nat} (h : u < 2 ^ 64) (n : ¬ isN u) : Cn u := ⟨h, fun q => absurd q n⟩
theorem oMade_cn {k u v : Nat} (h : 2 ≤ k ∧ k ≤ 16) (hu : Cn u) (hv : Cn v) : Cn (oMade k u v) := by
  rcases k_two h with rfl | rfl | rfl | rfl | rfl | rfl | rfl | rfl | rfl | rfl | rfl | rfl | rfl | rfl | rfl
  · rw [oM2]; exact sPl_cn hu.1 hv.1
  · rw [oM3]; exact sPl_cn hu.1 (sNeg_cn hv.1).1
  · rw [oM4]; exact sTi_cn hu.1 hv.1
  · rw [oM5]; exact sDi_cn hu.1 hv.1
  · rw [oM6]; exact sMi_cn hu.1 hv.1
  · rw [oM7]; exact sMa_cn hu.1 hv.1
  · rw [oM8]; exact sAb_cn
  · rw [oM9]; exact sRt_cn hu
  · rw [oM10]; exact sTi_cn hu.1 hu.1
  · rw [oM11]; exact sFl_cn hu
  · rw [oM12]; exact sNeg_cn hu.1
  · rw [oM13]; exact sTf_cn hu
  · rw [oM14]; exact sSg_cn hu
  · rw [oM15]; exact sCut_cn hu.1 (Cn_of (by decide) (by decide)) (Cn_of (by decide) (by decide))
  · rw [oM16]; exact sCut_cn hu.1 (Cn_of (by decide) (by decide)) (Cn_of (by decide) (by decide))
theorem oMade_lt {k u v : Nat} (h : 2 ≤ k ∧ k ≤ 16) (hu : Cn u) (hv : v < 2 ^ 64) : oMade k u v < 2 ^ 64 := by
  have key : Cn (oMade k u v) := by
    rcases k_two h with rfl | rfl | rfl | rfl | rfl | rfl | rfl | rfl | rfl | rfl | rfl | rfl | rfl | rfl | rfl
    · rw [oM2]; exact sPl_cn hu.1 hv
    · rw [oM3]; exact sPl_cn hu.1 (sNeg_cn hv).1
    · rw [oM4]; exact sTi_cn hu.1 hv
    · rw [oM5]; exact sDi_cn hu.1 hv
    · rw [oM6]; exact sMi_cn hu.1 hv
    · rw [oM7]; exact sMa_cn hu.1 hv
    · rw [oM8]; exact sAb_cn
    · rw [oM9]; exact sRt_cn hu
    · rw [oM10]; exact sTi_cn hu.1 hu.1
    · rw [oM11]; exact sFl_cn hu
    · rw [oM12]; exact sNeg_cn hu.1
    · rw [oM13]; exact sTf_cn hu
    · rw [oM14]; exact sSg_cn hu
    · rw [oM15]; exact sCut_cn hu.1 (Cn_of (by decide) (by decide)) (Cn_of (by decide) (by decide))
    · rw [oM16]; exact sCut_cn hu.1 (Cn_of (by decide) (by decide)) (Cn_of (by decide) (by decide))
  exact key.1
theorem cut_nan {u L G : Nat} (n : isN u) : sCut u L G = 0 := by unfold sCut; rw [if_pos (.inl n)]
theorem n_sfx {u : Nat} (h : Cn u) {P Q : Prop} (n : isN u → u = NOT64 → Q) (y : ¬ isN u → P) : (if Op.cmpValue (FP.dcmp (dN u) (dN u)) .l = 0 then P else Q) := n_self h.1 (fun q => n q (h.2 q)) y
theorem m_made {k u v : Nat} (h : 2 ≤ k ∧ k ≤ 16) (hu : Cn u) (hv : Cn v) {kr : UInt64 → Prop} (K : kr (dN (oMade k u v))) : wX4_made (nI k) (dN u) (dN v) kr := by
  rcases k_two h with rfl | rfl | rfl | rfl | rfl | rfl | rfl | rfl | rfl | rfl | rfl | rfl | rfl | rfl | rfl
  · rw [wM2]; rw [oM2] at K; exact m_added hu.1 hv.1 K
  · rw [wM3]; rw [oM3] at K; exact m_lessened hu.1 hv.1 K
  · rw [wM4]; rw [oM4] at K; exact m_timed hu.1 hv.1 K
  · rw [wM5]; rw [oM5] at K; exact m_divided hu.1 hv.1 K
  · rw [wM6]; rw [oM6] at K; exact m_least hu hv K
  · rw [wM7]; rw [oM7] at K; exact m_greatest hu hv K
  · rw [wM8]; rw [oM8] at K; exact m_size hu K
  · rw [wM9]; rw [oM9] at K; exact m_root hu K
  · rw [wM10]; rw [oM10] at K; exact m_timed hu.1 hu.1 K
  · rw [wM11]; rw [oM11] at K; exact m_floor hu K
  · rw [wM12]; rw [oM12] at K
    refine n_sfx hu (fun n e => ?_) (fun n => ?_)
    · have e2 : sNeg u = NOT64 := by unfold sNeg; rw [if_pos n]
      rw [e2, ← e] at K; exact K
    · rw [dneg_N hu.1, ← sNeg_flip n]; exact K
  · rw [wM13]; rw [oM13] at K
    refine n_sfx hu (fun n e => ?_) (fun n => ?_)
    · have e2 : sTf u = u := by unfold sTf; rw [if_pos (.inl (by omega))]
      rw [e2] at K; exact K
    · exact m_tf hu.1 n K
  · rw [wM14]; rw [oM14] at K
    refine n_sfx hu (fun n e => ?_) (fun n => ?_)
    · have e2 : sSg u = u := by unfold sSg; rw [if_pos (.inl n)]
      rw [e2] at K; exact K
    · rw [d0, if_iff (cvl_eq hu.1 (by decide)), if_iff (cvg_ge hu.1 (by decide)), if_iff (eq_zero hu.1)]
      by_cases z : u % 2 ^ 63 = 0
      · rw [if_pos z]
        have e2 : sSg u = u := by unfold sSg; rw [if_pos (.inr z)]
        rw [e2] at K; exact K
      · rw [if_neg z, if_iff (not_congr (lt_zero hu.1 n))]
        have e2 : sSg u = u / 2 ^ 63 * 2 ^ 63 + 4607182418800017408 := by unfold sSg; rw [if_neg (by omega)]
        rw [e2] at K
        by_cases s : 2 ^ 63 < u
        · rw [if_neg (fun q => q s)]
          have hh := hu.1
          rw [show u / 2 ^ 63 = 1 by omega] at K; exact K
        · rw [if_pos s]
          rw [show u / 2 ^ 63 = 0 by omega] at K; exact K
  · rw [wM15]; rw [oM15] at K
    refine n_sfx hu (fun n e => ?_) (fun n => ?_)
    · rw [cut_nan n] at K; exact K
    · rw [i_cut hu.1 n]; exact K
  · rw [wM16]; rw [oM16] at K
    refine n_sfx hu (fun n e => ?_) (fun n => ?_)
    · rw [cut_nan n] at K; exact K
    · rw [l_cut hu.1 n]; exact K
/-! ENDS: two numbers, never none -/
def MI : Nat := 18442240474082181120
def PI : Nat := 9218868437227405312
def oPut (l h : Nat) : Nat × Nat := if isN l ∨ isN h then (MI, PI) else (l, h)
def EV (p : Nat × Nat) : Prop := (p.1 < 2 ^ 64 ∧ ¬ isN p.1) ∧ (p.2 < 2 ^ 64 ∧ ¬ isN p.2)
theorem oPut_ev {l h : Nat} (hl : l < 2 ^ 64) (hh : h < 2 ^ 64) : EV (oPut l h) := by
  unfold oPut; split
  · exact ⟨⟨by decide, by decide⟩, ⟨by decide, by decide⟩⟩
  · rename_i q; exact ⟨⟨hl, fun z => q (.inl z)⟩, ⟨hh, fun z => q (.inr z)⟩⟩
theorem oPut_id {l h : Nat} (hl : ¬ isN l) (hh : ¬ isN h) : oPut l h = (l, h) := by unfold oPut; rw [if_neg (by simp only [hl, hh, or_self, not_false_eq_true])]
def set45 (c : CS) (i : Nat) (p : Nat × Nat) : CS := setL (setL c 4 (vp_updL (c.2.2 4) i (lN p.1))) 5 (vp_updL (c.2.2 5) i (lN p.2))
theorem c_line (c : CS) {i : Nat} (hi : i < 1000) : gX0_putWholeLine c (nI i) = set45 c i (MI, PI) := by
  unfold gX0_putWholeLine set45; rw [nI_cl hi]; rfl
theorem c_put (c : CS) {i l h : Nat} (hi : i < 1000) (hl : l < 2 ^ 64) (hh : h < 2 ^ 64) : gX0_put c (nI i) (lN l) (lN h) = set45 c i (oPut l h) := by
  unfold gX0_put oPut
  rw [c_isNone hl, c_isNone hh, c_line c hi, nI_cl hi]
  by_cases n : isN l
  · rw [if_pos n, if_neg (by decide), if_pos (.inl n)]
  · rw [if_neg n, if_pos rfl]
    by_cases n2 : isN h
    · rw [if_pos n2, if_neg (by decide), if_pos (.inr n2)]
    · rw [if_neg n2, if_pos rfl, if_neg (by simp only [n, n2, or_self, not_false_eq_true])]; rfl
def oFour (p q r s : Nat) : Nat × Nat := oPut (sDn (sMi (sMi p q) (sMi r s))) (sUp (sMa (sMa p q) (sMa r s)))
theorem c_four (c : CS) {i p q r s : Nat} (hi : i < 1000) (hp : p < 2 ^ 64) (hq : q < 2 ^ 64) (hr : r < 2 ^ 64) (hs : s < 2 ^ 64) : gX0_putFour c (nI i) (lN p) (lN q) (lN r) (lN s) = set45 c i (oFour p q r s) := by
  unfold gX0_putFour oFour
  have a1 := (sMi_cn hp hq).1
  have a2 := (sMi_cn hr hs).1
  have b1 := (sMa_cn hp hq).1
  have b2 := (sMa_cn hr hs).1
  rw [c_lesser hp hq, c_lesser hr hs, c_lesser a1 a2, c_greater hp hq, c_greater hr hs, c_greater b1 b2, c_down (sMi_cn a1 a2).1, c_up (sMa_cn b1 b2).1]
  exact c_put c hi (sDn_cn (sMi_cn a1 a2).1).1 (sUp_lt (sMa_cn b1 b2).1)
def sL (l h : Nat) : Nat := if bLt l 0 then (if bLt 0 h then 0 else sNeg h) else l
def sH (l h : Nat) : Nat := if bLt l 0 then (if bLt 0 h then sMa (sNeg l) h else sNeg l) else h
def oSize (l h : Nat) : Nat × Nat := oPut (sL l h) (sH l h)
theorem sL_lt {l h : Nat} (hl : l < 2 ^ 64) (hh : h < 2 ^ 64) : sL l h < 2 ^ 64 := by
  unfold sL; split
  · split
    · decide
    · exact (sNeg_cn hh).1
  · exact hl
theorem sH_lt {l h : Nat} (hl : l < 2 ^ 64) (hh : h < 2 ^ 64) : sH l h < 2 ^ 64 := by
  unfold sH; split
  · split
    · exact (sMa_cn (sNeg_cn hl).1 hh).1
    · exact (sNeg_cn hl).1
  · exact hh
theorem sL_n {l h : Nat} (hh : h < 2 ^ 64) (nl : ¬ isN l) (nh : ¬ isN h) : ¬ isN (sL l h) := by
  unfold sL; split
  · split
    · decide
    · rw [sNeg_n hh]; exact nh
  · exact nl
theorem sH_n {l h : Nat} (hl : l < 2 ^ 64) (nl : ¬ isN l) (nh : ¬ isN h) : ¬ isN (sH l h) := by
  unfold sH; split
  · split
    · rw [sMa_n, sNeg_n hl]; simp only [nl, nh, or_self, not_false_eq_true]
    · rw [sNeg_n hl]; exact nl
  · exact nh
theorem l0 : (0 : Int64) = lN 0 := rfl
theorem one0 {P : Prop} [Decidable P] {α : Type} {a b : α} : (if (if P then (1 : Int32) else 0) = 0 then a else b) = if P then b else a := by
  by_cases h : P
  · rw [if_pos h, if_pos h, if_neg (by decide)]
  · rw [if_neg h, if_neg h, if_pos rfl]
theorem c_psize (c : CS) {i l h : Nat} (hi : i < 1000) (hl : l < 2 ^ 64) (hh : h < 2 ^ 64) : gX0_putSize c (nI i) (lN l) (lN h) = set45 c i (oSize l h) := by
  unfold gX0_putSize oSize sL sH
  rw [l0, c_below hl (by decide), c_below (by decide) hh, one0, one0, c_opp hl, c_opp hh, c_greater (sNeg_cn hl).1 hh]
  by_cases a : bLt l 0
  · rw [if_pos a, if_pos a, if_pos a]
    by_cases b : bLt 0 h
    · rw [if_pos b, if_pos b, if_pos b]; exact c_put c hi (by decide) (sMa_cn (sNeg_cn hl).1 hh).1
    · rw [if_neg b, if_neg b, if_neg b]; exact c_put c hi (sNeg_cn hh).1 (sNeg_cn hl).1
  · rw [if_neg a, if_neg a, if_neg a]; exact c_put c hi hl hh
def oRoot (l h : Nat) : Nat × Nat := if bLt l 0 then (MI, PI) else oPut (sZl (sDn (sRt l))) (sUp (sRt h))
theorem c_proot (c : CS) {i l h : Nat} (hi : i < 1000) (hl : l < 2 ^ 64) (hh : h < 2 ^ 64) : gX0_putRoot c (nI i) (lN l) (lN h) = set45 c i (oRoot l h) := by
  unfold gX0_putRoot oRoot
  have a1 := sDn_cn (sRt_lt l)
  rw [l0, c_below hl (by decide), one0, c_rt, c_rt, c_down (sRt_lt l), c_up (sRt_lt h), c_zeroIfLess a1.1, c_line c hi, c_put c hi (sZl_cn a1.1).1 (sUp_lt (sRt_lt h))]
  split <;> rfl
def oSquare (l h : Nat) : Nat × Nat := oPut (sZl (sDn (sTi l l))) (sUp (sTi h h))
theorem c_psq (c : CS) {i l h : Nat} (hi : i < 1000) (hl : l < 2 ^ 64) (hh : h < 2 ^ 64) : gX0_putSquare c (nI i) (lN l) (lN h) = set45 c i (oSquare l h) := by
  unfold gX0_putSquare oSquare
  have a1 := sTi_cn hl hl
  have a2 := sTi_cn hh hh
  rw [c_times hl hl, c_times hh hh, c_down a1.1, c_up a2.1, c_zeroIfLess (sDn_cn a1.1).1]
  exact c_put c hi (sZl_cn (sDn_cn a1.1).1).1 (sUp_lt a2.1)
def oEnc (k al ah bl bh : Nat) : Nat × Nat := if k = 2 then oPut (sDn (sPl al bl)) (sUp (sPl ah bh)) else if k = 3 then oPut (sDn (sPl al (sNeg bh))) (sUp (sPl ah (sNeg bl))) else if k = 4 then oFour (sTi al bl) (sTi al bh) (sTi ah bl) (sTi ah bh) else if k = 5 then (if ¬ bLt 0 bl ∧ ¬ bLt bh 0 then (MI, PI) else oFour (sDi al bl) (sDi al bh) (sDi ah bl) (sDi ah bh)) else if k = 8 then oSize al ah else if k = 9 then oRoot al ah else if k = 10 then oSquare (sL al ah) (sH al ah) else if k = 12 then oPut (sNeg ah) (sNeg al) else oPut (oMade k al bl) (oMade k ah bh)
theorem oE2 (al ah bl bh : Nat) : oEnc 2 al ah bl bh = oPut (sDn (sPl al bl)) (sUp (sPl ah bh)) := by unfold oEnc; rw [if_pos rfl]
theorem oE3 (al ah bl bh : Nat) : oEnc 3 al ah bl bh = oPut (sDn (sPl al (sNeg bh))) (sUp (sPl ah (sNeg bl))) := by unfold oEnc; rw [if_neg (by decide), if_pos rfl]
theorem oE4 (al ah bl bh : Nat) : oEnc 4 al ah bl bh = oFour (sTi al bl) (sTi al bh) (sTi ah bl) (sTi ah bh) := by unfold oEnc; rw [if_neg (by decide), if_neg (by decide), if_pos rfl]
theorem oE5 (al ah bl bh : Nat) : oEnc 5 al ah bl bh = (if ¬ bLt 0 bl ∧ ¬ bLt bh 0 then (MI, PI) else oFour (sDi al bl) (sDi al bh) (sDi ah bl) (sDi ah bh)) := by unfold oEnc; rw [if_neg (by decide), if_neg (by decide), if_neg (by decide), if_pos rfl]
theorem oE6 (al ah bl bh : Nat) : oEnc 6 al ah bl bh = oPut (oMade 6 al bl) (oMade 6 ah bh) := by unfold oEnc; rw [if_neg (by decide), if_neg (by decide), if_neg (by decide), if_neg (by decide), if_neg (by decide), if_neg (by decide), if_neg (by decide), if_neg (by decide)]
theorem oE7 (al ah bl bh : Nat) : oEnc 7 al ah bl bh = oPut (oMade 7 al bl) (oMade 7 ah bh) := by unfold oEnc; rw [if_neg (by decide), if_neg (by decide), if_neg (by decide), if_neg (by decide), if_neg (by decide), if_neg (by decide), if_neg (by decide), if_neg (by decide)]
theorem oE8 (al ah bl bh : Nat) : oEnc 8 al ah bl bh = oSize al ah := by unfold oEnc; rw [if_neg (by decide), if_neg (by decide), if_neg (by decide), if_neg (by decide), if_pos rfl]
theorem oE9 (al ah bl bh : Nat) : oEnc 9 al ah bl bh = oRoot al ah := by unfold oEnc; rw [if_neg (by decide), if_neg (by decide), if_neg (by decide), if_neg (by decide), if_neg (by decide), if_pos rfl]
theorem oE10 (al ah bl bh : Nat) : oEnc 10 al ah bl bh = oSquare (sL al ah) (sH al ah) := by unfold oEnc; rw [if_neg (by decide), if_neg (by decide), if_neg (by decide), if_neg (by decide), if_neg (by decide), if_neg (by decide), if_pos rfl]
theorem oE11 (al ah bl bh : Nat) : oEnc 11 al ah bl bh = oPut (oMade 11 al bl) (oMade 11 ah bh) := by unfold oEnc; rw [if_neg (by decide), if_neg (by decide), if_neg (by decide), if_neg (by decide), if_neg (by decide), if_neg (by decide), if_neg (by decide), if_neg (by decide)]
theorem oE12 (al ah bl bh : Nat) : oEnc 12 al ah bl bh = oPut (sNeg ah) (sNeg al) := by unfold oEnc; rw [if_neg (by decide), if_neg (by decide), if_neg (by decide), if_neg (by decide), if_neg (by decide), if_neg (by decide), if_neg (by decide), if_pos rfl]
theorem oE13 (al ah bl bh : Nat) : oEnc 13 al ah bl bh = oPut (oMade 13 al bl) (oMade 13 ah bh) := by unfold oEnc; rw [if_neg (by decide), if_neg (by decide), if_neg (by decide), if_neg (by decide), if_neg (by decide), if_neg (by decide), if_neg (by decide), if_neg (by decide)]
theorem oE14 (al ah bl bh : Nat) : oEnc 14 al ah bl bh = oPut (oMade 14 al bl) (oMade 14 ah bh) := by unfold oEnc; rw [if_neg (by decide), if_neg (by decide), if_neg (by decide), if_neg (by decide), if_neg (by decide), if_neg (by decide), if_neg (by decide), if_neg (by decide)]
theorem oE15 (al ah bl bh : Nat) : oEnc 15 al ah bl bh = oPut (oMade 15 al bl) (oMade 15 ah bh) := by unfold oEnc; rw [if_neg (by decide), if_neg (by decide), if_neg (by decide), if_neg (by decide), if_neg (by decide), if_neg (by decide), if_neg (by decide), if_neg (by decide)]
theorem oE16 (al ah bl bh : Nat) : oEnc 16 al ah bl bh = oPut (oMade 16 al bl) (oMade 16 ah bh) := by unfold oEnc; rw [if_neg (by decide), if_neg (by decide), if_neg (by decide), if_neg (by decide), if_neg (by decide), if_neg (by decide), if_neg (by decide), if_neg (by decide)]
theorem oEnc_un {k al ah bl bh bl' bh' : Nat} (h : 8 ≤ k) : oEnc k al ah bl bh = oEnc k al ah bl' bh' := by
  have h2 : ¬ k = 2 := by omega
  have h3 : ¬ k = 3 := by omega
  have h4 : ¬ k = 4 := by omega
  have h5 : ¬ k = 5 := by omega
  unfold oEnc
  rw [if_neg h2, if_neg h2, if_neg h3, if_neg h3, if_neg h4, if_neg h4, if_neg h5, if_neg h5, oMade_un h (v := bl) (w := bl'), oMade_un h (v := bh) (w := bh')]
theorem nI_ne {a b : Nat} (ha : a < 2 ^ 31) (hb : b < 2 ^ 31) (h : a ≠ b) : nI a ≠ nI b := fun e => h (by
  have := congrArg Int32.toInt e
  rw [nI_toInt ha, nI_toInt hb] at this; omega)
theorem set45_set45 (c : CS) (i : Nat) (p q : Nat × Nat) : set45 (set45 c i p) i q = set45 c i q := by
  unfold set45
  have e1 : ∀ (f : Nat → Int64) (x y : Int64), vp_updL (vp_updL f i x) i y = vp_updL f i y := by
    intro f x y; funext j; unfold vp_updL; split <;> rfl
  have e2 : (setL (setL c 4 (vp_updL (c.2.2 4) i (lN p.1))) 5 (vp_updL (c.2.2 5) i (lN p.2))).2.2 4 = vp_updL (c.2.2 4) i (lN p.1) := rfl
  have e3 : (setL (setL c 4 (vp_updL (c.2.2 4) i (lN p.1))) 5 (vp_updL (c.2.2 5) i (lN p.2))).2.2 5 = vp_updL (c.2.2 5) i (lN p.2) := rfl
  rw [e2, e3, e1, e1]
  unfold setL
  refine congrArg (Prod.mk _) (congrArg (Prod.mk _) ?_)
  funext j
  by_cases h5 : j = 5
  · rw [if_pos h5, if_pos h5]
  · simp only [if_neg h5]; split <;> rfl
theorem set45_4 (c : CS) (i : Nat) (p : Nat × Nat) : (set45 c i p).2.2 4 i = lN p.1 := by show vp_updL (c.2.2 4) i (lN p.1) i = _; unfold vp_updL; exact if_pos rfl
theorem set45_5 (c : CS) (i : Nat) (p : Nat × Nat) : (set45 c i p).2.2 5 i = lN p.2 := by show vp_updL (c.2.2 5) i (lN p.2) i = _; unfold vp_updL; exact if_pos rfl
theorem c_enc (c : CS) {i k fa fb al ah bl bh : Nat} (hi : i < 1000) (hk : 2 ≤ k ∧ k ≤ 16) (e6 : c.2.1 6 i = nI k) (e7 : c.2.1 7 i = nI fa) (e8 : c.2.1 8 i = nI fb) (hfa : fa < 1000) (hfb : fb < 1000)
    (a1 : c.2.2 4 fa = lN al) (a2 : c.2.2 5 fa = lN ah) (b1 : c.2.2 4 fb = lN bl) (b2 : c.2.2 5 fb = lN bh) (ha : EV (al, ah)) (hbl : bl < 2 ^ 64) (hbh : bh < 2 ^ 64) :
    gX0_encloseMade c (nI i) = set45 c i (oEnc k al ah bl bh) := by
  have hal : al < 2 ^ 64 := ha.1.1
  have hah : ah < 2 ^ 64 := ha.2.1
  have nal : ¬ isN al := ha.1.2
  have nah : ¬ isN ah := ha.2.2
  have tl : ∀ k', 2 ≤ k' ∧ k' ≤ 16 → gX0_put c (nI i) (fX0_made (nI k') (lN al) (lN bl)) (fX0_made (nI k') (lN ah) (lN bh)) = set45 c i (oPut (oMade k' al bl) (oMade k' ah bh)) := by
    intro k' hk
    rw [c_made hk hal hbl, c_made hk hah hbh]
    exact c_put c hi (oMade_lt hk (Cn_of hal nal) hbl) (oMade_lt hk (Cn_of hah nah) hbh)
  unfold gX0_encloseMade
  rw [nI_cl hi, e6, e7, e8, nI_cl hfa, nI_cl hfb, a1, a2, b1, b2]
  rcases k_two hk with rfl | rfl | rfl | rfl | rfl | rfl | rfl | rfl | rfl | rfl | rfl | rfl | rfl | rfl | rfl
  · rw [oE2, if_neg (by decide), if_pos (by decide)]
    show gX0_put c (nI i) (fX1_down (fX1_plus (lN al) (lN bl))) (fX1_up (fX1_plus (lN ah) (lN bh))) = set45 c i (oPut (sDn (sPl al bl)) (sUp (sPl ah bh)))
    rw [c_plus hal hbl, c_plus hah hbh, c_down (sPl_cn hal hbl).1, c_up (sPl_cn hah hbh).1]
    exact c_put c hi (sDn_cn (sPl_cn hal hbl).1).1 (sUp_lt (sPl_cn hah hbh).1)
  · rw [oE3, if_neg (by decide), if_neg (by decide), if_pos (by decide)]
    show gX0_put c (nI i) (fX1_down (fX1_plus (lN al) (fX1_opposite (lN bh)))) (fX1_up (fX1_plus (lN ah) (fX1_opposite (lN bl)))) = set45 c i (oPut (sDn (sPl al (sNeg bh))) (sUp (sPl ah (sNeg bl))))
    have n1 := (sNeg_cn hbh).1
    have n2 := (sNeg_cn hbl).1
    rw [c_opp hbl, c_opp hbh, c_plus hal n1, c_plus hah n2, c_down (sPl_cn hal n1).1, c_up (sPl_cn hah n2).1]
    exact c_put c hi (sDn_cn (sPl_cn hal n1).1).1 (sUp_lt (sPl_cn hah n2).1)
  · rw [oE4, if_neg (by decide), if_neg (by decide), if_neg (by decide), if_pos (by decide)]
    show gX0_putFour c (nI i) (fX1_times (lN al) (lN bl)) (fX1_times (lN al) (lN bh)) (fX1_times (lN ah) (lN bl)) (fX1_times (lN ah) (lN bh)) = _
    rw [c_times hal hbl, c_times hal hbh, c_times hah hbl, c_times hah hbh]
    exact c_four c hi (sTi_cn hal hbl).1 (sTi_cn hal hbh).1 (sTi_cn hah hbl).1 (sTi_cn hah hbh).1
  · rw [oE5, if_neg (by decide), if_neg (by decide), if_neg (by decide), if_neg (by decide), if_pos (by decide)]
    show (if fX1_isBelow (0 : Int64) (lN bl) = 0 then (if fX1_isBelow (lN bh) (0 : Int64) = 0 then gX0_putWholeLine c (nI i) else gX0_putFour c (nI i) (fX1_over (lN al) (lN bl)) (fX1_over (lN al) (lN bh)) (fX1_over (lN ah) (lN bl)) (fX1_over (lN ah) (lN bh))) else gX0_putFour c (nI i) (fX1_over (lN al) (lN bl)) (fX1_over (lN al) (lN bh)) (fX1_over (lN ah) (lN bl)) (fX1_over (lN ah) (lN bh))) = set45 c i (if ¬ bLt 0 bl ∧ ¬ bLt bh 0 then (MI, PI) else oFour (sDi al bl) (sDi al bh) (sDi ah bl) (sDi ah bh))
    rw [l0, c_below (by decide) hbl, c_below hbh (by decide), one0, one0, c_line c hi, c_over hal hbl, c_over hal hbh, c_over hah hbl, c_over hah hbh, c_four c hi (sDi_cn hal hbl).1 (sDi_cn hal hbh).1 (sDi_cn hah hbl).1 (sDi_cn hah hbh).1]
    by_cases x : bLt 0 bl
    · rw [if_pos x, if_neg (fun q => q.1 x)]
    · rw [if_neg x]
      by_cases y : bLt bh 0
      · rw [if_pos y, if_neg (fun q => q.2 y)]
      · rw [if_neg y, if_pos ⟨x, y⟩]
  · rw [oE6, if_neg (by decide), if_neg (by decide), if_neg (by decide), if_neg (by decide), if_neg (by decide), if_pos (by decide)]
    exact tl 6 hk
  · rw [oE7, if_neg (by decide), if_neg (by decide), if_neg (by decide), if_neg (by decide), if_neg (by decide), if_neg (by decide), if_pos (by decide)]
    exact tl 7 hk
  · rw [oE8, if_neg (by decide), if_neg (by decide), if_neg (by decide), if_neg (by decide), if_neg (by decide), if_neg (by decide), if_neg (by decide), if_pos (by decide)]
    exact c_psize c hi hal hah
  · rw [oE9, if_neg (by decide), if_neg (by decide), if_neg (by decide), if_neg (by decide), if_neg (by decide), if_neg (by decide), if_neg (by decide), if_neg (by decide), if_pos (by decide)]
    exact c_proot c hi hal hah
  · rw [oE10, if_neg (by decide), if_neg (by decide), if_neg (by decide), if_neg (by decide), if_neg (by decide), if_neg (by decide), if_neg (by decide), if_neg (by decide), if_neg (by decide), if_pos (by decide)]
    show gX0_putSquare (gX0_putSize c (nI i) (lN al) (lN ah)) (nI i) ((gX0_putSize c (nI i) (lN al) (lN ah)).2.2 4 i) ((gX0_putSize c (nI i) (lN al) (lN ah)).2.2 5 i) = set45 c i (oSquare (sL al ah) (sH al ah))
    rw [c_psize c hi hal hah, set45_4, set45_5]
    have e : oSize al ah = (sL al ah, sH al ah) := oPut_id (sL_n hah nal nah) (sH_n hal nal nah)
    rw [e, c_psq _ hi (sL_lt hal hah) (sH_lt hal hah), set45_set45]
  · rw [oE11, if_neg (by decide), if_neg (by decide), if_neg (by decide), if_neg (by decide), if_neg (by decide), if_neg (by decide), if_neg (by decide), if_neg (by decide), if_neg (by decide), if_neg (by decide), if_pos (by decide)]
    exact tl 11 hk
  · rw [oE12, if_neg (by decide), if_neg (by decide), if_neg (by decide), if_neg (by decide), if_neg (by decide), if_neg (by decide), if_neg (by decide), if_neg (by decide), if_neg (by decide), if_neg (by decide), if_neg (by decide)]
    show gX0_put c (nI i) (fX1_opposite (lN ah)) (fX1_opposite (lN al)) = _
    rw [c_opp hal, c_opp hah]
    exact c_put c hi (sNeg_cn hah).1 (sNeg_cn hal).1
  · rw [oE13, if_pos (by decide)]
    exact tl 13 hk
  · rw [oE14, if_pos (by decide)]
    exact tl 14 hk
  · rw [oE15, if_pos (by decide)]
    exact tl 15 hk
  · rw [oE16, if_pos (by decide)]
    exact tl 16 hk
