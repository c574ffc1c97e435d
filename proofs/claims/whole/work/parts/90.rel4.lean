theorem c_run_loop {kr : Int32 → CS → Prop} {n nb0 : Nat} (hn : n ≤ 99) : ∀ (k : Nat) (S : St) (c : CS) (dn : Nat), dn + k = n → nb0 ≤ S.1 2 → BaC c S → RnC c S (fun _ => True) → 0 < S.1 2 →
    (∀ d, RC d (runT k S) → kr (nI ((runT k S).1 2 - nb0)) d) → itX3_run_51 kr (k + 1) (nI n) (nI nb0) (nI dn) c := by
  intro k
  induction k with
  | zero =>
    intro S c dn e e0 hB hR hp K
    show bX3_run_51 c (nI n) (nI nb0) (nI dn) kr _
    unfold bX3_run_51
    have h100 := hB.1.2.1
    rw [hB.2.2.1, nI_sb e0 (by omega)]
    exact ifp ((nI_leX (by omega) (by omega)).mpr (by omega)) (K c ⟨hB, fun _ => hR⟩)
  | succ k ih =>
    intro S c dn e e0 hB hR hp K
    have h100 := hB.1.2.1
    have stop : (nxt S = 0 ∨ 100 ≤ S.1 2) → kr (nI (S.1 2 - nb0)) c := by
      intro q
      have er : runT (k + 1) S = S := by show (if _ then _ else _) = _; rw [if_pos q]
      rw [er] at K
      exact K c ⟨hB, fun _ => hR⟩
    show bX3_run_51 c (nI n) (nI nb0) (nI dn) kr (fun z1 z2 z3 X => itX3_run_51 kr (k + 1) z1 z2 z3 X)
    unfold bX3_run_51
    rw [hB.2.2.1, nI_sb e0 (by omega)]
    refine ifn (fun z => by rw [nI_leX (by omega) (by omega)] at z; omega) ?_
    by_cases f100 : 100 ≤ S.1 2
    · exact ifp ((nI_leX (a := 100) (by omega) (by omega)).mpr f100) (stop (.inr f100))
    · refine ifn (fun y => by rw [show (100 : Int32) = nI 100 from rfl, nI_leX (by omega) (by omega)] at y; omega) (c_heav hB hR ?_)
      by_cases z : nxt S = 0
      · rw [if_pos z, hB.2.2.1, nI_sb e0 (by omega)]; exact ifp rfl (stop (.inl z))
      · rw [if_neg z]
        have le : nxt S ≤ S.1 2 := nxT_le S (S.1 2)
        have er : runT (k + 1) S = runT k (step S (nxt S - 1)) := by show (if _ then _ else _) = _; rw [if_neg (by omega)]
        rw [er] at K
        have hbn : nxt S - 1 < S.1 2 := by omega
        have ok : S.2 7 (nxt S - 1) = 3 ∧ ¬ tgt S (nxt S - 1) := nxT_ok S (S.1 2) z
        generalize nxt S - 1 = b at *
        refine ifn (fun y => ?_) (g_split hB hR hbn (by omega) ok.2 (fun d1 hB2 hR2 => g_settle hB2 hR2 (show b < S.1 2 + 1 by omega) (fun d2 hB3 hR3 => g_settle hB3 hR3 (show S.1 2 < S.1 2 + 1 by omega) (fun d3 hB4 hR4 => ?_))))
        · have := congrArg Int32.toInt y
          rw [nI_toInt (by omega)] at this
          have h5 : (-5 : Int32).toInt = -5 := rfl
          omega
        · have hR4 : RnC d3 (step S b) (fun _ => True) := ⟨hR4.1, hR4.2.1, hR4.2.2.1, fun x hx => ⟨(hR4.2.2.2 x hx).1, fun _ => (hR4.2.2.2 x hx).2 (by
            by_cases xb : x = b
            · exact .inl (.inr xb)
            · by_cases xn : x = S.1 2
              · exact .inr xn
              · exact .inl (.inl ⟨xb, xn⟩))⟩⟩
          rw [nI_s (a := dn) (by omega)]
          exact ih (step S b) d3 (dn + 1) (by omega) (by rw [st_nb]; omega) hB4 hR4 (Nat.succ_pos _) K
/-- one call, on both sides: the same answer, and the same state behind it -/
def Agr (α : Type) (W3 : (α → CS → Prop) → Prop) (W4 : (α → MS → Prop) → Prop) : Prop := ∃ (v : α) (S' : St), (∀ k, (∀ c, RC c S' → k v c) → W3 k) ∧ (∀ k, (∀ m, RM m S' → k v m) → W4 k)
theorem RM.f0 {m : MS} {S : St} (h : RM m S) (x : Int32) : RM (msetI m 0 x) S := by
  obtain ⟨hB, e3, e5, hR⟩ := h
  exact ⟨hB.ints rfl rfl rfl rfl, e3, e5, fun q => (hR q).ints rfl⟩
theorem i_dec (x : Int32) (n : Nat) (hn : n < 1000) : (0 ≤ x.toInt ∧ x.toInt < n ∧ ∃ k, k < n ∧ x = nI k) ∨ (x.toInt < 0 ∨ (n : Int) ≤ x.toInt) := by
  by_cases h : 0 ≤ x.toInt ∧ x.toInt < n
  · refine .inl ⟨h.1, h.2, x.toInt.toNat, by omega, i_nI (by omega) (by omega)⟩
  · exact .inr (by omega)
theorem m_in1 {x lo hi : Int32} {kr : Int32 → Prop} (h1 : lo.toInt ≤ x.toInt) (h2 : x.toInt ≤ hi.toInt) (K : kr 1) : wX4_in x lo hi kr := by
  refine m_in ?_
  rw [if_neg (show ¬ (x < lo ∨ hi < x) by rw [Int32.lt_iff_toInt_lt, Int32.lt_iff_toInt_lt]; omega)]; exact K
theorem m_in0 {x lo hi : Int32} {kr : Int32 → Prop} (h : x.toInt < lo.toInt ∨ hi.toInt < x.toInt) (K : kr 0) : wX4_in x lo hi kr := by
  refine m_in ?_
  rw [if_pos (show x < lo ∨ hi < x by rw [Int32.lt_iff_toInt_lt, Int32.lt_iff_toInt_lt]; exact h)]; exact K
theorem t0 : (0 : Int32).toInt = 0 := rfl
theorem t99 : (99 : Int32).toInt = 99 := rfl
theorem a_run {c : CS} {m : MS} {S : St} (hc : RC c S) (hm : RM m S) (x : Int32) : Agr Int32 (wX3_run c x) (wX4_run m x) := by
  obtain ⟨hB, hR⟩ := hc
  have hm0 := hm.f0 0
  obtain ⟨hBM, e3, e5, hRM⟩ := hm
  have h100 := hB.1.2.1
  rcases i_dec x 100 (by decide) with ⟨x0, x1, n, hn, rfl⟩ | hx
  · by_cases z : S.1 2 = 0
    · refine ⟨-3, S, fun k K => ?_, fun k K => ?_⟩
      · unfold wX3_run bX3_run_0
        rw [hB.2.2.1]
        exact ifn (fun y => by rw [show (0 : Int32) = nI 0 from rfl, nI_ltX (by omega) (by omega)] at y; omega) (ifp ((nI_leX (b := 99) (by omega) (by decide)).mpr (by omega)) (ifp (by rw [z]; rfl) (K c ⟨hB, hR⟩)))
      · unfold wX4_run bX4_run_0
        refine m_in1 (by rw [t0]; exact x0) (by rw [t99]; omega) ?_
        refine ifn (by decide) (ifp ?_ (K _ hm0))
        show m.1 3 = 0
        rw [e3, if_pos z]
    · by_cases f : S.1 2 = 100
      · refine ⟨-4, S, fun k K => ?_, fun k K => ?_⟩
        · unfold wX3_run bX3_run_0
          rw [hB.2.2.1]
          exact ifn (fun y => by rw [show (0 : Int32) = nI 0 from rfl, nI_ltX (by omega) (by omega)] at y; omega) (ifp ((nI_leX (b := 99) (by omega) (by decide)).mpr (by omega)) (ifn (nI_n0 (by omega) z) (ifn (fun y => by rw [show (100 : Int32) = nI 100 from rfl, nI_ltX (by omega) (by omega)] at y; omega) (K c ⟨hB, hR⟩))))
        · unfold wX4_run bX4_run_0
          refine m_in1 (by rw [t0]; exact x0) (by rw [t99]; omega) ?_
          refine ifn (by decide) (ifn ?_ (ifp ?_ (K _ hm0)))
          · show ¬ m.1 3 = 0
            rw [e3, if_neg z]; decide
          · show m.1 4 = 100
            rw [hBM.2.2.1, f]; rfl
      · refine ⟨nI ((runT n S).1 2 - S.1 2), runT n S, fun k K => ?_, fun k K => ?_⟩
        · unfold wX3_run bX3_run_0
          rw [hB.2.2.1]
          refine ifn (fun y => by rw [show (0 : Int32) = nI 0 from rfl, nI_ltX (by omega) (by omega)] at y; omega) (ifp ((nI_leX (b := 99) (by omega) (by decide)).mpr (by omega)) (ifn (nI_n0 (by omega) z) (ifp ((nI_ltX (b := 100) (by omega) (by decide)).mpr (by omega)) ⟨n + 1, ?_⟩)))
          exact c_run_loop (by omega) n S c 0 (by omega) (Nat.le_refl _) hB (hR (by omega)) (by omega) (fun d hd => K d hd)
        · unfold wX4_run bX4_run_0
          refine m_in1 (by rw [t0]; exact x0) (by rw [t99]; omega) ?_
          obtain ⟨hB0, e30, e50, hR0⟩ := hm0
          have hR0 := hR0 (by omega)
          refine ifn (by decide) (ifn ?_ (ifn ?_ (m_next (S := S) (fun _ => hR0.1) hB0.1.1 hB0.1.2.1 hB0.2.1 hB0.2.2.1 (fun x hx => ((hR0.2 x hx).2 trivial).1) (fun x hx => ((hR0.2 x hx).2 trivial).2) ⟨n + 1, ?_⟩)))
          · show ¬ m.1 3 = 0
            rw [e3, if_neg z]; decide
          · show ¬ m.1 4 = 100
            rw [hBM.2.2.1]
            exact nI_ne (b := 100) (by omega) (by decide) f
          · refine m_run_loop (by omega) n S _ 0 (by omega) hB0 (by rw [e30, if_neg z]) e50 (by omega) hR0 (fun d hd => ?_)
            have := K d hd
            rw [Nat.zero_add]; exact this
  · have h0 : (0 : Int32).toInt = 0 := rfl
    have h99 : (99 : Int32).toInt = 99 := rfl
    refine ⟨-2, S, fun k K => ?_, fun k K => ?_⟩
    · unfold wX3_run bX3_run_0
      by_cases q : x < 0
      · exact ifp q (K c ⟨hB, hR⟩)
      · refine ifn q (ifn (fun y => ?_) (K c ⟨hB, hR⟩))
        rw [Int32.lt_iff_toInt_lt] at q
        rw [Int32.le_iff_toInt_le] at y
        omega
    · unfold wX4_run bX4_run_0
      exact m_in0 (by rw [t0, t99]; omega) (ifp rfl (K _ hm0))
