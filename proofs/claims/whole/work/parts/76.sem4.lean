/-! THE CLASS'S NODES: the asked set is closed, and what is enclosed is enc -/
def NodC (c : CS) (S : St) : Prop := c.1 2 = nI (S.1 1) ∧ S.1 1 ≤ 32 ∧ ∀ i, i < S.1 1 → NdS S i ∧ c.2.1 6 i = nI (S.2 1 i) ∧ c.2.1 7 i = nI (S.2 2 i) ∧ c.2.1 8 i = nI (S.2 3 i) ∧ c.2.2 9 i = lN (S.2 4 i)
def Clo (S : St) (l : Int32) (n : Nat) : Prop := ∀ i, i < n → bt l i = true → 2 ≤ S.2 1 i → bt l (S.2 2 i) = true ∧ (S.2 1 i ≤ 7 → bt l (S.2 3 i) = true)
theorem c_hf {k : Nat} (h : k ≤ 16) : fX0_hasFirst (nI k) = if 2 ≤ k then 1 else 0 := by
  unfold fX0_hasFirst
  rw [show (2 : Int32) = nI 2 from rfl, if_iff (nI_lt' (a := k) (b := 2) (by omega) (by decide))]
  by_cases q : 2 ≤ k
  · rw [if_pos q, if_neg (by omega)]
  · rw [if_neg q, if_pos (by omega)]
theorem c_hs {k : Nat} (h : k ≤ 16) : fX0_hasSecond (nI k) = if 2 ≤ k ∧ k ≤ 7 then 1 else 0 := by
  unfold fX0_hasSecond
  rw [show (2 : Int32) = nI 2 from rfl, show (7 : Int32) = nI 7 from rfl, if_iff (nI_lt' (a := k) (b := 2) (by omega) (by decide)), if_iff (nI_lt' (a := 7) (b := k) (by decide) (by omega))]
  by_cases q : 2 ≤ k
  · rw [if_neg (show ¬ k < 2 by omega)]
    by_cases r : k ≤ 7
    · rw [if_neg (show ¬ 7 < k by omega), if_pos (show 2 ≤ k ∧ k ≤ 7 from ⟨q, r⟩)]
    · rw [if_pos (show 7 < k by omega), if_neg (show ¬ (2 ≤ k ∧ k ≤ 7) from fun z => r z.2)]
  · rw [if_pos (show k < 2 by omega), if_neg (show ¬ (2 ≤ k ∧ k ≤ 7) from fun z => q z.1)]
theorem wp_step {c : CS} {S : St} (h : NodC c S) {i : Nat} (hi : i < S.1 1) (l : Int32) :
    (∀ j, j < 32 → bt l j = true → bt (wpStep c i l) j = true) ∧ (∀ j, j < 32 → i ≤ j → bt (wpStep c i l) j = bt l j) ∧ (bt l i = true → 2 ≤ S.2 1 i → bt (wpStep c i l) (S.2 2 i) = true ∧ (S.2 1 i ≤ 7 → bt (wpStep c i l) (S.2 3 i) = true)) := by
  obtain ⟨-, hn, hr⟩ := h
  obtain ⟨nd, e6, e7, e8, -⟩ := hr i hi
  obtain ⟨k16, f32, s32, -, hfa, hfb, -⟩ := nd
  unfold wpStep
  rw [e6, e7, e8, c_hf k16, c_hs k16, one0, one0]
  by_cases hb : bt l i = true
  · rw [if_neg (fun q => by rw [(bitOf_bt (by omega)).mp q] at hb; exact Bool.noConfusion hb)]
    by_cases k2 : 2 ≤ S.2 1 i
    · rw [if_pos k2]
      have hfa := hfa k2
      by_cases k7 : S.2 1 i ≤ 7
      · rw [if_pos ⟨k2, k7⟩]
        have hfb := hfb ⟨k2, k7⟩
        refine ⟨fun j hj q => ?_, fun j hj q => ?_, fun _ _ => ⟨?_, fun _ => ?_⟩⟩
        · rw [bt_or, bt_or, q]; rfl
        · rw [bt_or, bt_or, bt_one f32 hj, bt_one s32 hj, decide_eq_false (by omega), decide_eq_false (by omega)]; simp
        · rw [bt_or, bt_or, bt_one f32 f32]; simp
        · rw [bt_or, bt_one s32 s32]; simp
      · rw [if_neg (fun z => k7 z.2)]
        refine ⟨fun j hj q => ?_, fun j hj q => ?_, fun _ _ => ⟨?_, fun q => absurd q k7⟩⟩
        · rw [bt_or, q]; rfl
        · rw [bt_or, bt_one f32 hj, decide_eq_false (by omega)]; simp
        · rw [bt_or, bt_one f32 f32]; simp
    · rw [if_neg k2]
      exact ⟨fun _ _ q => q, fun _ _ _ => rfl, fun _ q => absurd q k2⟩
  · have hb : bt l i = false := by simpa using hb
    rw [if_pos ((bitOf_bt (by omega)).mpr hb)]
    exact ⟨fun _ _ q => q, fun _ _ _ => rfl, fun q => by rw [hb] at q; exact Bool.noConfusion q⟩
theorem wp_loop {c : CS} {S : St} (h : NodC c S) : ∀ (n : Nat) (l : Int32), n ≤ S.1 1 →
    (∀ j, j < 32 → bt l j = true → bt (wpLoop c n l) j = true) ∧ (∀ j, j < 32 → n ≤ j → bt (wpLoop c n l) j = bt l j) ∧ Clo S (wpLoop c n l) n := by
  intro n
  induction n with
  | zero => intro l _; exact ⟨fun _ _ q => q, fun _ _ _ => rfl, fun i hi => by omega⟩
  | succ n ih =>
    intro l hn
    obtain ⟨s1, s2, s3⟩ := wp_step h (i := n) (by omega) l
    obtain ⟨i1, i2, i3⟩ := ih (wpStep c n l) (by omega)
    have h32 := h.2.1
    refine ⟨fun j hj q => i1 j hj (s1 j hj q), fun j hj q => ?_, fun i hi q k2 => ?_⟩
    · show bt (wpLoop c n (wpStep c n l)) j = _
      rw [i2 j hj (by omega), s2 j hj (by omega)]
    · by_cases e : i = n
      · subst e
        have q : bt (wpLoop c i (wpStep c i l)) i = true := q
        rw [i2 i (by omega) (Nat.le_refl _), s2 i (by omega) (Nat.le_refl _)] at q
        have nd := (h.2.2 i (by omega)).1
        obtain ⟨t1, t2⟩ := s3 q k2
        exact ⟨i1 _ nd.2.1 t1, fun k7 => i1 _ nd.2.2.1 (t2 k7)⟩
      · exact i3 i (by omega) q k2
theorem nd_ok {c : CS} {S : St} (h : NodC c S) : NdOK c (S.1 1) := by
  obtain ⟨h1, h2, h3⟩ := h
  refine ⟨h2, h1, fun i hi => ?_⟩
  obtain ⟨nd, -, e7, e8, -⟩ := h3 i hi
  rw [e7, e8]
  exact ⟨in_nI nd.2.1 (by decide), in_nI nd.2.2.1 (by decide)⟩
theorem i_mul {x y : Int32} (h : -2147483648 ≤ x.toInt * y.toInt ∧ x.toInt * y.toInt < 2147483648) : (x * y).toInt = x.toInt * y.toInt := by rw [Int32.toInt_mul, i_bm h]
theorem nI_2a {a p : Nat} (h : p + 2 * a < 1000) : nI p + 2 * nI a = nI (p + 2 * a) := by
  apply i_nI (by omega)
  have ha := nI_toInt (n := a) (by omega)
  have hp := nI_toInt (n := p) (by omega)
  have e : ((2 : Int32) * nI a).toInt = 2 * a := by
    rw [i_mul, ha]
    · rfl
    · rw [ha, show (2 : Int32).toInt = 2 from rfl]; omega
  rw [i_add, e, hp]
  · omega
  · rw [e, hp]; omega
theorem nI_n0 {a : Nat} (ha : a < 1000) (h : a ≠ 0) : nI a ≠ (0 : Int32) := nI_ne (b := 0) (by omega) (by decide) h
theorem nI_n1 {a : Nat} (ha : a < 1000) (h : a ≠ 1) : nI a ≠ (1 : Int32) := nI_ne (b := 1) (by omega) (by decide) h
theorem nI_s {a : Nat} (h : a < 1000) : nI a + 1 = nI (a + 1) := by
  apply i_nI (by omega)
  have ha := nI_toInt (n := a) (by omega)
  rw [i_add, ha]
  · show (a : Int) + 1 = _; omega
  · rw [ha, show (1 : Int32).toInt = 1 from rfl]; omega
def SidC (c : CS) (S : St) (b : Nat) : Prop := ∀ j, j < 2 * S.1 0 → c.2.2 12 (6 * b + j) = lN (S.2 6 (6 * b + j))
theorem fr45_set (c : CS) (i : Nat) (p : Nat × Nat) : Fr45 c (set45 c i p) := (Fr45.s4 c _).trans (Fr45.s5 _ _)
theorem set45_ne (c : CS) {i j : Nat} (p : Nat × Nat) (h : j ≠ i) : (set45 c i p).2.2 4 j = c.2.2 4 j ∧ (set45 c i p).2.2 5 j = c.2.2 5 j :=
  ⟨by show vp_updL (c.2.2 4) i (lN p.1) j = _; exact if_neg h, by show vp_updL (c.2.2 5) i (lN p.2) j = _; exact if_neg h⟩
theorem any_lN (x : Int64) : ∃ u, u < 2 ^ 64 ∧ x = lN u := ⟨x.toBitVec.toNat, x.toBitVec.isLt, by
  apply Int64.toBitVec_inj.mp
  rw [wb_tb]; simp⟩
theorem c_eloop {c : CS} {S : St} (h : NodC c S) {b : Nat} (hb : b < 100) (hd : S.1 0 ≤ 3) (hs : SidC c S b) (hS : SdS S b) {l : Int32} (hc : Clo S l (S.1 1)) : ∀ n, n ≤ S.1 1 →
    ∀ i, i < n → bt l i = true → (eLoop l (nI (6 * b)) n c).2.2 4 i = lN (enc S b i).1 ∧ (eLoop l (nI (6 * b)) n c).2.2 5 i = lN (enc S b i).2 := by
  intro n
  induction n with
  | zero => intro _ i hi; omega
  | succ n ih =>
    intro hn
    have ih := ih (by omega)
    obtain ⟨h1, h2, h3⟩ := h
    obtain ⟨nd, e6, e7, e8, e9⟩ := h3 n (by omega)
    have fr := fr_eLoop l (nI (6 * b)) c n
    show ∀ i, i < n + 1 → bt l i = true → (eStep l (nI (6 * b)) n (eLoop l (nI (6 * b)) n c)).2.2 4 i = _ ∧ (eStep l (nI (6 * b)) n (eLoop l (nI (6 * b)) n c)).2.2 5 i = _
    generalize eLoop l (nI (6 * b)) n c = d at *
    obtain ⟨-, fA, fL⟩ := fr
    have E : ∃ d', eStep l (nI (6 * b)) n d = d' ∧ (bt l n = true → d' = set45 d n (enc S b n)) ∧ (bt l n = false → d' = d) := by
      refine ⟨_, rfl, fun q => ?_, fun q => ?_⟩
      · unfold eStep
        rw [if_neg (fun z => by rw [(bitOf_bt (by omega)).mp z] at q; exact Bool.noConfusion q), fA, e6, e7, fL 9 (by decide) (by decide), e9, fL 12 (by decide) (by decide), enc_eq nd]
        unfold oNode
        by_cases k0 : S.2 1 n = 0
        · have hd := nd.2.2.2.1 k0
          rw [if_pos k0, k0, if_pos (show nI 0 = 0 from rfl), nI_2a (by omega), nI_s (by omega), nI_cl (by omega), nI_cl (by omega), hs _ (by omega), Nat.add_assoc, hs _ (by omega)]
          exact c_put d (by omega) (hS _ (by omega)).1 (hS _ (by omega)).1
        · rw [if_neg k0, if_neg (nI_n0 (a := S.2 1 n) (by have := nd.1; omega) k0)]
          by_cases k1 : S.2 1 n = 1
          · rw [if_pos k1, k1, if_pos (show nI 1 = 1 from rfl)]
            exact c_put d (by omega) nd.2.2.2.2.2.2.1 nd.2.2.2.2.2.2.1
          · rw [if_neg k1, if_neg (nI_n1 (a := S.2 1 n) (by have := nd.1; omega) k1)]
            have hk : 2 ≤ S.2 1 n ∧ S.2 1 n ≤ 16 := ⟨by omega, nd.1⟩
            have hfa := nd.2.2.2.2.1 hk.1
            obtain ⟨c1, c2⟩ := hc n (by omega) q hk.1
            obtain ⟨a1, a2⟩ := ih _ hfa c1
            have ev := enc_ev (b := b) (n := S.1 1) (fun i hi => (h3 i hi).1) hS _ (show S.2 2 n < S.1 1 by omega)
            by_cases k8 : 8 ≤ S.2 1 n
            · obtain ⟨u, hu, eu⟩ := any_lN (d.2.2 4 (S.2 3 n))
              obtain ⟨v, hv, ev2⟩ := any_lN (d.2.2 5 (S.2 3 n))
              rw [oEnc_un k8 (bl' := u) (bh' := v)]
              exact c_enc d (by omega) hk (by rw [fA]; exact e6) (by rw [fA]; exact e7) (by rw [fA]; exact e8) (by omega) (by have := nd.2.2.1; omega) a1 a2 eu ev2 ev hu hv
            · have hfb := nd.2.2.2.2.2.1 (by omega)
              obtain ⟨b1, b2⟩ := ih _ hfb (c2 (by omega))
              have evb := enc_ev (b := b) (n := S.1 1) (fun i hi => (h3 i hi).1) hS _ (show S.2 3 n < S.1 1 by omega)
              exact c_enc d (by omega) hk (by rw [fA]; exact e6) (by rw [fA]; exact e7) (by rw [fA]; exact e8) (by omega) (by omega) a1 a2 b1 b2 ev evb.1.1 evb.2.1
      · unfold eStep
        rw [if_pos ((bitOf_bt (by omega)).mpr q)]
    obtain ⟨d', hd', E1, E2⟩ := E
    rw [hd']
    intro i hi q
    by_cases e : i = n
    · subst e
      rw [E1 q]; exact ⟨set45_4 _ _ _, set45_5 _ _ _⟩
    · have r := ih i (by omega) q
      by_cases bn : bt l n = true
      · rw [E1 bn, (set45_ne d (enc S b n) e).1, (set45_ne d (enc S b n) e).2]; exact r
      · rw [E2 (by simpa using bn)]; exact r
/-- the class encloses: what is asked, with its parts, is right, and nothing else is touched -/
theorem c_enclose {c : CS} {S : St} (h : NodC c S) {b : Nat} (hb : b < 100) (hd : S.1 0 ≤ 3) (hs : SidC c S b) (hS : SdS S b) {l : Int32} (hc : Clo S l (S.1 1)) {k : CS → Prop}
    (K : ∀ d, Fr45 c d → (∀ i, i < S.1 1 → bt l i = true → d.2.2 4 i = lN (enc S b i).1 ∧ d.2.2 5 i = lN (enc S b i).2) → k d) : wX0_enclose c l (nI (6 * b)) k := by
  refine ⟨S.1 1, nd_ok h, fun i hi z => ?_, K _ (fr_eLoop _ _ _ _) (c_eloop h hb hd hs hS hc _ (Nat.le_refl _))⟩
  obtain ⟨nd, e6, e7, -⟩ := h.2.2 i hi
  rw [e6] at z
  have k0 : S.2 1 i = 0 := Classical.byContradiction fun q => nI_n0 (a := S.2 1 i) (by have := nd.1; omega) q z
  have := nd.2.2.2.1 k0
  rw [e7, nI_2a (by omega), nI_s (by omega)]
  exact ⟨in_nI (by omega) (by decide), in_nI (by omega) (by decide)⟩
theorem c_parts {c : CS} {S : St} (h : NodC c S) (l : Int32) {k : Int32 → CS → Prop} (K : ∀ l', (∀ j, j < 32 → bt l j = true → bt l' j = true) → (∀ j, j < 32 → S.1 1 ≤ j → bt l' j = bt l j) → Clo S l' (S.1 1) → k l' c) : wX0_withParts c l k := by
  obtain ⟨w1, w2, w3⟩ := wp_loop h (S.1 1) l (Nat.le_refl _)
  exact ⟨S.1 1, h.2.1, h.1, K _ w1 w2 w3⟩
