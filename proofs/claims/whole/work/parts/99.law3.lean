/-! THE LAW: its loop -/
def pgL_h : List En := [(20, .iconst 0, 1, 0, 0, .int 0, 0), (21, .istore 4, 2, 0, 0, .null, 0), (23, .iload 4, 2, 0, 0, .null, 0), (25, .aload_n 0, 1, 0, 0, .null, 0), (26, .arraylength, 1, 0, 0, .null, 0), (27, .bipush 9, 2, 0, 0, .int 9, 0), (29, .isub, 1, 0, 0, .null, 0), (30, .if_icmp .gt 1220, 3, 1250, 0, .null, 0), (33, .aload_n 0, 1, 0, 0, .null, 0), (34, .iload 4, 2, 0, 0, .null, 0), (36, .iaload, 1, 0, 0, .null, 0), (37, .bipush 31, 2, 0, 0, .int 31, 0), (39, .iand, 1, 0, 0, .null, 0), (40, .tableswitch 1204 0 17 #[88, 189, 282, 319, 332, 357, 370, 395, 474, 512, 562, 724, 899, 1046, 1084, 1110, 1166, 1191], 88, 1244, 0, .null, 0), (1250, .iconst 1, 1, 0, 0, .int 1, 0), (1251, .ireturn, 1, 0, 0, .null, 0)]
theorem kkL_h : pgL_h.all (chk cL_law 8 yL_law.cls) = true := by decide +kernel
def pgL_e : List En := [(1244, .iinc 4 9, 3, 0, 0, .null, 0), (1247, .goto (-1224), 3, 23, 0, .null, 0)]
theorem kkL_e : pgL_e.all (chk cL_law 8 yL_law.cls) = true := by decide +kernel
abbrev cut23 : List (Nat × List Nat) := [(23, [0, 1, 2, 3, 4])]
abbrev cutH : List (Nat × List Nat) := [(128, [0, 1, 2, 3, 4]), (229, [0, 1, 2, 3, 4]), (322, [0, 1, 2, 3, 4]), (359, [0, 1, 2, 3, 4]), (372, [0, 1, 2, 3, 4]), (397, [0, 1, 2, 3, 4]), (410, [0, 1, 2, 3, 4]), (435, [0, 1, 2, 3, 4]), (514, [0, 1, 2, 3, 4]), (552, [0, 1, 2, 3, 4]), (602, [0, 1, 2, 3, 4]), (764, [0, 1, 2, 3, 4]), (939, [0, 1, 2, 3, 4]), (1086, [0, 1, 2, 3, 4]), (1124, [0, 1, 2, 3, 4]), (1150, [0, 1, 2, 3, 4]), (1206, [0, 1, 2, 3, 4]), (1231, [0, 1, 2, 3, 4]), (1244, [0, 1, 2, 3, 4])]
theorem stepL {L : Nat} {xs : Nat → Int32} {G : Nat → LV → List Value → aS → Prop} (hG : SegTo L xs pgL_e [] cut23 G) {i : Int32} {σ : aS} (h : G 23 (lvL (i + 9)) [] σ) : G 1244 (lvL i) [] σ := by
  refine hG 20 false 1244 _ _ _ ?_
  exact h
theorem begL {L : Nat} {xs : Nat → Int32} {G : Nat → LV → List Value → aS → Prop} (hG : SegTo L xs pgL_h [] cut23 G) {σ : aS} (h : G 23 (lvL 0) [] σ) : G 20 [(0, .ref 999), (1, .ref 0), (2, .ref 20), (3, .ref 36)] [] σ := by
  refine hG 20 false 20 _ _ _ ?_
  exact h
theorem inL_of {k L : Nat} (h9 : 9 * k + 9 ≤ L) (hL : L ≤ 4608) : InL (nI (9 * k)) L := by
  intro j h0 h8
  have hk := nI_toInt (n := 9 * k) (by omega)
  have e : (nI (9 * k) + j).toInt = 9 * k + j.toInt := by rw [i_add (by rw [hk]; omega), hk]; omega
  rintro (q | q)
  · rw [Int32.lt_iff_toInt_lt, e] at q
    have : (0 : Int32).toInt = 0 := rfl
    omega
  · have q : L ≤ (nI (9 * k) + j).toInt.toNat := q
    rw [e] at q
    omega
theorem in0L {k L : Nat} (h9 : 9 * k + 9 ≤ L) (hL : L ≤ 4608) : vp_in (nI (9 * k)) L := by
  have := inL_of h9 hL 0 (by decide) (by decide)
  rw [nI_z] at this
  exact this
theorem nx9 {k : Nat} (h : k ≤ 512) : nI (9 * k) + 9 = nI (9 * (k + 1)) := by
  apply i_nI (by omega)
  have hk := nI_toInt (n := 9 * k) (by omega)
  have h9 : (9 : Int32).toInt = 9 := rfl
  rw [i_add, hk, h9]
  · omega
  · rw [hk, h9]; omega
set_option maxRecDepth 20000 in
set_option maxHeartbeats 4000000 in
theorem hdL {L : Nat} {xs : Nat → Int32} {G : Nat → LV → List Value → aS → Prop} (hL : L ≤ 4608) (hG : SegTo L xs pgL_h [] cutH G) {k : Nat} (hk : k ≤ 512) {σ : aS} (hN : 9 * k + 9 ≤ L → ∀ {lvc : LV}, lvc = lvL (nI (9 * k)) → ∀ pc ∈ [1244, 128, 229, 322, 359, 372, 397, 410, 435, 514, 552, 602, 764, 939, 1086, 1124, 1150, 1206, 1231], G pc lvc [] σ) : G 23 (lvL (nI (9 * k))) [] σ := by
  refine hG 60 false 23 _ _ _ ?_
  refine And.intro (Nat.succ_ne_zero L) ?_
  refine And.intro (fun _ => rfl) (fun h => ?_)
  have h : ¬ (nI L - 9 < nI (9 * k)) := h
  have h9 : 9 * k + 9 ≤ L := by
    rw [Int32.lt_iff_toInt_lt] at h
    have hk := nI_toInt (n := 9 * k) (by omega)
    have hl := nI_toInt (n := L) (by omega)
    have h9 : (9 : Int32).toInt = 9 := rfl
    rw [i_sub (by rw [hl, h9]; omega), hk, hl, h9] at h
    omega
  refine And.intro (Nat.succ_ne_zero L) (And.intro (in0L h9 hL) ?_)
  refine And.intro (fun _ => hN h9 (lvc := lvL (nI (9 * k))) rfl 1244 (by decide)) ?_
  exact And.intro (fun _ => hN h9 (lvc := lvL (nI (9 * k))) rfl 128 (by decide)) (And.intro (fun _ => hN h9 (lvc := lvL (nI (9 * k))) rfl 229 (by decide)) (And.intro (fun _ => hN h9 (lvc := lvL (nI (9 * k))) rfl 322 (by decide)) (And.intro (fun _ => hN h9 (lvc := lvL (nI (9 * k))) rfl 359 (by decide)) (And.intro (fun _ => hN h9 (lvc := lvL (nI (9 * k))) rfl 372 (by decide)) (And.intro (fun _ => hN h9 (lvc := lvL (nI (9 * k))) rfl 397 (by decide)) (And.intro (fun _ => hN h9 (lvc := lvL (nI (9 * k))) rfl 410 (by decide)) (And.intro (fun _ => hN h9 (lvc := lvL (nI (9 * k))) rfl 435 (by decide)) (And.intro (fun _ => hN h9 (lvc := lvL (nI (9 * k))) rfl 514 (by decide)) (And.intro (fun _ => hN h9 (lvc := lvL (nI (9 * k))) rfl 552 (by decide)) (And.intro (fun _ => hN h9 (lvc := lvL (nI (9 * k))) rfl 602 (by decide)) (And.intro (fun _ => hN h9 (lvc := lvL (nI (9 * k))) rfl 764 (by decide)) (And.intro (fun _ => hN h9 (lvc := lvL (nI (9 * k))) rfl 939 (by decide)) (And.intro (fun _ => hN h9 (lvc := lvL (nI (9 * k))) rfl 1086 (by decide)) (And.intro (fun _ => hN h9 (lvc := lvL (nI (9 * k))) rfl 1124 (by decide)) (And.intro (fun _ => hN h9 (lvc := lvL (nI (9 * k))) rfl 1150 (by decide)) (And.intro (fun _ => hN h9 (lvc := lvL (nI (9 * k))) rfl 1206 (by decide)) (And.intro (fun _ => hN h9 (lvc := lvL (nI (9 * k))) rfl 1231 (by decide)) trivial)))))))))))))))))
set_option maxRecDepth 20000 in
set_option maxHeartbeats 4000000 in
theorem csL_7a {L : Nat} {xs : Nat → Int32} {G : Nat → LV → List Value → aS → Prop} (hG : SegTo L xs pgL_7 ceL_7 cutL_7 G) {i : Int32} (hi : InL i L) {σ : aS} (h : G 455 (lvL i) [.ref 36, .int (xs (i + 3).toNatClampNeg), .int (xs (i + 2).toNatClampNeg), .int (xs (i + 1).toNatClampNeg), .ref 0] σ) : G 435 (lvL i) [] σ := by
  refine hG 100 false 435 _ _ _ ?_
  refine And.intro (Nat.succ_ne_zero L) (And.intro (hi 1 (by decide) (by decide)) ?_)
  refine And.intro (Nat.succ_ne_zero L) (And.intro (hi 2 (by decide) (by decide)) ?_)
  refine And.intro (Nat.succ_ne_zero L) (And.intro (hi 3 (by decide) (by decide)) ?_)
  exact h
set_option maxRecDepth 20000 in
set_option maxHeartbeats 4000000 in
theorem csL_7b {L : Nat} {xs : Nat → Int32} {G : Nat → LV → List Value → aS → Prop} (hG : SegTo L xs pgL_7 ceL_7 cutL_7 G) {i : Int32} (hi : InL i L) {c : CS} {m m1 : MS} {g : Nat → Int64} {t : Int32} {v : Int64} (hmod : ∀ k : Int64 → MS → Prop, k v m1 → wX4_side m (xs (i + 1).toNatClampNeg) (xs (i + 2).toNatClampNeg) (xs (i + 3).toNatClampNeg) k) (ht : m1.1 0 = t) (hv : t = 0 → g 0 = v) (hN : G 1244 (lvL i) [] (wL c m1 g)) : G 458 (lvL i) [.int t] (wL c m g) := by
  refine hG 100 false 458 _ _ _ ?_
  refine And.intro (Nat.succ_ne_zero L) (And.intro (hi 1 (by decide) (by decide)) ?_)
  refine And.intro (Nat.succ_ne_zero L) (And.intro (hi 2 (by decide) (by decide)) ?_)
  refine And.intro (Nat.succ_ne_zero L) (And.intro (hi 3 (by decide) (by decide)) ?_)
  refine Exists.intro m (Exists.intro (uC c) (Exists.intro [oR g] (And.intro rfl (hmod _ ?_))))
  refine Exists.intro m1 (Exists.intro (uC c) (Exists.intro [oR g] (And.intro rfl ?_)))
  unfold wX4_thrown bX4_thrown_0
  refine And.intro (fun _ => ?_) (fun h => absurd ht h)
  refine And.intro (fun _ => hN) (fun h => ?_)
  have h0 : t = 0 := Classical.not_not.mp h
  refine And.intro in01 ?_
  have e : lg_cmp (g 0) v = 0 := by rw [hv h0]; exact lcs _
  exact And.intro (fun _ => hN) (fun h => absurd e h)
set_option maxRecDepth 20000 in
set_option maxHeartbeats 4000000 in
theorem csL_15a {L : Nat} {xs : Nat → Int32} {G : Nat → LV → List Value → aS → Prop} (hG : SegTo L xs pgL_15 ceL_15 cutL_15 G) {i : Int32} (hi : InL i L) {σ : aS} (h : G 1158 (lvL i) [.ref 36, .int (xs (i + 1).toNatClampNeg), .ref 0] σ) : G 1150 (lvL i) [] σ := by
  refine hG 100 false 1150 _ _ _ ?_
  refine And.intro (Nat.succ_ne_zero L) (And.intro (hi 1 (by decide) (by decide)) ?_)
  exact h
set_option maxRecDepth 20000 in
set_option maxHeartbeats 4000000 in
theorem csL_15b {L : Nat} {xs : Nat → Int32} {G : Nat → LV → List Value → aS → Prop} (hG : SegTo L xs pgL_15 ceL_15 cutL_15 G) {i : Int32} (hi : InL i L) {c : CS} {m m1 : MS} {g : Nat → Int64} {t : Int32} {v : Int32} (hmod : ∀ k : Int32 → MS → Prop, k v m1 → wX4_share m (xs (i + 1).toNatClampNeg) k) (ht : m1.1 0 = t) (hv : t = 0 → g 0 = Int32.toInt64 v) (hN : G 1244 (lvL i) [] (wL c m1 g)) : G 1161 (lvL i) [.int t] (wL c m g) := by
  refine hG 100 false 1161 _ _ _ ?_
  refine And.intro (Nat.succ_ne_zero L) (And.intro (hi 1 (by decide) (by decide)) ?_)
  refine Exists.intro m (Exists.intro (uC c) (Exists.intro [oR g] (And.intro rfl (hmod _ ?_))))
  refine Exists.intro m1 (Exists.intro (uC c) (Exists.intro [oR g] (And.intro rfl ?_)))
  unfold wX4_thrown bX4_thrown_0
  refine And.intro (fun _ => ?_) (fun h => absurd ht h)
  refine And.intro (fun _ => hN) (fun h => ?_)
  have h0 : t = 0 := Classical.not_not.mp h
  refine And.intro in01 ?_
  have e : lg_cmp (g 0) (Int32.toInt64 v) = 0 := by rw [hv h0]; exact lcs _
  exact And.intro (fun _ => hN) (fun h => absurd e h)
theorem d_side {c : CS} {m : MS} {S : St} (hc : RC c S) (hm : RM m S) (x y z : Int32) : ∃ (t : Int32) (v : Int64) (m1 : MS), RM m1 S ∧ m1.1 0 = t ∧ (∀ k : Int64 → MS → Prop, k v m1 → wX4_side m x y z k) ∧ (∀ (kr : Int64 → Prop) (kx : Prop), (t = 0 → kr v) → (t = 1 → kx) → bX3_side_0 c x y z kr kx) := by
  have h100 := hc.1.1.2.1
  have h3 := hc.1.1.1
  have e0 : c.1 0 = nI (S.1 0) := hc.1.2.1
  rcases o_side hc hm x y z with ⟨b, d, e, hb, hd, he, rfl, rfl, rfl, hv, hk⟩ | ⟨hq, hk⟩
  · refine ⟨0, _, _, hm.f0 0, rfl, hk, fun kr kx K _ => ?_⟩
    unfold bX3_side_0
    rw [hasB1 hc.1 hb, if_neg (by decide), if_neg (by rw [Int32.lt_iff_toInt_lt, nI_toInt (by omega)]; show ¬ ((d : Int) < 0); omega), e0, if_neg (by rw [nI_leX (by omega) (by omega)]; omega)]
    have e1 : fX3_isEnd (nI e) = 1 := by
      have : e = 0 ∨ e = 1 := by omega
      rcases this with rfl | rfl
      · exact end_0
      · exact end_1
    rw [e1, if_neg (by decide), c_pl (by omega), nI_ad (by omega), nI_cl (by omega)]
    exact ⟨in_nI (by omega) (by decide), by rw [hv]; exact K rfl⟩
  · refine ⟨1, 0, _, hm.f0 1, rfl, hk, fun kr kx _ K => ?_⟩
    have K := K rfl
    unfold bX3_side_0
    by_cases q1 : vX2_has c x = 0
    · rw [if_pos q1]; exact K
    rw [if_neg q1]
    by_cases q2 : y < 0
    · rw [if_pos q2]; exact K
    rw [if_neg q2]
    by_cases q3 : c.1 0 ≤ y
    · rw [if_pos q3]; exact K
    rw [if_neg q3]
    rcases end_dec z with rfl | rfl | ⟨q4, -⟩
    · exfalso
      rw [Int32.lt_iff_toInt_lt] at q2
      rw [e0, Int32.le_iff_toInt_le, nI_toInt (by omega)] at q3
      have q2 : ¬ (y.toInt < 0) := q2
      have z0 : (nI 0).toInt = 0 := rfl
      rw [z0] at hq
      exact q1 (hasB0 hc.1 (by omega))
    · exfalso
      rw [Int32.lt_iff_toInt_lt] at q2
      rw [e0, Int32.le_iff_toInt_le, nI_toInt (by omega)] at q3
      have q2 : ¬ (y.toInt < 0) := q2
      have z0 : (nI 1).toInt = 1 := rfl
      rw [z0] at hq
      exact q1 (hasB0 hc.1 (by omega))
    · rw [if_pos q4]; exact K
theorem d_share {c : CS} {m : MS} {S : St} (hc : RC c S) (hm : RM m S) (x : Int32) : ∃ (t : Int32) (v : Int32) (m1 : MS), RM m1 S ∧ m1.1 0 = t ∧ (∀ k : Int32 → MS → Prop, k v m1 → wX4_share m x k) ∧ (∀ (kr : Int32 → CS → Prop) (kx : CS → Prop), (t = 0 → kr v c) → (t = 1 → kx c) → bX3_share_0 c x kr kx) := by
  rcases o_share hc hm x with ⟨h1, hk⟩ | ⟨h1, h2, hk⟩ | ⟨p, q, h1, h2, hp, hq, w1, w2, hk0, hk1⟩
  · refine ⟨0, _, _, hm.f0 0, rfl, hk, fun kr kx K _ => ?_⟩
    unfold bX3_share_0
    rw [if_pos h1]; exact K rfl
  · refine ⟨0, _, _, hm.f0 0, rfl, hk, fun kr kx K _ => ?_⟩
    unfold bX3_share_0
    rw [h1, if_neg (by decide), if_pos h2]; exact K rfl
  · by_cases z : q = 0
    · refine ⟨1, _, _, (hm.f0 0).f0 1, rfl, hk0 z, fun kr kx _ K => ?_⟩
      unfold bX3_share_0
      rw [h1, if_neg (by decide), if_neg h2]
      refine w1 _ ?_
      rw [z, if_pos (by rfl)]
      exact K rfl
    · refine ⟨0, _, _, hm.f0 0, rfl, hk1 z, fun kr kx K _ => ?_⟩
      have n := nI_n0 (a := q) (by omega) z
      unfold bX3_share_0
      rw [h1, if_neg (by decide), if_neg h2]
      refine w1 _ ?_
      rw [if_neg n]
      exact w2 _ ⟨n, K rfl⟩
