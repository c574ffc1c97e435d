/-! THE TWO RELATIONS -/
def WF0 (S : St) : Prop := S.1 0 ≤ 3 ∧ S.1 2 ≤ 100 ∧ ∀ d, d < S.1 0 → fin (S.2 0 (2 * d)) ∧ fin (S.2 0 (2 * d + 1)) ∧ rk (S.2 0 (2 * d)) < rk (S.2 0 (2 * d + 1))
def BaC (c : CS) (S : St) : Prop := WF0 S ∧ c.1 0 = nI (S.1 0) ∧ c.1 3 = nI (S.1 2) ∧ NodC c S ∧ RolC c S ∧ ∀ j, j < 2 * S.1 0 → c.2.2 1 j = lN (S.2 0 j)
def RnC (c : CS) (S : St) (P : Nat → Prop) : Prop := 0 < S.1 0 ∧ c.1 4 = nI (S.1 0) ∧ NedC (c.1 1) S ∧ ∀ b, b < S.1 2 → (SidC c S b ∧ SdS S b ∧ SdO S b) ∧ (P b → BoxC c S b ∧ BoxS S b)
def RC (c : CS) (S : St) : Prop := BaC c S ∧ (0 < S.1 2 → RnC c S (fun _ => True))
def BaM (m : MS) (S : St) : Prop := WF0 S ∧ m.1 1 = nI (S.1 0) ∧ m.1 4 = nI (S.1 2) ∧ NodM m S ∧ RolM m S ∧ ∀ d, d < S.1 0 → m.2.2 21 d = dN (S.2 0 (2 * d)) ∧ m.2.2 22 d = dN (S.2 0 (2 * d + 1))
def RnM (m : MS) (S : St) (P : Nat → Prop) : Prop := 0 < S.1 0 ∧ ∀ b, b < S.1 2 → (SidM m S b ∧ SdS S b ∧ SdO S b) ∧ (P b → BoxM m S b ∧ BoxS S b)
def RM (m : MS) (S : St) : Prop := BaM m S ∧ m.1 3 = (if S.1 2 = 0 then 0 else 1) ∧ m.1 5 = nI (S.1 2 - 1) ∧ (0 < S.1 2 → RnM m S (fun _ => True))
/-! only the sides of a box say where it would be cut -/
theorem wdt_cg {S T : St} {b d : Nat} (h : ∀ j, j < 6 → T.2 6 (6 * b + j) = S.2 6 (6 * b + j)) (hd : d < 3) : wdt T b d = wdt S b d := by
  unfold wdt
  rw [Nat.add_assoc, h _ (by omega), h _ (by omega)]
theorem widT_cg {S T : St} {b : Nat} (h : ∀ j, j < 6 → T.2 6 (6 * b + j) = S.2 6 (6 * b + j)) : ∀ n, n ≤ 3 → widT T b n = widT S b n
  | 0 => fun _ => rfl
  | n + 1 => fun hn => by
    have ih := widT_cg h n (by omega)
    have l := widT_lt S b n
    show (if bLt (wdt T b (widT T b n)) (wdt T b n) then n else widT T b n) = if bLt (wdt S b (widT S b n)) (wdt S b n) then n else widT S b n
    rw [ih, wdt_cg h (by omega), wdt_cg h (by omega)]
theorem wid_cg {S T : St} {b : Nat} (h0 : T.1 0 = S.1 0) (h3 : S.1 0 ≤ 3) (h : ∀ j, j < 6 → T.2 6 (6 * b + j) = S.2 6 (6 * b + j)) : wid T b = wid S b := by
  unfold wid; rw [h0]; exact widT_cg h _ h3
theorem mid_cg {S T : St} {b : Nat} (h0 : T.1 0 = S.1 0) (h3 : S.1 0 ≤ 3) (hp : 0 < S.1 0) (h : ∀ j, j < 6 → T.2 6 (6 * b + j) = S.2 6 (6 * b + j)) : mid T b = mid S b := by
  unfold mid
  have l := wid_lt (b := b) hp
  rw [wid_cg h0 h3 h, wdt_cg h (by omega), h _ (by omega)]
theorem tgt_cg {S T : St} {b : Nat} (h0 : T.1 0 = S.1 0) (h3 : S.1 0 ≤ 3) (hp : 0 < S.1 0) (h : ∀ j, j < 6 → T.2 6 (6 * b + j) = S.2 6 (6 * b + j)) : tgt T b ↔ tgt S b := by
  unfold tgt
  have l := wid_lt (b := b) hp
  rw [wid_cg h0 h3 h, mid_cg h0 h3 hp h, Nat.add_assoc, h _ (by omega), h _ (by omega)]
theorem jg_6 (S : St) (b : Nat) : (judge S b).2 6 = S.2 6 := rfl
theorem jg_wid (S : St) (b x : Nat) (h3 : S.1 0 ≤ 3) : wid (judge S b) x = wid S x := wid_cg rfl h3 (fun _ _ => rfl)
theorem jg_mid (S : St) (b x : Nat) (h3 : S.1 0 ≤ 3) (hp : 0 < S.1 0) : mid (judge S b) x = mid S x := mid_cg rfl h3 hp (fun _ _ => rfl)
theorem jg_tgt (S : St) (b x : Nat) (h3 : S.1 0 ≤ 3) (hp : 0 < S.1 0) : tgt (judge S b) x ↔ tgt S x := tgt_cg rfl h3 hp (fun _ _ => rfl)
theorem jg_7 (S : St) (b : Nat) : (judge S b).2 7 = uN (S.2 7) b (kindOf S b) := rfl
theorem jg_8 (S : St) (b : Nat) : (judge S b).2 8 = uN (S.2 8) b (wT S b (S.1 0)).1 := rfl
theorem jg_9 (S : St) (b : Nat) : (judge S b).2 9 = uN (S.2 9) b (wT S b (S.1 0)).2 := rfl
theorem uN_s (f : Nat → Nat) (k x : Nat) : uN f k x k = x := by unfold uN; exact if_pos rfl
theorem uN_n (f : Nat → Nat) {k j : Nat} (x : Nat) (h : j ≠ k) : uN f k x j = f j := by unfold uN; exact if_neg h
theorem kind_le (S : St) (b : Nat) : kindOf S b ≤ 3 := by
  unfold kindOf
  repeat' split
  all_goals decide
theorem jg_box {S : St} {b : Nat} (hn : ∀ i, i < S.1 1 → NdS S i) (hr : ∀ r, r < 5 → S.2 5 r ≤ S.1 1) (h3 : S.1 0 ≤ 3) (hS : SdS S b) (hO : SdO S b) : BoxS (judge S b) b := by
  have w := wT_WN hn hr h3 hS (S.1 0) (Nat.le_refl _)
  refine ⟨hS, hO, ?_, ?_, ?_⟩
  · rw [jg_7, uN_s]; exact kind_le S b
  · rw [jg_8, uN_s]; exact w.1
  · rw [jg_9, uN_s]; exact w.2
theorem jg_box_n {S : St} {b x : Nat} (h : x ≠ b) (hB : BoxS S x) : BoxS (judge S b) x := by
  refine ⟨hB.1, hB.2.1, ?_, ?_, ?_⟩
  · rw [jg_7, uN_n _ _ h]; exact hB.2.2.1
  · rw [jg_8, uN_n _ _ h]; exact hB.2.2.2.1
  · rw [jg_9, uN_n _ _ h]; exact hB.2.2.2.2
theorem g_settle {c : CS} {S : St} {P : Nat → Prop} (hB : BaC c S) (hR : RnC c S P) {b : Nat} (hb : b < S.1 2) {kr : CS → Prop}
    (K : ∀ d, BaC d (judge S b) → RnC d (judge S b) (fun x => P x ∨ x = b) → kr d) : wX3_settle c (nI b) kr := by
  obtain ⟨⟨w3, w100, wsp⟩, e0, e3, hN, hro, hsp⟩ := hB
  obtain ⟨p0, e4, hned, hbx⟩ := hR
  obtain ⟨⟨s1, s2, s3⟩, -⟩ := hbx b hb
  refine c_settle hN hro hned (by omega) p0 w3 e0 e4 s1 s2 s3 (fun d f k15 k13 k14 k17 k18 k19 => K d ?_ ?_)
  · refine ⟨⟨w3, w100, wsp⟩, by rw [f.1]; exact e0, by rw [f.1]; exact e3, f.nod hN, f.rol hro, ?_⟩
    rw [f.2.2.1 1 (by decide) (by decide) (by decide) (by decide) (by decide) (by decide)]; exact hsp
  · refine ⟨p0, by rw [f.1]; exact e4, by rw [f.1]; exact hned, fun x hx => ⟨?_, fun hp => ?_⟩⟩
    · obtain ⟨⟨t1, t2, t3⟩, -⟩ := hbx x hx
      exact ⟨f.sid t1, t2, t3⟩
    · by_cases e : x = b
      · subst e
        refine ⟨⟨f.sid s1, ?_, ?_, ?_, ?_, ?_, ?_⟩, jg_box (fun i hi => (hN.2.2 i hi).1) (fun r hr => (hro r hr).2) w3 s2 s3⟩
        · rw [jg_7, uN_s]; exact k15
        · rw [jg_8, uN_s]; exact k13
        · rw [jg_9, uN_s]; exact k14
        · rw [jg_wid S x x w3]; exact k17
        · rw [jg_mid S x x w3 p0]; exact k18
        · rw [if_iff (jg_tgt S x x w3 p0)]; exact k19
      · obtain ⟨⟨a1, a2, a3, a4, a5, a6, a7⟩, hS⟩ := (hbx x hx).2 (hp.resolve_right e)
        obtain ⟨b1, b2, b3, b4, b5, b6⟩ := f.2.2.2 x e
        refine ⟨⟨f.sid a1, ?_, ?_, ?_, ?_, ?_, ?_⟩, jg_box_n e hS⟩
        · rw [jg_7, uN_n _ _ e, b1]; exact a2
        · rw [jg_8, uN_n _ _ e, b4]; exact a3
        · rw [jg_9, uN_n _ _ e, b5]; exact a4
        · rw [jg_wid S b x w3, b2]; exact a5
        · rw [jg_mid S b x w3 p0, b6]; exact a6
        · rw [if_iff (jg_tgt S b x w3 p0), b3]; exact a7
theorem g_judge {m : MS} {S : St} {P : Nat → Prop} (hB : BaM m S) (hR : RnM m S P) {b : Nat} (hb : b < S.1 2) {kr : MS → Prop}
    (K : ∀ d, d.1 = m.1 → BaM d (judge S b) → RnM d (judge S b) (fun x => P x ∨ x = b) → kr d) : wX4_judge m (nI b) kr := by
  obtain ⟨⟨w3, w100, wsp⟩, e1, e4, hN, hro, hsp⟩ := hB
  obtain ⟨p0, hbx⟩ := hR
  obtain ⟨⟨s1, s2, s3⟩, -⟩ := hbx b hb
  refine m_judge hN hro (by omega) w3 e1 s1 s2 (fun d f k30 k31 k32 => K d f.1 ?_ ?_)
  · refine ⟨⟨w3, w100, wsp⟩, by rw [f.1]; exact e1, by rw [f.1]; exact e4, f.nod hN, f.rol hro, ?_⟩
    rw [f.2.2.1 21 (by decide), f.2.2.1 22 (by decide)]; exact hsp
  · refine ⟨p0, fun x hx => ⟨?_, fun hp => ?_⟩⟩
    · obtain ⟨⟨t1, t2, t3⟩, -⟩ := hbx x hx
      exact ⟨f.sid t1, t2, t3⟩
    · by_cases e : x = b
      · subst e
        refine ⟨⟨f.sid s1, ?_, ?_, ?_⟩, jg_box (fun i hi => (hN.2.2 i hi).1) (fun r hr => (hro r hr).2) w3 s2 s3⟩
        · rw [jg_7, uN_s]; exact k30
        · rw [jg_8, uN_s]; exact k31
        · rw [jg_9, uN_s]; exact k32
      · obtain ⟨⟨a1, a2, a3, a4⟩, hS⟩ := (hbx x hx).2 (hp.resolve_right e)
        obtain ⟨b1, b2, b3⟩ := f.2.2.2 x e
        refine ⟨⟨f.sid a1, ?_, ?_, ?_⟩, jg_box_n e hS⟩
        · rw [jg_7, uN_n _ _ e, b1]; exact a2
        · rw [jg_8, uN_n _ _ e, b2]; exact a3
        · rw [jg_9, uN_n _ _ e, b3]; exact a4
