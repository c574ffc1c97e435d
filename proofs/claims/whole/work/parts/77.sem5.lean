/-! VALUES AT A POINT, on both sides; the model's nodes and what it encloses -/
def three (f x y z : Nat) : Nat := if f = 0 then x else if f = 1 then y else z
def oVal (S : St) (x y z : Nat) (V : Nat → Nat) (i : Nat) : Nat := if S.2 1 i = 0 then tld (three (S.2 2 i) x y z) else if S.2 1 i = 1 then S.2 4 i else oMade (S.2 1 i) (V (S.2 2 i)) (V (S.2 3 i))
def valT (S : St) (x y z : Nat) : Nat → Nat → Nat
  | 0, _ => 0
  | n + 1, j => if j = n then oVal S x y z (valT S x y z n) n else valT S x y z n j
def val (S : St) (x y z i : Nat) : Nat := valT S x y z (i + 1) i
theorem valT_eq (S : St) (x y z : Nat) : ∀ n i, i < n → valT S x y z n i = val S x y z i := by
  intro n
  induction n with
  | zero => intro i h; omega
  | succ n ih =>
    intro i h
    by_cases e : i = n
    · subst e; rfl
    · show (if i = n then _ else valT S x y z n i) = _
      rw [if_neg e]; exact ih i (by omega)
theorem val_eq {S : St} {x y z i : Nat} (h : NdS S i) : val S x y z i = oVal S x y z (val S x y z) i := by
  show (if i = i then oVal S x y z (valT S x y z i) i else _) = _
  rw [if_pos rfl]
  unfold oVal
  by_cases h0 : S.2 1 i = 0
  · rw [if_pos h0, if_pos h0]
  · rw [if_neg h0, if_neg h0]
    by_cases h1 : S.2 1 i = 1
    · rw [if_pos h1, if_pos h1]
    · rw [if_neg h1, if_neg h1, valT_eq S x y z i _ (h.2.2.2.2.1 (by omega))]
      by_cases h8 : 8 ≤ S.2 1 i
      · exact oMade_un h8
      · rw [valT_eq S x y z i (S.2 3 i) (h.2.2.2.2.2.1 (by omega))]
theorem three_lt {f x y z : Nat} (hx : x < 2 ^ 64) (hy : y < 2 ^ 64) (hz : z < 2 ^ 64) : three f x y z < 2 ^ 64 := by
  unfold three; split
  · exact hx
  · split
    · exact hy
    · exact hz
theorem val_cn {S : St} {x y z n : Nat} (hn : ∀ i, i < n → NdS S i) (hx : x < 2 ^ 64) (hy : y < 2 ^ 64) (hz : z < 2 ^ 64) : ∀ i, i < n → Cn (val S x y z i) := by
  intro i
  induction i using Nat.strongRecOn with
  | ind i ih =>
    intro hi
    have h := hn i hi
    rw [val_eq h]
    unfold oVal
    by_cases h0 : S.2 1 i = 0
    · rw [if_pos h0]; exact Cn_tld (three_lt hx hy hz)
    · rw [if_neg h0]
      by_cases h1 : S.2 1 i = 1
      · rw [if_pos h1]; exact h.2.2.2.2.2.2
      · rw [if_neg h1]
        have hk : 2 ≤ S.2 1 i ∧ S.2 1 i ≤ 16 := ⟨by omega, h.1⟩
        have ha := h.2.2.2.2.1 hk.1
        by_cases h8 : 8 ≤ S.2 1 i
        · rw [oMade_un h8 (w := 0)]
          exact oMade_cn hk (ih _ ha (by omega)) (Cn_of (by decide) (by decide))
        · have hb := h.2.2.2.2.2.1 (by omega)
          exact oMade_cn hk (ih _ ha (by omega)) (ih _ hb (by omega))
theorem c_three {f x y z : Nat} (hf : f < 1000) : fX1_ofThree (nI f) (lN x) (lN y) (lN z) = lN (three f x y z) := by
  unfold fX1_ofThree three
  by_cases h0 : f = 0
  · subst h0; rw [if_pos (show nI 0 = 0 from rfl), if_pos rfl]
  · rw [if_neg h0, if_neg (nI_n0 (a := f) (by omega) h0)]
    by_cases h1 : f = 1
    · subst h1; rw [if_pos (show nI 1 = 1 from rfl), if_pos rfl]
    · rw [if_neg h1, if_neg (nI_n1 (a := f) (by omega) h1)]
theorem c_vloop {c : CS} {S : St} (h : NodC c S) {x y z : Nat} (hx : x < 2 ^ 64) (hy : y < 2 ^ 64) (hz : z < 2 ^ 64) {l : Int32} (hc : Clo S l (S.1 1)) (v : Nat → Int64) : ∀ n, n ≤ S.1 1 →
    ∀ i, i < n → bt l i = true → vLoop c (lN x) (lN y) (lN z) l n v i = lN (val S x y z i) := by
  intro n
  induction n with
  | zero => intro _ i hi; omega
  | succ n ih =>
    intro hn
    have ih := ih (by omega)
    obtain ⟨h1, h2, h3⟩ := h
    obtain ⟨nd, e6, e7, e8, e9⟩ := h3 n (by omega)
    show ∀ i, i < n + 1 → bt l i = true → vStep c (lN x) (lN y) (lN z) l n (vLoop c (lN x) (lN y) (lN z) l n v) i = _
    generalize vLoop c (lN x) (lN y) (lN z) l n v = d at *
    have E : ∃ d', vStep c (lN x) (lN y) (lN z) l n d = d' ∧ (bt l n = true → d' = vp_updL d n (lN (val S x y z n))) ∧ (bt l n = false → d' = d) := by
      refine ⟨_, rfl, fun q => ?_, fun q => ?_⟩
      · unfold vStep
        rw [if_neg (fun z => by rw [(bitOf_bt (by omega)).mp z] at q; exact Bool.noConfusion q), e6, e7, e8, e9, val_eq nd]
        unfold oVal
        by_cases k0 : S.2 1 n = 0
        · rw [if_pos k0, k0, if_pos (show nI 0 = 0 from rfl), c_three (by have := nd.2.1; omega), c_told (three_lt hx hy hz)]
        · rw [if_neg k0, if_neg (nI_n0 (a := S.2 1 n) (by have := nd.1; omega) k0)]
          by_cases k1 : S.2 1 n = 1
          · rw [if_pos k1, k1, if_pos (show nI 1 = 1 from rfl)]
          · rw [if_neg k1, if_neg (nI_n1 (a := S.2 1 n) (by have := nd.1; omega) k1)]
            have hk : 2 ≤ S.2 1 n ∧ S.2 1 n ≤ 16 := ⟨by omega, nd.1⟩
            have hfa := nd.2.2.2.2.1 hk.1
            obtain ⟨c1, c2⟩ := hc n (by omega) q hk.1
            have hf32 := nd.2.1
            have hs32 := nd.2.2.1
            rw [nI_cl (by omega), nI_cl (by omega), ih _ hfa c1]
            have cv := fun i hi => val_cn (S := S) (x := x) (y := y) (z := z) (fun i hi => (h3 i hi).1) hx hy hz i hi
            by_cases k8 : 8 ≤ S.2 1 n
            · obtain ⟨u, hu, eu⟩ := any_lN (d (S.2 3 n))
              rw [eu, oMade_un k8 (v := val S x y z (S.2 3 n)) (w := u), c_made hk (cv _ (by omega)).1 hu]
            · have hfb := nd.2.2.2.2.2.1 (by omega)
              rw [ih _ hfb (c2 (by omega)), c_made hk (cv _ (by omega)).1 (cv _ (by omega)).1]
      · unfold vStep
        rw [if_pos ((bitOf_bt (by omega)).mpr q)]
    obtain ⟨d', hd', E1, E2⟩ := E
    rw [hd']
    intro i hi q
    by_cases e : i = n
    · subst e
      rw [E1 q]; exact if_pos rfl
    · have r := ih i (by omega) q
      by_cases bn : bt l n = true
      · rw [E1 bn]; exact (if_neg e).trans r
      · rw [E2 (by simpa using bn)]; exact r
theorem c_value {c : CS} {S : St} (h : NodC c S) {x y z j : Nat} (hx : x < 2 ^ 64) (hy : y < 2 ^ 64) (hz : z < 2 ^ 64) (hj : j < S.1 1) {k : Int64 → CS → Prop} (K : ∀ f, k (lN (val S x y z j)) (setL c 10 f)) : wX0_valueAt c (nI j) (lN x) (lN y) (lN z) k := by
  have h32 := h.2.1
  obtain ⟨w1, w2, w3⟩ := wp_loop h (S.1 1) ((1 : Int32) <<< (nI j &&& 31)) (Nat.le_refl _)
  refine ⟨S.1 1, j, nd_ok h, hj, rfl, ?_⟩
  have e : vRow c j (S.1 1) (lN x) (lN y) (lN z) j = lN (val S x y z j) := by
    unfold vRow
    exact c_vloop h hx hy hz w3 _ (j + 1) (by omega) j (by omega) (w1 j (by omega) (by rw [bt_one (by omega) (by omega)]; simp))
  rw [e]; exact K _
/-! the model -/
def NodM (m : MS) (S : St) : Prop := m.1 2 = nI (S.1 1) ∧ S.1 1 ≤ 32 ∧ ∀ i, i < S.1 1 → NdS S i ∧ m.2.1 23 i = nI (S.2 1 i) ∧ (S.2 1 i ≠ 1 → m.2.1 24 i = nI (S.2 2 i)) ∧ (2 ≤ S.2 1 i ∧ S.2 1 i ≤ 7 → m.2.1 25 i = nI (S.2 3 i)) ∧ m.2.2 26 i = dN (S.2 4 i)
def Fm (m m' : MS) : Prop := m'.1 = m.1 ∧ m'.2.1 = m.2.1 ∧ ∀ j, j < 33 → m'.2.2 j = m.2.2 j
theorem Fm.refl (m : MS) : Fm m m := ⟨rfl, rfl, fun _ _ => rfl⟩
theorem Fm.trans {a b c : MS} (h : Fm a b) (g : Fm b c) : Fm a c := ⟨g.1.trans h.1, g.2.1.trans h.2.1, fun j hj => (g.2.2 j hj).trans (h.2.2 j hj)⟩
theorem Fm.nod {m m' : MS} {S : St} (f : Fm m m') (h : NodM m S) : NodM m' S := by
  unfold NodM; rw [f.1, f.2.1, f.2.2 26 (by decide)]; exact h
theorem fm_set (m : MS) (i : Nat) (p : Nat × Nat) : Fm m (mset m i p) := by
  refine ⟨rfl, rfl, fun j hj => ?_⟩
  show (if j = 35 then _ else if j = 34 then _ else m.2.2 j) = _
  rw [if_neg (by omega), if_neg (by omega)]
theorem fm_33 (m : MS) (f : Nat → UInt64) : Fm m (msetL m 33 f) := by
  refine ⟨rfl, rfl, fun j hj => ?_⟩
  show (if j = 33 then _ else m.2.2 j) = _
  rw [if_neg (by omega)]
def SidM (m : MS) (S : St) (b : Nat) : Prop := ∀ d, d < S.1 0 → m.2.2 28 (3 * b + d) = dN (S.2 6 (6 * b + 2 * d)) ∧ m.2.2 29 (3 * b + d) = dN (S.2 6 (6 * b + 2 * d + 1))
theorem Fm.sid {m m' : MS} {S : St} {b : Nat} (f : Fm m m') (h : SidM m S b) : SidM m' S b := by
  unfold SidM; rw [f.2.2 28 (by decide), f.2.2 29 (by decide)]; exact h
theorem nI_3a {b d : Nat} (h : 3 * b + d < 1000) : (3 : Int32) * nI b + nI d = nI (3 * b + d) := by
  apply i_nI (by omega)
  have hb := nI_toInt (n := b) (by omega)
  have hd := nI_toInt (n := d) (by omega)
  have e : ((3 : Int32) * nI b).toInt = 3 * b := by
    rw [i_mul, hb]
    · rfl
    · rw [hb, show (3 : Int32).toInt = 3 from rfl]; omega
  rw [i_add, e, hd]
  · omega
  · rw [e, hd]; omega
theorem mset_4 (c : MS) (i : Nat) (p : Nat × Nat) : (mset c i p).2.2 34 i = dN p.1 := by show vf_upd (c.2.2 34) i (dN p.1) i = _; unfold vf_upd; exact if_pos rfl
theorem mset_5 (c : MS) (i : Nat) (p : Nat × Nat) : (mset c i p).2.2 35 i = dN p.2 := by show vf_upd (c.2.2 35) i (dN p.2) i = _; unfold vf_upd; exact if_pos rfl
theorem mset_ne (c : MS) {i j : Nat} (p : Nat × Nat) (h : j ≠ i) : (mset c i p).2.2 34 j = c.2.2 34 j ∧ (mset c i p).2.2 35 j = c.2.2 35 j :=
  ⟨by show vf_upd (c.2.2 34) i (dN p.1) j = _; unfold vf_upd; exact if_neg h, by show vf_upd (c.2.2 35) i (dN p.2) j = _; unfold vf_upd; exact if_neg h⟩
theorem m_node {m : MS} {S : St} (h : NodM m S) {b n : Nat} (hb : b < 100) (hd : S.1 0 ≤ 3) (hs : SidM m S b) (hS : SdS S b) (hn : n < S.1 1)
    (I : ∀ i, i < n → m.2.2 34 i = dN (enc S b i).1 ∧ m.2.2 35 i = dN (enc S b i).2) {kr : MS → Prop} (K : kr (mset m n (enc S b n))) : wX4_enclose m (nI n) (nI b) kr := by
  obtain ⟨h1, h2, h3⟩ := h
  obtain ⟨nd, e6, e7, e8, e9⟩ := h3 n hn
  have hin := in_nI (show n < 32 by omega) (by decide)
  rw [enc_eq nd] at K
  unfold oNode at K
  by_cases k0 : S.2 1 n = 0
  · rw [if_pos k0] at K
    have hfd := nd.2.2.2.1 k0
    unfold wX4_enclose bX4_enclose_0
    rw [nI_cl (by omega), e6, e7 (by omega), nI_3a (by omega), nI_cl (by omega), (hs _ hfd).1, (hs _ hfd).2]
    have hin2 := in_nI (show 3 * b + S.2 2 n < 300 by omega) (by decide)
    refine ⟨hin, ifp (by rw [k0]; rfl) ⟨hin, hin2, hin, hin2, m_put m (by omega) (hS _ (by omega)).1 ?_ K⟩⟩
    rw [Nat.add_assoc]; exact (hS _ (by omega)).1
  · rw [if_neg k0] at K
    by_cases k1 : S.2 1 n = 1
    · rw [if_pos k1] at K
      unfold wX4_enclose bX4_enclose_0
      rw [nI_cl (by omega), e6, e9]
      exact ⟨hin, ifn (nI_n0 (a := S.2 1 n) (by omega) k0) (ifp (by rw [k1]; rfl) ⟨hin, hin, m_put m (by omega) nd.2.2.2.2.2.2.1 nd.2.2.2.2.2.2.1 K⟩)⟩
    · rw [if_neg k1] at K
      have hk : 2 ≤ S.2 1 n ∧ S.2 1 n ≤ 16 := ⟨by omega, nd.1⟩
      have hfa := nd.2.2.2.2.1 hk.1
      obtain ⟨a1, a2⟩ := I _ hfa
      have ev := fun i hi => enc_ev (b := b) (n := S.1 1) (fun i hi => (h3 i hi).1) hS i hi
      by_cases k8 : 8 ≤ S.2 1 n
      · rw [oEnc_un k8 (bl' := 0) (bh' := 0)] at K
        exact m_enc m (by omega) hk e6 (e7 k1) (fb := 0) (fun q => by omega) (by omega) (by omega) a1 a2 (fun q => by omega) (fun q => by omega) (ev _ (by omega)) ⟨⟨by decide, by decide⟩, ⟨by decide, by decide⟩⟩ K
      · have hfb := nd.2.2.2.2.2.1 (by omega)
        obtain ⟨b1, b2⟩ := I _ hfb
        exact m_enc m (by omega) hk e6 (e7 k1) (fun _ => e8 (by omega)) (by omega) (by omega) a1 a2 (fun _ => b1) (fun _ => b2) (ev _ (by omega)) (ev _ (by omega)) K
theorem nI_leX {a b : Nat} (ha : a < 1000) (hb : b < 1000) : nI a ≤ nI b ↔ a ≤ b := nI_le' (by omega) (by omega)
theorem nI_ltX {a b : Nat} (ha : a < 1000) (hb : b < 1000) : nI a < nI b ↔ a < b := nI_lt' (by omega) (by omega)
/-- the model encloses: all nodes up to one are right, and nothing else is touched -/
theorem m_encloseTo {m : MS} {S : St} (h : NodM m S) {b n : Nat} (hb : b < 100) (hd : S.1 0 ≤ 3) (hs : SidM m S b) (hS : SdS S b) (hn : n < S.1 1) {kr : MS → Prop}
    (K : ∀ d, Fm m d → d.2.2 34 n = dN (enc S b n).1 → d.2.2 35 n = dN (enc S b n).2 → kr d) : wX4_encloseTo m (nI n) (nI b) kr := by
  unfold wX4_encloseTo bX4_encloseTo_0
  refine ⟨n + 2, ?_⟩
  have h32 := h.2.1
  have loop : ∀ (j k : Nat) (d : MS), j + k = n + 1 → Fm m d → (∀ i, i < k → d.2.2 34 i = dN (enc S b i).1 ∧ d.2.2 35 i = dN (enc S b i).2) → itX4_encloseTo_2 kr (j + 1) (nI n) (nI b) (nI k) d := by
    intro j
    induction j with
    | zero =>
      intro k d e f I
      show bX4_encloseTo_2 d (nI n) (nI b) (nI k) kr _
      unfold bX4_encloseTo_2
      refine ifp ((nI_ltX (by omega) (by omega)).mpr (by omega)) (K d f (I n (by omega)).1 (I n (by omega)).2)
    | succ j ih =>
      intro k d e f I
      show bX4_encloseTo_2 d (nI n) (nI b) (nI k) kr (fun z1 z2 z3 X => itX4_encloseTo_2 kr (j + 1) z1 z2 z3 X)
      unfold bX4_encloseTo_2
      refine ifn (fun q => by rw [nI_ltX (by omega) (by omega)] at q; omega) (m_node (f.nod h) hb hd (f.sid hs) hS (by omega) I ?_)
      rw [nI_s (by omega)]
      refine ih (k + 1) _ (by omega) (f.trans (fm_set _ _ _)) (fun i hi => ?_)
      by_cases e : i = k
      · subst e; exact ⟨mset_4 _ _ _, mset_5 _ _ _⟩
      · rw [(mset_ne d _ e).1, (mset_ne d _ e).2]; exact I i (by omega)
  exact loop (n + 1) 0 m rfl (Fm.refl m) (fun i hi => by omega)
theorem m_valueAt {m : MS} {S : St} (h : NodM m S) {x y z n : Nat} (hx : x < 2 ^ 64) (hy : y < 2 ^ 64) (hz : z < 2 ^ 64) (hn : n < S.1 1) {kr : UInt64 → MS → Prop}
    (K : ∀ d, Fm m d → kr (dN (val S x y z n)) d) : wX4_valueAt m (nI n) (dN (tld x)) (dN (tld y)) (dN (tld z)) kr := by
  unfold wX4_valueAt bX4_valueAt_0
  refine ⟨n + 2, ?_⟩
  have h32 := h.2.1
  have u33 : ∀ (d : MS) (k i : Nat) (u : UInt64), (msetL d 33 (vf_upd (d.2.2 33) k u)).2.2 33 i = if i = k then u else d.2.2 33 i := fun d k i u => rfl
  have loop : ∀ (j k : Nat) (d : MS), j + k = n + 1 → Fm m d → (∀ i, i < k → d.2.2 33 i = dN (val S x y z i)) → itX4_valueAt_3 kr (j + 1) (nI n) (dN (tld x)) (dN (tld y)) (dN (tld z)) (nI k) d := by
    intro j
    induction j with
    | zero =>
      intro k d e f I
      show bX4_valueAt_3 d (nI n) _ _ _ (nI k) kr _
      unfold bX4_valueAt_3
      rw [nI_cl (by omega), I n (by omega)]
      exact ifp ((nI_ltX (by omega) (by omega)).mpr (by omega)) ⟨in_nI (by omega) (by decide), K d f⟩
    | succ j ih =>
      intro k d e f I
      have nx : itX4_valueAt_3 kr (j + 1) (nI n) (dN (tld x)) (dN (tld y)) (dN (tld z)) (nI (k + 1)) (msetL d 33 (vf_upd (d.2.2 33) k (dN (val S x y z k)))) := by
        refine ih (k + 1) _ (by omega) (f.trans (fm_33 _ _)) (fun i hi => ?_)
        rw [u33]
        by_cases e : i = k
        · rw [if_pos e, e]
        · rw [if_neg e]; exact I i (by omega)
      have hin := in_nI (show k < 32 by omega) (by decide)
      obtain ⟨-, -, h3⟩ := f.nod h
      obtain ⟨nd, e6, e7, e8, e9⟩ := h3 k (by omega)
      show bX4_valueAt_3 d (nI n) (dN (tld x)) (dN (tld y)) (dN (tld z)) (nI k) kr (fun z1 z2 z4 z6 z8 X => itX4_valueAt_3 kr (j + 1) z1 z2 z4 z6 z8 X)
      unfold bX4_valueAt_3
      rw [val_eq nd] at nx
      unfold oVal at nx
      rw [nI_cl (i := k) (by omega), nI_s (by omega), e6, e9]
      refine ifn (fun q => by rw [nI_ltX (by omega) (by omega)] at q; omega) ⟨hin, ?_⟩
      by_cases k0 : S.2 1 k = 0
      · rw [if_pos k0] at nx
        have hf := nd.2.1
        refine ifp (by rw [k0]; rfl) ⟨hin, ?_⟩
        rw [e7 (by omega)]
        unfold three at nx
        by_cases f0 : S.2 2 k = 0
        · rw [if_pos f0] at nx
          exact ifp (by rw [f0]; rfl) ⟨hin, nx⟩
        · rw [if_neg f0] at nx
          refine ifn (nI_n0 (a := S.2 2 k) (by omega) f0) ⟨hin, ?_⟩
          by_cases f1 : S.2 2 k = 1
          · rw [if_pos f1] at nx
            exact ifp (by rw [f1]; rfl) ⟨hin, nx⟩
          · rw [if_neg f1] at nx
            exact ifn (nI_n1 (a := S.2 2 k) (by omega) f1) ⟨hin, nx⟩
      · rw [if_neg k0] at nx
        have hk16 := nd.1
        refine ifn (nI_n0 (a := S.2 1 k) (by omega) k0) ⟨hin, ?_⟩
        by_cases k1 : S.2 1 k = 1
        · rw [if_pos k1] at nx
          exact ifp (by rw [k1]; rfl) ⟨hin, hin, nx⟩
        · rw [if_neg k1] at nx
          have hk : 2 ≤ S.2 1 k ∧ S.2 1 k ≤ 16 := ⟨by omega, nd.1⟩
          have hfa := nd.2.2.2.2.1 hk.1
          have cv := fun i hi => val_cn (S := S) (x := x) (y := y) (z := z) (fun i hi => (h3 i hi).1) hx hy hz i hi
          rw [e7 k1, nI_cl (i := S.2 2 k) (by omega), I _ hfa]
          refine ifn (nI_n1 (a := S.2 1 k) (by omega) k1) ⟨hin, hin, in_nI (by omega) (by decide), hin, m_two hk16 ?_⟩
          by_cases k7 : S.2 1 k ≤ 7
          · rw [if_pos (show 2 ≤ S.2 1 k ∧ S.2 1 k ≤ 7 from ⟨hk.1, k7⟩)]
            have hfb := nd.2.2.2.2.2.1 ⟨hk.1, k7⟩
            rw [e8 ⟨hk.1, k7⟩, nI_cl (i := S.2 3 k) (by omega), I _ hfb]
            exact ifn (by decide) ⟨hin, in_nI (by omega) (by decide), m_made hk (cv _ (by omega)) (cv _ (by omega)) ⟨hin, nx⟩⟩
          · rw [if_neg (show ¬ (2 ≤ S.2 1 k ∧ S.2 1 k ≤ 7) from fun q => k7 q.2)]
            rw [oMade_un (by omega) (w := 0)] at nx
            rw [d0]
            exact ifp rfl (m_made hk (cv _ (by omega)) (v := 0) (Cn_of (by decide) (by decide)) ⟨hin, nx⟩)
  exact loop (n + 1) 0 m rfl (Fm.refl m) (fun i hi => by omega)
