/-! THE STATE THAT BOTH SIDES SHOW. Numbers: 0 draws, 1 nodes, 2 boxes; rows: 0 spans, 1 kinds, 2 firsts, 3 seconds, 4 numbers, 5 roles (0 none, else the node and one more), 6 sides, 7 box kinds, 8 and 9 weights -/
abbrev St : Type := (Nat → Nat) × (Nat → Nat → Nat)
def oNode (S : St) (b : Nat) (E : Nat → Nat × Nat) (i : Nat) : Nat × Nat :=
  if S.2 1 i = 0 then oPut (S.2 6 (6 * b + 2 * S.2 2 i)) (S.2 6 (6 * b + 2 * S.2 2 i + 1)) else if S.2 1 i = 1 then oPut (S.2 4 i) (S.2 4 i) else oEnc (S.2 1 i) (E (S.2 2 i)).1 (E (S.2 2 i)).2 (E (S.2 3 i)).1 (E (S.2 3 i)).2
def encT (S : St) (b : Nat) : Nat → Nat → Nat × Nat
  | 0, _ => (0, 0)
  | n + 1, j => if j = n then oNode S b (encT S b n) n else encT S b n j
def enc (S : St) (b i : Nat) : Nat × Nat := encT S b (i + 1) i
theorem encT_eq (S : St) (b : Nat) : ∀ n i, i < n → encT S b n i = enc S b i := by
  intro n
  induction n with
  | zero => intro i h; omega
  | succ n ih =>
    intro i h
    by_cases e : i = n
    · subst e; rfl
    · show (if i = n then _ else encT S b n i) = _
      rw [if_neg e]; exact ih i (by omega)
def NdS (S : St) (i : Nat) : Prop := S.2 1 i ≤ 16 ∧ S.2 2 i < 32 ∧ S.2 3 i < 32 ∧ (S.2 1 i = 0 → S.2 2 i < S.1 0) ∧ (2 ≤ S.2 1 i → S.2 2 i < i) ∧ (2 ≤ S.2 1 i ∧ S.2 1 i ≤ 7 → S.2 3 i < i) ∧ Cn (S.2 4 i)
theorem enc_eq {S : St} {b i : Nat} (h : NdS S i) : enc S b i = oNode S b (enc S b) i := by
  show (if i = i then oNode S b (encT S b i) i else _) = _
  rw [if_pos rfl]
  unfold oNode
  by_cases h0 : S.2 1 i = 0
  · rw [if_pos h0, if_pos h0]
  · rw [if_neg h0, if_neg h0]
    by_cases h1 : S.2 1 i = 1
    · rw [if_pos h1, if_pos h1]
    · rw [if_neg h1, if_neg h1, encT_eq S b i _ (h.2.2.2.2.1 (by omega))]
      by_cases h8 : 8 ≤ S.2 1 i
      · exact oEnc_un h8
      · rw [encT_eq S b i (S.2 3 i) (h.2.2.2.2.2.1 (by omega))]
def fin (u : Nat) : Prop := u < 2 ^ 64 ∧ u % 2 ^ 63 < 9218868437227405312
def WO (u : Nat) : Prop := u ≤ 2 ^ 63 ∧ ¬ isN u
theorem fin_n {u : Nat} (h : fin u) : ¬ isN u := by have := h.2; omega
def SdS (S : St) (b : Nat) : Prop := ∀ j, j < 2 * S.1 0 → fin (S.2 6 (6 * b + j))
theorem enc_ev {S : St} {b : Nat} {n : Nat} (hn : ∀ i, i < n → NdS S i) (hb : SdS S b) : ∀ i, i < n → EV (enc S b i) := by
  intro i
  induction i using Nat.strongRecOn with
  | ind i ih =>
    intro hi
    have h := hn i hi
    rw [enc_eq h]
    unfold oNode
    by_cases h0 : S.2 1 i = 0
    · rw [if_pos h0]
      have hd := h.2.2.2.1 h0
      exact oPut_ev (hb _ (by omega)).1 (by rw [Nat.add_assoc]; exact (hb _ (by omega)).1)
    · rw [if_neg h0]
      by_cases h1 : S.2 1 i = 1
      · rw [if_pos h1]; exact oPut_ev h.2.2.2.2.2.2.1 h.2.2.2.2.2.2.1
      · rw [if_neg h1]
        have hk : 2 ≤ S.2 1 i ∧ S.2 1 i ≤ 16 := ⟨by omega, h.1⟩
        have ha := h.2.2.2.2.1 hk.1
        have e1 := ih _ ha (by omega)
        have e2 : ∃ bl bh, EV (bl, bh) ∧ oEnc (S.2 1 i) (enc S b (S.2 2 i)).1 (enc S b (S.2 2 i)).2 (enc S b (S.2 3 i)).1 (enc S b (S.2 3 i)).2 = oEnc (S.2 1 i) (enc S b (S.2 2 i)).1 (enc S b (S.2 2 i)).2 bl bh := by
          by_cases h8 : 8 ≤ S.2 1 i
          · exact ⟨0, 0, ⟨⟨by decide, by decide⟩, ⟨by decide, by decide⟩⟩, oEnc_un h8⟩
          · exact ⟨_, _, ih _ (h.2.2.2.2.2.1 (by omega)) (by have := h.2.2.2.2.2.1 (by omega); omega), rfl⟩
        obtain ⟨bl, bh, hbv, e⟩ := e2
        rw [e]
        generalize S.2 1 i = k at hk
        generalize (enc S b (S.2 2 i)) = p at e1
        obtain ⟨al, ah⟩ := p
        have hal : al < 2 ^ 64 := e1.1.1
        have hah : ah < 2 ^ 64 := e1.2.1
        have nal : ¬ isN al := e1.1.2
        have nah : ¬ isN ah := e1.2.2
        have hbl : bl < 2 ^ 64 := hbv.1.1
        have hbh : bh < 2 ^ 64 := hbv.2.1
        have cbl := Cn_of hbl hbv.1.2
        have cbh := Cn_of hbh hbv.2.2
        have mi : EV (MI, PI) := ⟨⟨by decide, by decide⟩, ⟨by decide, by decide⟩⟩
        have four : ∀ {p q r s}, p < 2 ^ 64 → q < 2 ^ 64 → r < 2 ^ 64 → s < 2 ^ 64 → EV (oFour p q r s) := fun hp hq hr hs => oPut_ev (sDn_cn (sMi_cn (sMi_cn hp hq).1 (sMi_cn hr hs).1).1).1 (sUp_lt (sMa_cn (sMa_cn hp hq).1 (sMa_cn hr hs).1).1)
        show EV (oEnc k al ah bl bh)
        unfold oEnc
        split
        · exact oPut_ev (sDn_cn (sPl_cn hal hbl).1).1 (sUp_lt (sPl_cn hah hbh).1)
        split
        · exact oPut_ev (sDn_cn (sPl_cn hal (sNeg_cn hbh).1).1).1 (sUp_lt (sPl_cn hah (sNeg_cn hbl).1).1)
        split
        · exact four (sTi_cn hal hbl).1 (sTi_cn hal hbh).1 (sTi_cn hah hbl).1 (sTi_cn hah hbh).1
        split
        · split
          · exact mi
          · exact four (sDi_cn hal hbl).1 (sDi_cn hal hbh).1 (sDi_cn hah hbl).1 (sDi_cn hah hbh).1
        split
        · exact oPut_ev (sL_lt hal hah) (sH_lt hal hah)
        split
        · unfold oRoot; split
          · exact mi
          · exact oPut_ev (sZl_cn (sDn_cn (sRt_lt al)).1).1 (sUp_lt (sRt_lt ah))
        split
        · have x1 := sL_lt hal hah
          have x2 := sH_lt hal hah
          exact oPut_ev (sZl_cn (sDn_cn (sTi_cn x1 x1).1).1).1 (sUp_lt (sTi_cn x2 x2).1)
        split
        · exact oPut_ev (sNeg_cn hah).1 (sNeg_cn hal).1
        · exact oPut_ev (oMade_cn hk (Cn_of hal nal) cbl).1 (oMade_cn hk (Cn_of hah nah) cbh).1
/-! THE SET OF NODES THAT ARE ASKED FOR, by its bits -/
def bt (l : Int32) (i : Nat) : Bool := l.toBitVec.getLsbD i
theorem bitOf_bt {l : Int32} {i : Nat} (h : i < 32) : bitOf l (nI i) = 0 ↔ bt l i = false := by
  have e : (bitOf l (nI i)).toBitVec = (l.toBitVec >>> i) &&& 1#32 := by
    unfold bitOf
    have e1 : ((nI i).toUInt32 &&& Int32.toUInt32 31) = UInt32.ofNat i := by
      apply UInt32.toNat_inj.mp
      rw [UInt32.toNat_and]
      have : (nI i).toUInt32.toNat = i := by
        show (nI i).toBitVec.toNat = i
        show (BitVec.ofNat 32 i).toNat = i
        rw [BitVec.toNat_ofNat]; omega
      rw [this, show (Int32.toUInt32 31).toNat = 2 ^ 5 - 1 from rfl, Nat.and_two_pow_sub_one_eq_mod, UInt32.toNat_ofNat']; omega
    rw [e1]
    show (l.toBitVec >>> ((UInt32.ofNat i).toBitVec % 32)) &&& 1#32 = _
    have : (UInt32.ofNat i).toBitVec % 32 = BitVec.ofNat 32 i := by
      apply BitVec.eq_of_toNat_eq
      show (BitVec.ofNat 32 i % 32#32).toNat = _
      rw [BitVec.toNat_umod, BitVec.toNat_ofNat]
      show i % 2 ^ 32 % 32 = _; omega
    rw [this]
    congr 1
    rw [BitVec.ushiftRight_eq', BitVec.toNat_ofNat, show i % 2 ^ 32 = i by omega]
  have e2 : bitOf l (nI i) = 0 ↔ (bitOf l (nI i)).toBitVec = 0#32 := by
    constructor
    · intro q; rw [q]; rfl
    · intro q; exact Int32.toBitVec_inj.mp q
  rw [e2, e]
  unfold bt
  constructor
  · intro q
    have := congrArg (fun v => v.getLsbD 0) q
    simpa [BitVec.getLsbD_ushiftRight] using this
  · intro q
    apply BitVec.eq_of_getLsbD_eq
    intro j hj
    rw [BitVec.getLsbD_and, BitVec.getLsbD_ushiftRight, BitVec.getLsbD_zero]
    by_cases h0 : j = 0
    · subst h0; rw [Nat.add_zero, q]; rfl
    · rw [BitVec.getLsbD_one, decide_eq_false h0]; simp
theorem bt_or (a b : Int32) (i : Nat) : bt (a ||| b) i = (bt a i || bt b i) := by
  unfold bt; exact BitVec.getLsbD_or
theorem smod32 : ∀ j : Fin 32, (BitVec.ofNat 32 j.val).smod 32#32 = BitVec.ofNat 32 j.val := by decide +kernel
theorem bt_one {j i : Nat} (hj : j < 32) (hi : i < 32) : bt ((1 : Int32) <<< (nI j &&& 31)) i = decide (i = j) := by
  unfold bt
  have e : ((1 : Int32) <<< (nI j &&& 31)).toBitVec = 1#32 <<< j := by
    have e1 : nI j &&& 31 = nI j := by
      apply Int32.toBitVec_inj.mp
      apply BitVec.eq_of_toNat_eq
      show ((BitVec.ofNat 32 j) &&& 31#32).toNat = (BitVec.ofNat 32 j).toNat
      rw [BitVec.toNat_and, BitVec.toNat_ofNat, show (31#32).toNat = 2 ^ 5 - 1 from rfl, Nat.and_two_pow_sub_one_eq_mod]; omega
    rw [e1]
    show 1#32 <<< ((nI j).toBitVec.smod 32) = _
    have : (nI j).toBitVec.smod 32 = BitVec.ofNat 32 j := by
      show (BitVec.ofNat 32 j).smod 32#32 = _
      exact smod32 ⟨j, hj⟩
    rw [this, BitVec.shiftLeft_eq', BitVec.toNat_ofNat, show j % 2 ^ 32 = j by omega]
  rw [e, BitVec.getLsbD_shiftLeft, BitVec.getLsbD_one]
  by_cases h : i = j
  · subst h; simp [hi]
  · rw [decide_eq_false h]
    by_cases h2 : i < j
    · simp [h2]
    · rw [show (decide (i - j = 0)) = false from decide_eq_false (by omega)]; simp
