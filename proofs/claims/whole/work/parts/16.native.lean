def tD2L : Tr := fun as σ k => match as with
  | [.double a] => k (some (.long a.toInt64)) σ
  | _ => False
def tL2D : Tr := fun as σ k => match as with
  | [.long a] => vn_snl2d a = false ∧ k (some (.double a.toUInt64)) σ
  | _ => False
theorem ce_D2L {l : Launch} {own : String} {lvl idx : Nat} (h1 : Cond.methodLink own idx ⟨"java/lang/Double", "doubleToRawLongBits", "(D)J"⟩ ∈ lw_all) (hR : 1 ≤ lvl) {CE : List (Nat × Nat × Tr)} (hCE : CEok l own lvl CE) : CEok l own lvl ((2 * idx, 1, tD2L) :: CE) := by
  intro q hq
  rcases List.mem_cons.mp hq with rfl | hq
  · intro p e R s m args below meth c cells slots Z cc nL D ρ τ A H0 F hRf hRl hRc hRs
    obtain ⟨hx, hb, hml, hown, hts, hK⟩ := F
    intro ins pc as σ kk lv rest hins hdg hlen hT hroom hkk H locs ls hl hP hD hS
    have hins : ins = .invokestatic idx := by
      obtain ⟨i, ⟨a1, a2⟩ | ⟨a1, a2⟩⟩ := hins
      · have : i = idx := by simp at a2; omega
        rw [a1, this]
      · simp at a2; omega
    subst hins
    change tD2L as σ kk at hT
    unfold tD2L at hT; split at hT
    · rename_i a
      have hr2 : ((rest.map (rv ρ)).map fun v => v.category).sum ≤ 8 := by rw [List.map_map]; exact Nat.le_trans (Nat.le_of_eq (congrArg List.sum (List.map_congr_left fun v _ => rv_cat ρ v))) hroom
      exact vn_d2l (rest := rest.map (rv ρ)) (b := a) hx hb (by rw [hml]; exact hl.1.symm) hown (hts _ h1) (hts _ (mw 783 (by decide +kernel) rfl)) (hts _ (mw 782 (by decide +kernel) rfl)) (hts _ (mw 6 (by decide +kernel) rfl)) (by omega) (by omega) hdg (hkk _ σ hT H locs ls hl hP hD hS)
    · exact hT.elim
  · exact hCE q hq
theorem ce_L2D {l : Launch} {own : String} {lvl idx : Nat} (h1 : Cond.methodLink own idx ⟨"java/lang/Double", "longBitsToDouble", "(J)D"⟩ ∈ lw_all) (hR : 1 ≤ lvl) {CE : List (Nat × Nat × Tr)} (hCE : CEok l own lvl CE) : CEok l own lvl ((2 * idx, 1, tL2D) :: CE) := by
  intro q hq
  rcases List.mem_cons.mp hq with rfl | hq
  · intro p e R s m args below meth c cells slots Z cc nL D ρ τ A H0 F hRf hRl hRc hRs
    obtain ⟨hx, hb, hml, hown, hts, hK⟩ := F
    intro ins pc as σ kk lv rest hins hdg hlen hT hroom hkk H locs ls hl hP hD hS
    have hins : ins = .invokestatic idx := by
      obtain ⟨i, ⟨a1, a2⟩ | ⟨a1, a2⟩⟩ := hins
      · have : i = idx := by simp at a2; omega
        rw [a1, this]
      · simp at a2; omega
    subst hins
    change tL2D as σ kk at hT
    unfold tL2D at hT; split at hT
    · rename_i a
      have hr2 : ((rest.map (rv ρ)).map fun v => v.category).sum ≤ 8 := by rw [List.map_map]; exact Nat.le_trans (Nat.le_of_eq (congrArg List.sum (List.map_congr_left fun v _ => rv_cat ρ v))) hroom
      exact vn_l2d (rest := rest.map (rv ρ)) (b := a) hx hb (by rw [hml]; exact hl.1.symm) hown (hts _ h1) (hts _ (mw 715 (by decide +kernel) rfl)) (hts _ (mw 714 (by decide +kernel) rfl)) (hts _ (mw 6 (by decide +kernel) rfl)) hT.1 (by omega) (by omega) hdg (hkk _ σ hT.2 H locs ls hl hP hD hS)
    · exact hT.elim
  · exact hCE q hq
