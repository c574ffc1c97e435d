def fJ9_max_7cf53 (a b : Int32) : Int32 := if a < b then b else a
def tJ9_max_7cf53 : Tr := fun as σ k => match as with
  | [.int a, .int b] => k (some (.int (fJ9_max_7cf53 a b))) σ
  | _ => False
theorem ce_max {l : Launch} {own : String} {lvl idx : Nat} (h1 : Cond.methodLink own idx Lib.Math.max.name ∈ lw_all) (h2 : Cond.static Lib.Math.max.name ∈ lw_all) (h3 : Cond.initialized "java/lang/Math" ∈ lw_all) (h4 : Cond.code Lib.Math.max.name Lib.Math.max.code 2 (some .int) ∈ lw_all) (hR : 1 ≤ lvl) {CE : List (Nat × Nat × Tr)} (hCE : CEok l own lvl CE) : CEok l own lvl ((2 * idx, 2, tJ9_max_7cf53) :: CE) := by
  intro q hq
  rcases List.mem_cons.mp hq with rfl | hq
  · intro p e R s m args below meth c cells slots Z cc nL D ρ τ A H0 F hRf hRl hRc hRs
    obtain ⟨hx, hb, hml, hown, hts, hK⟩ := F
    intro ins pc as σ kk lv rest hins hdg hlen hT hroom hkk H locs ls hl hP hD hS
    have hins : ins = .invokestatic idx := by
      obtain ⟨i, ⟨a1, a2⟩ | ⟨a1, a2⟩⟩ := hins
      · have : i = idx := by simp at a2; omega
        rw [a1, this]
      · simp at a2; omega
    subst hins
    change tJ9_max_7cf53 as σ kk at hT
    unfold tJ9_max_7cf53 at hT; split at hT
    · rename_i a b
      have hr2 : ((rest.map (rv ρ)).map fun v => v.category).sum ≤ 8 := by rw [List.map_map]; exact Nat.le_trans (Nat.le_of_eq (congrArg List.sum (List.map_congr_left fun v _ => rv_cat ρ v))) hroom
      exact va_mmax (rest := rest.map (rv ρ)) (x := a) (y := b) hx hb (by rw [hml]; exact hl.1.symm) hown (hts _ h1) (hts _ h2) (hts _ h3) (hts _ h4) (by omega) (by omega) hRc hRs hdg (hkk _ σ hT H locs ls hl hP hD hS)
    · exact hT.elim
  · exact hCE q hq
