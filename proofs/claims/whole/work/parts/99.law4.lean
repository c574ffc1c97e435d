/-! THE LAW'S LOOP, ON THE MACHINE -/
section
variable {p : Program} {l : Launch} {e : Env} {s : State} {m : MethodId} {args : Array Value} {below : List Frame} {meth : Method} {c : Code} {Z : State → Prop} {D : va_G} {ρ : Nat → Nat} {τ : Nat → ClassId} {A : Nat → Prop}
theorem Gd_widen {R : Room} {cells slots k n nL : Nat} {H0 : Heap} {pc : Nat} {lv : LV} {st : List Value} {σ : aS} (h1 : cells ≤ k) (h2 : slots ≤ n) (h : Gd p l e R s m args below meth c k n Z nL D ρ τ A H0 pc lv st σ) : Gd p l e R s m args below meth c cells slots Z nL D ρ τ A H0 pc lv st σ := fun H locs ls hl hP hD hS => W.widen h1 h2 (h H locs ls hl hP hD hS)
/-- a call of one of the law's two catching methods -/
theorem callL {cells slots idx maxL n : Nat} {y : MethodName} {bytes : ByteArray} {hh : List (Nat × Nat × Nat × Nat)} {as : List Value} {σ : aS} {kk : Option Value → aS → Prop} {pc : Nat} {lv : LV} (F : Fx p m c cL_law 8 s args yL_law.cls D τ) (hZ : ZZ A s)
    (hM : Met l y (.codeWith y bytes maxL (some .int) hh :: lw_all) rmH (PX D τ ρ A as σ) (QW D τ ρ A kk) 1 6 A)
    (h1 : Cond.methodLink yL_law.cls idx y ∈ lw_all) (h2 : Cond.static y ∈ lw_all) (h3 : Cond.initialized y.cls ∈ lw_all) (h4 : Cond.codeWith y bytes maxL (some .int) hh ∈ lw_all)
    (hd : y.cls ≠ "java/lang/invoke/MethodHandle" ∧ y.cls ≠ "java/lang/invoke/VarHandle" ∧ (parseMethodDescriptor y.desc).map (fun d => d.parameters.length) = some n) (hR : 8 + (maxL + 11) + 48 * 9 ≤ 10992) (hn : as.length = n) (dc : decode cL_law pc = .ok (.invokestatic idx, 3)) (hc : cells + 1 ≤ 3111) (hs : slots + 6 ≤ 121415)
    (hkk : ∀ v σ', kk v σ' → Gd p l e room_1 s m args below meth c (cells + 1) (slots + 6) Z 8 D ρ τ A s.heap (pc + 3) lv v.toList σ') : Gd p l e room_1 s m args below meth c cells slots Z 8 D ρ τ A s.heap pc lv as.reverse σ := by
  obtain ⟨hx, hb, hml, hown, hts, hK⟩ := F
  intro H locs ls hl hP hD hS
  have est : (as.reverse).map (rv ρ) = (as.map (rv ρ)).reverse ++ [] := by simp
  rw [est]
  have hrun := vx_runSW (p := p) (e := e) (below := below) (meth := meth) (H := H) (locs := locs) (cells := cells) (slots := slots) (g := F0 m pc ls ((as.map (rv ρ)).reverse ++ [])) (R := room_1) (As := as.map (rv ρ)) (rest := []) (n := n) (Ts := lw_all) (own := yL_law.cls) ⟨hx, hb, hml, hown, hts⟩ hM (vx_cwSW n hts (by
      intro w hw
      have : w ∈ lw_all := by
        simp only [va_wsS, List.cons_append, List.nil_append, List.mem_cons] at hw
        rcases hw with rfl | rfl | rfl | rfl | hw
        · exact h1
        · exact h2
        · exact h3
        · exact h4
        · exact hw
      exact ⟨this, good_of_word (lw_all_good this)⟩) rfl rfl rfl hd ⟨by decide, hR⟩) ⟨PX_blind D τ ρ A as σ, fun U hU hW => ⟨rfl, by rw [hU]; exact hP, va_K.moved hW.alike hK, hD, hZ.to hS hU hW.alike⟩⟩ rfl (by rw [List.length_map]; exact hn) hl.1 rfl (lv_room (by decide)) dc ⟨hc, hs⟩
  intro T hT X
  obtain ⟨v, st₀, t, T', L, h0, X', hL, e1, e2, ⟨⟨v', σ', hv, hpost, hP', hK', hD'⟩, hF⟩, st⟩ := hrun T hT X
  have hv : v = v'.map (rv ρ) := by cases hv; rfl
  subst hv
  obtain ⟨-, -, hS'⟩ := vx_keep h0 e1 hS (fun q _ h => h) (fun q h => h) hL hF
  have key := hkk v' σ' hpost T'.heap (locs ++ L) ls hl (by rw [e1]; exact hP') hD' hS'
  have est : (v'.toList).map (rv ρ) = (v'.map (rv ρ)).toList ++ [] := by cases v' <;> simp
  rw [est] at key
  obtain ⟨t2, a1, b1⟩ := key T' rfl X'
  exact ⟨t2, st t2 a1, b1⟩
theorem loopL (hl0 : l.stackTraces = false) (F : Fx p m c cL_law 8 s args yL_law.cls D τ) (hZ : ZZ A s) {L : Nat} {xs : Nat → Int32} (hL : L ≤ 4608) (hX : XOK ρ A s.heap s (L + 1, xs))
    (hret : ∀ cells slots, cells ≤ 3111 → slots ≤ 121415 → ROK p l e room_1 s m args below meth c cells slots Z cL_law 8 D ρ τ A s.heap QL) :
    ∀ n k, k + n = 512 → ∀ (cc : CS) (mm : MS) (S : St) (g : Nat → Int64), RC cc S → RM mm S → Gd p l e room_1 s m args below meth c (37 + k) (2619 + 6 * k) Z 8 D ρ τ A s.heap 23 (lvL (nI (9 * k))) [] (wL cc mm g) := by
  have sg : ∀ {P : List En} {CE : List (Nat × Nat × Tr)} {cut : List (Nat × List Nat)}, P.all (chk cL_law 8 yL_law.cls) = true → CEok l yL_law.cls 20 CE → ∀ k, k ≤ 512 → SegTo L xs P CE cut (Gd p l e room_1 s m args below meth c (37 + k) (2619 + 6 * k) Z 8 D ρ τ A s.heap) := by
    intro P CE cut hchk hCE k hk n b pc lv st σ h
    exact seg_sound hX F hchk (fun q hq => hCE q hq F (show 20 ≤ 22 by decide) (show 48 * 20 ≤ 10992 by decide) (show 37 + k ≤ 3111 by omega) (show 2619 + 6 * k ≤ 121415 by omega)) (hret _ _ (by omega) (by omega)) n b pc lv st σ h
  intro n
  induction n with
  | zero =>
    intro k hk cc mm S g hc hm
    refine hdL hL (sg kkL_h ce_0 k (by omega)) (by omega) (fun h9 => ?_)
    omega
  | succ n ih =>
    intro k hk cc mm S g hc hm
    refine hdL hL (sg kkL_h ce_0 k (by omega)) (by omega) (fun h9 {lvc} hlv pc hpc => ?_)
    subst hlv
    have hi := inL_of h9 hL
    have nx1 : ∀ (cc : CS) (mm : MS) (S : St) (g : Nat → Int64), RC cc S → RM mm S → Gd p l e room_1 s m args below meth c (37 + (k + 1)) (2619 + 6 * (k + 1)) Z 8 D ρ τ A s.heap 1244 (lvL (nI (9 * k))) [] (wL cc mm g) := by
      intro cc mm S g hc hm
      refine stepL (sg kkL_e ce_0 (k + 1) (by omega)) ?_
      rw [nx9 (by omega)]
      exact ih (k + 1) (by omega) cc mm S g hc hm
    have nx : ∀ (cc : CS) (mm : MS) (S : St) (g : Nat → Int64), RC cc S → RM mm S → Gd p l e room_1 s m args below meth c (37 + k) (2619 + 6 * k) Z 8 D ρ τ A s.heap 1244 (lvL (nI (9 * k))) [] (wL cc mm g) := fun cc mm S g hc hm => Gd_widen (by omega) (by omega) (nx1 cc mm S g hc hm)
    simp only [List.mem_cons, List.not_mem_nil, or_false] at hpc
    rcases hpc with rfl | rfl | rfl | rfl | rfl | rfl | rfl | rfl | rfl | rfl | rfl | rfl | rfl | rfl | rfl | rfl | rfl | rfl | rfl
    · exact nx cc mm S g hc hm
    · exact csL_0 (sg kkL_0 (coL_0 l) k (by omega)) hi hc hm nx
    · exact csL_1 (sg kkL_1 (coL_1 l) k (by omega)) hi hc hm nx
    · exact csL_2 (sg kkL_2 (coL_2 l) k (by omega)) hi hc hm nx
    · exact csL_3 (sg kkL_3 (coL_3 l) k (by omega)) hi hc hm nx
    · exact csL_4 (sg kkL_4 (coL_4 l) k (by omega)) hi hc hm nx
    · exact csL_5 (sg kkL_5 (coL_5 l) k (by omega)) hi hc hm nx
    · exact csL_6 (sg kkL_6 (coL_6 l) k (by omega)) hi hc hm nx
    · refine csL_7a (sg kkL_7 (coL_7 l) k (by omega)) hi ?_
      obtain ⟨t, v, m1, hm1, ht, hmod, hb⟩ := d_side hc hm (xs (nI (9 * k) + 1).toNatClampNeg) (xs (nI (9 * k) + 2).toNatClampNeg) (xs (nI (9 * k) + 3).toNatClampNeg)
      refine callL (idx := 59) (n := 5) (as := [.ref 0, .int (xs (nI (9 * k) + 1).toNatClampNeg), .int (xs (nI (9 * k) + 2).toNatClampNeg), .int (xs (nI (9 * k) + 3).toNatClampNeg), .ref 36]) (kk := fun r σ' => ∃ g', r = some (.int t) ∧ σ' = wL cc mm g' ∧ (t = 0 → g' 0 = v)) F hZ (okL_side hl0 D τ ρ A cc mm g _ _ _ _ (hb _ _ (fun z => ⟨_, by rw [z], rfl, fun _ => rfl⟩) (fun z => ⟨g, by rw [z], rfl, fun q => absurd (z.symm.trans q) (by decide)⟩))) (mw 502 (by decide +kernel) rfl) (mw 503 (by decide +kernel) rfl) (mw 0 (by decide +kernel) rfl) (mw 504 (by decide +kernel) rfl) (by decide) (by decide) rfl (by decide +kernel) (by omega) (by omega) ?_
      rintro r σ' ⟨g', rfl, rfl, hv⟩
      exact csL_7b (sg kkL_7 (coL_7 l) (k + 1) (by omega)) hi hmod ht hv (nx1 cc m1 S g' hc hm1)
    · exact csL_8 (sg kkL_8 (coL_8 l) k (by omega)) hi hc hm nx
    · exact csL_9 (sg kkL_9 (coL_9 l) k (by omega)) hi hc hm nx
    · exact csL_10 (sg kkL_10 (coL_10 l) k (by omega)) hi hc hm nx
    · exact csL_11 (sg kkL_11 (coL_11 l) k (by omega)) hi hc hm nx
    · exact csL_12 (sg kkL_12 (coL_12 l) k (by omega)) hi hc hm nx
    · exact csL_13 (sg kkL_13 (coL_13 l) k (by omega)) hi hc hm nx
    · exact csL_14 (sg kkL_14 (coL_14 l) k (by omega)) hi hc hm nx
    · refine csL_15a (sg kkL_15 (coL_15 l) k (by omega)) hi ?_
      obtain ⟨t, v, m1, hm1, ht, hmod, hb⟩ := d_share hc hm (xs (nI (9 * k) + 1).toNatClampNeg)
      refine callL (idx := 101) (n := 3) (as := [.ref 0, .int (xs (nI (9 * k) + 1).toNatClampNeg), .ref 36]) (kk := fun r σ' => ∃ g', r = some (.int t) ∧ σ' = wL cc mm g' ∧ (t = 0 → g' 0 = Int32.toInt64 v)) F hZ (okL_share hl0 D τ ρ A cc mm g _ _ (hb _ _ (fun z => ⟨_, by rw [z], rfl, fun _ => rfl⟩) (fun z => ⟨g, by rw [z], rfl, fun q => absurd (z.symm.trans q) (by decide)⟩))) (mw 598 (by decide +kernel) rfl) (mw 599 (by decide +kernel) rfl) (mw 0 (by decide +kernel) rfl) (mw 600 (by decide +kernel) rfl) (by decide) (by decide) rfl (by decide +kernel) (by omega) (by omega) ?_
      rintro r σ' ⟨g', rfl, rfl, hv⟩
      exact csL_15b (sg kkL_15 (coL_15 l) (k + 1) (by omega)) hi hmod ht hv (nx1 cc m1 S g' hc hm1)
    · exact csL_16 (sg kkL_16 (coL_16 l) k (by omega)) hi hc hm nx
    · exact csL_17 (sg kkL_17 (coL_17 l) k (by omega)) hi hc hm nx
end
