/-! THE LAW'S TWO METHODS THAT CATCH -/
theorem Met.ofWH {l : Launch} {y : MethodName} {ws ws' : List Cond} {rm : Room} {Pc : Array Value → State → Prop} {Qc : Array Value → State → Outcome → State → Prop} {mc ms : Nat} {free : Addr → Prop} {cc : ByteArray} {maxL : Nat} {ret : Option FieldType} {hh : List (Nat × Nat × Nat × Nat)}
    (hy : plainName y.cls = true) (hw : ws = Cond.codeWith y cc maxL ret hh :: ws')
    (body : ∀ p e s m args below meth c s₁, BodyLoose p l y (headSpec ws rm) cc maxL ret e s m args below meth c s₁ → c.maxLocals = maxL → Pc args s →
      W p l e (headSpec ws rm).room s m args below meth c s.heap [] 0 0 (MQ below Qc args s mc ms free) (entryFrame m args maxL)) : Met l y ws rm Pc Qc mc ms free := by
  refine MetFree.of_bodyS (code := cc) (maxLocals := maxL) (ret := ret) hy ?_ ?_
  · intro args s m h hn
    obtain ⟨m9, meth, c, hn9, h1, h2, h3, h4, -, h5, h6, -⟩ := Cond.codeWith_spec (atoms_spec (ws := ws) h _ (by rw [hw]; exact List.mem_cons_self))
    cases hn.symm.trans hn9
    exact ⟨meth, c, h1, h2, h3, h4, h5, h6⟩
  · intro p e s m args below meth c s₁ B hml hP _
    have hh0 : s₁.heap = s.heap := by rw [B.state]; rfl
    obtain ⟨t, a1, o, b1, b2, b3⟩ := body p e s m args below meth c s₁ B hml hP s₁ hh0 (Stand.of_body B)
    exact ⟨t, o, a1, b1, b2, ⟨b3.1, b3.2⟩⟩
abbrev rmH : Room := { frames := 9, cells := 1, slots := 6, locals := 48 * 9 }
theorem metH {l : Launch} {y Y : MethodName} {bytes bY : ByteArray} {maxL nY n : Nat} {retY : Option FieldType} {P : List En} {cut : List (Nat × List Nat)} {C : vw_C} (hcl : cl0[2]? = some C) (hy : plainName y.cls = true) (hchk : P.all (chk bytes maxL y.cls) = true)
    {en hp ct cpc hq idx : Nat} {E : String} (hlk : Cond.classLink y.cls ct E ∈ lw_all) (hca : Cond.castable E E ∈ badT) (hct : ct ≠ 0) (hcov : covers ⟨0, en, hp, ct⟩ cpc = true)
    {D : va_G} {τ : Nat → ClassId} {ρ : Nat → Nat} {A : Nat → Prop} {as r rest : List Value} {σ0 : aS} {fs : List Value} (hfs : σ0[0]? = some (.inr (2, fs))) {post post1 : Option Value → aS → Prop} {postX : aS → Prop} (hlen : (lg_sl (as.map (rv ρ))).length ≤ maxL)
    (hM : vx_Met l Y (.code Y bY nY retY :: lw_all) rmX (PX D τ ρ A (.ref 0 :: r) σ0) (QW D τ ρ A post1) (XX D τ ρ A E postX) 1 6 A)
    (h1 : Cond.methodLink y.cls idx Y ∈ lw_all) (h2 : Cond.instanceMethod Y ∈ lw_all) (h5 : Cond.selects C.1 Y Y ∈ lw_all) (h3 : Cond.initialized C.1 ∈ lw_all) (h4 : Cond.code Y bY nY retY ∈ lw_all) (hyc : Y.cls = C.1)
    (hd : Y.cls ≠ "java/lang/invoke/MethodHandle" ∧ Y.cls ≠ "java/lang/invoke/VarHandle" ∧ (parseMethodDescriptor Y.desc).map (fun d => d.parameters.length) = some n) (hR : 8 + (nY + 11) + 48 * 8 ≤ 48 * 9) (hn : r.length = n) (hroom : (rest.map fun v => v.category).sum ≤ 8)
    (dc : decode bytes cpc = .ok (.invokevirtual idx, 3))
    (dh : (∃ k, decode bytes hp = .ok (.astore k, 2) ∧ k < maxL ∧ hq = hp + 2) ∨ (∃ k : Fin 4, decode bytes hp = .ok (.astore_n k, 1) ∧ (k : Nat) < maxL ∧ hq = hp + 1))
    (hB0 : ∀ G : Nat → LV → List Value → aS → Prop, (∀ n b pc lv st σ, seg (0, fun _ => 0) P [] cut G (fun v σ => rFit (some .int) v ∧ post v σ) n b pc lv st σ → G pc lv st σ) → G cpc [] ((.ref 0 :: r).reverse ++ rest) σ0 → G 0 (lv_args 0 as) [] σ0)
    (hB1 : ∀ G : Nat → LV → List Value → aS → Prop, (∀ n b pc lv st σ, seg (0, fun _ => 0) P [] cut G (fun v σ => rFit (some .int) v ∧ post v σ) n b pc lv st σ → G pc lv st σ) → ∀ v σ, post1 v σ → G (cpc + 3) [] (v.toList ++ rest) σ)
    (hB2 : ∀ G : Nat → LV → List Value → aS → Prop, (∀ n b pc lv st σ, seg (0, fun _ => 0) P [] cut G (fun v σ => rFit (some .int) v ∧ post v σ) n b pc lv st σ → G pc lv st σ) → ∀ σ, postX σ → G hq [] [] σ) :
    Met l y (.codeWith y bytes maxL (some .int) [(0, en, hp, ct)] :: lw_all) rmH (PX D τ ρ A as σ0) (QW D τ ρ A post) 1 6 A := by
  refine Met.ofWH (cc := bytes) (maxL := maxL) (ret := some .int) hy rfl ?_
  intro p e s m args below meth c s₁ B hml hv
  obtain ⟨rfl, hP, hK, hD, hZ⟩ := hv
  have hx := B.exec
  have hb := B.bytes
  have hr := B.returns
  have hts0 := atoms_spec (ws := .codeWith y bytes maxL (some .int) [(0, en, hp, ct)] :: lw_all) B.pre
  have hts : ∀ w ∈ lw_all, w.before _ s = true := fun w h => hts0 w (List.mem_cons_of_mem _ h)
  have htab : c.exceptionTable.toList = [] ++ (⟨0, en, hp, ct⟩ : ExceptionTableEntry) :: [] := (vx_table (x := y) B (hts0 _ List.mem_cons_self)).trans rfl
  have hown : s.vm.findClass y.cls = some m.cls := findClass_of_methodNamed B.named
  have hl := lv_entry (as.map (rv ρ)) (n := maxL) hlen
  rw [lg_entry_eq]
  generalize (lg_sl (as.map (rv ρ)) ++ List.replicate (maxL - (lg_sl (as.map (rv ρ))).length) Slot.unset).toArray = ls at hl ⊢
  rw [← lr_args] at hl
  have F : Fx p m c bytes maxL s (as.map (rv ρ)).toArray y.cls D τ := ⟨hx, hb, hml, hown, hts, hK⟩
  have sound : ∀ cells slots, cells ≤ 1 → slots ≤ 6 → ∀ n b pc lv st σ, seg (0, fun _ => 0) P [] cut (Gd p l e (headSpec (.codeWith y bytes maxL (some .int) [(0, en, hp, ct)] :: lw_all) rmH).room s m (as.map (rv ρ)).toArray below meth c cells slots (MQ below (QW D τ ρ A post) (as.map (rv ρ)).toArray s 1 6 A) maxL D ρ τ A s.heap) (fun v σ => rFit (some .int) v ∧ post v σ) n b pc lv st σ → Gd p l e (headSpec (.codeWith y bytes maxL (some .int) [(0, en, hp, ct)] :: lw_all) rmH).room s m (as.map (rv ρ)).toArray below meth c cells slots (MQ below (QW D τ ρ A post) (as.map (rv ρ)).toArray s 1 6 A) maxL D ρ τ A s.heap pc lv st σ := by
    intro cells slots hc hs n b pc lv st σ h
    refine seg_sound (Or.inl rfl) F hchk (fun q hq => absurd hq List.not_mem_nil) ?_ n b pc lv st σ h
    intro ins pc v σ lv hi hdg hq H locs ls hl hP hD hS
    obtain ⟨hfit, hq⟩ := hq
    have fin : ∀ t : State, t.heap = H → s.WarmedH t.vm → QW D τ ρ A post (as.map (rv ρ)).toArray s (.returned (v.map (rv ρ))) t := fun t ht hW => ⟨⟨v, σ, rfl, hq, by rw [ht]; exact hP, va_K.moved hW.alike hK, hD⟩, hS.F ht⟩
    refine W.widen (k := 1) (n := 6) hc hs ?_
    cases v with
    | none => exact hfit.elim
    | some v => cases v with
      | int x =>
        have hi : ins = .ireturn := isRet_i hi
        subst hi
        exact W.iret hx hb hr fin hS.2.2 hdg
      | _ => exact hfit.elim
  refine hB0 _ (sound 0 0 (Nat.zero_le _) (Nat.zero_le _)) ?_ s.heap [] ls hl hP hD va_S.rf
  intro H locs ls hl hP hD hS
  have est : ((.ref 0 :: r).reverse ++ rest).map (rv ρ) = (r.map (rv ρ)).reverse ++ .ref (ρ 0) :: rest.map (rv ρ) := by simp [rv]
  rw [est]
  have hrun := vx_runV (p := p) (e := e) (below := below) (meth := meth) (H := H) (locs := locs) (cells := 0) (slots := 0) (g := F0 m cpc ls ((r.map (rv ρ)).reverse ++ .ref (ρ 0) :: rest.map (rv ρ))) (R := (headSpec (.codeWith y bytes maxL (some .int) [(0, en, hp, ct)] :: lw_all) rmH).room) (C := C.1) (As := r.map (rv ρ)) (rest := rest.map (rv ρ)) (n := n) (b := ρ 0) (Ts := lw_all) (own := y.cls) ⟨hx, hb, hml, hown, hts⟩ hM (cwV n hts (by
      intro w hw
      have : w ∈ lw_all := by
        simp only [wsV, List.cons_append, List.nil_append, List.mem_cons] at hw
        rcases hw with rfl | rfl | rfl | rfl | rfl | hw
        · exact h1
        · exact h2
        · exact h5
        · exact h3
        · exact h4
        · exact hw
      exact ⟨this, good_of_word (lw_all_good this)⟩) rfl rfl rfl ⟨hyc, hd⟩ ⟨Nat.le_of_ble_eq_true rfl, hR⟩) ⟨PX_blind D τ ρ A (.ref 0 :: r) σ0, va_recv hK hP hcl (wl_get ρ τ σ0 hfs), fun U hU hW => ⟨rfl, by rw [hU]; exact hP, va_K.moved hW.alike hK, hD, hZ.to hS hU hW.alike⟩⟩ rfl (by rw [List.length_map]; exact hn) hl.1 rfl (lv_room (by rw [List.map_map]; exact Nat.le_trans (Nat.le_of_eq (congrArg List.sum (List.map_congr_left fun v _ => rv_cat ρ v))) hroom)) dc ⟨Nat.le_of_ble_eq_true rfl, Nat.le_of_ble_eq_true rfl⟩
  intro T hT X
  rcases hrun T hT X with ⟨v, st₀, t, T', L, h0, X', hL, e1, e2, ⟨⟨v', σ', hv, hpost, hP', hK', hD'⟩, hF⟩, st⟩ | ⟨q, st₀, t, T', L, E9, ce, h0, X', hL, e1, e2, ⟨σ', hpx, ⟨rfl, hP', hK', hD'⟩, hF⟩, hce, hcv, hcl9, st⟩
  · have hv : v = v'.map (rv ρ) := by cases hv; rfl
    subst hv
    obtain ⟨-, -, hS'⟩ := vx_keep h0 e1 hS (fun q _ h => h) (fun q h => h) hL hF
    have key := hB1 _ (sound 1 6 (Nat.le_refl _) (Nat.le_refl _)) v' σ' hpost T'.heap (locs ++ L) ls hl (by rw [e1]; exact hP') hD' hS'
    have est : (v'.toList ++ rest).map (rv ρ) = (v'.map (rv ρ)).toList ++ rest.map (rv ρ) := by cases v' <;> simp
    rw [est] at key
    obtain ⟨t2, a1, b1⟩ := key T' rfl X'
    exact ⟨t2, st t2 a1, b1⟩
  · obtain ⟨-, -, hS'⟩ := vx_keep h0 e1 hS (fun q _ h => h) (fun q h => h) hL hF
    have key := hB2 _ (sound 1 6 (Nat.le_refl _) (Nat.le_refl _)) σ' hpx
    have hw2 : W p l e (headSpec (.codeWith y bytes maxL (some .int) [(0, en, hp, ct)] :: lw_all) rmH).room s m (as.map (rv ρ)).toArray below meth c T'.heap (locs ++ L) 1 6 (MQ below (QW D τ ρ A post) (as.map (rv ρ)).toArray s 1 6 A) (F0 m hp ls [.ref q]) := by
      rcases dh with ⟨k, d1, d2, rfl⟩ | ⟨k, d1, d2, rfl⟩
      · exact lv_astore hx hb d1 hl d2 rfl (fun ls' hl' => key T'.heap (locs ++ L) ls' ⟨hl'.1, hl'.2.1, fun q hq => absurd hq List.not_mem_nil⟩ (by rw [e1]; exact hP') hD' hS')
      · exact lv_astore_n hx hb d1 rfl hl d2 rfl (fun ls' hl' => key T'.heap (locs ++ L) ls' ⟨hl'.1, hl'.2.1, fun q hq => absurd hq List.not_mem_nil⟩ (by rw [e1]; exact hP') hD' hS')
    have hw3 := vx_catch (rest := rest.map (rv ρ)) (pc := cpc) (ls := ls) (E := E9) (ce := ce) (q := q) hown [] ⟨0, en, hp, ct⟩ [] htab (fun z hz => absurd hz List.not_mem_nil) hcov hct (hts _ hlk) (badT_moved (Vm.Alike.refl s.vm) hZ.2.2.1 _ hca) (by rw [e1]; exact hce) hcv hcl9 hw2
    obtain ⟨t2, a1, b1⟩ := hw3 T' rfl X'
    exact ⟨t2, st.trans a1, b1⟩
def pgL_side : List En := [(0, .aload 4, 2, 0, 0, .null, 0), (2, .iconst 0, 1, 0, 0, .int 0, 0), (3, .aload_n 0, 1, 0, 0, .null, 0), (4, .iload_n 1, 1, 1, 0, .null, 0), (5, .iload_n 2, 1, 2, 0, .null, 0), (6, .iload_n 3, 1, 3, 0, .null, 0), (7, .invokevirtual 7, 3, 0, 0, .null, 0), (10, .lastore, 1, 0, 0, .null, 0), (11, .goto 7, 3, 18, 0, .null, 0), (14, .astore 5, 2, 0, 0, .null, 0), (16, .iconst 1, 1, 0, 0, .int 1, 0), (17, .ireturn, 1, 0, 0, .null, 0), (18, .iconst 0, 1, 0, 0, .int 0, 0), (19, .ireturn, 1, 0, 0, .null, 0)]
theorem kkL_side : pgL_side.all (chk cL_side 6 yL_side.cls) = true := by decide +kernel
def pgL_share : List En := [(0, .aload_n 2, 1, 2, 0, .null, 0), (1, .iconst 0, 1, 0, 0, .int 0, 0), (2, .aload_n 0, 1, 0, 0, .null, 0), (3, .iload_n 1, 1, 1, 0, .null, 0), (4, .invokevirtual 15, 3, 0, 0, .null, 0), (7, .i2l, 1, 0, 0, .null, 0), (8, .lastore, 1, 0, 0, .null, 0), (9, .goto 6, 3, 15, 0, .null, 0), (12, .astore_n 3, 1, 3, 0, .null, 0), (13, .iconst 1, 1, 0, 0, .int 1, 0), (14, .ireturn, 1, 0, 0, .null, 0), (15, .iconst 0, 1, 0, 0, .int 0, 0), (16, .ireturn, 1, 0, 0, .null, 0)]
theorem kkL_share : pgL_share.all (chk cL_share 4 yL_share.cls) = true := by decide +kernel
theorem in01 : vp_in 0 1 := by unfold vp_in; decide
def oR (g : Nat → Int64) : aE := .inl (1, 1, .inr (.inl g))
def wL (c : CS) (m : MS) (g : Nat → Int64) : aS := wC c ++ (wM m ++ [oR g])
theorem mo_side {c : CS} {a b d : Int32} {kr kq : Int64 → Prop} {kx ky : Prop} (hr : ∀ v, kr v → kq v) (hx : kx → ky) (h : bX3_side_0 c a b d kr kx) : bX3_side_0 c a b d kq ky := by
  unfold bX3_side_0 at h ⊢
  split at h
  · rename_i q; rw [if_pos q]; exact hx h
  rename_i q; rw [if_neg q]
  split at h
  · rename_i q; rw [if_pos q]; exact hx h
  rename_i q; rw [if_neg q]
  split at h
  · rename_i q; rw [if_pos q]; exact hx h
  rename_i q; rw [if_neg q]
  split at h
  · rename_i q; rw [if_pos q]; exact hx h
  rename_i q; rw [if_neg q]
  exact ⟨h.1, hr _ h.2⟩
theorem mo_share {c : CS} {a : Int32} {kr kq : Int32 → CS → Prop} {kx ky : CS → Prop} (hr : ∀ v X, kr v X → kq v X) (hx : ∀ X, kx X → ky X) (h : bX3_share_0 c a kr kx) : bX3_share_0 c a kq ky := by
  unfold bX3_share_0 at h ⊢
  split at h
  · rename_i q; rw [if_pos q]; exact hr _ _ h
  rename_i q; rw [if_neg q]
  split at h
  · rename_i q; rw [if_pos q]; exact hr _ _ h
  rename_i q; rw [if_neg q]
  refine mnX2_howMany ?_ h
  intro r X h
  split at h
  · rename_i q; rw [if_pos q]; exact hx _ h
  rename_i q; rw [if_neg q]
  exact mnX2_howMany (fun r2 X2 h => ⟨h.1, hr _ _ h.2⟩) h
set_option maxRecDepth 20000 in
set_option maxHeartbeats 4000000 in
theorem okL_side {l : Launch} (hl0 : l.stackTraces = false) (D : va_G) (τ : Nat → ClassId) (ρ : Nat → Nat) (A : Nat → Prop) (c : CS) (m : MS) (g : Nat → Int64) (a b d : Int32) (post : Option Value → aS → Prop) (hb : bX3_side_0 c a b d (fun v => post (some (.int 0)) (wL c m (vp_updL g 0 v))) (post (some (.int 1)) (wL c m g))) : Met l yL_side (.codeWith yL_side cL_side 6 (some .int) [(0, 11, 14, 13)] :: lw_all) rmH (PX D τ ρ A [.ref 0, .int a, .int b, .int d, .ref 36] (wL c m g)) (QW D τ ρ A post) 1 6 A := by
  refine metH (P := pgL_side) (cut := [(7, [])]) (cpc := 7) (idx := 7) (hq := 16) (n := 3) (r := [.int a, .int b, .int d]) (rest := [.int 0, .ref 36]) (post1 := fun v σ => ∃ x, v = some (.long x) ∧ σ = wL c m g ∧ post (some (.int 0)) (wL c m (vp_updL g 0 x))) (postX := fun σ => σ = wL c m g ∧ post (some (.int 1)) (wL c m g)) (C := _) rfl (by decide) kkL_side (E := EA) (mw 505 (by decide +kernel) rfl) (by decide +kernel) (by decide) (by decide) rfl (Nat.le_of_ble_eq_true rfl) (okx_side hl0 D τ ρ A c (wM m ++ [oR g]) a b d _ _ (mo_side (fun v h => ⟨v, rfl, rfl, h⟩) (fun h => ⟨rfl, h⟩) hb)) (mw 580 (by decide +kernel) rfl) (mw 581 (by decide +kernel) rfl) (mw 582 (by decide +kernel) rfl) (mw 1 (by decide +kernel) rfl) (mw 583 (by decide +kernel) rfl) rfl (by decide) (by decide) rfl (by decide) (by decide +kernel) (Or.inl ⟨5, by decide +kernel, by decide, rfl⟩) ?_ ?_ ?_
  · intro G hG h
    refine hG 20 false 0 _ _ _ ?_
    exact h
  · rintro G hG v σ ⟨x, rfl, rfl, hp⟩
    refine hG 20 true 10 _ _ _ ?_
    exact ⟨in01, trivial, hp⟩
  · rintro G hG σ ⟨rfl, hp⟩
    refine hG 20 true 16 _ _ _ ?_
    exact ⟨trivial, hp⟩
set_option maxRecDepth 20000 in
set_option maxHeartbeats 4000000 in
theorem okL_share {l : Launch} (hl0 : l.stackTraces = false) (D : va_G) (τ : Nat → ClassId) (ρ : Nat → Nat) (A : Nat → Prop) (c : CS) (m : MS) (g : Nat → Int64) (a : Int32) (post : Option Value → aS → Prop) (hb : bX3_share_0 c a (fun v X => post (some (.int 0)) (wL X m (vp_updL g 0 (Int32.toInt64 v)))) (fun X => post (some (.int 1)) (wL X m g))) : Met l yL_share (.codeWith yL_share cL_share 4 (some .int) [(0, 9, 12, 19)] :: lw_all) rmH (PX D τ ρ A [.ref 0, .int a, .ref 36] (wL c m g)) (QW D τ ρ A post) 1 6 A := by
  refine metH (P := pgL_share) (cut := [(4, [])]) (cpc := 4) (idx := 15) (hq := 13) (n := 1) (r := [.int a]) (rest := [.int 0, .ref 36]) (post1 := fun v σ => ∃ x X, v = some (.int x) ∧ σ = wL X m g ∧ post (some (.int 0)) (wL X m (vp_updL g 0 (Int32.toInt64 x)))) (postX := fun σ => ∃ X, σ = wL X m g ∧ post (some (.int 1)) (wL X m g)) (C := _) rfl (by decide) kkL_share (E := EB) (mw 601 (by decide +kernel) rfl) (by decide +kernel) (by decide) (by decide) rfl (Nat.le_of_ble_eq_true rfl) (okx_share hl0 D τ ρ A c (wM m ++ [oR g]) a _ _ (mo_share (fun v X h => ⟨v, X, rfl, rfl, h⟩) (fun X h => ⟨X, rfl, h⟩) hb)) (mw 615 (by decide +kernel) rfl) (mw 616 (by decide +kernel) rfl) (mw 617 (by decide +kernel) rfl) (mw 1 (by decide +kernel) rfl) (mw 618 (by decide +kernel) rfl) rfl (by decide) (by decide) rfl (by decide) (by decide +kernel) (Or.inr ⟨3, by decide +kernel, by decide, rfl⟩) ?_ ?_ ?_
  · intro G hG h
    refine hG 20 false 0 _ _ _ ?_
    exact h
  · rintro G hG v σ ⟨x, X, rfl, rfl, hp⟩
    refine hG 20 true 7 _ _ _ ?_
    exact ⟨in01, trivial, hp⟩
  · rintro G hG σ ⟨X, rfl, hp⟩
    refine hG 20 true 13 _ _ _ ?_
    exact ⟨trivial, hp⟩
