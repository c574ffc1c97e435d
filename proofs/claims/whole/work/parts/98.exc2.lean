/-! METHODS THAT MAY THROW -/
def nmA : List String := ["java/lang/IndexOutOfBoundsException", "java/lang/RuntimeException", "java/lang/Exception"]
def nmB : List String := ["java/lang/RuntimeException", "java/lang/Exception"]
def EA : String := "java/lang/ArrayIndexOutOfBoundsException"
def EB : String := "java/lang/ArithmeticException"
/-- the words of a throw that a call does not carry -/
def badT : List Cond := [.declares (Bundle.init0 "java/lang/IndexOutOfBoundsException"), .declares (Bundle.init0 "java/lang/RuntimeException"), .declares (Bundle.init0 "java/lang/Exception"), .declares (Bundle.init0 "java/lang/Throwable"), .castable EA EA, .castable EB EB]
theorem badT_moved {u U : State} {X Y : Array Value} (hvm : u.vm.Alike U.vm) (h : ∀ w ∈ badT, w.before X u = true) : ∀ w ∈ badT, w.before Y U = true := by
  have d : ∀ x, (Cond.declares x).before X u = true → (Cond.declares x).before Y U = true := fun x h1 => va_tabs rfl (rfl : (u.setVm U.vm).vm = U.vm) (by rw [Cond.declares_setVm hvm]; exact h1)
  have c : ∀ x y, (Cond.castable x y).before X u = true → (Cond.castable x y).before Y U = true := fun x y h1 => va_tabs rfl (rfl : (u.setVm U.vm).vm = U.vm) (by rw [Cond.castable_setVm hvm]; exact h1)
  intro w hw
  have h1 := h w hw
  unfold badT at hw
  rcases List.mem_cons.mp hw with rfl | hw
  · exact d _ h1
  rcases List.mem_cons.mp hw with rfl | hw
  · exact d _ h1
  rcases List.mem_cons.mp hw with rfl | hw
  · exact d _ h1
  rcases List.mem_cons.mp hw with rfl | hw
  · exact d _ h1
  rcases List.mem_cons.mp hw with rfl | hw
  · exact c _ _ h1
  rcases List.mem_cons.mp hw with rfl | hw
  · exact c _ _ h1
  · exact absurd hw List.not_mem_nil
theorem good_in {L : List Cond} (h : L.all (fun w => decide (w ∈ tables_1) && goodWord w) = true) : ∀ w ∈ L, w ∈ lw_all := in_all h
set_option maxRecDepth 100000 in
theorem atA1 : ∀ w ∈ (vx_at0 RX3 101 EA nmA).filter goodWord, w ∈ lw_all := in_all (by decide +kernel)
set_option maxRecDepth 100000 in
theorem atA2 : ∀ w ∈ (vx_at0 RX3 101 EA nmA).filter (fun w => !goodWord w), w ∈ badT := by decide +kernel
set_option maxRecDepth 100000 in
theorem atA3 : ∀ w ∈ Cond.classLink RX3 99 EA :: Cond.initialized EA :: vx_at0 RX3 101 EA nmA, vx_ot w = true := by decide +kernel
set_option maxRecDepth 100000 in
theorem atB1 : ∀ w ∈ (vx_at0 RX3 158 EB nmB).filter goodWord, w ∈ lw_all := in_all (by decide +kernel)
set_option maxRecDepth 100000 in
theorem atB2 : ∀ w ∈ (vx_at0 RX3 158 EB nmB).filter (fun w => !goodWord w), w ∈ badT := by decide +kernel
set_option maxRecDepth 100000 in
theorem atB3 : ∀ w ∈ Cond.classLink RX3 156 EB :: Cond.initialized EB :: vx_at0 RX3 158 EB nmB, vx_ot w = true := by decide +kernel
/-- what a throw needs of the heap -/
def ZZ (A : Nat → Prop) (U : State) : Prop := vx_Zq Bundle.tN "UNASSIGNED_STACK" Bundle.steD A U U.heap ∧ vx_Zq Bundle.tN "SUPPRESSED_SENTINEL" Bundle.listD A U U.heap ∧ (∀ w ∈ badT, w.before #[] U = true) ∧ ∀ q : Nat, U.heap.size ≤ q → A q
theorem ZZ.to {A : Nat → Prop} {s U : State} {H : Heap} {locs : List Loc} (h : ZZ A s) (hS : va_S A s.heap H locs) (hU : U.heap = H) (hvm : s.vm.Alike U.vm) : ZZ A U := by
  obtain ⟨h1, h2, h3, h4⟩ := h
  refine ⟨?_, ?_, badT_moved hvm h3, fun q hq => h4 q (Nat.le_trans hS.1 (by rw [hU] at hq; exact hq))⟩
  · rw [hU]; exact (h1.kept hS.2.1).moved hvm
  · rw [hU]; exact (h2.kept hS.2.1).moved hvm
def PX (D : va_G) (τ : Nat → ClassId) (ρ : Nat → Nat) (A : Nat → Prop) (as : List Value) (σ : aS) : Array Value → State → Prop := va_Pc (as.map (rv ρ)) (fun U => va_P D cl0 (wl ρ τ σ) U.heap ∧ va_K D cl0 (tyl τ) U ∧ va_D A (wl ρ τ σ) ∧ ZZ A U)
theorem PX_blind (D : va_G) (τ : Nat → ClassId) (ρ : Nat → Nat) (A : Nat → Prop) (as : List Value) (σ : aS) : FrameBlind (PX D τ ρ A as σ) := fun a U g mk q => by
  obtain ⟨q0, qP, qK, qD, qZ⟩ := q
  exact ⟨q0, qP, va_K.moved (u := U) (U := U.calling g mk a) (Vm.Alike.refl U.vm) qK, qD, qZ.to (s := U) (U := U.calling g mk a) (locs := []) va_S.rf rfl (Vm.Alike.refl U.vm)⟩
def XX (D : va_G) (τ : Nat → ClassId) (ρ : Nat → Nat) (A : Nat → Prop) (cls : String) (postX : aS → Prop) : String → State → State → Prop := vx_X (fun σ : aS => postX σ) (fun E σ t => E = cls ∧ va_P D cl0 (wl ρ τ σ) t.heap ∧ va_K D cl0 (tyl τ) t ∧ va_D A (wl ρ τ σ)) A
abbrev rmX : Room := { frames := 8, cells := 1, slots := 6, locals := 48 * 8 }
theorem metX {l : Launch} (hl0 : l.stackTraces = false) {y : MethodName} {bytes : ByteArray} {maxL : Nat} {ret : Option FieldType} {lvl : Nat} {P : List En} {CE : List (Nat × Nat × Tr)} {cut : List (Nat × List Nat)} (hy : plainName y.cls = true) (hchk : P.all (chk bytes maxL y.cls) = true) (hlvl : lvl ≤ 8) (hCE : CEok l y.cls lvl CE) {D : va_G} {τ : Nat → ClassId} {ρ : Nat → Nat} {A : Nat → Prop} {as : List Value} {σ0 : aS} {post : Option Value → aS → Prop} {postX : aS → Prop} (hlen : (lg_sl (as.map (rv ρ))).length ≤ maxL)
    {tpc ik ic : Nat} {cls : String} {names : List String} (hcls : Bundle.fit cls = true) (hnames : ∀ n ∈ names, Bundle.fit n = true) (hk : Cond.classLink y.cls ik cls ∈ lw_all) (hini : Cond.initialized cls ∈ lw_all) (h1 : ∀ w ∈ (vx_at0 y.cls ic cls names).filter goodWord, w ∈ lw_all) (h2 : ∀ w ∈ (vx_at0 y.cls ic cls names).filter (fun w => !goodWord w), w ∈ badT) (h3 : ∀ w ∈ Cond.classLink y.cls ik cls :: Cond.initialized cls :: vx_at0 y.cls ic cls names, vx_ot w = true)
    (d0 : decode bytes tpc = .ok (.new ik, 3)) (d3 : decode bytes (tpc + 3) = .ok (.dup, 1)) (d4 : decode bytes (tpc + 4) = .ok (.invokespecial ic, 3)) (d7 : decode bytes (tpc + 7) = .ok (.athrow, 1)) (hnl : names.length ≤ 3)
    (hB : ∀ G : Nat → LV → List Value → aS → Prop, (∀ n b pc lv st σ, seg (0, fun _ => 0) P CE cut G (fun v σ => rFit ret v ∧ post v σ) n b pc lv st σ → G pc lv st σ) → (∀ lv σ, postX σ → G tpc lv [] σ) → G 0 (lv_args 0 as) [] σ0) :
    vx_Met l y (.code y bytes maxL ret :: lw_all) rmX (PX D τ ρ A as σ0) (QW D τ ρ A post) (XX D τ ρ A cls postX) 1 6 A := by
  refine vx_ofW (cc := bytes) (maxL := maxL) (ret := ret) hy rfl ?_
  intro p e s m args below meth c s₁ B hml hT hv
  obtain ⟨rfl, hP, hK, hD, hZ⟩ := hv
  have hx := B.exec
  have hb := B.bytes
  have hr := B.returns
  have hts := atoms_spec (ws := .code y bytes maxL ret :: lw_all) B.pre
  have hts : ∀ w ∈ lw_all, w.before _ s = true := fun w h => hts w (List.mem_cons_of_mem _ h)
  have hown : s.vm.findClass y.cls = some m.cls := findClass_of_methodNamed B.named
  have hlocks := B.notSynchronized
  have hl := lv_entry (as.map (rv ρ)) (n := maxL) hlen
  rw [lg_entry_eq]
  generalize (lg_sl (as.map (rv ρ)) ++ List.replicate (maxL - (lg_sl (as.map (rv ρ))).length) Slot.unset).toArray = ls at hl ⊢
  rw [← lr_args] at hl
  have F : Fx p m c bytes maxL s (as.map (rv ρ)).toArray y.cls D τ := ⟨hx, hb, hml, hown, hts, hK⟩
  refine hB (Gd p l e (headSpec (.code y bytes maxL ret :: lw_all) rmX).room s m (as.map (rv ρ)).toArray below meth c 0 0 (vx_MQ below (QW D τ ρ A post) (XX D τ ρ A cls postX) (as.map (rv ρ)).toArray s 1 6 A) maxL D ρ τ A s.heap) (fun n b pc lv st σ h => seg_sound (Or.inl rfl) F hchk (fun q hq => hCE q hq F (show lvl ≤ 8 from hlvl) (show 48 * lvl ≤ 48 * 8 by omega) (Nat.zero_le _) (Nat.zero_le _)) ?_ n b pc lv st σ h) ?_ s.heap [] ls hl hP hD va_S.rf
  · intro ins pc v σ lv hi hdg hq H locs ls hl hP hD hS
    obtain ⟨hfit, hq⟩ := hq
    have fin : ∀ t : State, t.heap = H → s.WarmedH t.vm → QW D τ ρ A post (as.map (rv ρ)).toArray s (.returned (v.map (rv ρ))) t := fun t ht hW => ⟨⟨v, σ, rfl, hq, by rw [ht]; exact hP, va_K.moved hW.alike hK, hD⟩, hS.F ht⟩
    refine vx_ret (W.widen (k := 1) (n := 6) (by decide) (by decide) ?_)
    cases v with
    | none =>
      have hi : ins = .return_ := isRet_v hi
      subst hi
      exact W.vret hx hb (hr.trans (rFit_v hfit)) fin hS.2.2 hdg
    | some v => cases v with
      | int x =>
        have hi : ins = .ireturn := isRet_i hi
        subst hi
        rcases rFit_i hfit with h | ⟨h, hf⟩
        · exact W.iret hx hb (hr.trans h) fin hS.2.2 hdg
        · exact W.zret (ty := .boolean) hx hb (hr.trans h) (by rcases hf with rfl | rfl <;> rfl) fin hS.2.2 hdg
      | long x =>
        have hi : ins = .lreturn := isRet_l hi
        subst hi
        exact W.lret hx hb (hr.trans (rFit_l hfit)) fin hS.2.2 hdg
      | double x =>
        have hi : ins = .dreturn := isRet_d hi
        subst hi
        exact W.dret hx hb (hr.trans (rFit_d hfit)) fin hS.2.2 hdg
      | _ => exact absurd hi (by cases ins <;> exact id)
  · intro lv σ hp H locs ls hl hP hD hS
    refine vx_throw0 (ik := ik) (ic := ic) (cls := cls) (names := names) (rest := []) hx hb hl0 hown hcls hnames (hts _ hk) (hts _ hini) (vx_hat (fun w hw => hts w (h1 w hw)) h2 (badT_moved (Vm.Alike.refl s.vm) hZ.2.2.1)) h3 hZ.1 hZ.2.1 hS (hl.1.trans hml.symm) d0 d3 d4 d7 (fun x hx => (hT x hx).elim) (show names.length + 3 < 8 by omega) (show 0 + (13 * (names.length + 1) + 42) ≤ 48 * 8 by omega) (Nat.le_of_ble_eq_true rfl) (Nat.le_of_ble_eq_true rfl) hlocks (fun t hvm hz heq => ?_) hS.2.2 (by decide) (by decide)
    refine ⟨σ, hp, ⟨rfl, hP.kept (fun k x hx => heq x.1 ((hP k x hx).lt)), va_K.moved hvm hK, hD⟩, ⟨Nat.le_trans hS.1 hz, fun q a b => (heq q (Nat.lt_of_lt_of_le a hS.1)).trans (hS.2.1 q a b)⟩⟩
def bX3_side_0 (c : CS) (a b d : Int32) (kr : Int64 → Prop) (kx : Prop) : Prop :=
  (if (vX2_has c a) = 0 then kx else (if b < 0 then kx else (if (c.1 0) ≤ b then kx else (if (fX3_isEnd d) = 0 then kx else (vp_in ((fX2_place a b) + d) 600 ∧ kr (c.2.2 12 ((fX2_place a b) + d).toNatClampNeg))))))
def ceX3_side : List (Nat × Nat × Tr) := (2 * 92 + 1, 1 + 1, tX2_has) :: (2 * 96, 1, tX3_isEnd) :: (2 * 105, 2, tX2_place) :: []
theorem coX3_side (l : Launch) : CEok l yX3_side.cls 1 ceX3_side := ce_V (ci := 1) (n := 1) rfl (okX2_has l) rcX2_has (mw 409 (by decide +kernel) rfl) (mw 410 (by decide +kernel) rfl) (mw 411 (by decide +kernel) rfl) (mw 3 (by decide +kernel) rfl) (mw 412 (by decide +kernel) rfl) rfl (by decide) ⟨by decide, by decide⟩ (ce_S (okX3_isEnd l) (mw 417 (by decide +kernel) rfl) (mw 418 (by decide +kernel) rfl) (mw 1 (by decide +kernel) rfl) (mw 419 (by decide +kernel) rfl) (by decide) ⟨by decide, by decide⟩ (ce_S (okX2_place l) (mw 201 (by decide +kernel) rfl) (mw 202 (by decide +kernel) rfl) (mw 3 (by decide +kernel) rfl) (mw 203 (by decide +kernel) rfl) (by decide) ⟨by decide, by decide⟩ (ce_0)))
set_option maxRecDepth 20000 in
set_option maxHeartbeats 4000000 in
theorem okx_side {l : Launch} (hl0 : l.stackTraces = false) (D : va_G) (τ : Nat → ClassId) (ρ : Nat → Nat) (A : Nat → Prop) (c : CS) (M : aS) (a b d : Int32) (post : Option Value → aS → Prop) (postX : aS → Prop) (hb : bX3_side_0 c a b d (fun v => post (some (.long v)) (wC c ++ M)) (postX (wC c ++ M))) : vx_Met l yX3_side (.code yX3_side cX3_side 4 (some .long) :: lw_all) rmX (PX D τ ρ A [.ref 0, .int a, .int b, .int d] (wC c ++ M)) (QW D τ ρ A post) (XX D τ ρ A EA postX) 1 6 A := by
  refine metX hl0 (P := pgX3_side) (CE := ceX3_side) (cut := [(30, [])]) (lvl := 1) (tpc := 30) (ik := 99) (ic := 101) (names := nmA) (by decide) kkX3_side (by decide) (coX3_side l) (Nat.le_of_ble_eq_true rfl) (by decide +kernel) (by decide +kernel) (mw 584 (by decide +kernel) rfl) (mw 14 (by decide +kernel) rfl) atA1 atA2 atA3 (by decide +kernel) (by decide +kernel) (by decide +kernel) (by decide +kernel) (by decide) ?_
  intro G hG hX
  unfold bX3_side_0 at hb
  refine hG 400 false 0 _ _ _ ?_
  refine Exists.intro c (Exists.intro M ((And.intro rfl (?_))))
  refine And.intro (fun (h : (vX2_has c a) = 0) => ?_) (fun (h : ¬ (vX2_has c a) = 0) => ?_)
  · rw [if_pos h] at hb
    exact hX _ _ hb
  · rw [if_neg h] at hb
    refine And.intro (fun (h : b < 0) => ?_) (fun (h : ¬ b < 0) => ?_)
    · rw [if_pos h] at hb
      exact hX _ _ hb
    · rw [if_neg h] at hb
      refine And.intro (fun (h : (c.1 0) ≤ b) => ?_) (fun (h : ¬ (c.1 0) ≤ b) => ?_)
      · rw [if_pos h] at hb
        exact hX _ _ hb
      · rw [if_neg h] at hb
        refine And.intro (fun (h : ¬ (fX3_isEnd d) = 0) => ?_) (fun hq => have h : (fX3_isEnd d) = 0 := Classical.not_not.mp hq; ?_)
        · rw [if_neg h] at hb
          obtain ⟨hi, hb⟩ := hb
          refine And.intro hi ?_
          exact ⟨trivial, hb⟩
        · rw [if_pos h] at hb
          exact hX _ _ hb
def bX3_share_0 (c : CS) (a : Int32) (kr : Int32 → CS → Prop) (kx : CS → Prop) : Prop :=
  (if (fX3_isBoxKind a) = 0 then kr (-2) c else (if (c.1 3) = 0 then kr (-3) c else (wX2_howMany c 3 (fun r1 X1 => (if r1 = 0 then kx X1 else (wX2_howMany X1 a (fun r2 X2 => ¬ r1 = 0 ∧ kr (r2 / r1) X2)))))))
def ceX3_share : List (Nat × Nat × Tr) := (2 * 136, 1, tX3_isBoxKind) :: (2 * 153 + 1, 1 + 1, tX2_howMany) :: []
theorem coX3_share (l : Launch) : CEok l yX3_share.cls 2 ceX3_share := ce_S (okX3_isBoxKind l) (mw 458 (by decide +kernel) rfl) (mw 459 (by decide +kernel) rfl) (mw 1 (by decide +kernel) rfl) (mw 460 (by decide +kernel) rfl) (by decide) ⟨by decide, by decide⟩ (ce_V (ci := 1) (n := 1) rfl (okX2_howMany l) rcX2_howMany (mw 619 (by decide +kernel) rfl) (mw 620 (by decide +kernel) rfl) (mw 621 (by decide +kernel) rfl) (mw 3 (by decide +kernel) rfl) (mw 622 (by decide +kernel) rfl) rfl (by decide) ⟨by decide, by decide⟩ (ce_0))
set_option maxRecDepth 20000 in
set_option maxHeartbeats 4000000 in
theorem okx_share {l : Launch} (hl0 : l.stackTraces = false) (D : va_G) (τ : Nat → ClassId) (ρ : Nat → Nat) (A : Nat → Prop) (c : CS) (M : aS) (a : Int32) (post : Option Value → aS → Prop) (postX : aS → Prop) (hb : bX3_share_0 c a (fun v X => post (some (.int v)) (wC X ++ M)) (fun X => postX (wC X ++ M))) : vx_Met l yX3_share (.code yX3_share cX3_share 3 (some .int) :: lw_all) rmX (PX D τ ρ A [.ref 0, .int a] (wC c ++ M)) (QW D τ ρ A post) (XX D τ ρ A EB postX) 1 6 A := by
  refine metX hl0 (P := pgX3_share) (CE := ceX3_share) (cut := [(36, [])]) (lvl := 2) (tpc := 36) (ik := 156) (ic := 158) (names := nmB) (by decide) kkX3_share (by decide) (coX3_share l) (Nat.le_of_ble_eq_true rfl) (by decide +kernel) (by decide +kernel) (mw 623 (by decide +kernel) rfl) (mw 16 (by decide +kernel) rfl) atB1 atB2 atB3 (by decide +kernel) (by decide +kernel) (by decide +kernel) (by decide +kernel) (by decide) ?_
  intro G hG hX
  unfold bX3_share_0 at hb
  refine hG 400 false 0 _ _ _ ?_
  refine And.intro (fun (h : ¬ (fX3_isBoxKind a) = 0) => ?_) (fun hq => have h : (fX3_isBoxKind a) = 0 := Classical.not_not.mp hq; ?_)
  · rw [if_neg h] at hb
    refine And.intro (fun (h : ¬ (c.1 3) = 0) => ?_) (fun hq => have h : (c.1 3) = 0 := Classical.not_not.mp hq; ?_)
    · rw [if_neg h] at hb
      refine Exists.intro c (Exists.intro M ((And.intro rfl (mnX2_howMany ?_ hb))))
      intro r1 X1 hb
      refine And.intro (fun (h : ¬ r1 = 0) => ?_) (fun hq => have h : r1 = 0 := Classical.not_not.mp hq; ?_)
      · rw [if_neg h] at hb
        refine Exists.intro X1 (Exists.intro M ((And.intro rfl (mnX2_howMany ?_ hb))))
        intro r2 X2 hb
        exact ⟨hb.1, trivial, hb.2⟩
      · rw [if_pos h] at hb
        exact hX _ _ hb
    · rw [if_pos h] at hb
      exact ⟨trivial, hb⟩
  · rw [if_pos h] at hb
    exact ⟨trivial, hb⟩
