/-! A METHOD'S CONTRACT over a world of numbered cells, and its calls -/
abbrev rmL (n : Nat) : Room := { frames := n, cells := 0, slots := 0, locals := 48 * n }
def PW (D : va_G) (τ : Nat → ClassId) (ρ : Nat → Nat) (A : Nat → Prop) (as : List Value) (σ : aS) : Array Value → State → Prop := va_Pc (as.map (rv ρ)) (fun U => va_P D cl0 (wl ρ τ σ) U.heap ∧ va_K D cl0 (tyl τ) U ∧ va_D A (wl ρ τ σ))
def QW (D : va_G) (τ : Nat → ClassId) (ρ : Nat → Nat) (A : Nat → Prop) (post : Option Value → aS → Prop) : Array Value → State → Outcome → State → Prop := fun _ s o t => (∃ (v : Option Value) (σ : aS), o = .returned (v.map (rv ρ)) ∧ post v σ ∧ va_P D cl0 (wl ρ τ σ) t.heap ∧ va_K D cl0 (tyl τ) t ∧ va_D A (wl ρ τ σ)) ∧ va_F A s t
def MetW (l : Launch) (y : MethodName) (cc : ByteArray) (nL : Nat) (ret : Option FieldType) (lvl : Nat) (D : va_G) (τ : Nat → ClassId) (ρ : Nat → Nat) (A : Nat → Prop) (as : List Value) (σ : aS) (post : Option Value → aS → Prop) : Prop :=
  Met l y (.code y cc nL ret :: lw_all) (rmL lvl) (PW D τ ρ A as σ) (QW D τ ρ A post) 0 0 A
/-- the method does what its transformer says, in every world -/
def OK (l : Launch) (y : MethodName) (cc : ByteArray) (nL : Nat) (ret : Option FieldType) (lvl : Nat) (T : Tr) : Prop := ∀ (D : va_G) (τ : Nat → ClassId) (ρ : Nat → Nat) (A : Nat → Prop) (as : List Value) (σ : aS) (post : Option Value → aS → Prop), T as σ post → MetW l y cc nL ret lvl D τ ρ A as σ post
/-- what a body owes, without the machine -/
def Bd (P : List En) (CE : List (Nat × Nat × Tr)) (cut : List (Nat × List Nat)) (Q : Option Value → aS → Prop) (as : List Value) (σ : aS) : Prop := ∀ G : Nat → LV → List Value → aS → Prop, (∀ n b pc lv st σ, seg (0, fun _ => 0) P CE cut G Q n b pc lv st σ → G pc lv st σ) → G 0 (lv_args 0 as) [] σ
def rFit (ret : Option FieldType) (v : Option Value) : Prop := match ret, v with
  | some .boolean, some (.int x) => x = 0 ∨ x = 1
  | some .int, some (.int _) => True
  | some .long, some (.long _) => True
  | some .double, some (.double _) => True
  | none, none => True
  | _, _ => False
theorem lr_args (ρ : Nat → Nat) : ∀ (as : List Value) (i : Nat), lr ρ (lv_args i as) = lv_args i (as.map (rv ρ))
  | [], _ => rfl
  | v :: vs, i => by
    show (i, rv ρ v) :: lr ρ (lv_args (if v.category = 2 then i + 2 else i + 1) vs) = (i, rv ρ v) :: lv_args (if (rv ρ v).category = 2 then i + 2 else i + 1) (vs.map (rv ρ))
    rw [lr_args ρ vs, rv_cat]
theorem PW_blind (D : va_G) (τ : Nat → ClassId) (ρ : Nat → Nat) (A : Nat → Prop) (as : List Value) (σ : aS) : FrameBlind (PW D τ ρ A as σ) := fun a U g mk q => by
  obtain ⟨q0, qP, qK, qD⟩ := q
  exact ⟨q0, qP, va_K.moved (u := U) (U := U.calling g mk a) (Vm.Alike.refl U.vm) qK, qD⟩
/-- a list of calls is right for all methods of a class at a level -/
def CEok (l : Launch) (own : String) (lvl : Nat) (CE : List (Nat × Nat × Tr)) : Prop := ∀ q ∈ CE, ∀ {p : Program} {e : Env} {R : Room} {s : State} {m : MethodId} {args : Array Value} {below : List Frame} {meth : Method} {c : Code} {cells slots : Nat} {Z : State → Prop} {cc : ByteArray} {nL : Nat} {D : va_G} {ρ : Nat → Nat} {τ : Nat → ClassId} {A : Nat → Prop} {H0 : Heap}, Fx p m c cc nL s args own D τ → lvl ≤ R.frames → 48 * lvl ≤ R.locals → cells ≤ R.cells → slots ≤ R.slots → COK p l e R s m args below meth c cells slots Z cc nL D ρ τ A H0 q
section
variable {l : Launch} {own : String} {lvl lv2 : Nat} {y : MethodName} {bytes : ByteArray} {maxL n : Nat} {ret : Option FieldType} {T : Tr} {idx : Nat}
/-- behind a call -/
theorem call_end {p : Program} {e : Env} {R : Room} {s : State} {m : MethodId} {args : Array Value} {below : List Frame} {meth : Method} {c : Code} {cells slots : Nat} {Z : State → Prop} {nL : Nat} {D : va_G} {ρ : Nat → Nat} {τ : Nat → ClassId} {A : Nat → Prop} {H0 H : Heap} {locs : List Loc} {ls : Array Slot} {pc : Nat} {lv : LV} {st0 : List Value} {rest : List Value} {kk : Option Value → aS → Prop} {a : Array Value}
    (hr : va_Run p l e R s m args below meth c H locs cells slots 0 0 (F0 m pc ls st0) (rest.map (rv ρ)) (QW D τ ρ A kk a) A) (hl : lv_has ls nL (lr ρ lv)) (hS : va_S A H0 H locs)
    (hkk : ∀ v σ', kk v σ' → Gd p l e R s m args below meth c cells slots Z nL D ρ τ A H0 (pc + 3) lv (v.toList ++ rest) σ') : W p l e R s m args below meth c H locs cells slots Z (F0 m pc ls st0) := by
  intro U hU X
  obtain ⟨v, st₀, t, T', L, h0, X', hL, e1, e2, ⟨⟨v', σ', hv, hpost, hP', hK', hD'⟩, hF⟩, st⟩ := hr U hU X
  have hv : v = v'.map (rv ρ) := by cases hv; rfl
  subst hv
  have hz := hF.1
  have hq := hF.2
  rw [h0] at hz hq
  have hS' : va_S A H0 T'.heap (locs ++ L) := ⟨Nat.le_trans hS.1 (by rw [e1]; exact hz), fun q h1 h2 => by rw [e1, hq q (Nat.lt_of_lt_of_le h1 hS.1) h2]; exact hS.2.1 q h1 h2, fun q hq => by
    rcases List.mem_append.mp hq with h | h
    · exact hS.2.2 q h
    · exact hL q h⟩
  have key := hkk v' σ' hpost T'.heap (locs ++ L) ls hl (by rw [e1]; exact hP') hD' hS'
  have est : (v'.toList ++ rest).map (rv ρ) = (v'.map (rv ρ)).toList ++ rest.map (rv ρ) := by cases v' <;> simp
  rw [est] at key
  obtain ⟨t2, a1, b1⟩ := key T' rfl X'
  exact ⟨t2, st t2 a1, b1⟩
theorem ce_S (hOK : OK l y bytes maxL ret lv2 T) (h1 : Cond.methodLink own idx y ∈ lw_all) (h2 : Cond.static y ∈ lw_all) (h3 : Cond.initialized y.cls ∈ lw_all) (h4 : Cond.code y bytes maxL ret ∈ lw_all)
    (hd : y.cls ≠ "java/lang/invoke/MethodHandle" ∧ y.cls ≠ "java/lang/invoke/VarHandle" ∧ (parseMethodDescriptor y.desc).map (fun d => d.parameters.length) = some n) (hR : lv2 + 1 ≤ lvl ∧ 8 + (maxL + 11) + 48 * lv2 ≤ 48 * lvl) {CE : List (Nat × Nat × Tr)} (hCE : CEok l own lvl CE) : CEok l own lvl ((2 * idx, n, T) :: CE) := by
  intro q hq
  rcases List.mem_cons.mp hq with rfl | hq
  · intro p e R s m args below meth c cells slots Z cc nL D ρ τ A H0 F hRf hRl hRc hRs
    obtain ⟨hx, hb, hml, hown, hts, hK⟩ := F
    intro ins pc as σ kk lv rest hins hdg hlen hT hroom hkk H locs ls hl hP hD hS
    have hins : ins = .invokestatic idx := by
      obtain ⟨i, ⟨a1, a2⟩ | ⟨a1, a2⟩⟩ := hins
      · have : i = idx := by simp at a2; omega
        rw [a1, this]
      · simp at a2; omega
    subst hins
    have hM := hOK D τ ρ A as σ kk hT
    have est : (as.reverse ++ rest).map (rv ρ) = (as.map (rv ρ)).reverse ++ rest.map (rv ρ) := by simp
    rw [est]
    refine call_end (va_runS (As := as.map (rv ρ)) (rest := rest.map (rv ρ)) (n := n) ⟨hx, hb, hml, hown, hts⟩ hM (va_cwS n hts ?_ rfl rfl rfl hd ⟨?_, ?_⟩) ⟨PW_blind D τ ρ A as σ, fun U hU hW => ⟨rfl, by rw [hU]; exact hP, va_K.moved hW.alike hK, hD⟩⟩ rfl (by rw [List.length_map]; exact hlen) hl.1 rfl (lv_room (by rw [List.map_map]; exact Nat.le_trans (Nat.le_of_eq (congrArg List.sum (List.map_congr_left fun v _ => rv_cat ρ v))) hroom)) hdg ⟨hRc, hRs⟩) hl hS hkk
    · intro w hw
      have : w ∈ lw_all := by
        simp only [va_wsS, List.cons_append, List.nil_append, List.mem_cons] at hw
        rcases hw with rfl | rfl | rfl | rfl | hw
        · exact h1
        · exact h2
        · exact h3
        · exact h4
        · exact hw
      exact ⟨this, good_of_word (lw_all_good this)⟩
    · exact Nat.le_trans hR.1 hRf
    · exact Nat.le_trans hR.2 hRl
  · exact hCE q hq
theorem ce_V {ci : Nat} {C : vw_C} (hc : cl0[ci]? = some C) (hOK : OK l y bytes maxL ret lv2 T) (hrc : ∀ as σ kk, T as σ kk → ∃ a r fs, as = .ref a :: r ∧ σ[a]? = some (.inr (ci, fs))) (h1 : Cond.methodLink own idx y ∈ lw_all) (h2 : Cond.instanceMethod y ∈ lw_all) (h5 : Cond.selects C.1 y y ∈ lw_all) (h3 : Cond.initialized C.1 ∈ lw_all) (h4 : Cond.code y bytes maxL ret ∈ lw_all) (hyc : y.cls = C.1)
    (hd : y.cls ≠ "java/lang/invoke/MethodHandle" ∧ y.cls ≠ "java/lang/invoke/VarHandle" ∧ (parseMethodDescriptor y.desc).map (fun d => d.parameters.length) = some n) (hR : lv2 + 1 ≤ lvl ∧ 8 + (maxL + 11) + 48 * lv2 ≤ 48 * lvl) {CE : List (Nat × Nat × Tr)} (hCE : CEok l own lvl CE) : CEok l own lvl ((2 * idx + 1, n + 1, T) :: CE) := by
  intro q hq
  rcases List.mem_cons.mp hq with rfl | hq
  · intro p e R s m args below meth c cells slots Z cc nL D ρ τ A H0 F hRf hRl hRc hRs
    obtain ⟨hx, hb, hml, hown, hts, hK⟩ := F
    intro ins pc as σ kk lv rest hins hdg hlen hT hroom hkk H locs ls hl hP hD hS
    have hins : ins = .invokevirtual idx := by
      obtain ⟨i, ⟨a1, a2⟩ | ⟨a1, a2⟩⟩ := hins
      · simp at a2; omega
      · have : i = idx := by simp at a2; omega
        rw [a1, this]
    subst hins
    have hM := hOK D τ ρ A as σ kk hT
    obtain ⟨a, r, fs, rfl, hfs⟩ := hrc as σ kk hT
    have est : ((.ref a :: r).reverse ++ rest).map (rv ρ) = (r.map (rv ρ)).reverse ++ .ref (ρ a) :: rest.map (rv ρ) := by simp [rv]
    rw [est]
    refine call_end (va_runV (C := C.1) (As := r.map (rv ρ)) (rest := rest.map (rv ρ)) (n := n) (b := ρ a) ⟨hx, hb, hml, hown, hts⟩ hM (cwV n hts ?_ rfl rfl rfl ⟨hyc, hd⟩ ⟨?_, ?_⟩) ⟨PW_blind D τ ρ A (.ref a :: r) σ, va_recv hK hP hc (wl_get ρ τ σ hfs), fun U hU hW => ⟨rfl, by rw [hU]; exact hP, va_K.moved hW.alike hK, hD⟩⟩ rfl (by rw [List.length_map]; simp at hlen; exact hlen) hl.1 rfl (lv_room (by rw [List.map_map]; exact Nat.le_trans (Nat.le_of_eq (congrArg List.sum (List.map_congr_left fun v _ => rv_cat ρ v))) hroom)) hdg ⟨hRc, hRs⟩) hl hS hkk
    · intro w hw
      have : w ∈ lw_all := by
        simp only [wsV, List.cons_append, List.nil_append, List.mem_cons] at hw
        rcases hw with rfl | rfl | rfl | rfl | rfl | hw
        · exact h1
        · exact h2
        · exact h5
        · exact h3
        · exact h4
        · exact hw
      exact ⟨this, good_of_word (lw_all_good this)⟩
    · exact Nat.le_trans hR.1 hRf
    · exact Nat.le_trans hR.2 hRl
  · exact hCE q hq
theorem ce_0 : CEok l own lvl [] := fun q hq => absurd hq List.not_mem_nil
theorem isRet_v {ins : Instr} (h : isRet ins none) : ins = .return_ := by cases ins <;> first | rfl | exact h.elim
theorem isRet_i {ins : Instr} {x : Int32} (h : isRet ins (some (.int x))) : ins = .ireturn := by cases ins <;> first | rfl | exact h.elim
theorem isRet_l {ins : Instr} {x : Int64} (h : isRet ins (some (.long x))) : ins = .lreturn := by cases ins <;> first | rfl | exact h.elim
theorem isRet_d {ins : Instr} {x : UInt64} (h : isRet ins (some (.double x))) : ins = .dreturn := by cases ins <;> first | rfl | exact h.elim
theorem rFit_v {ret : Option FieldType} (h : rFit ret none) : ret = none := by
  cases ret with
  | none => rfl
  | some t => cases t <;> exact h.elim
theorem rFit_i {ret : Option FieldType} {x : Int32} (h : rFit ret (some (.int x))) : ret = some .int ∨ (ret = some .boolean ∧ (x = 0 ∨ x = 1)) := by
  cases ret with
  | none => exact h.elim
  | some t => cases t <;> first | exact Or.inl rfl | exact Or.inr ⟨rfl, h⟩ | exact h.elim
theorem rFit_l {ret : Option FieldType} {x : Int64} (h : rFit ret (some (.long x))) : ret = some .long := by
  cases ret with
  | none => exact h.elim
  | some t => cases t <;> first | rfl | exact h.elim
theorem rFit_d {ret : Option FieldType} {x : UInt64} (h : rFit ret (some (.double x))) : ret = some .double := by
  cases ret with
  | none => exact h.elim
  | some t => cases t <;> first | rfl | exact h.elim
/-- A METHOD OUT OF ITS BODY -/
theorem met_of {P : List En} {CE : List (Nat × Nat × Tr)} {cut : List (Nat × List Nat)} (hy : plainName y.cls = true) (hchk : P.all (chk bytes maxL y.cls) = true) (hCE : CEok l y.cls lvl CE) {D : va_G} {τ : Nat → ClassId} {ρ : Nat → Nat} {A : Nat → Prop} {as : List Value} {σ : aS} {post : Option Value → aS → Prop} (hlen : (lg_sl (as.map (rv ρ))).length ≤ maxL) (hB : Bd P CE cut (fun v σ => rFit ret v ∧ post v σ) as σ) : MetW l y bytes maxL ret lvl D τ ρ A as σ post := by
  refine Met.ofW (cc := bytes) (maxL := maxL) (ret := ret) hy rfl ?_
  intro p e s m args below meth c s₁ B hml hv
  obtain ⟨rfl, hP, hK, hD⟩ := hv
  have hx := B.exec
  have hb := B.bytes
  have hr := B.returns
  have hts := atoms_spec (ws := .code y bytes maxL ret :: lw_all) B.pre
  have hts : ∀ w ∈ lw_all, w.before _ s = true := fun w h => hts w (List.mem_cons_of_mem _ h)
  have hown : s.vm.findClass y.cls = some m.cls := findClass_of_methodNamed B.named
  have hlocks := B.notSynchronized
  have hl := lv_entry (as.map (rv ρ)) (n := maxL) hlen
  rw [lg_entry_eq]
  generalize (lg_sl (as.map (rv ρ)) ++ List.replicate (maxL - (lg_sl (as.map (rv ρ))).length) Slot.unset).toArray = ls at hl ⊢
  rw [← lr_args] at hl
  have F : Fx p m c bytes maxL s (as.map (rv ρ)).toArray y.cls D τ := ⟨hx, hb, hml, hown, hts, hK⟩
  refine hB (Gd p l e (headSpec (.code y bytes maxL ret :: lw_all) (rmL lvl)).room s m (as.map (rv ρ)).toArray below meth c 0 0 (MQ below (QW D τ ρ A post) (as.map (rv ρ)).toArray s 0 0 A) maxL D ρ τ A s.heap) (fun n b pc lv st σ h => seg_sound (Or.inl rfl) F hchk (fun q hq => hCE q hq F (Nat.le_refl _) (Nat.le_refl _) (Nat.zero_le _) (Nat.zero_le _)) ?_ n b pc lv st σ h) s.heap [] ls hl hP hD va_S.rf
  intro ins pc v σ lv hi hdg hq H locs ls hl hP hD hS
  obtain ⟨hfit, hq⟩ := hq
  have fin : ∀ t : State, t.heap = H → s.WarmedH t.vm → QW D τ ρ A post (as.map (rv ρ)).toArray s (.returned (v.map (rv ρ))) t := fun t ht hW => ⟨⟨v, σ, rfl, hq, by rw [ht]; exact hP, va_K.moved hW.alike hK, hD⟩, hS.F ht⟩
  cases v with
  | none =>
    have hi : ins = .return_ := isRet_v hi
    subst hi
    exact W.vret hx hb (hr.trans (rFit_v hfit)) fin hS.2.2 hdg
  | some v => cases v with
    | int x =>
      have hi : ins = .ireturn := isRet_i hi
      subst hi
      rcases rFit_i hfit with h | ⟨h, hf⟩
      · exact W.iret hx hb (hr.trans h) fin hS.2.2 hdg
      · exact W.zret (ty := .boolean) hx hb (hr.trans h) (by rcases hf with rfl | rfl <;> rfl) fin hS.2.2 hdg
    | long x =>
      have hi : ins = .lreturn := isRet_l hi
      subst hi
      exact W.lret hx hb (hr.trans (rFit_l hfit)) fin hS.2.2 hdg
    | double x =>
      have hi : ins = .dreturn := isRet_d hi
      subst hi
      exact W.dret hx hb (hr.trans (rFit_d hfit)) fin hS.2.2 hdg
    | _ => exact absurd hi (by cases ins <;> exact id)
end
