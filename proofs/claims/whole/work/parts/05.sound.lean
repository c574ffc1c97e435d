section
variable {p : Program} {l : Launch} {e : Env} {R : Room} {s : State} {m : MethodId} {args : Array Value} {below : List Frame} {meth : Method} {c : Code} {cells slots : Nat} {Z : State → Prop} {cc : ByteArray} {nL : Nat} {own : String} {D : va_G} {ρ : Nat → Nat} {τ : Nat → ClassId} {A : Nat → Prop} {H0 : Heap}
def Fx (p : Program) (m : MethodId) (c : Code) (cc : ByteArray) (nL : Nat) (s : State) (args : Array Value) (own : String) (D : va_G) (τ : Nat → ClassId) : Prop := p.tables.exec = Jvm.exec ∧ c.code = cc ∧ c.maxLocals = nL ∧ s.vm.findClass own = some m.cls ∧ (∀ w ∈ lw_all, w.before args s = true) ∧ va_K D cl0 (tyl τ) s
/-- from here the machine comes to Z -/
def Gd (p : Program) (l : Launch) (e : Env) (R : Room) (s : State) (m : MethodId) (args : Array Value) (below : List Frame) (meth : Method) (c : Code) (cells slots : Nat) (Z : State → Prop) (nL : Nat) (D : va_G) (ρ : Nat → Nat) (τ : Nat → ClassId) (A : Nat → Prop) (H0 : Heap) (pc : Nat) (lv : LV) (st : List Value) (σ : aS) : Prop := ∀ (H : Heap) (locs : List Loc) (ls : Array Slot), lv_has ls nL (lr ρ lv) → va_P D cl0 (wl ρ τ σ) H → va_D A (wl ρ τ σ) → va_S A H0 H locs → W p l e R s m args below meth c H locs cells slots Z (F0 m pc ls (st.map (rv ρ)))
/-- a call of this place of the pool does what its transformer says -/
def COK (p : Program) (l : Launch) (e : Env) (R : Room) (s : State) (m : MethodId) (args : Array Value) (below : List Frame) (meth : Method) (c : Code) (cells slots : Nat) (Z : State → Prop) (cc : ByteArray) (nL : Nat) (D : va_G) (ρ : Nat → Nat) (τ : Nat → ClassId) (A : Nat → Prop) (H0 : Heap) (q : Nat × Nat × Tr) : Prop := ∀ (ins : Instr) (pc : Nat) (as : List Value) (σ : aS) (kk : Option Value → aS → Prop) (lv : LV) (rest : List Value), (∃ i, (ins = .invokestatic i ∧ q.1 = 2 * i) ∨ (ins = .invokevirtual i ∧ q.1 = 2 * i + 1)) → decode cc pc = .ok (ins, 3) → as.length = q.2.1 → q.2.2 as σ kk → (rest.map fun v => v.category).sum ≤ 8 → (∀ v σ', kk v σ' → Gd p l e R s m args below meth c cells slots Z nL D ρ τ A H0 (pc + 3) lv (v.toList ++ rest) σ') → Gd p l e R s m args below meth c cells slots Z nL D ρ τ A H0 pc lv (as.reverse ++ rest) σ
def ROK (p : Program) (l : Launch) (e : Env) (R : Room) (s : State) (m : MethodId) (args : Array Value) (below : List Frame) (meth : Method) (c : Code) (cells slots : Nat) (Z : State → Prop) (cc : ByteArray) (nL : Nat) (D : va_G) (ρ : Nat → Nat) (τ : Nat → ClassId) (A : Nat → Prop) (H0 : Heap) (Q : Option Value → aS → Prop) : Prop := ∀ (ins : Instr) (pc : Nat) (v : Option Value) (σ : aS) (lv : LV), isRet ins v → decode cc pc = .ok (ins, 1) → Q v σ → Gd p l e R s m args below meth c cells slots Z nL D ρ τ A H0 pc lv v.toList σ
/-- the law's own script, at the place 999 -/
def XOK (ρ : Nat → Nat) (A : Nat → Prop) (H0 : Heap) (s : State) (X : Nat × (Nat → Int32)) : Prop := X.1 = 0 ∨ (H0 = s.heap ∧ va_X (ρ 999) (X.1 - 1) X.2 s s.heap ∧ ρ 999 < s.heap.size ∧ ¬ A (ρ 999))
theorem tsw_of {f : Nat → Prop} {pc : Nat} {x : Int32} : ∀ {offs : List Int} {lo : Int} (_ : tsw f pc x lo offs) (j : Nat) (o : Int), offs[j]? = some o → x = Int32.ofInt (lo + j) → f ((pc : Int) + o).toNat
  | [], _, _, j, o, h1, _ => by simp at h1
  | a :: r, lo, h, 0, o, h1, h2 => by
    simp at h1; subst h1
    exact h.1 (by simpa using h2)
  | a :: r, lo, h, j + 1, o, h1, h2 => by
    refine tsw_of h.2 j o (by simpa using h1) ?_
    rw [h2]; congr 1; push_cast; omega
set_option maxHeartbeats 4000000 in
set_option maxRecDepth 20000 in
theorem s1_sound {X : Nat × (Nat → Int32)} (hX : XOK ρ A H0 s X) (F : Fx p m c cc nL s args own D τ) {CE : List (Nat × Nat × Tr)} (hCE : ∀ q ∈ CE, COK p l e R s m args below meth c cells slots Z cc nL D ρ τ A H0 q) {Q : Option Value → aS → Prop} (hQ : ROK p l e R s m args below meth c cells slots Z cc nL D ρ τ A H0 Q) {k : Nat → LV → List Value → aS → Prop} (hk : ∀ pc lv st σ, k pc lv st σ → Gd p l e R s m args below meth c cells slots Z nL D ρ τ A H0 pc lv st σ) {en : En} (hchk : chk cc nL own en = true) {lv : LV} {st : List Value} {σ : aS} (h : s1 X CE Q k en lv st σ) : Gd p l e R s m args below meth c cells slots Z nL D ρ τ A H0 en.1 lv st σ := by
  obtain ⟨pc, ins, len, tgt, ci, v, wi⟩ := en
  obtain ⟨hx, hb, hml, hown, hts, hK⟩ := F
  have hb0 := hb
  unfold chk at hchk
  rw [Bool.and_eq_true] at hchk
  obtain ⟨hdg0, hc⟩ := hchk
  have hdg := of_decide_eq_true hdg0
  clear hdg0
  show Gd p l e R s m args below meth c cells slots Z nL D ρ τ A H0 pc lv st σ
  cases ins
  case iconst n =>
    rw [Bool.and_eq_true] at hc
    obtain ⟨hv, hlen⟩ := hc
    have hlen : len = 1 := eq_of_beq hlen
    subst hlen
    have hv := of_decide_eq_true hv
    subst hv
    intro H locs ls hl hP hD hS
    exact lv_iconst hx hb hdg rfl (hk _ _ _ _ h H locs ls hl hP hD hS)
  case bipush n =>
    rw [Bool.and_eq_true] at hc
    obtain ⟨hv, hlen⟩ := hc
    have hlen : len = 2 := eq_of_beq hlen
    subst hlen
    have hv := of_decide_eq_true hv
    subst hv
    intro H locs ls hl hP hD hS
    exact lv_bipush hx hb hdg rfl (hk _ _ _ _ h H locs ls hl hP hD hS)
  case sipush n =>
    rw [Bool.and_eq_true] at hc
    obtain ⟨hv, hlen⟩ := hc
    have hlen : len = 3 := eq_of_beq hlen
    subst hlen
    have hv := of_decide_eq_true hv
    subst hv
    intro H locs ls hl hP hD hS
    exact lv_sipush hx hb hdg rfl (hk _ _ _ _ h H locs ls hl hP hD hS)
  case lconst n =>
    rw [Bool.and_eq_true] at hc
    obtain ⟨hv, hlen⟩ := hc
    have hlen : len = 1 := eq_of_beq hlen
    subst hlen
    have hv := of_decide_eq_true hv
    subst hv
    intro H locs ls hl hP hD hS
    exact lv_lconst hx hb hdg rfl (hk _ _ _ _ h H locs ls hl hP hD hS)
  case dconst n =>
    rw [Bool.and_eq_true] at hc
    obtain ⟨hv, hlen⟩ := hc
    have hlen : len = 1 := eq_of_beq hlen
    subst hlen
    have hv := of_decide_eq_true hv
    subst hv
    intro H locs ls hl hP hD hS
    match n, hdg, h with
    | 0, hdg, h => exact lv_dconst0 hx hb hdg (hk _ _ _ _ h H locs ls hl hP hD hS)
    | 1, hdg, h => exact lv_dconst1 hx hb hdg (hk _ _ _ _ h H locs ls hl hP hD hS)
  case ldc2_w i =>
    rw [Bool.and_eq_true] at hc
    obtain ⟨hlen, hv⟩ := hc
    have hlen : len = 3 := eq_of_beq hlen
    subst hlen
    cases v with
    | long x => exact fun H locs ls hl hP hD hS => lv_ldc2 hx hb hown (hts _ (mw wi (of_decide_eq_true hv) rfl)) hdg (hk _ _ _ _ h H locs ls hl hP hD hS)
    | double x => exact fun H locs ls hl hP hD hS => lv_ldc2d hx hb hown (hts _ (mw wi (of_decide_eq_true hv) rfl)) hdg (hk _ _ _ _ h H locs ls hl hP hD hS)
    | _ => exact absurd hv (by simp)
  case ldc_w i =>
    rw [Bool.and_eq_true] at hc
    obtain ⟨hlen, hv⟩ := hc
    have hlen : len = 3 := eq_of_beq hlen
    subst hlen
    cases v with
    | int x => exact fun H locs ls hl hP hD hS => lv_ldcw hx hb hown (hts _ (mw wi (of_decide_eq_true hv) rfl)) hdg (hk _ _ _ _ h H locs ls hl hP hD hS)
    | _ => exact absurd hv (by simp)
  case ldc i =>
    exact absurd hc (by simp)
  case iload_n i =>
    rw [Bool.and_eq_true] at hc
    have hlen : len = 1 := eq_of_beq hc.1
    subst hlen
    have ht := of_decide_eq_true hc.2
    obtain ⟨x, hm, h⟩ := lgi_of h
    intro H locs ls hl hP hD hS
    exact lv_iload_n hx hb hdg ht (lr_at hl hm) (hk _ _ _ _ h H locs ls hl hP hD hS)
  case iload i =>
    have hlen : len = 2 := eq_of_beq hc
    subst hlen
    obtain ⟨x, hm, h⟩ := lgi_of h
    intro H locs ls hl hP hD hS
    exact lv_iload hx hb hdg (lr_at hl hm) (hk _ _ _ _ h H locs ls hl hP hD hS)
  case lload_n i =>
    rw [Bool.and_eq_true] at hc
    have hlen : len = 1 := eq_of_beq hc.1
    subst hlen
    have ht := of_decide_eq_true hc.2
    obtain ⟨x, hm, h⟩ := lgl_of h
    intro H locs ls hl hP hD hS
    exact lv_lload_n hx hb hdg ht (lr_at hl hm) (hk _ _ _ _ h H locs ls hl hP hD hS)
  case lload i =>
    have hlen : len = 2 := eq_of_beq hc
    subst hlen
    obtain ⟨x, hm, h⟩ := lgl_of h
    intro H locs ls hl hP hD hS
    exact lv_lload hx hb hdg (lr_at hl hm) (hk _ _ _ _ h H locs ls hl hP hD hS)
  case dload_n i =>
    rw [Bool.and_eq_true] at hc
    have hlen : len = 1 := eq_of_beq hc.1
    subst hlen
    have ht := of_decide_eq_true hc.2
    obtain ⟨x, hm, h⟩ := lgd_of h
    intro H locs ls hl hP hD hS
    exact lv_dload_n hx hb hdg ht (lr_at hl hm) (hk _ _ _ _ h H locs ls hl hP hD hS)
  case dload i =>
    have hlen : len = 2 := eq_of_beq hc
    subst hlen
    obtain ⟨x, hm, h⟩ := lgd_of h
    intro H locs ls hl hP hD hS
    exact lv_dload hx hb hdg (lr_at hl hm) (hk _ _ _ _ h H locs ls hl hP hD hS)
  case aload_n i =>
    rw [Bool.and_eq_true] at hc
    have hlen : len = 1 := eq_of_beq hc.1
    subst hlen
    have ht := of_decide_eq_true hc.2
    obtain ⟨x, hm, h⟩ := lga_of h
    intro H locs ls hl hP hD hS
    exact lv_aload_n hx hb hdg ht (lr_at hl hm) (hk _ _ _ _ h H locs ls hl hP hD hS)
  case aload i =>
    have hlen : len = 2 := eq_of_beq hc
    subst hlen
    obtain ⟨x, hm, h⟩ := lga_of h
    intro H locs ls hl hP hD hS
    exact lv_aload hx hb hdg (lr_at hl hm) (hk _ _ _ _ h H locs ls hl hP hD hS)
  case istore_n i =>
    rw [Bool.and_eq_true, Bool.and_eq_true] at hc
    obtain ⟨⟨hlen, ht⟩, hi⟩ := hc
    have hlen : len = 1 := eq_of_beq hlen
    subst hlen
    have ht := of_decide_eq_true ht
    have hi := of_decide_eq_true hi
    rw [ht] at hi
    obtain ⟨x, r, rfl, h8⟩ := s1i_of h
    have h9 := ltK_1 _ lv h8
    intro H locs ls hl hP hD hS
    exact lv_istore_n hx hb hdg ht hl hi (lr_sp1 ρ lv _ (.int x)) (fun ls hl => hk _ _ _ _ h9 H locs ls hl hP hD hS)
  case istore i =>
    rw [Bool.and_eq_true] at hc
    obtain ⟨hlen, hi⟩ := hc
    have hlen : len = 2 := eq_of_beq hlen
    subst hlen
    have hi := of_decide_eq_true hi
    obtain ⟨x, r, rfl, h8⟩ := s1i_of h
    have h9 := ltK_1 _ lv h8
    intro H locs ls hl hP hD hS
    exact lv_istore hx hb hdg hl hi (lr_sp1 ρ lv _ (.int x)) (fun ls hl => hk _ _ _ _ h9 H locs ls hl hP hD hS)
  case astore_n i =>
    rw [Bool.and_eq_true, Bool.and_eq_true] at hc
    obtain ⟨⟨hlen, ht⟩, hi⟩ := hc
    have hlen : len = 1 := eq_of_beq hlen
    subst hlen
    have ht := of_decide_eq_true ht
    have hi := of_decide_eq_true hi
    rw [ht] at hi
    obtain ⟨x, r, rfl, h8⟩ := s1r_of h
    have h9 := ltK_1 _ lv h8
    intro H locs ls hl hP hD hS
    exact lv_astore_n hx hb hdg ht hl hi (lr_sp1 ρ lv _ (.ref x)) (fun ls hl => hk _ _ _ _ h9 H locs ls hl hP hD hS)
  case astore i =>
    rw [Bool.and_eq_true] at hc
    obtain ⟨hlen, hi⟩ := hc
    have hlen : len = 2 := eq_of_beq hlen
    subst hlen
    have hi := of_decide_eq_true hi
    obtain ⟨x, r, rfl, h8⟩ := s1r_of h
    have h9 := ltK_1 _ lv h8
    intro H locs ls hl hP hD hS
    exact lv_astore hx hb hdg hl hi (lr_sp1 ρ lv _ (.ref x)) (fun ls hl => hk _ _ _ _ h9 H locs ls hl hP hD hS)
  case lstore_n i =>
    rw [Bool.and_eq_true, Bool.and_eq_true] at hc
    obtain ⟨⟨hlen, ht⟩, hi⟩ := hc
    have hlen : len = 1 := eq_of_beq hlen
    subst hlen
    have ht := of_decide_eq_true ht
    have hi := of_decide_eq_true hi
    rw [ht] at hi
    obtain ⟨x, r, rfl, h8⟩ := s1l_of h
    have h9 := ltK_2 _ lv h8
    intro H locs ls hl hP hD hS
    exact lv_lstore_n hx hb hdg ht hl hi (lr_sp2 ρ lv _ (.long x)) (fun ls hl => hk _ _ _ _ h9 H locs ls hl hP hD hS)
  case lstore i =>
    rw [Bool.and_eq_true] at hc
    obtain ⟨hlen, hi⟩ := hc
    have hlen : len = 2 := eq_of_beq hlen
    subst hlen
    have hi := of_decide_eq_true hi
    obtain ⟨x, r, rfl, h8⟩ := s1l_of h
    have h9 := ltK_2 _ lv h8
    intro H locs ls hl hP hD hS
    exact lv_lstore hx hb hdg hl hi (lr_sp2 ρ lv _ (.long x)) (fun ls hl => hk _ _ _ _ h9 H locs ls hl hP hD hS)
  case dstore_n i =>
    rw [Bool.and_eq_true, Bool.and_eq_true] at hc
    obtain ⟨⟨hlen, ht⟩, hi⟩ := hc
    have hlen : len = 1 := eq_of_beq hlen
    subst hlen
    have ht := of_decide_eq_true ht
    have hi := of_decide_eq_true hi
    rw [ht] at hi
    obtain ⟨x, r, rfl, h8⟩ := s1d_of h
    have h9 := ltK_2 _ lv h8
    intro H locs ls hl hP hD hS
    exact lv_dstore_n hx hb hdg ht hl hi (lr_sp2 ρ lv _ (.double x)) (fun ls hl => hk _ _ _ _ h9 H locs ls hl hP hD hS)
  case dstore i =>
    rw [Bool.and_eq_true] at hc
    obtain ⟨hlen, hi⟩ := hc
    have hlen : len = 2 := eq_of_beq hlen
    subst hlen
    have hi := of_decide_eq_true hi
    obtain ⟨x, r, rfl, h8⟩ := s1d_of h
    have h9 := ltK_2 _ lv h8
    intro H locs ls hl hP hD hS
    exact lv_dstore hx hb hdg hl hi (lr_sp2 ρ lv _ (.double x)) (fun ls hl => hk _ _ _ _ h9 H locs ls hl hP hD hS)
  case iinc i n =>
    rw [Bool.and_eq_true] at hc
    obtain ⟨hlen, hi⟩ := hc
    have hlen : len = 3 := eq_of_beq hlen
    subst hlen
    have hi := of_decide_eq_true hi
    obtain ⟨x, hm, h8⟩ := lgi_of h
    have h9 := ltK_1 _ lv h8
    intro H locs ls hl hP hD hS
    obtain ⟨j, hj⟩ := List.getElem?_of_mem (List.mem_map.mpr ⟨(i, .int x), hm, rfl⟩ : (i, Value.int x) ∈ lr ρ lv)
    exact lv_iinc hx hb hdg hl (k := j) hj rfl hi (lr_sp1 ρ lv _ (.int _)) (fun ls hl => hk _ _ _ _ h9 H locs ls hl hP hD hS)
  case iadd =>
    have hlen : len = 1 := eq_of_beq hc
    subst hlen
    obtain ⟨x, y, r, rfl, h⟩ := s2i_of h
    intro H locs ls hl hP hD hS
    exact lv_iadd hx hb hdg (hk _ _ _ _ h H locs ls hl hP hD hS)
  case isub =>
    have hlen : len = 1 := eq_of_beq hc
    subst hlen
    obtain ⟨x, y, r, rfl, h⟩ := s2i_of h
    intro H locs ls hl hP hD hS
    exact lv_isub hx hb hdg (hk _ _ _ _ h H locs ls hl hP hD hS)
  case imul =>
    have hlen : len = 1 := eq_of_beq hc
    subst hlen
    obtain ⟨x, y, r, rfl, h⟩ := s2i_of h
    intro H locs ls hl hP hD hS
    exact lv_imul hx hb hdg (hk _ _ _ _ h H locs ls hl hP hD hS)
  case iand =>
    have hlen : len = 1 := eq_of_beq hc
    subst hlen
    obtain ⟨x, y, r, rfl, h⟩ := s2i_of h
    intro H locs ls hl hP hD hS
    exact lv_iand hx hb hdg (hk _ _ _ _ h H locs ls hl hP hD hS)
  case ior =>
    have hlen : len = 1 := eq_of_beq hc
    subst hlen
    obtain ⟨x, y, r, rfl, h⟩ := s2i_of h
    intro H locs ls hl hP hD hS
    exact lv_ior hx hb hdg (hk _ _ _ _ h H locs ls hl hP hD hS)
  case ishl =>
    have hlen : len = 1 := eq_of_beq hc
    subst hlen
    obtain ⟨x, y, r, rfl, h⟩ := s2i_of h
    intro H locs ls hl hP hD hS
    exact lv_ishl hx hb hdg (hk _ _ _ _ h H locs ls hl hP hD hS)
  case ishr =>
    have hlen : len = 1 := eq_of_beq hc
    subst hlen
    obtain ⟨x, y, r, rfl, h⟩ := s2i_of h
    intro H locs ls hl hP hD hS
    exact lv_ishr hx hb hdg (hk _ _ _ _ h H locs ls hl hP hD hS)
  case iushr =>
    have hlen : len = 1 := eq_of_beq hc
    subst hlen
    obtain ⟨x, y, r, rfl, h⟩ := s2i_of h
    intro H locs ls hl hP hD hS
    exact lv_iushr hx hb hdg rfl (hk _ _ _ _ h H locs ls hl hP hD hS)
  case idiv =>
    have hlen : len = 1 := eq_of_beq hc
    subst hlen
    obtain ⟨x, y, r, rfl, hne, h⟩ := s2i_of h
    intro H locs ls hl hP hD hS
    exact lv_idiv hx hb hdg hne (hk _ _ _ _ h H locs ls hl hP hD hS)
  case ineg =>
    have hlen : len = 1 := eq_of_beq hc
    subst hlen
    obtain ⟨x, r, rfl, h⟩ := s1i_of h
    intro H locs ls hl hP hD hS
    exact lv_ineg hx hb hdg (hk _ _ _ _ h H locs ls hl hP hD hS)
  case ladd =>
    have hlen : len = 1 := eq_of_beq hc
    subst hlen
    obtain ⟨x, y, r, rfl, h⟩ := s2l_of h
    intro H locs ls hl hP hD hS
    exact lv_ladd hx hb hdg (hk _ _ _ _ h H locs ls hl hP hD hS)
  case lsub =>
    have hlen : len = 1 := eq_of_beq hc
    subst hlen
    obtain ⟨x, y, r, rfl, h⟩ := s2l_of h
    intro H locs ls hl hP hD hS
    exact lv_lsub hx hb hdg (hk _ _ _ _ h H locs ls hl hP hD hS)
  case lmul =>
    have hlen : len = 1 := eq_of_beq hc
    subst hlen
    obtain ⟨x, y, r, rfl, h⟩ := s2l_of h
    intro H locs ls hl hP hD hS
    exact lv_lmul hx hb hdg (hk _ _ _ _ h H locs ls hl hP hD hS)
  case land =>
    have hlen : len = 1 := eq_of_beq hc
    subst hlen
    obtain ⟨x, y, r, rfl, h⟩ := s2l_of h
    intro H locs ls hl hP hD hS
    exact lv_land hx hb hdg (hk _ _ _ _ h H locs ls hl hP hD hS)
  case lor =>
    have hlen : len = 1 := eq_of_beq hc
    subst hlen
    obtain ⟨x, y, r, rfl, h⟩ := s2l_of h
    intro H locs ls hl hP hD hS
    exact lv_lor hx hb hdg (hk _ _ _ _ h H locs ls hl hP hD hS)
  case lxor =>
    have hlen : len = 1 := eq_of_beq hc
    subst hlen
    obtain ⟨x, y, r, rfl, h⟩ := s2l_of h
    intro H locs ls hl hP hD hS
    exact lv_lxor hx hb hdg (hk _ _ _ _ h H locs ls hl hP hD hS)
  case ldiv =>
    have hlen : len = 1 := eq_of_beq hc
    subst hlen
    obtain ⟨x, y, r, rfl, hne, h⟩ := s2l_of h
    intro H locs ls hl hP hD hS
    exact lv_ldiv hx hb hdg hne (hk _ _ _ _ h H locs ls hl hP hD hS)
  case lrem =>
    have hlen : len = 1 := eq_of_beq hc
    subst hlen
    obtain ⟨x, y, r, rfl, hne, h⟩ := s2l_of h
    intro H locs ls hl hP hD hS
    exact lv_lrem hx hb hdg hne (hk _ _ _ _ h H locs ls hl hP hD hS)
  case lshl =>
    have hlen : len = 1 := eq_of_beq hc
    subst hlen
    obtain ⟨x, y, r, rfl, h⟩ := sli_of h
    intro H locs ls hl hP hD hS
    exact lv_lshl hx hb hdg rfl (hk _ _ _ _ h H locs ls hl hP hD hS)
  case lshr =>
    have hlen : len = 1 := eq_of_beq hc
    subst hlen
    obtain ⟨x, y, r, rfl, h⟩ := sli_of h
    intro H locs ls hl hP hD hS
    exact lv_lshr hx hb hdg rfl (hk _ _ _ _ h H locs ls hl hP hD hS)
  case lushr =>
    have hlen : len = 1 := eq_of_beq hc
    subst hlen
    obtain ⟨x, y, r, rfl, h⟩ := sli_of h
    intro H locs ls hl hP hD hS
    exact lv_lushr hx hb hdg rfl (hk _ _ _ _ h H locs ls hl hP hD hS)
  case lcmp =>
    have hlen : len = 1 := eq_of_beq hc
    subst hlen
    obtain ⟨x, y, r, rfl, h⟩ := s2l_of h
    intro H locs ls hl hP hD hS
    exact W.lcmp hx hb hdg (hk _ _ _ _ h H locs ls hl hP hD hS)
  case i2l =>
    have hlen : len = 1 := eq_of_beq hc
    subst hlen
    obtain ⟨x, r, rfl, h⟩ := s1i_of h
    intro H locs ls hl hP hD hS
    exact lv_i2l hx hb hdg rfl (hk _ _ _ _ h H locs ls hl hP hD hS)
  case l2i =>
    have hlen : len = 1 := eq_of_beq hc
    subst hlen
    obtain ⟨x, r, rfl, h⟩ := s1l_of h
    intro H locs ls hl hP hD hS
    exact lv_l2i hx hb hdg rfl (hk _ _ _ _ h H locs ls hl hP hD hS)
  case i2d =>
    have hlen : len = 1 := eq_of_beq hc
    subst hlen
    obtain ⟨x, r, rfl, h⟩ := s1i_of h
    intro H locs ls hl hP hD hS
    exact lv_i2d hx hb hdg (hk _ _ _ _ h H locs ls hl hP hD hS)
  case l2d =>
    have hlen : len = 1 := eq_of_beq hc
    subst hlen
    obtain ⟨x, r, rfl, h⟩ := s1l_of h
    intro H locs ls hl hP hD hS
    exact lv_l2d hx hb hdg (hk _ _ _ _ h H locs ls hl hP hD hS)
  case d2i =>
    have hlen : len = 1 := eq_of_beq hc
    subst hlen
    obtain ⟨x, r, rfl, h⟩ := s1d_of h
    intro H locs ls hl hP hD hS
    exact lv_d2i hx hb hdg (hk _ _ _ _ h H locs ls hl hP hD hS)
  case d2l =>
    have hlen : len = 1 := eq_of_beq hc
    subst hlen
    obtain ⟨x, r, rfl, h⟩ := s1d_of h
    intro H locs ls hl hP hD hS
    exact lv_d2l hx hb hdg (hk _ _ _ _ h H locs ls hl hP hD hS)
  case dneg =>
    have hlen : len = 1 := eq_of_beq hc
    subst hlen
    obtain ⟨x, r, rfl, h⟩ := s1d_of h
    intro H locs ls hl hP hD hS
    exact lv_dneg hx hb hdg (hk _ _ _ _ h H locs ls hl hP hD hS)
  case d2f =>
    have hlen : len = 1 := eq_of_beq hc
    subst hlen
    obtain ⟨x, r, rfl, hne, h⟩ := s1d_of h
    intro H locs ls hl hP hD hS
    exact lv_d2f hx hb hdg hne (hk _ _ _ _ h H locs ls hl hP hD hS)
  case f2d =>
    have hlen : len = 1 := eq_of_beq hc
    subst hlen
    obtain ⟨x, r, rfl, hne, h⟩ := s1f_of h
    intro H locs ls hl hP hD hS
    exact lv_f2d hx hb hdg hne (hk _ _ _ _ h H locs ls hl hP hD hS)
  case dadd =>
    have hlen : len = 1 := eq_of_beq hc
    subst hlen
    obtain ⟨x, y, r, rfl, hne, h⟩ := s2d_of h
    intro H locs ls hl hP hD hS
    exact lv_dadd hx hb hdg hne (hk _ _ _ _ h H locs ls hl hP hD hS)
  case dsub =>
    have hlen : len = 1 := eq_of_beq hc
    subst hlen
    obtain ⟨x, y, r, rfl, hne, h⟩ := s2d_of h
    intro H locs ls hl hP hD hS
    exact lv_dsub hx hb hdg hne (hk _ _ _ _ h H locs ls hl hP hD hS)
  case dmul =>
    have hlen : len = 1 := eq_of_beq hc
    subst hlen
    obtain ⟨x, y, r, rfl, hne, h⟩ := s2d_of h
    intro H locs ls hl hP hD hS
    exact lv_dmul hx hb hdg hne (hk _ _ _ _ h H locs ls hl hP hD hS)
  case ddiv =>
    have hlen : len = 1 := eq_of_beq hc
    subst hlen
    obtain ⟨x, y, r, rfl, hne, h⟩ := s2d_of h
    intro H locs ls hl hP hD hS
    exact lv_ddiv hx hb hdg hne (hk _ _ _ _ h H locs ls hl hP hD hS)
  case dcmp op =>
    have hlen : len = 1 := eq_of_beq hc
    subst hlen
    obtain ⟨x, y, r, rfl, h⟩ := s2d_of h
    intro H locs ls hl hP hD hS
    exact lv_dcmp hx hb hdg (hk _ _ _ _ h H locs ls hl hP hD hS)
  case ifCond cd off =>
    rw [Bool.and_eq_true] at hc
    obtain ⟨hlen, ht⟩ := hc
    have hlen : len = 3 := eq_of_beq hlen
    subst hlen
    have ht := of_decide_eq_true ht
    obtain ⟨x, r, rfl, h1, h2⟩ := s1i_of h
    intro H locs ls hl hP hD hS
    cases cd with
    | eq => exact lv_if_eq hx hb hdg ht (fun q => hk _ _ _ _ (h1 q) H locs ls hl hP hD hS) (fun q => hk _ _ _ _ (h2 q) H locs ls hl hP hD hS)
    | ne => exact lv_if_ne hx hb hdg ht (fun q => hk _ _ _ _ (h1 q) H locs ls hl hP hD hS) (fun q => hk _ _ _ _ (h2 (fun z => z q)) H locs ls hl hP hD hS)
    | lt => exact lv_if_lt hx hb hdg ht (fun q => hk _ _ _ _ (h1 q) H locs ls hl hP hD hS) (fun q => hk _ _ _ _ (h2 q) H locs ls hl hP hD hS)
    | ge => exact lv_if_ge hx hb hdg ht (fun q => hk _ _ _ _ (h1 q) H locs ls hl hP hD hS) (fun q => hk _ _ _ _ (h2 q) H locs ls hl hP hD hS)
    | gt => exact lv_if_gt hx hb hdg ht (fun q => hk _ _ _ _ (h1 q) H locs ls hl hP hD hS) (fun q => hk _ _ _ _ (h2 q) H locs ls hl hP hD hS)
    | le => exact lv_if_le hx hb hdg ht (fun q => hk _ _ _ _ (h1 q) H locs ls hl hP hD hS) (fun q => hk _ _ _ _ (h2 q) H locs ls hl hP hD hS)
  case if_icmp cd off =>
    rw [Bool.and_eq_true] at hc
    obtain ⟨hlen, ht⟩ := hc
    have hlen : len = 3 := eq_of_beq hlen
    subst hlen
    have ht := of_decide_eq_true ht
    obtain ⟨x, y, r, rfl, h1, h2⟩ := s2i_of h
    intro H locs ls hl hP hD hS
    cases cd with
    | eq => exact lv_icmp_eq hx hb hdg ht (fun q => hk _ _ _ _ (h1 q) H locs ls hl hP hD hS) (fun q => hk _ _ _ _ (h2 q) H locs ls hl hP hD hS)
    | ne => exact lv_icmp_ne hx hb hdg ht (fun q => hk _ _ _ _ (h1 q) H locs ls hl hP hD hS) (fun q => hk _ _ _ _ (h2 (fun z => z q)) H locs ls hl hP hD hS)
    | lt => exact lv_icmp_lt hx hb hdg ht (fun q => hk _ _ _ _ (h1 q) H locs ls hl hP hD hS) (fun q => hk _ _ _ _ (h2 q) H locs ls hl hP hD hS)
    | ge => exact lv_icmp_ge hx hb hdg ht (fun q => hk _ _ _ _ (h1 q) H locs ls hl hP hD hS) (fun q => hk _ _ _ _ (h2 q) H locs ls hl hP hD hS)
    | gt => exact lv_icmp_gt hx hb hdg ht (fun q => hk _ _ _ _ (h1 q) H locs ls hl hP hD hS) (fun q => hk _ _ _ _ (h2 q) H locs ls hl hP hD hS)
    | le => exact lv_icmp_le hx hb hdg ht (fun q => hk _ _ _ _ (h1 q) H locs ls hl hP hD hS) (fun q => hk _ _ _ _ (h2 q) H locs ls hl hP hD hS)
  case dup =>
    have hlen : len = 1 := eq_of_beq hc
    subst hlen
    obtain ⟨w, r, rfl, hw, h9⟩ := sdp_of h
    intro H locs ls hl hP hD hS
    exact lv_dup hx hb hdg (by rw [rv_cat]; exact hw) (hk _ _ _ _ h9 H locs ls hl hP hD hS)
  case goto off =>
    rw [Bool.and_eq_true] at hc
    obtain ⟨hlen, ht⟩ := hc
    have hlen : len = 3 := eq_of_beq hlen
    subst hlen
    have ht := of_decide_eq_true ht
    intro H locs ls hl hP hD hS
    exact lv_goto hx hb hdg ht (hk _ _ _ _ h H locs ls hl hP hD hS)
  case tableswitch dflt lo hi offs =>
    simp only [Bool.and_eq_true, decide_eq_true_eq] at hc
    obtain ⟨⟨⟨ht, hsz⟩, hr1, hr2⟩, hpos⟩ := hc
    obtain ⟨x, r, rfl, h1, h2⟩ := s1i_of h
    intro H locs ls hl hP hD hS
    by_cases hin : x.toInt < lo ∨ hi < x.toInt
    · exact lv_tableOut hx hb hdg hin ht (hk _ _ _ _ (h1 hin) H locs ls hl hP hD hS)
    · have q1 : ¬ x.toInt < lo := fun z => hin (Or.inl z)
      have q2 : ¬ hi < x.toInt := fun z => hin (Or.inr z)
      have hj : (x.toInt - lo).toNat < offs.size := by omega
      have ho : offs[(x.toInt - lo).toNat]? = some (offs[(x.toInt - lo).toNat]) := Array.getElem?_eq_getElem hj
      have hox : x = Int32.ofInt (lo + ((x.toInt - lo).toNat : Int)) := by
        rw [Int.toNat_of_nonneg (by omega), show lo + (x.toInt - lo) = x.toInt by omega]; exact (Int32.ofInt_toInt x).symm
      have hp := of_decide_eq_true (List.all_eq_true.mp hpos (offs[(x.toInt - lo).toNat]) (by rw [Array.mem_toList_iff]; exact Array.getElem_mem hj))
      exact lv_tableIn hx hb hdg q1 q2 ho (Int.toNat_of_nonneg hp).symm (hk _ _ _ _ (tsw_of h2 _ _ (by rw [Array.getElem?_toList]; exact ho) hox) H locs ls hl hP hD hS)
  case iaload =>
    have hlen : len = 1 := eq_of_beq hc
    subst hlen
    obtain ⟨a, i, r, rfl, h8⟩ := sri_of h
    intro H locs ls hl hP hD hS
    by_cases ha : (a == 999) = true
    · rw [ha] at h8
      have ha := eq_of_beq ha
      subst ha
      obtain ⟨hn, hin, h9⟩ := h8
      rcases hX with h0 | ⟨e0, h1, h2, h3⟩
      · exact absurd h0 hn
      · subst e0; exact va_sld hx hb h1 h2 h3 hS hin hdg (hk _ _ _ _ h9 H locs ls hl hP hD hS)
    · rw [Bool.not_eq_true] at ha
      rw [ha] at h8
      obtain ⟨n, g, hg, hin, h9⟩ := ai_of h8
      exact va_iald hx hb hK hP a 0 (wl_get ρ τ σ hg) rfl hin hdg (hk _ _ _ _ h9 H locs ls hl hP hD hS)
  case arraylength =>
    have hlen : len = 1 := eq_of_beq hc
    subst hlen
    obtain ⟨a, r, rfl, h8⟩ := s1r_of h
    intro H locs ls hl hP hD hS
    obtain ⟨ha, hn, h9⟩ := bif_of h8
    have ha := eq_of_beq ha
    subst ha
    rcases hX with h0 | ⟨e0, h1, h2, h3⟩
    · exact absurd h0 hn
    · subst e0; exact va_slen hx hb h1 h2 h3 hS hdg (hk _ _ _ _ h9 H locs ls hl hP hD hS)
  case baload =>
    have hlen : len = 1 := eq_of_beq hc
    subst hlen
    obtain ⟨a, i, r, rfl, h⟩ := sri_of h
    obtain ⟨n, g, hg, hin, h⟩ := ai_of h
    intro H locs ls hl hP hD hS
    exact va_zald hx hb hK hP a 3 (wl_get ρ τ σ hg) rfl hin hdg (hk _ _ _ _ h H locs ls hl hP hD hS)
  case laload =>
    have hlen : len = 1 := eq_of_beq hc
    subst hlen
    obtain ⟨a, i, r, rfl, h⟩ := sri_of h
    obtain ⟨n, g, hg, hin, h⟩ := al_of h
    intro H locs ls hl hP hD hS
    exact va_lald hx hb hK hP a 1 (wl_get ρ τ σ hg) rfl hin hdg (hk _ _ _ _ h H locs ls hl hP hD hS)
  case daload =>
    have hlen : len = 1 := eq_of_beq hc
    subst hlen
    obtain ⟨a, i, r, rfl, h⟩ := sri_of h
    obtain ⟨n, g, hg, hin, h⟩ := ad_of h
    intro H locs ls hl hP hD hS
    exact va_dald hx hb hK hP a 2 (wl_get ρ τ σ hg) rfl hin hdg (hk _ _ _ _ h H locs ls hl hP hD hS)
  case iastore =>
    have hlen : len = 1 := eq_of_beq hc
    subst hlen
    obtain ⟨a, i, x, r, rfl, h⟩ := srii_of h
    obtain ⟨n, g, hg, hin, h⟩ := ai_of h
    intro H locs ls hl hP hD hS
    refine va_iast hx hb hK hP hD hS a 0 (wl_get ρ τ σ hg) rfl hin hdg (fun H locs hP hD hS => ?_)
    have e := wl_set ρ τ σ a
    exact hk _ _ _ _ h H locs ls hl ((e _) ▸ hP) ((e _) ▸ hD) hS
  case bastore =>
    have hlen : len = 1 := eq_of_beq hc
    subst hlen
    obtain ⟨a, i, x, r, rfl, h⟩ := srii_of h
    obtain ⟨n, g, hg, hin, h⟩ := ai_of h
    intro H locs ls hl hP hD hS
    refine va_zast hx hb hK hP hD hS a 3 (wl_get ρ τ σ hg) rfl hin hdg (fun H locs hP hD hS => ?_)
    have e := wl_set ρ τ σ a
    exact hk _ _ _ _ h H locs ls hl ((e _) ▸ hP) ((e _) ▸ hD) hS
  case lastore =>
    have hlen : len = 1 := eq_of_beq hc
    subst hlen
    obtain ⟨a, i, x, r, rfl, h⟩ := sril_of h
    obtain ⟨n, g, hg, hin, h⟩ := al_of h
    intro H locs ls hl hP hD hS
    refine va_last hx hb hK hP hD hS a 1 (wl_get ρ τ σ hg) rfl hin hdg (fun H locs hP hD hS => ?_)
    have e := wl_set ρ τ σ a
    exact hk _ _ _ _ h H locs ls hl ((e _) ▸ hP) ((e _) ▸ hD) hS
  case dastore =>
    have hlen : len = 1 := eq_of_beq hc
    subst hlen
    obtain ⟨a, i, x, r, rfl, h⟩ := srid_of h
    obtain ⟨n, g, hg, hin, h⟩ := ad_of h
    intro H locs ls hl hP hD hS
    refine va_dast hx hb hK hP hD hS a 2 (wl_get ρ τ σ hg) rfl hin hdg (fun H locs hP hD hS => ?_)
    have e := wl_set ρ τ σ a
    exact hk _ _ _ _ h H locs ls hl ((e _) ▸ hP) ((e _) ▸ hD) hS
  case getfield i =>
    rw [Bool.and_eq_true] at hc
    obtain ⟨hlen, hc⟩ := hc
    have hlen : len = 3 := eq_of_beq hlen
    subst hlen
    obtain ⟨a, r, rfl, h⟩ := s1r_of h
    obtain ⟨fs, hfs, h⟩ := ao_of h
    obtain ⟨w, hw, h⟩ := op1_of h
    intro H locs ls hl hP hD hS
    split at hc
    · rename_i q hq
      simp only [Bool.and_eq_true, decide_eq_true_eq] at hc
      obtain ⟨⟨hn, hwd⟩, href⟩ := hc
      exact va_get (ref := q.1) (C := q.1) (T := q.2.1) (N := q.2.2) hx hb hts (cl0_I hq).1 hown hK hP a (wl_get ρ τ σ hfs) hq tgt hn (hts _ (mw wi hwd rfl)) (fun x hx => by rw [href] at hx; exact hx) (by show (fs.map (rv ρ))[tgt]? = _; rw [List.getElem?_map, hw]; rfl) hdg (hk _ _ _ _ h H locs ls hl hP hD hS)
    · exact absurd hc (by simp)
  case putfield i =>
    rw [Bool.and_eq_true] at hc
    obtain ⟨hlen, hc⟩ := hc
    have hlen : len = 3 := eq_of_beq hlen
    subst hlen
    obtain ⟨a, x, r, rfl, h1⟩ := sri_of h
    obtain ⟨fs, hfs, h2⟩ := ao_of h1
    obtain ⟨hlt, h3⟩ := bif_of h2
    intro H locs ls hl hP hD hS
    split at hc
    · rename_i q hq
      simp only [Bool.and_eq_true, decide_eq_true_eq] at hc
      obtain ⟨⟨⟨⟨hn, hwd⟩, href⟩, hfin⟩, hty⟩ := hc
      have h5 := pN_of h3
      refine va_put (v := .int x) (ref := q.1) (C := q.1) (T := q.2.1) (N := q.2.2) hx hb hts (cl0_I hq).1 _ (cl0_I hq).2.2 (cl0_I hq).2.1 hown hK hP hD hS a (wl_get ρ τ σ hfs) hq tgt hn (hts _ (mw wi hwd rfl)) (fun x hx => by rw [href] at hx; exact hx) (eq_of_beq hfin) hty h5.1 h5.2.1 (by rw [List.length_map]; exact Nat.le_of_ble_eq_true hlt) hdg (fun H locs hP hD hS => ?_)
      have e := wl_set ρ τ σ a (.inr (ci, fs.set tgt (.int x)))
      rw [show re ρ τ (.inr (ci, fs.set tgt (.int x))) = .inr (ci, (fs.map (rv ρ)).set tgt (.int x)) by show Sum.inr (ci, (fs.set tgt (.int x)).map (rv ρ)) = _; rw [List.map_set]; rfl] at e
      exact hk _ _ _ _ h5.2.2 H locs ls hl (e ▸ hP) (e ▸ hD) hS
    · exact absurd hc (by simp)
  case invokestatic i =>
    have hlen : len = 3 := eq_of_beq hc
    subst hlen
    obtain ⟨q, hq, h7⟩ := op1_of h
    obtain ⟨as, rest, rfl, hlen, h8⟩ := popK_of _ _ _ h7
    obtain ⟨hn, h9⟩ := bif_of h8
    have hqm := List.mem_of_find?_eq_some hq
    have hqi9 := List.find?_some hq
    have hqi := eq_of_beq hqi9
    rw [List.append_nil] at h9
    have e : as ++ rest = (as.reverse).reverse ++ rest := by rw [List.reverse_reverse]
    rw [e]
    exact hCE q hqm _ pc _ σ _ lv _ (⟨i, Or.inl ⟨rfl, hqi⟩⟩) hdg (by rw [List.length_reverse]; exact hlen) h9 (Nat.le_of_ble_eq_true hn) (fun v σ' z => by cases v <;> exact hk _ _ _ _ z)
  case invokevirtual i =>
    have hlen : len = 3 := eq_of_beq hc
    subst hlen
    obtain ⟨q, hq, h7⟩ := op1_of h
    obtain ⟨as, rest, rfl, hlen, h8⟩ := popK_of _ _ _ h7
    obtain ⟨hn, h9⟩ := bif_of h8
    have hqm := List.mem_of_find?_eq_some hq
    have hqi9 := List.find?_some hq
    have hqi := eq_of_beq hqi9
    rw [List.append_nil] at h9
    have e : as ++ rest = (as.reverse).reverse ++ rest := by rw [List.reverse_reverse]
    rw [e]
    exact hCE q hqm _ pc _ σ _ lv _ (⟨i, Or.inr ⟨rfl, hqi⟩⟩) hdg (by rw [List.length_reverse]; exact hlen) h9 (Nat.le_of_ble_eq_true hn) (fun v σ' z => by cases v <;> exact hk _ _ _ _ z)
  case ireturn =>
    have hlen : len = 1 := eq_of_beq hc
    subst hlen
    match st, h with
    | [.int x], h => exact hQ .ireturn pc (some (.int x)) σ lv trivial hdg h
  case lreturn =>
    have hlen : len = 1 := eq_of_beq hc
    subst hlen
    match st, h with
    | [.long x], h => exact hQ .lreturn pc (some (.long x)) σ lv trivial hdg h
  case dreturn =>
    have hlen : len = 1 := eq_of_beq hc
    subst hlen
    match st, h with
    | [.double x], h => exact hQ .dreturn pc (some (.double x)) σ lv trivial hdg h
  case return_ =>
    have hlen : len = 1 := eq_of_beq hc
    subst hlen
    match st, h with
    | [], h => exact hQ .return_ pc none σ lv trivial hdg h
  all_goals exact (h : False).elim
theorem Gd_cn {pc : Nat} {lv : LV} {st : List Value} {σ : aS} {sl : List Nat} (h : Gd p l e R s m args below meth c cells slots Z nL D ρ τ A H0 pc (cn sl lv) st σ) : Gd p l e R s m args below meth c cells slots Z nL D ρ τ A H0 pc lv st σ := fun H locs ls hl hP hD hS => h H locs ls ⟨hl.1, hl.2.1, fun q hq => by
  obtain ⟨q', h1, rfl⟩ := List.mem_map.mp hq
  exact hl.2.2 _ (List.mem_map.mpr ⟨q', cn_mem h1, rfl⟩)⟩ hP hD hS
theorem seg_sound {X : Nat × (Nat → Int32)} (hX : XOK ρ A H0 s X) (F : Fx p m c cc nL s args own D τ) {P : List En} (hchk : P.all (chk cc nL own) = true) {CE : List (Nat × Nat × Tr)} (hCE : ∀ q ∈ CE, COK p l e R s m args below meth c cells slots Z cc nL D ρ τ A H0 q) {Q : Option Value → aS → Prop} (hQ : ROK p l e R s m args below meth c cells slots Z cc nL D ρ τ A H0 Q) {cut : List (Nat × List Nat)} : ∀ (n : Nat) (b : Bool) (pc : Nat) (lv : LV) (st : List Value) (σ : aS), seg X P CE cut (Gd p l e R s m args below meth c cells slots Z nL D ρ τ A H0) Q n b pc lv st σ → Gd p l e R s m args below meth c cells slots Z nL D ρ τ A H0 pc lv st σ
  | 0, _, _, _, _, _, h => h
  | n + 1, b, pc, lv, st, σ, h => by
    have h : segF X P CE cut (Gd p l e R s m args below meth c cells slots Z nL D ρ τ A H0) Q (seg X P CE cut (Gd p l e R s m args below meth c cells slots Z nL D ρ τ A H0) Q n) b pc lv st σ := h
    unfold segF at h
    split at h
    · exact Gd_cn h
    · obtain ⟨en, he, h9⟩ := op1_of h
      have hpc : en.1 = pc := by simpa using List.find?_some he
      subst hpc
      exact s1_sound hX F hCE hQ (fun pc lv st σ z => seg_sound hX F hchk hCE hQ n true pc lv st σ z) (List.all_eq_true.mp hchk en (List.mem_of_find?_eq_some he)) h9
end
