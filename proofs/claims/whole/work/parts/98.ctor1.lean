/-! CONSTRUCTORS: a field that is a new row, in one step -/
abbrev zI (N : Nat) : vp_A := (N, .inl (fun _ => (0 : Int32)))
abbrev zL (N : Nat) : vp_A := (N, .inr (.inl (fun _ => (0 : Int64))))
abbrev zD (N : Nat) : vp_A := (N, .inr (.inr (.inr (.inl (fun _ => (0 : UInt64))))))
section CT
variable {p : Program} {l : Launch} {e : Env} {R : Room} {s : State} {m : MethodId} {args : Array Value} {below : List Frame} {meth : Method} {c : Code} {H H0 : Heap} {locs : List Loc} {cells slots : Nat} {Q : State → Prop} {cc : ByteArray} {nL : Nat} {own : String} {D : va_G} {τ : Nat → ClassId} {A : Nat → Prop} {pc pc' : Nat} {ls : Array Slot} {rest : List Value} {ws : va_W}
def okT (t : Nat) (atype : ArrayType) (ty : FieldType) : Prop := newarray.typeOf atype = ty ∧ (∀ τ : Nat → ClassId, (tyl τ)[t]? = some (τ t, ty)) ∧ (∀ (s : State) (cA : ClassId), va_RA s cA ty → s.vm.findClass ("[" ++ ty.toString) = some cA) ∧ Cond.arrayClass ty ∈ lw_all
theorem okT_0 : okT 0 .int .int := ⟨rfl, fun _ => rfl, fun _ _ h => h, mw 60 (by decide +kernel) rfl⟩
theorem okT_1 : okT 1 .long .long := ⟨rfl, fun _ => rfl, fun _ _ h => h, mw 59 (by decide +kernel) rfl⟩
theorem okT_2 : okT 2 .double .double := ⟨rfl, fun _ => rfl, fun _ _ h => h, mw 698 (by decide +kernel) rfl⟩
theorem okT_3 : okT 3 .boolean .boolean := ⟨rfl, fun _ => rfl, fun _ _ h => h, mw 104 (by decide +kernel) rfl⟩
theorem nw_a (F : Fx p m c cc nL s args own D τ) {t : Nat} {atype : ArrayType} {ty : FieldType} (ht : okT t atype ty) (hP : va_P D cl0 ws H) (hD : va_D A ws) (hS : va_S A H0 H locs) (hA : ∀ q, H0.size ≤ q → A q) {n : Int32} {N : Nat} {a0 : vp_A} (ha : ∀ cA : ClassId, vp_cell cA a0 = arrV cA N (fun _ => defaultValue ty)) (hn : ¬ n < 0) (hN : n.toNatClampNeg = N) (hbytes : N * componentBytes ty ≤ 536870912) (hcells : cells + 1 ≤ R.cells) (hslots : slots + N ≤ R.slots) (hdg : decode cc pc = .ok (.newarray atype, 2))
    (kk : ∀ (q : Nat) (H1 : Heap), va_P D cl0 (ws ++ [(q, .inl (τ t, a0))]) H1 → va_D A (ws ++ [(q, .inl (τ t, a0))]) → va_S A H0 H1 locs → W p l e R s m args below meth c H1 locs (cells + 1) (slots + N) Q (F0 m (pc + 2) ls (.ref q :: rest))) : W p l e R s m args below meth c H locs cells slots Q (F0 m pc ls (.int n :: rest)) := by
  obtain ⟨hx, hb, hml, hown, hts, hK⟩ := F
  obtain ⟨hty, h1, h2, hw⟩ := ht
  refine va_newa hx hb (by rw [hty]; exact hts _ hw) hty hK hP hD hS hA ha hn hN hbytes hcells hslots hdg (fun q cA H1 hK1 hP1 hD1 hS1 => ?_)
  have e1 := h2 _ _ (hK.2 t _ (h1 τ)).2
  have e2 := h2 _ _ (hK1.2 4 (cA, ty) rfl).2
  have : cA = τ t := by rw [e1] at e2; exact (Option.some.inj e2).symm
  rw [this] at hP1 hD1
  exact kk q H1 hP1 hD1 hS1
/-- a final field of the new object gets a row -/
theorem put_r (F : Fx p m c cc nL s args own D τ) (hin2 : meth.name = "<init>") {h0 ci k idx q : Nat} {fs : List Value} {wr : va_W} {T : u_T} {N0 : Nat} {ty : FieldType} (hP : va_P D cl0 ((h0, .inr (ci, fs)) :: wr) H) (hD : va_D A ((h0, .inr (ci, fs)) :: wr)) (hS : va_S A H0 H locs) (hc : cl0[ci]? = some (own, T, N0)) (hk : k < N0) (hkf : k < fs.length) (hdecl : (T k).1 = own) (hfin : (T k).2.2.2 = true) (hd : parseFieldDescriptor (T k).2.2.1 = some ty) (hn : narrow ty (.ref q) = .ref q) (hfit : fits ty (.ref q) = true) (hlk : Cond.fieldLink own idx own (T k).2.1 (T k).2.2.1 ∈ lw_all) (d4 : decode cc pc = .ok (.putfield idx, 3)) (epc : pc + 3 = pc')
    (kk : ∀ (H1 : Heap) (locs1 : List Loc), va_P D cl0 ((h0, .inr (ci, fs.set k (.ref q))) :: wr) H1 → va_D A ((h0, .inr (ci, fs.set k (.ref q))) :: wr) → va_S A H0 H1 locs1 → W p l e R s m args below meth c H1 locs1 cells slots Q (F0 m pc' ls rest)) : W p l e R s m args below meth c H locs cells slots Q (F0 m pc ls (.ref q :: .ref h0 :: rest)) := by
  subst epc
  obtain ⟨hx, hb, hml, hown, hts, hK⟩ := F
  have I := cl0_I hc
  refine va_putF hx hb hts I.1 _ I.2.2 I.2.1 hown hK hP hD hS 0 rfl hc k hk (hts _ hlk) (fun x h => by rw [hdecl] at h; exact h) hfin hin2 hdecl hd hn hfit hkf d4 kk
theorem put_i (F : Fx p m c cc nL s args own D τ) {h0 ci k idx : Nat} {x : Int32} {fs : List Value} {wr : va_W} {T : u_T} {N0 : Nat} (hP : va_P D cl0 ((h0, .inr (ci, fs)) :: wr) H) (hD : va_D A ((h0, .inr (ci, fs)) :: wr)) (hS : va_S A H0 H locs) (hc : cl0[ci]? = some (own, T, N0)) (hk : k < N0) (hkf : k < fs.length) (hdecl : (T k).1 = own) (hfin : (T k).2.2.2 = false) (hd : parseFieldDescriptor (T k).2.2.1 = some .int) (hlk : Cond.fieldLink own idx own (T k).2.1 (T k).2.2.1 ∈ lw_all) (d4 : decode cc pc = .ok (.putfield idx, 3)) (epc : pc + 3 = pc')
    (kk : ∀ (H1 : Heap) (locs1 : List Loc), va_P D cl0 ((h0, .inr (ci, fs.set k (.int x))) :: wr) H1 → va_D A ((h0, .inr (ci, fs.set k (.int x))) :: wr) → va_S A H0 H1 locs1 → W p l e R s m args below meth c H1 locs1 cells slots Q (F0 m pc' ls rest)) : W p l e R s m args below meth c H locs cells slots Q (F0 m pc ls (.int x :: .ref h0 :: rest)) := by
  subst epc
  obtain ⟨hx, hb, hml, hown, hts, hK⟩ := F
  have I := cl0_I hc
  refine va_put hx hb hts I.1 _ I.2.2 I.2.1 hown hK hP hD hS 0 rfl hc k hk (hts _ hlk) (fun x h => by rw [hdecl] at h; exact h) hfin hd rfl rfl hkf d4 kk
theorem mk_f (F : Fx p m c cc nL s args own D τ) (hin2 : meth.name = "<init>") {h0 ci k idx w : Nat} {fs : List Value} {wr : va_W} {T : u_T} {N0 : Nat} {t : Nat} {atype : ArrayType} {ty : FieldType} {n : Int32} {N : Nat} {a0 : vp_A} (ht : okT t atype ty) (hl0 : ls[0]? = some (.val (.ref h0))) (hP : va_P D cl0 ((h0, .inr (ci, fs)) :: wr) H) (hD : va_D A ((h0, .inr (ci, fs)) :: wr)) (hS : va_S A H0 H locs) (hA : ∀ q, H0.size ≤ q → A q) (hc : cl0[ci]? = some (own, T, N0)) (hk : k < N0) (hkf : k < fs.length) (hdecl : (T k).1 = own) (hfin : (T k).2.2.2 = true) (hd : parseFieldDescriptor (T k).2.2.1 = some (.array ty)) (hlk : Cond.fieldLink own idx own (T k).2.1 (T k).2.2.1 ∈ lw_all)
    (ha : ∀ cA : ClassId, vp_cell cA a0 = arrV cA N (fun _ => defaultValue ty)) (hn : ¬ n < 0) (hN : n.toNatClampNeg = N) (hbytes : N * componentBytes ty ≤ 536870912) (hcells : cells + 1 ≤ R.cells) (hslots : slots + N ≤ R.slots) (d1 : decode cc pc = .ok (.aload_n 0, 1))
    (push : W p l e R s m args below meth c H locs cells slots Q (F0 m (pc + 1 + w) ls [.int n, .ref h0]) → W p l e R s m args below meth c H locs cells slots Q (F0 m (pc + 1) ls [.ref h0])) (d3 : decode cc (pc + 1 + w) = .ok (.newarray atype, 2)) (d4 : decode cc (pc + 1 + w + 2) = .ok (.putfield idx, 3)) (epc : pc + 1 + w + 2 + 3 = pc')
    (kk : ∀ (q : Nat) (H1 : Heap) (locs1 : List Loc), va_P D cl0 ((h0, .inr (ci, fs.set k (.ref q))) :: (wr ++ [(q, .inl (τ t, a0))])) H1 → va_D A ((h0, .inr (ci, fs.set k (.ref q))) :: (wr ++ [(q, .inl (τ t, a0))])) → va_S A H0 H1 locs1 → W p l e R s m args below meth c H1 locs1 (cells + 1) (slots + N) Q (F0 m pc' ls [])) : W p l e R s m args below meth c H locs cells slots Q (F0 m pc ls []) := by
  refine lv_aload_n F.1 F.2.1 d1 rfl hl0 (push (nw_a F ht hP hD hS hA ha hn hN hbytes hcells hslots d3 (fun q H1 hP1 hD1 hS1 => ?_)))
  have hP1 : va_P D cl0 ((h0, .inr (ci, fs)) :: (wr ++ [(q, .inl (τ t, a0))])) H1 := hP1
  have hD1 : va_D A ((h0, .inr (ci, fs)) :: (wr ++ [(q, .inl (τ t, a0))])) := hD1
  exact put_r (ty := .array ty) F hin2 (wr := wr ++ [(q, .inl (τ t, a0))]) hP1 hD1 hS1 hc hk hkf hdecl hfin hd rfl rfl hlk d4 epc (fun H2 locs2 hP2 hD2 hS2 => kk q H2 locs2 hP2 hD2 hS2)
theorem mk_i (F : Fx p m c cc nL s args own D τ) {h0 ci k idx : Nat} {fs : List Value} {wr : va_W} {T : u_T} {N0 : Nat} (hl0 : ls[0]? = some (.val (.ref h0))) (hP : va_P D cl0 ((h0, .inr (ci, fs)) :: wr) H) (hD : va_D A ((h0, .inr (ci, fs)) :: wr)) (hS : va_S A H0 H locs) (hc : cl0[ci]? = some (own, T, N0)) (hk : k < N0) (hkf : k < fs.length) (hdecl : (T k).1 = own) (hfin : (T k).2.2.2 = false) (hd : parseFieldDescriptor (T k).2.2.1 = some .int) (hlk : Cond.fieldLink own idx own (T k).2.1 (T k).2.2.1 ∈ lw_all) (d1 : decode cc pc = .ok (.aload_n 0, 1)) (d2 : decode cc (pc + 1) = .ok (.iconst 0, 1)) (d4 : decode cc (pc + 1 + 1) = .ok (.putfield idx, 3)) (epc : pc + 1 + 1 + 3 = pc')
    (kk : ∀ (H1 : Heap) (locs1 : List Loc), va_P D cl0 ((h0, .inr (ci, fs.set k (.int 0))) :: wr) H1 → va_D A ((h0, .inr (ci, fs.set k (.int 0))) :: wr) → va_S A H0 H1 locs1 → W p l e R s m args below meth c H1 locs1 cells slots Q (F0 m pc' ls [])) : W p l e R s m args below meth c H locs cells slots Q (F0 m pc ls []) := by
  refine lv_aload_n F.1 F.2.1 d1 rfl hl0 (lv_iconst (v := 0) F.1 F.2.1 d2 (by decide) ?_)
  exact put_i F hP hD hS hc hk hkf hdecl hfin hd hlk d4 epc kk
end CT
