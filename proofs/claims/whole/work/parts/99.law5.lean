/-! THE LAW FROM ITS ENTRY -/
theorem arr_of {s : State} {args : Array Value} {ty : FieldType} (h : (Cond.arrayClass ty).before args s = true) : ∃ cA, ArrOfT s cA ty ∧ s.vm.findClass ("[" ++ ty.toString) = some cA := by
  obtain ⟨cA, k, comp, h1, h2, h3⟩ := Cond.arrayClass_spec h
  refine ⟨cA, fun n z => ?_, h1⟩
  unfold State.isArrayOf
  simp [arrV, h2, h3]
abbrev r5 : Nat → Int32 := upd (upd (upd (upd (upd (fun _ => (0 : Int32)) 0 (-5)) 1 (-5)) 2 (-5)) 3 (-5)) 4 (-5)
def cs0 : CS := (fun _ => 0, fun k => match k with | 2 => r5 | _ => fun _ => 0, fun _ _ => 0)
def ms0 : MS := (fun _ => 0, fun k => match k with | 27 => r5 | _ => fun _ => 0, fun _ _ => 0)
def Ss0 : St := (fun _ => 0, fun _ _ => 0)
theorem r5_at : ∀ r, r < 5 → r5 r = -5 := by decide
theorem RC0 : RC cs0 Ss0 := ⟨⟨⟨by decide, by decide, fun d h => absurd h (Nat.not_lt_zero d)⟩, rfl, rfl, ⟨rfl, by decide, fun i h => absurd h (Nat.not_lt_zero i)⟩, fun r h => ⟨(r5_at r h).trans rfl, Nat.le_refl _⟩, fun j h => absurd h (Nat.not_lt_zero j)⟩, fun h => absurd h (Nat.lt_irrefl 0)⟩
theorem RM0 : RM ms0 Ss0 := ⟨⟨⟨by decide, by decide, fun d h => absurd h (Nat.not_lt_zero d)⟩, rfl, rfl, ⟨rfl, by decide, fun i h => absurd h (Nat.not_lt_zero i)⟩, fun r h => ⟨(r5_at r h).trans rfl, Nat.le_refl _⟩, fun j h => absurd h (Nat.not_lt_zero j)⟩, rfl, rfl, fun h => absurd h (Nat.lt_irrefl 0)⟩
def rho (b q0 q1 q2 : Nat) (f g : Nat → Nat) : Nat → Nat := fun i => match i with
  | 999 => b
  | i => [q0, f 17, f 18, f 0, f 1, f 2, f 3, f 4, f 5, f 6, f 7, f 8, f 9, f 10, f 11, f 12, f 13, f 14, f 15, f 16, q1, g 0, g 1, g 2, g 3, g 4, g 5, g 6, g 7, g 8, g 9, g 10, g 11, g 12, g 13, g 14, q2].getD i 0
abbrev isW : List Nat := [0, 18, 19, 1, 2, 3, 4, 5, 6, 7, 8, 9, 10, 11, 12, 13, 14, 15, 16, 17, 20, 21, 22, 23, 24, 25, 26, 27, 28, 29, 30, 31, 32, 33, 34, 35, 36]
def wAll (τ : Nat → ClassId) (q0 q1 q2 : Nat) (f g : Nat → Nat) : va_W := (wFX3 τ q0 f ++ wFX4 τ q1 g) ++ [(q2, .inl (τ 1, zL 1))]
def posW (k : Nat) : Nat := isW.getD k 0
theorem posW_inj : ∀ i, i < 37 → ∀ j, j < 37 → posW i = posW j → i = j := by decide +kernel
theorem wl_some {ρ : Nat → Nat} {τ : Nat → ClassId} {σ : aS} {k : Nat} {q : Nat × va_E} (h : (wl ρ τ σ)[k]? = some q) : ∃ e, σ[k]? = some e ∧ q = (ρ k, re ρ τ e) := by
  cases h9 : σ[k]? with
  | none => simp [wl, List.getElem?_mapIdx, h9] at h
  | some e => exact ⟨e, rfl, Option.some.inj (h.symm.trans (wl_get ρ τ σ h9))⟩
theorem wL_lt {c : CS} {m : MS} {g : Nat → Int64} {k : Nat} {e : aE} (h : (wL c m g)[k]? = some e) : k < 37 := (List.getElem?_eq_some_iff.mp h).1
set_option maxRecDepth 100000 in
set_option maxHeartbeats 4000000 in
theorem wAll_at (τ : Nat → ClassId) (b q0 q1 q2 : Nat) (f g : Nat → Nat) (k : Nat) (e : aE) (h : (wL cs0 ms0 (fun _ => 0))[k]? = some e) : (wAll τ q0 q1 q2 f g)[posW k]? = some (rho b q0 q1 q2 f g k, re (rho b q0 q1 q2 f g) τ e) := by
  have hk := wL_lt h
  match k, hk, h with
  | 0, _, h => cases h; rfl
  | 1, _, h => cases h; rfl
  | 2, _, h => cases h; rfl
  | 3, _, h => cases h; rfl
  | 4, _, h => cases h; rfl
  | 5, _, h => cases h; rfl
  | 6, _, h => cases h; rfl
  | 7, _, h => cases h; rfl
  | 8, _, h => cases h; rfl
  | 9, _, h => cases h; rfl
  | 10, _, h => cases h; rfl
  | 11, _, h => cases h; rfl
  | 12, _, h => cases h; rfl
  | 13, _, h => cases h; rfl
  | 14, _, h => cases h; rfl
  | 15, _, h => cases h; rfl
  | 16, _, h => cases h; rfl
  | 17, _, h => cases h; rfl
  | 18, _, h => cases h; rfl
  | 19, _, h => cases h; rfl
  | 20, _, h => cases h; rfl
  | 21, _, h => cases h; rfl
  | 22, _, h => cases h; rfl
  | 23, _, h => cases h; rfl
  | 24, _, h => cases h; rfl
  | 25, _, h => cases h; rfl
  | 26, _, h => cases h; rfl
  | 27, _, h => cases h; rfl
  | 28, _, h => cases h; rfl
  | 29, _, h => cases h; rfl
  | 30, _, h => cases h; rfl
  | 31, _, h => cases h; rfl
  | 32, _, h => cases h; rfl
  | 33, _, h => cases h; rfl
  | 34, _, h => cases h; rfl
  | 35, _, h => cases h; rfl
  | 36, _, h => cases h; rfl
theorem wAll_P {D : va_G} {τ : Nat → ClassId} {b q0 q1 q2 : Nat} {f g : Nat → Nat} {H : Heap} (hP : va_P D cl0 (wAll τ q0 q1 q2 f g) H) : va_P D cl0 (wl (rho b q0 q1 q2 f g) τ (wL cs0 ms0 (fun _ => 0))) H := by
  intro k q h
  obtain ⟨e, h1, rfl⟩ := wl_some h
  exact hP (posW k) _ (wAll_at τ b q0 q1 q2 f g k e h1)
theorem wAll_D {A : Nat → Prop} {τ : Nat → ClassId} {b q0 q1 q2 : Nat} {f g : Nat → Nat} (hD : va_D A (wAll τ q0 q1 q2 f g)) : va_D A (wl (rho b q0 q1 q2 f g) τ (wL cs0 ms0 (fun _ => 0))) := by
  refine ⟨fun i j p q hi hj hpq => ?_, fun k q h => ?_⟩
  · obtain ⟨e, h1, rfl⟩ := wl_some hi
    obtain ⟨e2, h2, rfl⟩ := wl_some hj
    exact posW_inj i (wL_lt h1) j (wL_lt h2) (hD.1 _ _ _ _ (wAll_at τ b q0 q1 q2 f g i e h1) (wAll_at τ b q0 q1 q2 f g j e2 h2) hpq)
  · obtain ⟨e, h1, rfl⟩ := wl_some h
    exact hD.2 (posW k) _ (wAll_at τ b q0 q1 q2 f g k e h1)
section
variable {p : Program} {l : Launch} {e : Env} {s : State} {m : MethodId} {below : List Frame} {meth : Method} {c : Code} {Z : State → Prop} {D : va_G} {τ : Nat → ClassId} {b : Nat}
set_option maxRecDepth 100000 in
set_option maxHeartbeats 4000000 in
theorem setupL (F : Fx p m c cL_law 8 s #[.ref b] yL_law.cls D τ)
    (K : ∀ ρ : Nat → Nat, ρ 999 = b → Gd p l e room_1 s m #[.ref b] below meth c 37 2619 Z 8 D ρ τ (fun q => s.heap.size ≤ q) s.heap 20 [(0, .ref 999), (1, .ref 0), (2, .ref 20), (3, .ref 36)] [] (wL cs0 ms0 (fun _ => 0))) :
    W p l e room_1 s m #[Value.ref b] below meth c s.heap [] 0 0 Z (entryFrame m ([Value.ref b] : List Value).toArray 8) := by
  have F0 := F
  obtain ⟨hx, hb, hml, hown, hts, hK⟩ := F0
  have hl := lv_entry ([.ref b]) (n := 8) (Nat.le_of_ble_eq_true rfl)
  rw [lg_entry_eq]
  generalize (lg_sl ([.ref b]) ++ List.replicate (8 - (lg_sl ([.ref b])).length) Slot.unset).toArray = ls at hl ⊢
  have hl : lv_has ls 8 [(0, .ref b)] := hl
  have hS : va_S (fun q => s.heap.size ≤ q) s.heap s.heap [] := va_S.rf
  have hA : ∀ q : Nat, s.heap.size ≤ q → (fun q => s.heap.size ≤ q) q := fun q h => h
  have hP : va_P D cl0 [] s.heap := fun k q h => by simp at h
  have hD : va_D (fun q => s.heap.size ≤ q) [] := ⟨fun i j p q h => by simp at h, fun k q h => by simp at h⟩
  generalize hAe : (fun q : Nat => s.heap.size ≤ q) = A at hS hA hD K
  refine va_new (ci := 2) (fs := [.null, .null, .null, .null, .int 0, .int 0]) (C := RX3) (T := TX3) (N := 6) hx hb hts (cl0_I (ci := 2) rfl).1 _ (cl0_I (ci := 2) rfl).2.2 hown (hts (.classLink RL 8 RX3) (mw 17 (by decide +kernel) rfl)) (hts (.instantiable RX3 6) (mw 18 (by decide +kernel) rfl)) (hts (.initialized RX3) (mw 1 (by decide +kernel) rfl)) hK hP hD hS hA rfl (by decide +kernel) (Nat.le_of_ble_eq_true rfl) (Nat.le_of_ble_eq_true rfl) (by decide +kernel) (fun q0 H hP hD hS => ?_)
  have hP : va_P D cl0 (wIX3 q0) H := hP
  have hD : va_D A (wIX3 q0) := hD
  refine lv_dup hx hb (by decide +kernel) rfl ?_
  have hFc := va_free (wc := wIX3 q0) hD hS hA [0] rfl
  refine va_callv (va_runI (As := []) (rest := [.ref q0]) ⟨hx, hb, hml, hown, hts⟩ (ct_X3 l D τ q0 H.size) (cwI 0 hts (lw_goodM (fun _ h => h) (mw 21 (by decide +kernel) rfl)) rfl rfl rfl (hts (.initialized RX3) (mw 1 (by decide +kernel) rfl)) (hts (.methodLink RL 21 yX3_init) (mw 19 (by decide +kernel) rfl)) (hts (.instanceMethod yX3_init) (mw 20 (by decide +kernel) rfl)) rfl (by decide +kernel) ⟨Nat.le_of_ble_eq_true rfl, Nat.le_of_ble_eq_true rfl⟩) ⟨fun a U g mk q => by obtain ⟨q0, q1, qP, qK, qD⟩ := q; exact ⟨q0, q1, qP, va_K.moved (u := U) (U := U.calling g mk a) (Vm.Alike.refl U.vm) qK, qD⟩, fun U hU hW => ⟨rfl, by rw [hU], by rw [hU]; exact hP, va_K.moved hW.alike hK, hD.weaken (fun _ _ _ _ => trivial)⟩⟩ rfl rfl hl.1 rfl (lv_room (Nat.le_of_ble_eq_true rfl)) (show decode cL_law 4 = .ok (.invokespecial 21, 3) by decide +kernel) ⟨Nat.le_of_ble_eq_true rfl, Nat.le_of_ble_eq_true rfl⟩) hS (fun q _ h => hFc q h) hFc (fun f t H1 locs ht hvm _ hB hz1 hk1 hS => ?_)
  obtain ⟨hP1, hK1, hD1⟩ := hB
  rw [ht] at hP1
  obtain ⟨hP, hD⟩ := va_join (wr := []) (w1 := wFX3 τ q0 f) hP hD [0] [] rfl rfl (by decide) (by decide) hk1 hFc hP1 hD1
  generalize H1 = H at hP hS ⊢
  have hP : va_P D cl0 (wFX3 τ q0 f) H := hP
  have hD : va_D A (wFX3 τ q0 f) := hD
  refine lv_astore_n (k := 1) hx hb (by decide +kernel) rfl hl (by decide) rfl (fun ls hl => ?_)
  have hl : lv_has ls 8 [(1, .ref q0), (0, .ref b)] := hl
  refine va_new (ci := 3) (fs := [.int 0, .int 0, .null, .null, .int 0, .null, .null, .null, .null, .null, .int 0, .int 0, .int 0, .null, .null, .null, .null, .null, .null, .null, .null]) (C := RX4) (T := TX4) (N := 21) hx hb hts (cl0_I (ci := 3) rfl).1 _ (cl0_I (ci := 3) rfl).2.2 hown (hts (.classLink RL 22 RX4) (mw 628 (by decide +kernel) rfl)) (hts (.instantiable RX4 21) (mw 629 (by decide +kernel) rfl)) (hts (.initialized RX4) (mw 4 (by decide +kernel) rfl)) hK hP hD hS hA rfl (by decide +kernel) (Nat.le_of_ble_eq_true rfl) (Nat.le_of_ble_eq_true rfl) (by decide +kernel) (fun q1 H hP hD hS => ?_)
  refine lv_dup hx hb (by decide +kernel) rfl ?_
  have hPc := hP.sub (ws' := wIX4 q1) [20] rfl
  have hDc := hD.sub (ws' := wIX4 q1) [20] (by decide) rfl
  have hFc := va_free (wc := wIX4 q1) hD hS hA [20] rfl
  refine va_callv (va_runI (As := []) (rest := [.ref q1]) ⟨hx, hb, hml, hown, hts⟩ (ct_X4 l D τ q1 H.size) (cwI 0 hts (lw_goodM (fun _ h => h) (mw 632 (by decide +kernel) rfl)) rfl rfl rfl (hts (.initialized RX4) (mw 4 (by decide +kernel) rfl)) (hts (.methodLink RL 24 yX4_init) (mw 630 (by decide +kernel) rfl)) (hts (.instanceMethod yX4_init) (mw 631 (by decide +kernel) rfl)) rfl (by decide +kernel) ⟨Nat.le_of_ble_eq_true rfl, Nat.le_of_ble_eq_true rfl⟩) ⟨fun a U g mk q => by obtain ⟨q0, q1, qP, qK, qD⟩ := q; exact ⟨q0, q1, qP, va_K.moved (u := U) (U := U.calling g mk a) (Vm.Alike.refl U.vm) qK, qD⟩, fun U hU hW => ⟨rfl, by rw [hU], by rw [hU]; exact hPc, va_K.moved hW.alike hK, hDc.weaken (fun _ _ _ _ => trivial)⟩⟩ rfl rfl hl.1 rfl (lv_room (Nat.le_of_ble_eq_true rfl)) (show decode cL_law 12 = .ok (.invokespecial 24, 3) by decide +kernel) ⟨Nat.le_of_ble_eq_true rfl, Nat.le_of_ble_eq_true rfl⟩) hS (fun q _ h => hFc q h) hFc (fun g t H1 locs ht hvm _ hB hz1 hk1 hS => ?_)
  obtain ⟨hP1, hK1, hD1⟩ := hB
  rw [ht] at hP1
  obtain ⟨hP, hD⟩ := va_join (wr := wFX3 τ q0 f) (w1 := wFX4 τ q1 g) hP hD [20] [0, 1, 2, 3, 4, 5, 6, 7, 8, 9, 10, 11, 12, 13, 14, 15, 16, 17, 18, 19] rfl rfl (by decide) (by decide) hk1 hFc hP1 hD1
  generalize H1 = H at hP hS ⊢
  refine lv_astore_n (k := 2) hx hb (by decide +kernel) rfl hl (by decide) rfl (fun ls hl => ?_)
  have hl : lv_has ls 8 [(2, .ref q1), (1, .ref q0), (0, .ref b)] := hl
  refine lv_iconst (n := 1) (v := 1) hx hb (by decide +kernel) (by decide) ?_
  refine nw_a F okT_1 (n := 1) (N := 1) (a0 := zL 1) hP hD hS hA (fun cA => rfl) (by decide) rfl (by decide) (Nat.le_of_ble_eq_true rfl) (Nat.le_of_ble_eq_true rfl) (by decide +kernel) (fun q2 H hP hD hS => ?_)
  refine lv_astore_n (k := 3) hx hb (by decide +kernel) rfl hl (by decide) rfl (fun ls hl => ?_)
  have hl : lv_has ls 8 [(3, .ref q2), (2, .ref q1), (1, .ref q0), (0, .ref b)] := hl
  have hP2 := wAll_P (b := b) (q0 := q0) (q1 := q1) (q2 := q2) (f := f) (g := g) hP
  have hD2 := wAll_D (b := b) (q0 := q0) (q1 := q1) (q2 := q2) (f := f) (g := g) hD
  refine K (rho b q0 q1 q2 f g) rfl H locs ls ⟨hl.1, hl.2.1, fun x hx => hl.2.2 x ?_⟩ hP2 hD2 hS
  have hx : x ∈ [(0, Value.ref b), (1, Value.ref q0), (2, Value.ref q1), (3, Value.ref q2)] := hx
  simp only [List.mem_cons, List.not_mem_nil, or_false] at hx ⊢
  rcases hx with rfl | rfl | rfl | rfl <;> simp
end
