/-- what an entry of a program must be: the decoded instruction; its target, constant, field -/
def chk (cc : ByteArray) (nL : Nat) (own : String) (en : En) : Bool := match en with
  | (pc, ins, len, tgt, ci, v, wi) => decide (decode cc pc = .ok (ins, len)) && (match ins with
    | .iconst n => decide (v = .int (Int32.ofInt n)) && len == 1
    | .bipush n => decide (v = .int (Int8.ofInt n).toInt32) && len == 2
    | .sipush n => decide (v = .int (Int16.ofInt n).toInt32) && len == 3
    | .lconst n => decide (v = .long (Int64.ofNat n)) && len == 1
    | .dconst n => decide (v = .double (if n = 0 then FP.dconst0 else FP.dconst1)) && len == 1
    | .ldc2_w i => len == 3 && (match v with
      | .long x => decide (tables_1[wi]? = some (.constantLong own i x))
      | .double x => decide (tables_1[wi]? = some (.constantDouble own i x))
      | _ => false)
    | .ldc_w i => len == 3 && (match v with
      | .int x => decide (tables_1[wi]? = some (.constant own i x))
      | _ => false)
    | .ldc _ => false
    | .iload_n i => len == 1 && decide ((i : Nat) = tgt)
    | .lload_n i => len == 1 && decide ((i : Nat) = tgt)
    | .dload_n i => len == 1 && decide ((i : Nat) = tgt)
    | .aload_n i => len == 1 && decide ((i : Nat) = tgt)
    | .iload _ => len == 2
    | .lload _ => len == 2
    | .dload _ => len == 2
    | .aload _ => len == 2
    | .istore_n i => len == 1 && decide ((i : Nat) = tgt) && decide ((i : Nat) < nL)
    | .astore_n i => len == 1 && decide ((i : Nat) = tgt) && decide ((i : Nat) < nL)
    | .lstore_n i => len == 1 && decide ((i : Nat) = tgt) && decide ((i : Nat) + 1 < nL)
    | .dstore_n i => len == 1 && decide ((i : Nat) = tgt) && decide ((i : Nat) + 1 < nL)
    | .istore i => len == 2 && decide (i < nL)
    | .astore i => len == 2 && decide (i < nL)
    | .lstore i => len == 2 && decide (i + 1 < nL)
    | .dstore i => len == 2 && decide (i + 1 < nL)
    | .iinc i _ => len == 3 && decide (i < nL)
    | .ifCond _ off => len == 3 && decide ((pc : Int) + off = (tgt : Int))
    | .if_icmp _ off => len == 3 && decide ((pc : Int) + off = (tgt : Int))
    | .goto off => len == 3 && decide ((pc : Int) + off = (tgt : Int))
    | .tableswitch dflt lo hi offs => decide ((pc : Int) + dflt = (tgt : Int)) && decide (hi - lo + 1 = (offs.size : Int)) && decide (-2147483648 ≤ lo ∧ hi < 2147483648) && offs.toList.all (fun o => decide (0 ≤ (pc : Int) + o))
    | .getfield i => len == 3 && (match cl0[ci]? with
      | some q => decide (tgt < q.2.2) && decide (tables_1[wi]? = some (.fieldLink own i q.1 (q.2.1 tgt).2.1 (q.2.1 tgt).2.2.1)) && decide ((q.2.1 tgt).1 = q.1)
      | none => false)
    | .putfield i => len == 3 && (match cl0[ci]? with
      | some q => decide (tgt < q.2.2) && decide (tables_1[wi]? = some (.fieldLink own i q.1 (q.2.1 tgt).2.1 (q.2.1 tgt).2.2.1)) && decide ((q.2.1 tgt).1 = q.1) && (q.2.1 tgt).2.2.2 == false && decide (parseFieldDescriptor (q.2.1 tgt).2.2.1 = some (fty v))
      | none => false)
    | .invokestatic _ => len == 3
    | .invokevirtual _ => len == 3
    | _ => len == 1)
/-- the classes' own words are in the one list; their fields' types -/
def clI (q : vw_C) : Prop := (∀ w ∈ u_ws q.1 q.2.1 q.2.2, w ∈ lw_all) ∧ (∀ a, a < q.2.2 → ∀ b, b < q.2.2 → a ≠ b → (q.2.1 a).2.1 ≠ (q.2.1 b).2.1) ∧ ∀ k, k < q.2.2 → parseFieldDescriptor (q.2.1 k).2.2.1 = some ((parseFieldDescriptor (q.2.1 k).2.2.1).getD .int)
theorem in_all {ws : List Cond} (h : ws.all (fun w => decide (w ∈ tables_1) && goodWord w) = true) : ∀ w ∈ ws, w ∈ lw_all := by
  intro w hw
  have h1 := List.all_eq_true.mp h w hw
  rw [Bool.and_eq_true, decide_eq_true_eq] at h1
  exact List.mem_filter.mpr ⟨List.mem_append_right _ h1.1, h1.2⟩
theorem clI_0 : clI (RX0, TX0, 8) := ⟨in_all (by decide +kernel), nmX0, by decide +kernel⟩
theorem clI_1 : clI (RX2, TX2, 10) := ⟨in_all (by decide +kernel), nmX2, by decide +kernel⟩
theorem clI_2 : clI (RX3, TX3, 6) := ⟨in_all (by decide +kernel), nmX3, by decide +kernel⟩
theorem clI_3 : clI (RX4, TX4, 21) := ⟨in_all (by decide +kernel), nmX4, by decide +kernel⟩
theorem cl0_I {ci : Nat} {q : vw_C} (h : cl0[ci]? = some q) : clI q := by
  match ci, h with
  | 0, h => cases h; exact clI_0
  | 1, h => cases h; exact clI_1
  | 2, h => cases h; exact clI_2
  | 3, h => cases h; exact clI_3
  | k + 4, h => simp [cl0] at h
def isRet (ins : Instr) (v : Option Value) : Prop := match ins, v with
  | .ireturn, some (.int _) => True
  | .lreturn, some (.long _) => True
  | .dreturn, some (.double _) => True
  | .return_, none => True
  | _, _ => False
