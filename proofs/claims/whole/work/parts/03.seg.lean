/-! A PROGRAM'S OWN READING: bytecode over a world of numbered cells; what it says holds of the machine (st_sound). Cells are named by their places: a reference's number is its place; ρ gives the addresses. -/
abbrev aE : Type := (Nat × vp_A) ⊕ (Nat × List Value)
abbrev aS : Type := List aE
abbrev LV : Type := List (Nat × Value)
/-- pc, instruction, length; target or field; class; constant; the word's place in the tables -/
abbrev En : Type := Nat × Instr × Nat × Nat × Nat × Value × Nat
abbrev Tr : Type := List Value → aS → (Option Value → aS → Prop) → Prop
abbrev cl0 : List vw_C := [(RX0, TX0, 8), (RX2, TX2, 10), (RX3, TX3, 6), (RX4, TX4, 21)]
def rv (ρ : Nat → Nat) (v : Value) : Value := match v with
  | .ref a => .ref (ρ a)
  | w => w
theorem rv_cat (ρ : Nat → Nat) (v : Value) : (rv ρ v).category = v.category := by cases v <;> rfl
def re (ρ : Nat → Nat) (τ : Nat → ClassId) (e : aE) : va_E := match e with
  | .inl a => .inl (τ a.1, a.2)
  | .inr o => .inr (o.1, o.2.map (rv ρ))
def wl (ρ : Nat → Nat) (τ : Nat → ClassId) (σ : aS) : va_W := σ.mapIdx (fun k e => (ρ k, re ρ τ e))
def lr (ρ : Nat → Nat) (lv : LV) : LV := lv.map (fun q => (q.1, rv ρ q.2))
abbrev tyl (τ : Nat → ClassId) : List (ClassId × FieldType) := [(τ 0, .int), (τ 1, .long), (τ 2, .double), (τ 3, .boolean)]
theorem wl_get (ρ : Nat → Nat) (τ : Nat → ClassId) (σ : aS) {k : Nat} {e : aE} (h : σ[k]? = some e) : (wl ρ τ σ)[k]? = some (ρ k, re ρ τ e) := by
  simp [wl, List.getElem?_mapIdx, h]
theorem wl_set (ρ : Nat → Nat) (τ : Nat → ClassId) (σ : aS) (k : Nat) (e : aE) : (wl ρ τ σ).set k (ρ k, re ρ τ e) = wl ρ τ (σ.set k e) := by
  apply List.ext_getElem?
  intro i
  simp only [wl, List.getElem?_set, List.getElem?_mapIdx, List.length_mapIdx]
  by_cases h : k = i
  · subst h
    by_cases h2 : k < σ.length <;> simp [h2]
  · simp [h]
-- stack shapes
def s1i (st : List Value) (f : Int32 → List Value → Prop) : Prop := match st with
  | .int x :: r => f x r
  | _ => False
def s2i (st : List Value) (f : Int32 → Int32 → List Value → Prop) : Prop := match st with
  | .int y :: .int x :: r => f x y r
  | _ => False
def s1l (st : List Value) (f : Int64 → List Value → Prop) : Prop := match st with
  | .long x :: r => f x r
  | _ => False
def s2l (st : List Value) (f : Int64 → Int64 → List Value → Prop) : Prop := match st with
  | .long y :: .long x :: r => f x y r
  | _ => False
def sli (st : List Value) (f : Int64 → Int32 → List Value → Prop) : Prop := match st with
  | .int y :: .long x :: r => f x y r
  | _ => False
def s1d (st : List Value) (f : UInt64 → List Value → Prop) : Prop := match st with
  | .double x :: r => f x r
  | _ => False
def s1f (st : List Value) (f : UInt32 → List Value → Prop) : Prop := match st with
  | .float x :: r => f x r
  | _ => False
def s2d (st : List Value) (f : UInt64 → UInt64 → List Value → Prop) : Prop := match st with
  | .double y :: .double x :: r => f x y r
  | _ => False
def s1r (st : List Value) (f : Nat → List Value → Prop) : Prop := match st with
  | .ref a :: r => f a r
  | _ => False
def sri (st : List Value) (f : Nat → Int32 → List Value → Prop) : Prop := match st with
  | .int i :: .ref a :: r => f a i r
  | _ => False
def srv (st : List Value) (f : Nat → Value → List Value → Prop) : Prop := match st with
  | v :: .ref a :: r => f a v r
  | _ => False
def srii (st : List Value) (f : Nat → Int32 → Int32 → List Value → Prop) : Prop := match st with
  | .int x :: .int i :: .ref a :: r => f a i x r
  | _ => False
def sril (st : List Value) (f : Nat → Int32 → Int64 → List Value → Prop) : Prop := match st with
  | .long x :: .int i :: .ref a :: r => f a i x r
  | _ => False
def srid (st : List Value) (f : Nat → Int32 → UInt64 → List Value → Prop) : Prop := match st with
  | .double x :: .int i :: .ref a :: r => f a i x r
  | _ => False
def sdp (st : List Value) (f : Value → List Value → Prop) : Prop := match st with
  | w :: r => bif w.category == 1 then f w r else False
  | [] => False
def ai (σ : aS) (a t : Nat) (f : Nat → (Nat → Int32) → Prop) : Prop := match σ[a]? with
  | some (.inl (t', n, .inl g)) => bif t' == t then f n g else False
  | _ => False
def al (σ : aS) (a t : Nat) (f : Nat → (Nat → Int64) → Prop) : Prop := match σ[a]? with
  | some (.inl (t', n, .inr (.inl g))) => bif t' == t then f n g else False
  | _ => False
def ad (σ : aS) (a t : Nat) (f : Nat → (Nat → UInt64) → Prop) : Prop := match σ[a]? with
  | some (.inl (t', n, .inr (.inr (.inr (.inl g))))) => bif t' == t then f n g else False
  | _ => False
def ao (σ : aS) (a ci : Nat) (f : List Value → Prop) : Prop := match σ[a]? with
  | some (.inr (c', fs)) => bif c' == ci then f fs else False
  | _ => False
def op1 {α : Type} (o : Option α) (f : α → Prop) : Prop := match o with
  | some x => f x
  | none => False
theorem s1i_of {st : List Value} {f : Int32 → List Value → Prop} (h : s1i st f) : ∃ x r, st = .int x :: r ∧ f x r := by
  unfold s1i at h; split at h
  · exact ⟨_, _, rfl, h⟩
  · exact h.elim
theorem s2i_of {st : List Value} {f : Int32 → Int32 → List Value → Prop} (h : s2i st f) : ∃ x y r, st = .int y :: .int x :: r ∧ f x y r := by
  unfold s2i at h; split at h
  · exact ⟨_, _, _, rfl, h⟩
  · exact h.elim
theorem s1l_of {st : List Value} {f : Int64 → List Value → Prop} (h : s1l st f) : ∃ x r, st = .long x :: r ∧ f x r := by
  unfold s1l at h; split at h
  · exact ⟨_, _, rfl, h⟩
  · exact h.elim
theorem s2l_of {st : List Value} {f : Int64 → Int64 → List Value → Prop} (h : s2l st f) : ∃ x y r, st = .long y :: .long x :: r ∧ f x y r := by
  unfold s2l at h; split at h
  · exact ⟨_, _, _, rfl, h⟩
  · exact h.elim
theorem sli_of {st : List Value} {f : Int64 → Int32 → List Value → Prop} (h : sli st f) : ∃ x y r, st = .int y :: .long x :: r ∧ f x y r := by
  unfold sli at h; split at h
  · exact ⟨_, _, _, rfl, h⟩
  · exact h.elim
theorem s1d_of {st : List Value} {f : UInt64 → List Value → Prop} (h : s1d st f) : ∃ x r, st = .double x :: r ∧ f x r := by
  unfold s1d at h; split at h
  · exact ⟨_, _, rfl, h⟩
  · exact h.elim
theorem s1f_of {st : List Value} {f : UInt32 → List Value → Prop} (h : s1f st f) : ∃ x r, st = .float x :: r ∧ f x r := by
  unfold s1f at h; split at h
  · exact ⟨_, _, rfl, h⟩
  · exact h.elim
theorem s2d_of {st : List Value} {f : UInt64 → UInt64 → List Value → Prop} (h : s2d st f) : ∃ x y r, st = .double y :: .double x :: r ∧ f x y r := by
  unfold s2d at h; split at h
  · exact ⟨_, _, _, rfl, h⟩
  · exact h.elim
theorem s1r_of {st : List Value} {f : Nat → List Value → Prop} (h : s1r st f) : ∃ a r, st = .ref a :: r ∧ f a r := by
  unfold s1r at h; split at h
  · exact ⟨_, _, rfl, h⟩
  · exact h.elim
theorem sri_of {st : List Value} {f : Nat → Int32 → List Value → Prop} (h : sri st f) : ∃ a i r, st = .int i :: .ref a :: r ∧ f a i r := by
  unfold sri at h; split at h
  · exact ⟨_, _, _, rfl, h⟩
  · exact h.elim
theorem srv_of {st : List Value} {f : Nat → Value → List Value → Prop} (h : srv st f) : ∃ a v r, st = v :: .ref a :: r ∧ f a v r := by
  unfold srv at h; split at h
  · exact ⟨_, _, _, rfl, h⟩
  · exact h.elim
theorem srii_of {st : List Value} {f : Nat → Int32 → Int32 → List Value → Prop} (h : srii st f) : ∃ a i x r, st = .int x :: .int i :: .ref a :: r ∧ f a i x r := by
  unfold srii at h; split at h
  · exact ⟨_, _, _, _, rfl, h⟩
  · exact h.elim
theorem sril_of {st : List Value} {f : Nat → Int32 → Int64 → List Value → Prop} (h : sril st f) : ∃ a i x r, st = .long x :: .int i :: .ref a :: r ∧ f a i x r := by
  unfold sril at h; split at h
  · exact ⟨_, _, _, _, rfl, h⟩
  · exact h.elim
theorem srid_of {st : List Value} {f : Nat → Int32 → UInt64 → List Value → Prop} (h : srid st f) : ∃ a i x r, st = .double x :: .int i :: .ref a :: r ∧ f a i x r := by
  unfold srid at h; split at h
  · exact ⟨_, _, _, _, rfl, h⟩
  · exact h.elim
theorem bif_of0 {b : Bool} {P : Prop} (h : bif b then P else False) : b = true ∧ P := by cases b with
  | true => exact ⟨rfl, h⟩
  | false => exact h.elim
theorem sdp_of {st : List Value} {f : Value → List Value → Prop} (h : sdp st f) : ∃ w r, st = w :: r ∧ w.category = 1 ∧ f w r := by
  unfold sdp at h; split at h
  · obtain ⟨h1, h2⟩ := bif_of0 h; exact ⟨_, _, rfl, eq_of_beq h1, h2⟩
  · exact h.elim
theorem bif_of {b : Bool} {P : Prop} (h : bif b then P else False) : b = true ∧ P := by cases b with
  | true => exact ⟨rfl, h⟩
  | false => exact h.elim
theorem ai_of {σ : aS} {a t : Nat} {f : Nat → (Nat → Int32) → Prop} (h : ai σ a t f) : ∃ n g, σ[a]? = some (.inl (t, n, .inl g)) ∧ f n g := by
  unfold ai at h; split at h
  · rename_i t' n g e; obtain ⟨h1, h2⟩ := bif_of h; have := eq_of_beq h1; subst this; exact ⟨n, g, e, h2⟩
  · exact h.elim
theorem al_of {σ : aS} {a t : Nat} {f : Nat → (Nat → Int64) → Prop} (h : al σ a t f) : ∃ n g, σ[a]? = some (.inl (t, n, .inr (.inl g))) ∧ f n g := by
  unfold al at h; split at h
  · rename_i t' n g e; obtain ⟨h1, h2⟩ := bif_of h; have := eq_of_beq h1; subst this; exact ⟨n, g, e, h2⟩
  · exact h.elim
theorem ad_of {σ : aS} {a t : Nat} {f : Nat → (Nat → UInt64) → Prop} (h : ad σ a t f) : ∃ n g, σ[a]? = some (.inl (t, n, .inr (.inr (.inr (.inl g))))) ∧ f n g := by
  unfold ad at h; split at h
  · rename_i t' n g e; obtain ⟨h1, h2⟩ := bif_of h; have := eq_of_beq h1; subst this; exact ⟨n, g, e, h2⟩
  · exact h.elim
theorem ao_of {σ : aS} {a ci : Nat} {f : List Value → Prop} (h : ao σ a ci f) : ∃ fs, σ[a]? = some (.inr (ci, fs)) ∧ f fs := by
  unfold ao at h; split at h
  · rename_i c' fs e; obtain ⟨h1, h2⟩ := bif_of h; have := eq_of_beq h1; subst this; exact ⟨fs, e, h2⟩
  · exact h.elim
theorem op1_of {α : Type} {o : Option α} {f : α → Prop} (h : op1 o f) : ∃ x, o = some x ∧ f x := by
  unfold op1 at h; split at h
  · exact ⟨_, rfl, h⟩
  · exact h.elim
-- locals
def lg (lv : LV) (i : Nat) : Option Value := (lv.find? (fun q => q.1 == i)).map (fun q => q.2)
def sp1 (lv : LV) (i : Nat) (v : Value) : LV := (i, v) :: lv.filter (fun q => !(q.1 == i) && !(q.1 + 1 == i && q.2.category == 2))
def sp2 (lv : LV) (i : Nat) (v : Value) : LV := (i, v) :: lv.filter (fun q => !(q.1 == i) && (!(q.1 == i + 1) && !(q.1 + 1 == i && q.2.category == 2)))
def lgi (lv : LV) (i : Nat) (f : Int32 → Prop) : Prop := match lg lv i with
  | some (.int x) => f x
  | _ => False
def lgl (lv : LV) (i : Nat) (f : Int64 → Prop) : Prop := match lg lv i with
  | some (.long x) => f x
  | _ => False
def lgd (lv : LV) (i : Nat) (f : UInt64 → Prop) : Prop := match lg lv i with
  | some (.double x) => f x
  | _ => False
def lga (lv : LV) (i : Nat) (f : Nat → Prop) : Prop := match lg lv i with
  | some (.ref x) => f x
  | _ => False
theorem lg_mem {lv : LV} {i : Nat} {v : Value} (h : lg lv i = some v) : (i, v) ∈ lv := by
  unfold lg at h
  obtain ⟨q, h1, h2⟩ := Option.map_eq_some_iff.mp h
  have h3 := List.find?_some h1
  have h4 : q.1 = i := by simpa using h3
  have h5 := List.mem_of_find?_eq_some h1
  rw [← h4, ← h2]; exact h5
theorem lgi_of {lv : LV} {i : Nat} {f : Int32 → Prop} (h : lgi lv i f) : ∃ x, (i, .int x) ∈ lv ∧ f x := by
  unfold lgi at h; split at h
  · exact ⟨_, lg_mem (by assumption), h⟩
  · exact h.elim
theorem lgl_of {lv : LV} {i : Nat} {f : Int64 → Prop} (h : lgl lv i f) : ∃ x, (i, .long x) ∈ lv ∧ f x := by
  unfold lgl at h; split at h
  · exact ⟨_, lg_mem (by assumption), h⟩
  · exact h.elim
theorem lgd_of {lv : LV} {i : Nat} {f : UInt64 → Prop} (h : lgd lv i f) : ∃ x, (i, .double x) ∈ lv ∧ f x := by
  unfold lgd at h; split at h
  · exact ⟨_, lg_mem (by assumption), h⟩
  · exact h.elim
theorem lga_of {lv : LV} {i : Nat} {f : Nat → Prop} (h : lga lv i f) : ∃ x, (i, .ref x) ∈ lv ∧ f x := by
  unfold lga at h; split at h
  · exact ⟨_, lg_mem (by assumption), h⟩
  · exact h.elim
theorem lr_at {ρ : Nat → Nat} {ls : Array Slot} {nL : Nat} {lv : LV} (h : lv_has ls nL (lr ρ lv)) {i : Nat} {v : Value} (hm : (i, v) ∈ lv) : ls[i]? = some (.val (rv ρ v)) := h.2.2 (i, rv ρ v) (List.mem_map.mpr ⟨(i, v), hm, rfl⟩)
theorem lr_sp1 (ρ : Nat → Nat) (lv : LV) (i : Nat) (v : Value) : (i, rv ρ v) :: (lr ρ lv).filter (fun q => !(q.1 == i) && !(q.1 + 1 == i && q.2.category == 2)) = lr ρ (sp1 lv i v) := by
  simp only [lr, sp1, List.map_cons, List.filter_map]
  congr 2
  apply List.filter_congr
  intro q _
  simp [rv_cat]
theorem lr_sp2 (ρ : Nat → Nat) (lv : LV) (i : Nat) (v : Value) : (i, rv ρ v) :: (lr ρ lv).filter (fun q => !(q.1 == i) && (!(q.1 == i + 1) && !(q.1 + 1 == i && q.2.category == 2))) = lr ρ (sp2 lv i v) := by
  simp only [lr, sp2, List.map_cons, List.filter_map]
  congr 2
  apply List.filter_congr
  intro q _
  simp [rv_cat]
-- conditions
def c0 (c : ClassFile.Cond) (x : Int32) : Prop := match c with
  | .eq => x = 0
  | .ne => ¬ x = 0
  | .lt => x < 0
  | .ge => 0 ≤ x
  | .gt => 0 < x
  | .le => x ≤ 0
def c2 (c : ClassFile.Cond) (x y : Int32) : Prop := match c with
  | .eq => x = y
  | .ne => ¬ x = y
  | .lt => x < y
  | .ge => y ≤ x
  | .gt => y < x
  | .le => x ≤ y
/-- the cases of a tableswitch -/
def tsw (f : Nat → Prop) (pc : Nat) (x : Int32) : Int → List Int → Prop
  | _, [] => True
  | lo, off :: r => (x = Int32.ofInt lo → f ((pc : Int) + off).toNat) ∧ tsw f pc x (lo + 1) r
/-- n values off the stack, in the order in which they were pushed -/
def popK : Nat → List Value → List Value → (List Value → List Value → Prop) → Prop
  | 0, acc, st, f => f acc st
  | n + 1, acc, v :: st, f => popK n (v :: acc) st f
  | _ + 1, _, [], _ => False
theorem popK_of : ∀ (n : Nat) (acc st : List Value) {f : List Value → List Value → Prop}, popK n acc st f → ∃ as rest, st = as ++ rest ∧ as.length = n ∧ f (as.reverse ++ acc) rest
  | 0, acc, st, f, h => ⟨[], st, rfl, rfl, h⟩
  | n + 1, acc, v :: st, f, h => by
    obtain ⟨as, rest, h1, h2, h3⟩ := popK_of n (v :: acc) st h
    exact ⟨v :: as, rest, by rw [h1]; rfl, by rw [List.length_cons, h2], by simpa using h3⟩
  | n + 1, acc, [], f, h => h.elim
/-- the locals that a store leaves -/
def ltK (i : Nat) (two : Bool) : LV → (LV → Prop) → Prop
  | [], f => f []
  | q :: r, f => bif (q.1 == i) || ((two && q.1 == i + 1) || (q.1 + 1 == i && q.2.category == 2)) then ltK i two r f else ltK i two r (fun l => f (q :: l))
theorem bb1 (a d b c : Bool) : (!a && !(b && c)) = !(a || ((false && d) || (b && c))) := by cases a <;> cases b <;> cases c <;> rfl
theorem bb2 (a d b c : Bool) : (!a && (!d && !(b && c))) = !(a || ((true && d) || (b && c))) := by cases a <;> cases d <;> cases b <;> cases c <;> rfl
theorem ltK_1 (i : Nat) : ∀ (lv : LV) {f : LV → Prop}, ltK i false lv f → f (lv.filter (fun q => !(q.1 == i) && !(q.1 + 1 == i && q.2.category == 2)))
  | [], f, h => h
  | q :: r, f, h => by
    rw [ltK] at h
    rw [List.filter_cons, bb1 _ (q.1 == i + 1)]
    cases hc : ((q.1 == i) || ((false && q.1 == i + 1) || (q.1 + 1 == i && q.2.category == 2))) with
    | true => rw [hc] at h; exact ltK_1 i r h
    | false => rw [hc] at h; exact ltK_1 i r h
theorem ltK_2 (i : Nat) : ∀ (lv : LV) {f : LV → Prop}, ltK i true lv f → f (lv.filter (fun q => !(q.1 == i) && (!(q.1 == i + 1) && !(q.1 + 1 == i && q.2.category == 2))))
  | [], f, h => h
  | q :: r, f, h => by
    rw [ltK] at h
    rw [List.filter_cons, bb2]
    cases hc : ((q.1 == i) || ((true && q.1 == i + 1) || (q.1 + 1 == i && q.2.category == 2))) with
    | true => rw [hc] at h; exact ltK_2 i r h
    | false => rw [hc] at h; exact ltK_2 i r h
def fty (v : Value) : FieldType := match v with
  | .null => .boolean
  | _ => .int
def pN (v : Value) (x : Int32) (K : Prop) : Prop := match v with
  | .null => (x = 0 ∨ x = 1) ∧ K
  | _ => K
theorem pN_of {v : Value} {x : Int32} {K : Prop} (h : pN v x K) : narrow (fty v) (.int x) = .int x ∧ fits (fty v) (.int x) = true ∧ K := by
  cases v with
  | null => exact ⟨by rcases h.1 with e | e <;> rw [e] <;> rfl, by rcases h.1 with e | e <;> rw [e] <;> rfl, h.2⟩
  | _ => exact ⟨rfl, rfl, h⟩
def s1 (X : Nat × (Nat → Int32)) (CE : List (Nat × Nat × Tr)) (Q : Option Value → aS → Prop) (k : Nat → LV → List Value → aS → Prop) (en : En) (lv : LV) (st : List Value) (σ : aS) : Prop := match en with
  | (pc, ins, len, tgt, ci, v, _) => match ins with
    | .iconst _ => k (pc + len) lv (v :: st) σ
    | .bipush _ => k (pc + len) lv (v :: st) σ
    | .sipush _ => k (pc + len) lv (v :: st) σ
    | .lconst _ => k (pc + len) lv (v :: st) σ
    | .dconst _ => k (pc + len) lv (v :: st) σ
    | .ldc2_w _ => k (pc + len) lv (v :: st) σ
    | .ldc_w _ => k (pc + len) lv (v :: st) σ
    | .ldc _ => k (pc + len) lv (v :: st) σ
    | .iload_n _ => lgi lv tgt (fun x => k (pc + 1) lv (.int x :: st) σ)
    | .iload i => lgi lv i (fun x => k (pc + 2) lv (.int x :: st) σ)
    | .lload_n _ => lgl lv tgt (fun x => k (pc + 1) lv (.long x :: st) σ)
    | .lload i => lgl lv i (fun x => k (pc + 2) lv (.long x :: st) σ)
    | .dload_n _ => lgd lv tgt (fun x => k (pc + 1) lv (.double x :: st) σ)
    | .dload i => lgd lv i (fun x => k (pc + 2) lv (.double x :: st) σ)
    | .aload_n _ => lga lv tgt (fun x => k (pc + 1) lv (.ref x :: st) σ)
    | .aload i => lga lv i (fun x => k (pc + 2) lv (.ref x :: st) σ)
    | .istore_n _ => s1i st (fun x r => ltK tgt false lv (fun l => k (pc + 1) ((tgt, .int x) :: l) r σ))
    | .istore i => s1i st (fun x r => ltK i false lv (fun l => k (pc + 2) ((i, .int x) :: l) r σ))
    | .astore_n _ => s1r st (fun x r => ltK tgt false lv (fun l => k (pc + 1) ((tgt, .ref x) :: l) r σ))
    | .astore i => s1r st (fun x r => ltK i false lv (fun l => k (pc + 2) ((i, .ref x) :: l) r σ))
    | .lstore_n _ => s1l st (fun x r => ltK tgt true lv (fun l => k (pc + 1) ((tgt, .long x) :: l) r σ))
    | .lstore i => s1l st (fun x r => ltK i true lv (fun l => k (pc + 2) ((i, .long x) :: l) r σ))
    | .dstore_n _ => s1d st (fun x r => ltK tgt true lv (fun l => k (pc + 1) ((tgt, .double x) :: l) r σ))
    | .dstore i => s1d st (fun x r => ltK i true lv (fun l => k (pc + 2) ((i, .double x) :: l) r σ))
    | .iinc i n => lgi lv i (fun x => ltK i false lv (fun l => k (pc + 3) ((i, .int (x + Int32.ofInt n)) :: l) st σ))
    | .iadd => s2i st (fun x y r => k (pc + 1) lv (.int (x + y) :: r) σ)
    | .isub => s2i st (fun x y r => k (pc + 1) lv (.int (x - y) :: r) σ)
    | .imul => s2i st (fun x y r => k (pc + 1) lv (.int (x * y) :: r) σ)
    | .iand => s2i st (fun x y r => k (pc + 1) lv (.int (x &&& y) :: r) σ)
    | .ior => s2i st (fun x y r => k (pc + 1) lv (.int (x ||| y) :: r) σ)
    | .ishl => s2i st (fun x y r => k (pc + 1) lv (.int (x <<< (y &&& 31)) :: r) σ)
    | .ishr => s2i st (fun x y r => k (pc + 1) lv (.int (x >>> (y &&& 31)) :: r) σ)
    | .iushr => s2i st (fun x y r => k (pc + 1) lv (.int (x.toUInt32 >>> (y.toUInt32 &&& Int32.toUInt32 31)).toInt32 :: r) σ)
    | .idiv => s2i st (fun x y r => ¬ y = 0 ∧ k (pc + 1) lv (.int (x / y) :: r) σ)
    | .ineg => s1i st (fun x r => k (pc + 1) lv (.int (-x) :: r) σ)
    | .ladd => s2l st (fun x y r => k (pc + 1) lv (.long (x + y) :: r) σ)
    | .lsub => s2l st (fun x y r => k (pc + 1) lv (.long (x - y) :: r) σ)
    | .lmul => s2l st (fun x y r => k (pc + 1) lv (.long (x * y) :: r) σ)
    | .land => s2l st (fun x y r => k (pc + 1) lv (.long (x &&& y) :: r) σ)
    | .lor => s2l st (fun x y r => k (pc + 1) lv (.long (x ||| y) :: r) σ)
    | .lxor => s2l st (fun x y r => k (pc + 1) lv (.long (x ^^^ y) :: r) σ)
    | .ldiv => s2l st (fun x y r => ¬ y = 0 ∧ k (pc + 1) lv (.long (x / y) :: r) σ)
    | .lrem => s2l st (fun x y r => ¬ y = 0 ∧ k (pc + 1) lv (.long (x - x / y * y) :: r) σ)
    | .lshl => sli st (fun x y r => k (pc + 1) lv (.long (x <<< (y.toInt64 &&& 63)) :: r) σ)
    | .lshr => sli st (fun x y r => k (pc + 1) lv (.long (x >>> (y.toInt64 &&& 63)) :: r) σ)
    | .lushr => sli st (fun x y r => k (pc + 1) lv (.long (x.toUInt64 >>> (y.toInt64.toUInt64 &&& Int64.toUInt64 63)).toInt64 :: r) σ)
    | .lcmp => s2l st (fun x y r => k (pc + 1) lv (.int (lg_cmp x y) :: r) σ)
    | .i2l => s1i st (fun x r => k (pc + 1) lv (.long x.toInt64 :: r) σ)
    | .l2i => s1l st (fun x r => k (pc + 1) lv (.int x.toInt32 :: r) σ)
    | .i2d => s1i st (fun x r => k (pc + 1) lv (.double (FP.i2d x) :: r) σ)
    | .l2d => s1l st (fun x r => k (pc + 1) lv (.double (FP.l2d x) :: r) σ)
    | .d2i => s1d st (fun x r => k (pc + 1) lv (.int (FP.d2i x) :: r) σ)
    | .d2l => s1d st (fun x r => k (pc + 1) lv (.long (FP.d2l x) :: r) σ)
    | .d2f => s1d st (fun x r => vf_n32 (FP.d2f x) ∧ k (pc + 1) lv (.float (FP.d2f x) :: r) σ)
    | .f2d => s1f st (fun x r => vf_n64 (FP.f2d x) ∧ k (pc + 1) lv (.double (FP.f2d x) :: r) σ)
    | .dadd => s2d st (fun x y r => vf_n64 (FP.dadd x y) ∧ k (pc + 1) lv (.double (FP.dadd x y) :: r) σ)
    | .dsub => s2d st (fun x y r => vf_n64 (FP.dsub x y) ∧ k (pc + 1) lv (.double (FP.dsub x y) :: r) σ)
    | .dmul => s2d st (fun x y r => vf_n64 (FP.dmul x y) ∧ k (pc + 1) lv (.double (FP.dmul x y) :: r) σ)
    | .ddiv => s2d st (fun x y r => vf_n64 (FP.ddiv x y) ∧ k (pc + 1) lv (.double (FP.ddiv x y) :: r) σ)
    | .dneg => s1d st (fun x r => k (pc + 1) lv (.double (FP.dneg x) :: r) σ)
    | .dcmp op => s2d st (fun x y r => k (pc + 1) lv (.int (Op.cmpValue (FP.dcmp x y) op) :: r) σ)
    | .ifCond c _ => s1i st (fun x r => (c0 c x → k tgt lv r σ) ∧ (¬ c0 c x → k (pc + 3) lv r σ))
    | .if_icmp c _ => s2i st (fun x y r => (c2 c x y → k tgt lv r σ) ∧ (¬ c2 c x y → k (pc + 3) lv r σ))
    | .goto _ => k tgt lv st σ
    | .dup => sdp st (fun w r => k (pc + 1) lv (w :: w :: r) σ)
    | .tableswitch dflt lo hi offs => s1i st (fun x r => (x.toInt < lo ∨ hi < x.toInt → k tgt lv r σ) ∧ tsw (fun t => k t lv r σ) pc x lo offs.toList)
    | .iaload => sri st (fun a i r => bif a == 999 then (¬ X.1 = 0 ∧ vp_in i (X.1 - 1) ∧ k (pc + 1) lv (.int (X.2 i.toNatClampNeg) :: r) σ) else ai σ a 0 (fun n g => vp_in i n ∧ k (pc + 1) lv (.int (g i.toNatClampNeg) :: r) σ))
    | .arraylength => s1r st (fun a r => bif a == 999 then (¬ X.1 = 0 ∧ k (pc + 1) lv (.int (nI (X.1 - 1)) :: r) σ) else False)
    | .baload => sri st (fun a i r => ai σ a 3 (fun n g => vp_in i n ∧ k (pc + 1) lv (.int (g i.toNatClampNeg) :: r) σ))
    | .laload => sri st (fun a i r => al σ a 1 (fun n g => vp_in i n ∧ k (pc + 1) lv (.long (g i.toNatClampNeg) :: r) σ))
    | .daload => sri st (fun a i r => ad σ a 2 (fun n g => vp_in i n ∧ k (pc + 1) lv (.double (g i.toNatClampNeg) :: r) σ))
    | .iastore => srii st (fun a i x r => ai σ a 0 (fun n g => vp_in i n ∧ k (pc + 1) lv r (σ.set a (.inl (0, n, .inl (upd g i.toNatClampNeg x))))))
    | .bastore => srii st (fun a i x r => ai σ a 3 (fun n g => vp_in i n ∧ k (pc + 1) lv r (σ.set a (.inl (3, n, .inl (upd g i.toNatClampNeg (vp_nar .boolean x)))))))
    | .lastore => sril st (fun a i x r => al σ a 1 (fun n g => vp_in i n ∧ k (pc + 1) lv r (σ.set a (.inl (1, n, .inr (.inl (vp_updL g i.toNatClampNeg x)))))))
    | .dastore => srid st (fun a i x r => ad σ a 2 (fun n g => vp_in i n ∧ k (pc + 1) lv r (σ.set a (.inl (2, n, .inr (.inr (.inr (.inl (vf_upd g i.toNatClampNeg x)))))))))
    | .getfield _ => s1r st (fun a r => ao σ a ci (fun fs => op1 (fs[tgt]?) (fun w => k (pc + 3) lv (w :: r) σ)))
    | .putfield _ => sri st (fun a x r => ao σ a ci (fun fs => bif Nat.blt tgt fs.length then pN v x (k (pc + 3) lv r (σ.set a (.inr (ci, fs.set tgt (.int x))))) else False))
    | .invokestatic i => op1 (CE.find? (fun q => q.1 == 2 * i)) (fun q => popK q.2.1 [] st (fun as rest => bif Nat.ble ((rest.map fun v => v.category).sum) 8 then q.2.2 as σ (fun w σ' => match w with | some v => k (pc + 3) lv (v :: rest) σ' | none => k (pc + 3) lv rest σ') else False))
    | .invokevirtual i => op1 (CE.find? (fun q => q.1 == 2 * i + 1)) (fun q => popK q.2.1 [] st (fun as rest => bif Nat.ble ((rest.map fun v => v.category).sum) 8 then q.2.2 as σ (fun w σ' => match w with | some v => k (pc + 3) lv (v :: rest) σ' | none => k (pc + 3) lv rest σ') else False))
    | .ireturn => match st with
      | [.int x] => Q (some (.int x)) σ
      | _ => False
    | .lreturn => match st with
      | [.long x] => Q (some (.long x)) σ
      | _ => False
    | .dreturn => match st with
      | [.double x] => Q (some (.double x)) σ
      | _ => False
    | .return_ => match st with
      | [] => Q none σ
      | _ => False
    | _ => False
/-- the locals that live at a cut, in the order of the slots -/
def cn (sl : List Nat) (lv : LV) : LV := sl.filterMap (fun i => (lg lv i).map (fun v => (i, v)))
theorem cn_mem {sl : List Nat} {lv : LV} {q : Nat × Value} (h : q ∈ cn sl lv) : q ∈ lv := by
  obtain ⟨i, -, h2⟩ := List.mem_filterMap.mp h
  obtain ⟨v, h3, h4⟩ := Option.map_eq_some_iff.mp h2
  rw [← h4]; exact lg_mem h3
def isCut (cut : List (Nat × List Nat)) (b : Bool) (pc : Nat) : Option (Nat × List Nat) := bif b then cut.find? (fun q => q.1 == pc) else none
def segF (X : Nat × (Nat → Int32)) (P : List En) (CE : List (Nat × Nat × Tr)) (cut : List (Nat × List Nat)) (G : Nat → LV → List Value → aS → Prop) (Q : Option Value → aS → Prop) (ih : Bool → Nat → LV → List Value → aS → Prop) (b : Bool) (pc : Nat) (lv : LV) (st : List Value) (σ : aS) : Prop := match isCut cut b pc with
  | some q => G pc (cn q.2 lv) st σ
  | none => op1 (P.find? (fun q => q.1 == pc)) (fun en => s1 X CE Q (ih true) en lv st σ)
noncomputable def seg (X : Nat × (Nat → Int32)) (P : List En) (CE : List (Nat × Nat × Tr)) (cut : List (Nat × List Nat)) (G : Nat → LV → List Value → aS → Prop) (Q : Option Value → aS → Prop) (n : Nat) : Bool → Nat → LV → List Value → aS → Prop :=
  Nat.rec (motive := fun _ => Bool → Nat → LV → List Value → aS → Prop) (fun _ pc lv st σ => G pc lv st σ) (fun _ ih => segF X P CE cut G Q ih) n
