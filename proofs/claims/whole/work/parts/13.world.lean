/-! THE CLASS'S WORLD: twenty cells, by a state of ints, int rows and long rows; rows are named by their cells -/
abbrev CS : Type := (Nat → Int32) × (Nat → Nat → Int32) × (Nat → Nat → Int64)
def setI (c : CS) (k : Nat) (x : Int32) : CS := (fun j => if j = k then x else c.1 j, c.2.1, c.2.2)
def setA (c : CS) (k : Nat) (f : Nat → Int32) : CS := (c.1, fun j => if j = k then f else c.2.1 j, c.2.2)
def setL (c : CS) (k : Nat) (f : Nat → Int64) : CS := (c.1, c.2.1, fun j => if j = k then f else c.2.2 j)
/-- ints: 0 draws, 1 needed, 2 Formulas.size, 3 Tiling.size, 4 Tiling.draws -/
def wC (c : CS) : aS := [
  .inr (2, [.ref 3, .ref 11, .ref 1, .ref 2, .int (c.1 0), .int (c.1 1)]),
  .inl (1, 6, .inr (.inl (c.2.2 1))), .inl (0, 5, .inl (c.2.1 2)),
  .inr (0, [.ref 4, .ref 5, .int (c.1 2), .ref 6, .ref 7, .ref 8, .ref 9, .ref 10]),
  .inl (1, 32, .inr (.inl (c.2.2 4))), .inl (1, 32, .inr (.inl (c.2.2 5))), .inl (0, 32, .inl (c.2.1 6)), .inl (0, 32, .inl (c.2.1 7)), .inl (0, 32, .inl (c.2.1 8)), .inl (1, 32, .inr (.inl (c.2.2 9))), .inl (1, 32, .inr (.inl (c.2.2 10))),
  .inr (1, [.ref 12, .ref 13, .ref 14, .ref 15, .ref 16, .int (c.1 3), .ref 17, .ref 18, .ref 19, .int (c.1 4)]),
  .inl (1, 600, .inr (.inl (c.2.2 12))), .inl (1, 100, .inr (.inl (c.2.2 13))), .inl (1, 100, .inr (.inl (c.2.2 14))), .inl (0, 100, .inl (c.2.1 15)), .inl (1, 3, .inr (.inl (c.2.2 16))), .inl (0, 100, .inl (c.2.1 17)), .inl (1, 100, .inr (.inl (c.2.2 18))), .inl (3, 100, .inl (c.2.1 19))]
theorem leafS {post : Option Value → aS → Prop} {v w : Option Value} {σ σ' : aS} (h : post v σ) (e : v = w) (e2 : σ = σ') : post w σ' := e ▸ e2 ▸ h
