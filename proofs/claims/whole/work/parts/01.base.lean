/-! mirrors: a method as a function; none where the machine would throw -/
def lpk {α β : Type} (f : α → Option β) (r : Option (α ⊕ β)) : Option β := match r with
  | none => none
  | some (.inl a) => f a
  | some (.inr b) => some b
def lp {α β : Type} (body : α → Option (α ⊕ β)) : Nat → α → Option β
  | 0, _ => none
  | n + 1, a => lpk (lp body n) (body a)
theorem FU_ex : ∃ n : Nat, n = 4000000 := ⟨4000000, rfl⟩
noncomputable def FU : Nat := FU_ex.choose
theorem FU_eq : FU = 4000000 := FU_ex.choose_spec
def lt {α β : Type} (a : α) (f : α → β) : β := f a
def ix (i : Int32) (n : Nat) : Bool := decide (0 ≤ i.toInt ∧ i.toInt < (n : Int))
theorem ix_in {i : Int32} {n : Nat} (h : ix i n = true) : vp_in i n := vp_in_iff.mpr (of_decide_eq_true h)
theorem ix_of {i : Int32} {n : Nat} (h : vp_in i n) : ix i n = true := decide_eq_true (vp_in_iff.mp h)
theorem ix_nI {j n : Nat} (h : j < n) (hn : n < 2 ^ 31) : ix (nI j) n = true := ix_of (vp_in_nI h hn)
def primeAt (j : Nat) : Nat := [2, 3, 5, 7, 11, 13, 17, 19, 23, 29, 31, 37, 41, 43, 47, 53, 59].getD j 0
def factAt (j : Nat) : Nat := [1, 1, 2, 6, 24, 120, 720, 5040, 40320, 362880, 3628800, 39916800, 479001600, 6227020800, 87178291200, 1307674368000, 20922789888000].getD j 0
def cpok (sp dp n : Int32) (n0 n1 : Nat) : Bool := decide (¬ sp < 0 ∧ ¬ dp < 0 ∧ ¬ n < 0 ∧ sp.toNatClampNeg + n.toNatClampNeg ≤ n0 ∧ dp.toNatClampNeg + n.toNatClampNeg ≤ n1)
def bz (x : Int32) : Bool := decide (x = 0 ∨ x = 1)
abbrev oM (A : Nat → Nat) (i0 i2 i4 i5 i24 i25 : Int32) : List Value := [.int i0, .ref (A 1), .int i2, .ref (A 3), .int i4, .int i5, .ref (A 6), .ref (A 7), .ref (A 8), .ref (A 9), .ref (A 10), .ref (A 11), .ref (A 12), .ref (A 13), .ref (A 14), .ref (A 15), .ref (A 16), .ref (A 17), .ref (A 18), .ref (A 19), .ref (A 20), .ref (A 21), .ref (A 22), .ref (A 23), .int i24, .int i25, .ref (A 26), .ref (A 27), .ref (A 28), .ref (A 29), .ref (A 30), .ref (A 31), .ref (A 32), .ref (A 33), .ref (A 34), .ref (A 35), .ref (A 36), .ref (A 37), .ref (A 38)]
