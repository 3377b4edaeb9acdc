/-! bits of a number -/
theorem nlt31 {a b : Nat} (ha : a < 2 ^ 31) (hb : b < 2 ^ 31) : nI a < nI b ↔ a < b := by
  rw [Int32.lt_iff_toInt_lt, nI_toInt ha, nI_toInt hb]
  omega
/-- x has k + 1 bits -/
def bl (x k : Nat) : Prop := 2 ^ k ≤ x ∧ x < 2 ^ (k + 1)
theorem bl_div {x k s : Nat} (h : bl x k) (hs : s ≤ k) : bl (x / 2 ^ s) (k - s) := by
  obtain ⟨h1, h2⟩ := h
  have p : 0 < 2 ^ s := Nat.pow_pos (by decide)
  constructor
  · rw [Nat.le_div_iff_mul_le p, ← Nat.pow_add, show k - s + s = k by omega]
    exact h1
  · rw [Nat.div_lt_iff_lt_mul p, ← Nat.pow_add, show k - s + 1 + s = k + 1 by omega]
    exact h2
theorem bl_ge {x k s : Nat} (h : bl x k) (hs : 2 ^ s ≤ x) : s ≤ k := by
  have := (Nat.pow_lt_pow_iff_right (a := 2) (by decide)).mp (Nat.lt_of_le_of_lt hs h.2)
  omega
theorem bl_lt {x k s : Nat} (h : bl x k) (hs : x < 2 ^ s) : k < s := (Nat.pow_lt_pow_iff_right (a := 2) (by decide)).mp (Nat.lt_of_le_of_lt h.1 hs)
theorem bl_ex {x : Nat} (h : 0 < x) : ∃ k, bl x k := ⟨x.log2, Nat.log2_self_le (by omega), Nat.lt_log2_self⟩
theorem bl_un {x k k' : Nat} (h : bl x k) (h' : bl x k') : k = k' := by
  have a := bl_lt h h'.2
  have b := bl_lt h' h.2
  omega
/-- the bits of v from k down over w places are set, none above k -/
def fl (k w v : Nat) : Prop := ∀ i, (k < i → v.testBit i = false) ∧ (i ≤ k → k < i + w → v.testBit i = true)
theorem fl_1 {k d : Nat} (h : bl d k) : fl k 1 d := by
  intro i
  constructor
  · intro hi
    exact Nat.testBit_lt_two_pow (Nat.lt_of_lt_of_le h.2 (Nat.pow_le_pow_right (by decide) hi))
  · intro h1 h2
    have hik : i = k := by omega
    subst hik
    have h3 := h.1
    have h4 := h.2
    rw [Nat.pow_succ] at h4
    have e : d / 2 ^ i = 1 := Nat.div_eq_of_lt_le (by rw [Nat.one_mul]; exact h3) (by omega)
    rw [Nat.testBit_eq_decide_div_mod_eq, e]
    rfl
theorem fl_s {k w v : Nat} (h : fl k w v) : fl k (w * 2) (v ||| v / 2 ^ w) := by
  intro i
  rw [Nat.testBit_or, ← Nat.shiftRight_eq_div_pow, Nat.testBit_shiftRight]
  constructor
  · intro hi
    rw [(h i).1 hi, (h (w + i)).1 (by omega)]
    rfl
  · intro h1 h2
    by_cases c : k < i + w
    · rw [(h i).2 h1 c]
      rfl
    · rw [(h (w + i)).2 (by omega) (by omega), Bool.or_true]
theorem fl_e {k w v : Nat} (h : fl k w v) (hw : k < w) : v = 2 ^ (k + 1) - 1 := by
  apply Nat.eq_of_testBit_eq
  intro i
  rw [Nat.testBit_two_pow_sub_one]
  by_cases c : i ≤ k
  · rw [(h i).2 c (by omega), decide_eq_true (by omega)]
  · rw [(h i).1 (by omega), decide_eq_false (by omega)]
theorem t_bc64 : ∀ k, k < 32 → m_J13_bitCount_95d88 (lN (2 ^ (k + 1) - 1)) = some (nI (k + 1)) := by decide +kernel
