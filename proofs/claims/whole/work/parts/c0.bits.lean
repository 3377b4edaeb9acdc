/-! bits of a number: numberOfLeadingZeros, Big.bits, Big.from -/
theorem nlt31 {a b : Nat} (ha : a < 2 ^ 31) (hb : b < 2 ^ 31) : nI a < nI b ↔ a < b := by
  rw [Int32.lt_iff_toInt_lt, nI_toInt ha, nI_toInt hb]
  omega
/-- x has k + 1 bits -/
def bl (x k : Nat) : Prop := 2 ^ k ≤ x ∧ x < 2 ^ (k + 1)
theorem bl_div {x k s : Nat} (h : bl x k) (hs : s ≤ k) : bl (x / 2 ^ s) (k - s) := by
  obtain ⟨h1, h2⟩ := h
  have p : 0 < 2 ^ s := Nat.pow_pos (by decide)
  constructor
  · rw [Nat.le_div_iff_mul_le p, ← Nat.pow_add, show k - s + s = k by omega]
    exact h1
  · rw [Nat.div_lt_iff_lt_mul p, ← Nat.pow_add, show k - s + 1 + s = k + 1 by omega]
    exact h2
theorem bl_ge {x k s : Nat} (h : bl x k) (hs : 2 ^ s ≤ x) : s ≤ k := by
  have := (Nat.pow_lt_pow_iff_right (a := 2) (by decide)).mp (Nat.lt_of_le_of_lt hs h.2)
  omega
theorem bl_lt {x k s : Nat} (h : bl x k) (hs : x < 2 ^ s) : k < s := (Nat.pow_lt_pow_iff_right (a := 2) (by decide)).mp (Nat.lt_of_le_of_lt h.1 hs)
theorem bl_ex {x : Nat} (h : 0 < x) : ∃ k, bl x k := ⟨x.log2, Nat.log2_self_le (by omega), Nat.lt_log2_self⟩
theorem bl_un {x k k' : Nat} (h : bl x k) (h' : bl x k') : k = k' := by
  have a := bl_lt h h'.2
  have b := bl_lt h' h.2
  omega
theorem nlz_st (s : Nat) (C S m : Int32) (hs : s ≤ 16) (hC : C = nI (2 ^ s)) (hm : m + nI s = 0) (hsh : ∀ y : Int32, u3 (y.toUInt32 >>> (S.toUInt32 &&& Int32.toUInt32 31)).toInt32 = u3 y / 2 ^ s) {x n k : Nat} (hb : bl x k) (hx : x < 2 ^ 31) (hn : s ≤ n) (hn2 : n ≤ 31) :
    ∃ x' n' k', (if nI x < C then some (nI x, nI n) else lt (nI n + m : Int32) (fun a : Int32 => lt ((nI x).toUInt32 >>> (S.toUInt32 &&& Int32.toUInt32 31)).toInt32 (fun b : Int32 => some (b, a)))) = some (nI x', nI n') ∧ bl x' k' ∧ x' ≤ x ∧ n' + k = n + k' ∧ n' ≤ n ∧ n ≤ n' + s ∧ (k < 2 * s → k' < s) := by
  subst hC
  have hp : 2 ^ s ≤ 2 ^ 16 := Nat.pow_le_pow_right (by decide) hs
  by_cases hc : x < 2 ^ s
  · rw [if_pos ((nlt31 hx (by omega)).mpr hc)]
    exact ⟨x, n, k, rfl, hb, Nat.le_refl _, rfl, Nat.le_refl _, by omega, fun _ => bl_lt hb hc⟩
  · rw [if_neg (fun z => hc ((nlt31 hx (by omega)).mp z))]
    have hk := bl_ge hb (show 2 ^ s ≤ x by omega)
    have e1 : nI n + m = nI (n - s) := by
      have : nI n = nI (n - s) + nI s := by rw [nI_add, Nat.sub_add_cancel hn]
      rw [this, Int32.add_assoc, Int32.add_comm (nI s) m, hm, Int32.add_zero]
    have e2 : ((nI x).toUInt32 >>> (S.toUInt32 &&& Int32.toUInt32 31)).toInt32 = nI (x / 2 ^ s) := by
      rw [← nI_u3 ((nI x).toUInt32 >>> (S.toUInt32 &&& Int32.toUInt32 31)).toInt32, hsh, u3_nI (by simp only [BB]; omega)]
    simp only [lt]
    rw [e1, e2]
    exact ⟨x / 2 ^ s, n - s, k - s, rfl, bl_div hb hk, Nat.div_le_self _ _, by omega, by omega, by omega, fun h => by omega⟩
theorem t_nlz {d k : Nat} (hb : bl d k) (hk : k < 32) : m_J6_numberOfLeadingZeros_0f7a4 (nI d) = some (nI (31 - k)) := by
  rw [em_J6_numberOfLeadingZeros_0f7a4]
  by_cases h31 : k = 31
  · subst h31
    have hd : ¬ (0 : Int32) < nI d := by
      intro z
      rw [Int32.lt_iff_toInt_lt] at z
      have e : (nI d).toInt = (d : Int) - 2 ^ 32 := by
        show (Int32.ofNat d).toInt = _
        rw [Int32.toInt_ofNat']
        have h1 := hb.1
        have h2 := hb.2
        rw [Int.bmod_def, show ((Int32.size : Nat) : Int) = 4294967296 from rfl]
        split <;> omega
      rw [e] at z
      have h2 := hb.2
      have : (0 : Int32).toInt = 0 := rfl
      omega
    have h0 : ¬ nI d = 0 := by
      intro z
      have e := congrArg u3 z
      rw [u3_nI (by have := hb.2; simp only [BB]; omega)] at e
      have h1 := hb.1
      have e0 : u3 0 = 0 := rfl
      omega
    rw [if_neg hd, if_neg h0]
    rfl
  · have hd : d < 2 ^ 31 := Nat.lt_of_lt_of_le hb.2 (Nat.pow_le_pow_right (by decide) (by omega))
    have hp : (0 : Int32) < nI d := (nlt31 (a := 0) (by decide) hd).mpr (by have := hb.1; have : 0 < 2 ^ k := Nat.pow_pos (by decide); omega)
    rw [if_pos hp]
    obtain ⟨x1, n1, k1, e1, b1, l1, q1, r1, s1, t1⟩ := nlz_st 16 65536 16 (-16) (by omega) rfl (by decide) (fun y => pk_ushr y 16 16 (by decide)) (n := 31) hb hd (by omega) (by omega)
    refine Eq.trans (congrArg (fun o : Option (Int32 × Int32) => Option.bind o _) e1) ?_
    simp only [Option.bind_some]
    obtain ⟨x2, n2, k2, e2, b2, l2, q2, r2, s2, t2⟩ := nlz_st 8 256 8 (-8) (by omega) rfl (by decide) (fun y => pk_ushr y 8 8 (by decide)) (n := n1) b1 (by omega) (by omega) (by omega)
    rw [e2]
    simp only [Option.bind_some]
    obtain ⟨x3, n3, k3, e3, b3, l3, q3, r3, s3, t3⟩ := nlz_st 4 16 4 (-4) (by omega) rfl (by decide) (fun y => pk_ushr y 4 4 (by decide)) (n := n2) b2 (by omega) (by omega) (by omega)
    rw [e3]
    simp only [Option.bind_some]
    obtain ⟨x4, n4, k4, e4, b4, l4, q4, r4, s4, t4⟩ := nlz_st 2 4 2 (-2) (by omega) rfl (by decide) (fun y => pk_ushr y 2 2 (by decide)) (n := n3) b3 (by omega) (by omega) (by omega)
    rw [e4]
    simp only [Option.bind_some]
    have hk4 : k4 < 2 := t4 (t3 (t2 (t1 (by omega))))
    have e5 : ((nI x4).toUInt32 >>> ((1 : Int32).toUInt32 &&& Int32.toUInt32 31)).toInt32 = nI k4 := by
      rw [← nI_u3 ((nI x4).toUInt32 >>> ((1 : Int32).toUInt32 &&& Int32.toUInt32 31)).toInt32, u3_shr1, u3_nI (by simp only [BB]; omega)]
      congr 1
      obtain ⟨c1, c2⟩ := b4
      rcases (show k4 = 0 ∨ k4 = 1 by omega) with z | z <;> subst z <;> simp only [Nat.pow_zero, Nat.pow_one, Nat.zero_add, show 2 ^ (1 + 1) = 4 from rfl] at c1 c2 <;> omega
    rw [e5, nI_subm (by omega)]
    congr 2
    omega
