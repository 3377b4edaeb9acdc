theorem bit_tb (g i : Nat) : g / 2 ^ i % 2 = 0 ↔ g.testBit i = false := by
  rw [Nat.testBit_eq_decide_div_mod_eq, decide_eq_false_iff_not]
  have : g / 2 ^ i % 2 < 2 := Nat.mod_lt _ (by decide)
  omega
theorem parN_bit (g c : Nat) : ∀ n p, p < n → parN g c n / 2 ^ p % 2 = g / 2 ^ (5 * p + c) % 2 := by
  intro n
  induction n with
  | zero => intro p hp; omega
  | succ n ih =>
    intro p hp
    have hl := parN_lt g c n
    have hst : parN g c (n + 1) = parN g c n + g / 2 ^ (5 * n + c) % 2 * 2 ^ n := rfl
    rw [hst]
    by_cases hpn : p = n
    · subst hpn
      rw [Nat.add_mul_div_right _ _ (Nat.pow_pos (by decide)), Nat.div_eq_of_lt hl, Nat.zero_add, Nat.mod_mod]
    · have hp2 : 2 ^ n = 2 ^ p * (2 * 2 ^ (n - p - 1)) := by
        rw [← Nat.pow_succ', ← Nat.pow_add]
        congr 1
        omega
      rw [hp2, show g / 2 ^ (5 * n + c) % 2 * (2 ^ p * (2 * 2 ^ (n - p - 1))) = 2 ^ p * (2 * (g / 2 ^ (5 * n + c) % 2 * 2 ^ (n - p - 1))) by
        rw [← Nat.mul_assoc, Nat.mul_comm (g / 2 ^ (5 * n + c) % 2) (2 ^ p), Nat.mul_assoc, Nat.mul_left_comm (g / 2 ^ (5 * n + c) % 2) 2], Nat.add_mul_div_left _ _ (Nat.pow_pos (by decide)), Nat.add_mul_mod_self_left]
      exact ih p (by omega)
theorem self_ok {N g : Nat} (hN : N ≤ 5) (h : okA N g) : ∀ c, c < N → parN g c 5 / 2 ^ c % 2 = 0 := by
  intro c hc
  rw [parN_bit g c 5 c (by omega), bit_tb]
  have ht : g / 2 ^ (5 * c) % 32 < 32 := Nat.mod_lt _ (by decide)
  have h1 := (tb_ok N (by omega) c (by omega) _ ht).mpr (h c (by omega))
  rw [← part_bit (show c < 5 by omega), ← bit_tb]
  rcases h1 with q | ⟨-, -, q⟩
  · rw [q, Nat.zero_div]
  · exact q
section SG
variable {N R w : Nat} {vals : Nat → Nat} {cell : Nat → Nat → Nat} {fvalues fcells : Nat → Int32} {i4 i5 i6 : Int32} {fk ftops flows fsmall flarge fone ftwo frest ff fm tA lA tB lB lf rt : Nat → Int32} {g o : Nat}
theorem t_signOf (h : MS N R w vals cell fvalues fcells) (hk : MK cell vals N R w fk ftops flows) (hg : g < 2 ^ 25) (hgo : okA N g) (ho : o < 2 ^ 25) (hoo : okA N o) :
    ∃ q, m_X11_signOf (nI N) (nI R) (nI w) i4 i5 i6 fvalues fcells fk ftops flows fsmall flarge fone ftwo frest ff fm tA lA tB lB lf rt (nI g) (nI o) = some q ∧ MK cell vals N R w q.2.1 q.2.2.1 q.2.2.2.1 ∧
      (q.1 < 0 ↔ grT cell vals N R w g N * grL cell vals N R w o N < grT cell vals N R w o N * grL cell vals N R w g N) ∧ (q.1 = 0 ↔ grT cell vals N R w g N * grL cell vals N R w o N = grT cell vals N R w o N * grL cell vals N R w g N) ∧ (0 < q.1 ↔ grT cell vals N R w o N * grL cell vals N R w g N < grT cell vals N R w g N * grL cell vals N R w o N) := by
  have hN := h.1
  obtain ⟨r1, a1, b1, e1, hK1, hA, hB, ca, cb⟩ := t_fit (i4 := i4) (i5 := i5) (i6 := i6) (fsmall := fsmall) (flarge := flarge) (fone := fone) (ftwo := ftwo) (frest := frest) (ff := ff) (fm := fm) (fx := tA) (fy := lA) (g := g) h hk (by omega) (self_ok hN hgo)
  obtain ⟨r2, a2, b2, e2, hK2, hC, hD, cc, cd⟩ := t_fit (i4 := i4) (i5 := i5) (i6 := i6) (fsmall := r1.2.2.2.1) (flarge := r1.2.2.2.2.1) (fone := r1.2.2.2.2.2.1) (ftwo := r1.2.2.2.2.2.2.1) (frest := r1.2.2.2.2.2.2.2.1) (ff := r1.2.2.2.2.2.2.2.2.1) (fm := r1.2.2.2.2.2.2.2.2.2.1) (fx := tB) (fy := lB) (g := o) h hK1 (by omega) (self_ok hN hoo)
  obtain ⟨r3, e3, s1, s2, s3⟩ := t_sign (i1 := nI N) (i2 := nI R) (i3 := nI w) (i4 := i4) (i5 := i5) (i6 := i6) (lf := lf) (rt := rt) hA hB hC hD (by omega) (by omega)
  have e : m_X11_signOf (nI N) (nI R) (nI w) i4 i5 i6 fvalues fcells fk ftops flows fsmall flarge fone ftwo frest ff fm tA lA tB lB lf rt (nI g) (nI o) = some (r3.1, r2.1, r2.2.1, r2.2.2.1, r2.2.2.2.1, r2.2.2.2.2.1, r2.2.2.2.2.2.1, r2.2.2.2.2.2.2.1, r2.2.2.2.2.2.2.2.1, r2.2.2.2.2.2.2.2.2.1, r2.2.2.2.2.2.2.2.2.2.1, r1.2.2.2.2.2.2.2.2.2.2.1, r1.2.2.2.2.2.2.2.2.2.2.2, r2.2.2.2.2.2.2.2.2.2.2.1, r2.2.2.2.2.2.2.2.2.2.2.2, r3.2.1, r3.2.2) := by
    unfold m_X11_signOf
    rw [e1]
    simp only [Option.bind_some]
    rw [e2]
    simp only [Option.bind_some]
    rw [e3]
    simp only [Option.bind_some]
  exact ⟨_, e, hK2, s1, s2, s3⟩
end SG
