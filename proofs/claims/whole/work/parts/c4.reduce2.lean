/-! Big.reduceBy with the count -/
section RC
variable {n n2 c u2 X Y ky : Nat} {f f2 : Nat → Int64}
theorem s_reduceBy {n3 uo : Nat} {f3 : Nat → Int64} (hX : BR n f c X) (hY : BR n2 f2 u2 Y) (h0 : 0 < Y) (hO : BR n3 f3 uo 0) (hcap : X < BB ^ (n3 - 1)) (hn : n ≤ 168) (hn2 : n2 ≤ 168) (hn3 : n3 ≤ 168) : ∃ g c' g3 c3, m_X1_reduceBy (nI c) n f (nI u2) n2 f2 (nI uo) n3 f3 = some (nI c', g, nI c3, g3) ∧ BR n g c' (X % Y) ∧ BR n3 g3 c3 (X / Y) := by
  obtain ⟨ky, hky⟩ := bl_ex h0
  have hu2 := (BR_pos hY).mpr h0
  have hun := hY.1
  obtain ⟨e1, e2, e3, e4⟩ := rd_head hY hky hn2
  have hmu := mu_cap hX hn
  have L := lp_inv (body := b_X1_reduceBy_45 n (nI u2) n2 f2 n3 (nI (ky + 1 - 31)) (lN (Y / 2 ^ (ky + 1 - 31) + (if 0 < ky + 1 - 31 then 1 else 0)))) (fun s => ∃ r c' X' co O, s.1 = nI r ∧ s.2.1 = nI c' ∧ BR n s.2.2.1 c' X' ∧ s.2.2.2.1 = nI co ∧ BR n3 s.2.2.2.2 co O ∧ X' + Y * O = X ∧ r + mu X' ≤ mu X) (fun s => ∃ c' co, s.2.1 = nI c' ∧ BR n s.2.2.1 c' (X % Y) ∧ s.2.2.2.1 = nI co ∧ BR n3 s.2.2.2.2 co (X / Y)) (fun s => 400000 - u3 s.1) ?_ FU (0, nI c, f, nI uo, f3) ⟨0, c, X, uo, 0, rfl, rfl, hX, rfl, hO, by rw [Nat.mul_zero, Nat.add_zero], by omega⟩ (Nat.lt_of_le_of_lt (Nat.sub_le _ _) (show 400000 < FU by rw [FU_eq]; omega))
  · obtain ⟨q, eq, c', co, q1, q2, q3, q4⟩ := L
    refine ⟨q.2.2.1, c', q.2.2.2.2, co, ?_, q2, q4⟩
    rw [em_X1_reduceBy, if_neg (show ¬ nI u2 = 0 from fun z => by have := (neq (a := u2) (b := 0) (by omega) (by omega)).mp z; omega), e1]
    simp only [Option.bind_some, lt]
    rw [low_e (by omega), e3]
    simp only [Option.bind_some]
    rw [e4, eq]
    simp only [Option.bind_some]
    rw [q1, q3]
  · rintro ⟨rw_, cw, g, ow, go⟩ ⟨r, c1, X', co, O, a1, a2, hB, a3, hBO, hm, hr⟩
    dsimp only at a1 a2 a3 hB hBO
    subst a1
    subst a2
    subst a3
    rw [eb_X1_reduceBy_45, if_neg (show ¬ (1000000 : Int32) ≤ nI r from fun z => by have := (nle31 (a := 1000000) (by decide) (by omega)).mp z; omega), s_against hB hY (by omega) (by omega)]
    simp only [Option.bind_some]
    by_cases hlt : X' < Y
    · right
      rw [if_pos hlt, if_pos (by decide)]
      have hq1 : X % Y = X' := by rw [← hm, Nat.add_mul_mod_self_left, Nat.mod_eq_of_lt hlt]
      have hq2 : X / Y = O := by rw [← hm, Nat.add_mul_div_left _ _ h0, Nat.div_eq_of_lt hlt, Nat.zero_add]
      exact ⟨_, rfl, c1, co, rfl, by rw [hq1]; exact hB, rfl, by rw [hq2]; exact hBO⟩
    · left
      have hs : ¬ (if X' < Y then (-1 : Int32) else if X' = Y then 0 else 1) < 0 := by
        rw [if_neg hlt]
        split <;> decide
      obtain ⟨kx, p, Q, D, d, g', c2, b1, b2, b3, b4, b5, b6, b7, b8, b9, b10, b11, b12, b13, b14, b15⟩ := rd_eqs hB hY hky (by omega) hn hn2
      rw [if_neg hs, b3]
      simp only [Option.bind_some]
      rw [e1]
      simp only [Option.bind_some, lt]
      rw [b4]
      simp only [Option.bind_some]
      rw [b5]
      simp only [Option.bind_some]
      rw [← b2, if_neg (show ¬ lN D = 0 from fun z => by have := (pk_lEQ (b := 0) (by omega) (by decide)).mp z; omega), b6, b9]
      simp only [Option.bind_some]
      have hsum : X' - d * Y * BB ^ p + Y * (O + d * BB ^ p) = X := by
        have e6 : Y * (O + d * BB ^ p) = Y * O + d * Y * BB ^ p := by rw [Nat.mul_add]; congr 1; ac_rfl
        omega
      have hOle : O + d * BB ^ p ≤ X := by
        have := Nat.le_mul_of_pos_left (O + d * BB ^ p) h0
        omega
      have hn0 : 1 ≤ n3 - 1 := by
        rcases Nat.eq_zero_or_pos (n3 - 1) with z | z
        · rw [z, Nat.pow_zero] at hcap
          omega
        · exact z
      have hp3 : p + 1 ≤ n3 - 1 := by
        have h1 : BB ^ p ≤ X := Nat.le_trans (Nat.le_mul_of_pos_left _ (by omega)) (Nat.le_trans (Nat.le_add_left (d * BB ^ p) O) hOle)
        exact (Nat.pow_lt_pow_iff_right (a := BB) (by decide)).mp (Nat.lt_of_le_of_lt h1 hcap)
      have hco : co ≤ n3 - 1 := BR_len hBO (by omega)
      obtain ⟨g3, c3, t1, t2⟩ := s_addDigit (d := d) (p := p) hBO b12 (by omega) (by omega)
      rw [t1]
      simp only [Option.bind_some]
      rw [nI_1]
      have hmu' : mu (X' - d * Y * BB ^ p) < mu X' := mu_lt (S := d * Y * BB ^ p) (by omega) (by omega) b14
      refine ⟨_, rfl, ⟨r + 1, c2, X' - d * Y * BB ^ p, c3, O + d * BB ^ p, rfl, rfl, b10, rfl, t2, hsum, by omega⟩, ?_⟩
      show 400000 - u3 (nI (r + 1)) < 400000 - u3 (nI r)
      rw [u3_nI (by simp only [BB]; omega), u3_nI (by simp only [BB]; omega)]
      omega
end RC
