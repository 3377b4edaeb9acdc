/-! Big.reduceBy: quotient and rest -/
theorem nle31 {a b : Nat} (ha : a < 2 ^ 31) (hb : b < 2 ^ 31) : nI a ≤ nI b ↔ a ≤ b := by
  rw [Int32.le_iff_toInt_le, nI_toInt ha, nI_toInt hb]
  omega
theorem tb_lo : ∀ a, a < 32 → (if (0 : Int32) < nI a - 31 then nI a - 31 else 0) = 0 := by decide +kernel
theorem low_e {a : Nat} (h : a ≤ 100000) : (if (0 : Int32) < nI a - 31 then nI a - 31 else 0) = nI (a - 31) := by
  by_cases hc : a < 32
  · rw [tb_lo a hc, show a - 31 = 0 by omega]
    rfl
  · have e : nI a - 31 = nI (a - 31) := by rw [show (31 : Int32) = nI 31 from rfl, nI_subm (by omega)]
    rw [e, if_pos (show (0 : Int32) < nI (a - 31) from (nlt31 (a := 0) (b := a - 31) (by decide) (by omega)).mpr (by omega))]
theorem gap_e {a b : Nat} (ha : a ≤ 100000) (hb : b ≤ a) : (if nI (a + 1) - nI (b + 1) ≤ 0 then some (0 : Int32) else some ((nI (a + 1) - nI (b + 1) - 1) / 32 : Int32)) = some (nI ((a - b - 1) / 32)) := by
  rw [nI_subm (by omega), show a + 1 - (b + 1) = a - b by omega]
  by_cases h : a = b
  · rw [if_pos (show nI (a - b) ≤ 0 from (nle (b := 0) (by omega) (by omega)).mpr (by omega)), show (a - b - 1) / 32 = 0 by omega]
    rfl
  · rw [if_neg (show ¬ nI (a - b) ≤ 0 from fun z => by have := (nle (b := 0) (by omega) (by omega)).mp z; omega), show (1 : Int32) = nI 1 from rfl, nI_subm (by omega), show (32 : Int32) = nI 32 from rfl, nI_divp (by omega) (by omega) (by omega)]
theorem dgt_e {Q D : Nat} (hQ : Q < 2 ^ 63) (hD : 1 ≤ D) (hD2 : D ≤ 2 ^ 31) : (if (if (lN Q / lN D) < 4294967295 then (lN Q / lN D) else 4294967295) < 1 then 1 else (if (lN Q / lN D) < 4294967295 then (lN Q / lN D) else 4294967295) : Int64) = lN (dgt Q D) := by
  rw [pk_lDiv hQ (by omega) (by omega)]
  have hq : Q / D < 2 ^ 63 := Nat.lt_of_le_of_lt (Nat.div_le_self _ _) hQ
  generalize hqq : Q / D = q at hq ⊢
  have e1 : (if lN q < (4294967295 : Int64) then lN q else 4294967295) = lN (min 4294967295 q) := by
    by_cases h : q < 4294967295
    · rw [if_pos (show lN q < 4294967295 from (pk_lLT (b := 4294967295) hq (by decide)).mpr h), Nat.min_eq_right (by omega)]
    · rw [if_neg (show ¬ lN q < 4294967295 from fun z => h ((pk_lLT (b := 4294967295) hq (by decide)).mp z)), Nat.min_eq_left (by omega)]
      rfl
  rw [e1]
  unfold dgt
  rw [hqq]
  by_cases h : min 4294967295 q < 1
  · rw [if_pos (show lN (min 4294967295 q) < 1 from (pk_lLT (b := 1) (by omega) (by decide)).mpr h), Nat.max_eq_left (by omega)]
    rfl
  · rw [if_neg (show ¬ lN (min 4294967295 q) < 1 from fun z => h ((pk_lLT (b := 1) (by omega) (by decide)).mp z)), Nat.max_eq_right (by omega)]
section RB
variable {n n2 c u2 X Y ky : Nat} {f f2 : Nat → Int64}
theorem rd_eqs (hX : BR n f c X) (hY : BR n2 f2 u2 Y) (hky : bl Y ky) (hXY : Y ≤ X) (hn : n ≤ 168) (hn2 : n2 ≤ 168) :
    ∃ kx p Q D d g c', bl X kx ∧ D = Y / 2 ^ (ky + 1 - 31) + (if 0 < ky + 1 - 31 then 1 else 0) ∧ m_X1_bits (nI c) n f = some (nI (kx + 1)) ∧ (if nI (kx + 1) - nI (ky + 1) ≤ 0 then some (0 : Int32) else some ((nI (kx + 1) - nI (ky + 1) - 1) / 32 : Int32)) = some (nI p) ∧ m_X1_from (nI c) n f (nI (ky + 1 - 31) + 32 * nI p) = some (lN Q) ∧
      (if (if (lN Q / lN D) < 4294967295 then (lN Q / lN D) else 4294967295) < 1 then 1 else (if (lN Q / lN D) < 4294967295 then (lN Q / lN D) else 4294967295) : Int64) = lN d ∧ 1 ≤ D ∧ D ≤ 2 ^ 31 ∧
      m_X1_subtractMultiple (nI c) n f (nI u2) n2 f2 (lN d) (nI p) = some (nI c', g) ∧ BR n g c' (X - d * Y * BB ^ p) ∧ 1 ≤ d ∧ d < BB ∧ d * Y * BB ^ p ≤ X ∧ X ≤ 32 * (d * Y * BB ^ p) ∧ p ≤ 200 := by
  have h0 : 0 < Y := by have := hky.1; have : 0 < 2 ^ ky := Nat.pow_pos (by decide); omega
  obtain ⟨kx, hkx⟩ := bl_ex (show 0 < X by omega)
  have hkb : kx < 32 * 168 := by
    refine bl_lt hkx ?_
    have h1 := BR_lt hX
    rw [show BB = 2 ^ 32 from rfl, ← Nat.pow_mul] at h1
    exact Nat.lt_of_lt_of_le h1 (Nat.pow_le_pow_right (by decide) (by have := hX.1; omega))
  obtain ⟨r1, r2, r3, r4, r5, r6, r7, r8⟩ := rd_ok hkx hky hXY (low := ky + 1 - 31) (p := (kx - ky - 1) / 32) (D := Y / 2 ^ (ky + 1 - 31) + (if 0 < ky + 1 - 31 then 1 else 0)) rfl rfl rfl
  generalize hD : Y / 2 ^ (ky + 1 - 31) + (if 0 < ky + 1 - 31 then 1 else 0) = D at *
  generalize hp : (kx - ky - 1) / 32 = p at *
  generalize hd : dgt (X / 2 ^ (ky + 1 - 31 + 32 * p)) D = d at *
  have hpu : p + u2 ≤ c := by
    have hu2 := (BR_pos hY).mpr h0
    have h1 := dv_pos (d := bd f2) hu2 (hY.2.2.2 hu2)
    rw [hY.2.2.1] at h1
    have h2 : BB ^ (u2 - 1) * BB ^ p ≤ X := by
      refine Nat.le_trans (Nat.mul_le_mul_right _ h1) (Nat.le_trans ?_ r7)
      rw [Nat.mul_assoc]
      exact Nat.le_mul_of_pos_left _ (by omega)
    rw [← Nat.pow_add] at h2
    have h3 := (Nat.pow_lt_pow_iff_right (a := BB) (by decide)).mp (Nat.lt_of_le_of_lt h2 (BR_lt hX))
    omega
  have hcn := hX.1
  obtain ⟨g, c', s1, s2, s3⟩ := s_subtractMultiple (n := n) (n2 := n2) (f := f) (f2 := f2) (u := c) (u2 := u2) (d := d) (p := p) hX.1 (by omega) hY.1 (by omega) hX.2.1 hY.2.1 r5 hpu (by rw [hY.2.2.1, hX.2.2.1]; exact r7)
  rw [hY.2.2.1, hX.2.2.1] at s2
  refine ⟨kx, p, X / 2 ^ (ky + 1 - 31 + 32 * p), D, d, g, c', hkx, rfl, s_bits hX hkx (by omega), ?_, ?_, ?_, r2, r3, s1, s2, r6, r5, r7, r8, by omega⟩
  · rw [← hp]; exact gap_e (by omega) r1
  · rw [show (32 : Int32) = nI 32 from rfl, nI_mulm, nI_add]
    exact s_from hX (by omega) (by omega) r4
  · rw [← hd]; exact dgt_e r4 r2 r3
theorem mu_cap (hX : BR n f c X) (hn : n ≤ 168) : mu X ≤ 350000 := by
  rcases Nat.eq_zero_or_pos X with z | z
  · subst z
    unfold mu
    rw [if_pos rfl]
    omega
  · obtain ⟨kx, hkx⟩ := bl_ex z
    have hkb : kx < 32 * 168 := by
      refine bl_lt hkx ?_
      have h1 := BR_lt hX
      rw [show BB = 2 ^ 32 from rfl, ← Nat.pow_mul] at h1
      exact Nat.lt_of_lt_of_le h1 (Nat.pow_le_pow_right (by decide) (by have := hX.1; omega))
    obtain ⟨m1, m2, m3⟩ := mu_bl hkx
    omega
/-- the head of both forms -/
theorem rd_head (hY : BR n2 f2 u2 Y) (hky : bl Y ky) (hn2 : n2 ≤ 168) :
    m_X1_bits (nI u2) n2 f2 = some (nI (ky + 1)) ∧ ky ≤ 5400 ∧ m_X1_from (nI u2) n2 f2 (nI (ky + 1 - 31)) = some (lN (Y / 2 ^ (ky + 1 - 31))) ∧
      (if (lN (Y / 2 ^ (ky + 1 - 31)) + ((if nI (ky + 1 - 31) ≤ 0 then 0 else 1 : Int32)).toInt64) < 1 then 1 else (lN (Y / 2 ^ (ky + 1 - 31)) + ((if nI (ky + 1 - 31) ≤ 0 then 0 else 1 : Int32)).toInt64) : Int64) = lN (Y / 2 ^ (ky + 1 - 31) + (if 0 < ky + 1 - 31 then 1 else 0)) := by
  have hkb : ky < 32 * 168 := by
    refine bl_lt hky ?_
    have h1 := BR_lt hY
    rw [show BB = 2 ^ 32 from rfl, ← Nat.pow_mul] at h1
    exact Nat.lt_of_lt_of_le h1 (Nat.pow_le_pow_right (by decide) (by have := hY.1; omega))
  obtain ⟨r1, r2, r3, -⟩ := rd_ok hky hky (Nat.le_refl Y) (low := ky + 1 - 31) (p := (ky - ky - 1) / 32) (D := Y / 2 ^ (ky + 1 - 31) + (if 0 < ky + 1 - 31 then 1 else 0)) rfl rfl rfl
  have hle : Y / 2 ^ (ky + 1 - 31) ≤ 2 ^ 31 := by
    refine Nat.le_trans ?_ r3
    exact Nat.le_add_right _ _
  refine ⟨s_bits hY hky (by omega), by omega, s_from hY (by omega) (by omega) (by omega), ?_⟩
  have e : ((if nI (ky + 1 - 31) ≤ 0 then 0 else 1 : Int32)).toInt64 = lN (if 0 < ky + 1 - 31 then 1 else 0) := by
    by_cases h : ky + 1 - 31 = 0
    · rw [h, if_pos (show nI 0 ≤ 0 from Int32.le_refl _)]
      rfl
    · rw [if_neg (show ¬ nI (ky + 1 - 31) ≤ 0 from fun z => by have := (nle (b := 0) (by omega) (by omega)).mp z; omega), if_pos (by omega)]
      rfl
  rw [e, lN_add]
  generalize Y / 2 ^ (ky + 1 - 31) + (if 0 < ky + 1 - 31 then 1 else 0) = D at *
  rw [if_neg (show ¬ lN D < 1 from fun z => by have := (pk_lLT (b := 1) (by omega) (by decide)).mp z; omega)]
theorem s_reduceBy_n (hX : BR n f c X) (hY : BR n2 f2 u2 Y) (h0 : 0 < Y) (hn : n ≤ 168) (hn2 : n2 ≤ 168) : ∃ g c', m_X1_reduceBy_n (nI c) n f (nI u2) n2 f2 = some (nI c', g) ∧ BR n g c' (X % Y) := by
  obtain ⟨ky, hky⟩ := bl_ex h0
  have hu2 := (BR_pos hY).mpr h0
  have hun := hY.1
  obtain ⟨e1, e2, e3, e4⟩ := rd_head hY hky hn2
  have hmu := mu_cap hX hn
  have L := lp_inv (body := b_X1_reduceBy_n_45 n (nI u2) n2 f2 (nI (ky + 1 - 31)) (lN (Y / 2 ^ (ky + 1 - 31) + (if 0 < ky + 1 - 31 then 1 else 0)))) (fun s => ∃ r c' X', s.1 = nI r ∧ s.2.1 = nI c' ∧ BR n s.2.2 c' X' ∧ X' % Y = X % Y ∧ r + mu X' ≤ mu X) (fun s => ∃ c', s.2.1 = nI c' ∧ BR n s.2.2 c' (X % Y)) (fun s => 400000 - u3 s.1) ?_ FU (0, nI c, f) ⟨0, c, X, rfl, rfl, hX, rfl, by omega⟩ (Nat.lt_of_le_of_lt (Nat.sub_le _ _) (show 400000 < FU by rw [FU_eq]; omega))
  · obtain ⟨q, eq, c', q1, q2⟩ := L
    refine ⟨q.2.2, c', ?_, q2⟩
    rw [em_X1_reduceBy_n, if_neg (show ¬ nI u2 = 0 from fun z => by have := (neq (a := u2) (b := 0) (by omega) (by omega)).mp z; omega), e1]
    simp only [Option.bind_some, lt]
    rw [low_e (by omega), e3]
    simp only [Option.bind_some]
    rw [e4, eq]
    simp only [Option.bind_some]
    rw [q1]
  · rintro ⟨rw_, cw, g⟩ ⟨r, c1, X', a1, a2, hB, hm, hr⟩
    dsimp only at a1 a2 hB
    subst a1
    subst a2
    rw [eb_X1_reduceBy_n_45, if_neg (show ¬ (1000000 : Int32) ≤ nI r from fun z => by have := (nle31 (a := 1000000) (by decide) (by omega)).mp z; omega), s_against hB hY (by omega) (by omega)]
    simp only [Option.bind_some]
    by_cases hlt : X' < Y
    · right
      rw [if_pos hlt, if_pos (by decide)]
      refine ⟨_, rfl, c1, rfl, ?_⟩
      rw [← hm, Nat.mod_eq_of_lt hlt]
      exact hB
    · left
      have hs : ¬ (if X' < Y then (-1 : Int32) else if X' = Y then 0 else 1) < 0 := by
        rw [if_neg hlt]
        split <;> decide
      obtain ⟨kx, p, Q, D, d, g', c2, b1, b2, b3, b4, b5, b6, b7, b8, b9, b10, b11, b12, b13, b14, b15⟩ := rd_eqs hB hY hky (by omega) hn hn2
      rw [if_neg hs, b3]
      simp only [Option.bind_some]
      rw [e1]
      simp only [Option.bind_some, lt]
      rw [b4]
      simp only [Option.bind_some]
      rw [b5]
      simp only [Option.bind_some]
      rw [← b2, if_neg (show ¬ lN D = 0 from fun z => by have := (pk_lEQ (b := 0) (by omega) (by decide)).mp z; omega), b6, b9]
      simp only [Option.bind_some]
      rw [nI_1]
      have hmu' : mu (X' - d * Y * BB ^ p) < mu X' := mu_lt (S := d * Y * BB ^ p) (by omega) (by omega) b14
      refine ⟨_, rfl, ⟨r + 1, c2, X' - d * Y * BB ^ p, rfl, rfl, b10, ?_, by omega⟩, ?_⟩
      · rw [← hm]
        have e5 : X' = X' - d * Y * BB ^ p + Y * (d * BB ^ p) := by
          have : d * Y * BB ^ p = Y * (d * BB ^ p) := by ac_rfl
          omega
        rw (config := { occs := .pos [2] }) [e5]
        rw [Nat.add_mul_mod_self_left]
      · show 400000 - u3 (nI (r + 1)) < 400000 - u3 (nI r)
        rw [u3_nI (by simp only [BB]; omega), u3_nI (by simp only [BB]; omega)]
        omega
end RB
