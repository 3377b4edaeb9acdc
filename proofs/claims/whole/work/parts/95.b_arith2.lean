section BT
variable {n n2 u u2 X Y : Nat} {f f2 : Nat → Int64}
theorem BR_lt {n u v : Nat} {f : Nat → Int64} (h : BR n f u v) : v < BB ^ u := by
  rw [← h.2.2.1]
  exact dv_lt h.2.1
theorem dv_wide {g : Nat → Int64} {u t : Nat} (hut : u ≤ t) (h1 : ∀ k, k < u → g k = f k) (h2 : ∀ k, u ≤ k → k < t → g k = 0) : dv (bd g) t = dv (bd f) u := by
  rw [dv_zeros hut (fun k h3 h4 => by unfold bd; rw [h2 k h3 h4]; rfl)]
  exact dv_congr (fun k hk => by unfold bd; rw [h1 k hk])
theorem s_times (hX : BR n f u X) (hY : BR n2 f2 u2 Y) (hr : u + u2 ≤ n) (hn : n ≤ 50000) (hn2 : n2 ≤ 50000) :
    ∃ g c, m_X1_times (nI u) n f (nI u2) n2 f2 = some (nI c, g) ∧ BR n g c (X * Y) ∧ c ≤ u + u2 := by
  have hXl := BR_lt hX
  have hYl := BR_lt hY
  obtain ⟨hu, hd, hxv, -⟩ := hX
  obtain ⟨hu2, hd2, hyv, -⟩ := hY
  obtain ⟨g0, e0, hg1, hg2⟩ := s_widen (f := f) (l := u + u2) hu hn hr
  rw [Nat.max_eq_right (by omega)] at e0 hg2
  have hg0d : ∀ k, k < u + u2 → bd g0 k < BB := by
    intro k hk
    by_cases hku : k < u
    · unfold bd; rw [hg1 k hku]; exact hd k hku
    · unfold bd; rw [hg2 k (by omega) hk]; decide
  have L := lp_inv (body := b_X1_times_27 n (nI u2) n2 f2 (nI (u + u2), g0)) (fun s => ∃ k H, s.1 = nI k + (-1) ∧ k ≤ u ∧ (∀ j, j < u + u2 → bd s.2 j < BB) ∧ (∀ j, j < k → s.2 j = f j) ∧ X = dv (bd f) k + H ∧ dv (bd s.2) (u + u2) = dv (bd f) k + H * Y) (fun s => (∀ j, j < u + u2 → bd s.2 j < BB) ∧ dv (bd s.2) (u + u2) = X * Y) (fun s => u3 (s.1 + 1)) ?_ FU (nI u + (-1), g0) ⟨u, 0, rfl, Nat.le_refl u, hg0d, hg1, by rw [hxv, Nat.add_zero], by rw [Nat.zero_mul, Nat.add_zero]; exact dv_wide (by omega) hg1 hg2⟩ ?_
  · obtain ⟨q, e, h1, h2⟩ := L
    obtain ⟨c, ec, hB, hc⟩ := s_trim (f := q.2) (u := u + u2) hr (by omega) h1
    rw [h2] at hB
    refine ⟨q.2, c, ?_, hB, hc⟩
    unfold m_X1_times
    rw [minI (by omega) (by omega), Nat.min_eq_right hu]
    simp only [lt]
    rw [nI_add, e0]
    simp only [Option.bind_some]
    rw [nm1', e]
    simp only [Option.bind_some]
    rw [ec]
    rfl
  · rintro ⟨iw, g⟩ ⟨k, H, e1, hk, hgd, hgl, hXH, hgv⟩
    dsimp only at e1 hgd hgl hgv
    subst e1
    rw [eb_X1_times_27]
    by_cases h0 : k = 0
    · right
      rw [if_pos ((nm1_neg (by omega)).mpr h0)]
      subst h0
      refine ⟨_, rfl, hgd, ?_⟩
      show dv (bd g) (u + u2) = X * Y
      rw [hgv, hXH]
      simp [dv]
    · left
      obtain ⟨j, rfl⟩ : ∃ j, k = j + 1 := ⟨k - 1, by omega⟩
      rw [if_neg (fun h => h0 ((nm1_neg (by omega)).mp h)), nm1 (by omega), if_pos (ixn (by omega) (by omega)), cl (by omega)]
      simp only [Nat.add_sub_cancel, lt]
      have hgj : g j = f j := hgl j (by omega)
      have hbj : bd g j = bd f j := by unfold bd; rw [hgj]
      have hdj := hd j (by omega)
      rw [if_pos (ixn (by omega) (by omega)), lN_bd g j]
      have e00 : (0 : Int64) = lN 0 := rfl
      rw [e00]
      have hdu := dv_du (d := bd g) (p := j) (e := 0) (n := u + u2) (by omega)
      have hbu : bd (vp_updL g j (lN 0)) = du (bd g) j 0 := bd_upd (by decide)
      rw [Nat.zero_mul, Nat.add_zero, hgv, dv, hbj] at hdu
      have hval : dv (bd (vp_updL g j (lN 0))) (u + u2) + bd f j * dv (bd f2) u2 * BB ^ j = dv (bd f) j + (H + bd f j * BB ^ j) * Y := by
        rw [hbu, hyv, Nat.add_mul]
        have : bd f j * Y * BB ^ j = bd f j * BB ^ j * Y := by rw [Nat.mul_assoc, Nat.mul_comm Y, ← Nat.mul_assoc]
        omega
      have hXH2 : X = dv (bd f) j + (H + bd f j * BB ^ j) := by rw [hXH, dv]; omega
      obtain ⟨g2, eg2, h1, h2, h3⟩ := s_addMultiple (n := n) (u := u + u2) (f := vp_updL g j (lN 0)) (n2 := n2) (u2 := u2) (f2 := f2) (d := bd f j) (p := j) hr hn hu2 hn2 (fun k hk => by
        rw [hbu]
        unfold du
        split
        · decide
        · exact hgd k hk) hd2 hdj (by omega) (by
        rw [hval, Nat.pow_add]
        rcases Nat.eq_zero_or_pos Y with hy | hy
        · rw [hy, Nat.mul_zero, Nat.add_zero]
          have a1 := dv_lt (d := bd f) (n := j) (fun k hk => hd k (by omega))
          have a2 : BB ^ j ≤ BB ^ u := Nat.pow_le_pow_right (by decide) (by omega)
          have a3 : BB ^ u * 1 ≤ BB ^ u * BB ^ u2 := Nat.mul_le_mul_left _ (Nat.pow_pos (by decide))
          omega
        · have a1 : dv (bd f) j * 1 ≤ dv (bd f) j * Y := Nat.mul_le_mul_left _ hy
          have a2 : (dv (bd f) j + (H + bd f j * BB ^ j)) * Y < BB ^ u * BB ^ u2 := by
            rw [← hXH2]
            exact Nat.mul_lt_mul'' hXl hYl
          rw [Nat.add_mul] at a2
          omega)
      rw [hbj]
      rw [eg2]
      simp only [Option.bind_some]
      refine ⟨_, rfl, ⟨j, H + bd f j * BB ^ j, rfl, by omega, h1, fun i hi => (h3 i hi).trans ((pk_uLn (by omega)).trans (hgl i (by omega))), hXH2, ?_⟩, ?_⟩
      · show dv (bd g2) (u + u2) = _
        rw [h2, hval]
      · show u3 (nI j + (-1) + 1) < u3 (nI j + 1)
        have e3 : nI j + (-1) + 1 = nI j := by
          rw [Int32.add_assoc]
          exact Int32.add_zero _
        rw [e3, nI_1, u3n (by omega), u3n (by omega)]; omega
  · show u3 (nI u + (-1) + 1) < FU
    have e3 : nI u + (-1) + 1 = nI u := by
      rw [Int32.add_assoc]
      exact Int32.add_zero _
    rw [e3, u3n (by omega)]
    exact FU_big (by omega)
theorem s_plus (hX : BR n f u X) (hY : BR n2 f2 u2 Y) (hr : max u u2 + 1 ≤ n) (hn : n ≤ 50000) (hn2 : n2 ≤ 50000) :
    ∃ g c, m_X1_plus (nI u) n f (nI u2) n2 f2 = some (nI c, g) ∧ BR n g c (X + Y) ∧ c ≤ max u u2 + 1 := by
  have hXl := BR_lt hX
  have hYl := BR_lt hY
  obtain ⟨hu, hd, hxv, -⟩ := hX
  obtain ⟨hu2, hd2, hyv, -⟩ := hY
  obtain ⟨g0, e0, hg1, hg2⟩ := s_widen (f := f) (l := max u u2 + 1) hu hn hr
  have hmx : max u (max u u2 + 1) = max u u2 + 1 := by omega
  rw [hmx] at e0 hg2
  generalize ht : max u u2 + 1 = t at *
  have hg0d : ∀ k, k < t → bd g0 k < BB := by
    intro k hk
    by_cases hku : k < u
    · unfold bd; rw [hg1 k hku]; exact hd k hku
    · unfold bd; rw [hg2 k (by omega) hk]; decide
  have hg0v : dv (bd g0) t = X := by rw [dv_wide (by omega) hg1 hg2, hxv]
  obtain ⟨g, eg, h1, h2, -⟩ := s_addMultiple (n := n) (u := t) (f := g0) (n2 := n2) (u2 := u2) (f2 := f2) (d := 1) (p := 0) hr hn hu2 hn2 hg0d hd2 (by decide) (by omega) (by
    rw [hg0v, hyv, Nat.one_mul, Nat.pow_zero, Nat.mul_one, ← ht, Nat.pow_succ]
    have a1 : BB ^ u ≤ BB ^ (max u u2) := Nat.pow_le_pow_right (by decide) (by omega)
    have a2 : BB ^ u2 ≤ BB ^ (max u u2) := Nat.pow_le_pow_right (by decide) (by omega)
    have a3 : BB ^ (max u u2) * 2 ≤ BB ^ (max u u2) * BB := Nat.mul_le_mul_left _ (by decide)
    omega)
  rw [hg0v, hyv, Nat.one_mul, Nat.pow_zero, Nat.mul_one] at h2
  obtain ⟨c, ec, hB, hc⟩ := s_trim (f := g) (u := t) hr (by omega) h1
  rw [h2] at hB
  refine ⟨g, c, ?_, hB, hc⟩
  unfold m_X1_plus
  rw [maxI (by omega) (by omega), nI_1, ht, e0]
  simp only [Option.bind_some]
  rw [show (1 : Int64) = lN 1 from rfl, show (0 : Int32) = nI 0 from rfl, eg]
  simp only [Option.bind_some]
  rw [ec]
  rfl
end BT
