section BC
variable {n n2 u u2 X Y : Nat} {f f2 : Nat → Int64}
theorem BR_pos {n u v : Nat} {f : Nat → Int64} (h : BR n f u v) : 0 < u ↔ 0 < v := by
  constructor
  · intro hn
    have q2 := dv_pos (d := bd f) (n := u) hn (h.2.2.2 hn)
    rw [h.2.2.1] at q2
    exact Nat.lt_of_lt_of_le (Nat.pow_pos (by decide)) q2
  · intro hv
    rcases Nat.eq_zero_or_pos u with q | q
    · subst q
      have : v = 0 := h.2.2.1.symm
      omega
    · exact q
theorem BR_len {n u v m : Nat} {f : Nat → Int64} (h : BR n f u v) (hv : v < BB ^ m) : u ≤ m := by
  rcases Nat.lt_or_ge m u with q | q
  · have q2 := dv_pos (d := bd f) (n := u) (by omega) (h.2.2.2 (by omega))
    have q3 : BB ^ m ≤ BB ^ (u - 1) := Nat.pow_le_pow_right (by decide) (by omega)
    rw [h.2.2.1] at q2
    omega
  · exact q
theorem s_at (hX : BR n f u X) (hn : n ≤ 50000) {i : Nat} (hi : i ≤ 50000) : m_X1_at (nI u) n f (nI i) = some (lN (if i < u then bd f i else 0)) := by
  obtain ⟨hu, -⟩ := hX
  unfold m_X1_at
  rw [if_neg (nI_pos (by omega))]
  by_cases h : u ≤ i
  · rw [if_pos ((nle (by omega) (by omega)).mpr h), if_neg (by omega)]; rfl
  · rw [if_neg (fun q => h ((nle (by omega) (by omega)).mp q)), if_neg (fun q => by have := (nle (by omega) (by omega)).mp q; omega), if_pos (ixn (by omega) (by omega)), cl (by omega), if_pos (by omega), ← lN_bd]; rfl
theorem s_become {s : Nat} {iu : Int32} (hs : s ≤ 50000) (h1 : 1 ≤ n) (hn : n ≤ 50000) : ∃ g, m_X1_become iu n f (nI s) = some (nI (if s = 0 then 0 else 1), g) ∧ BR n g (if s = 0 then 0 else 1) s := by
  unfold m_X1_become
  by_cases h0 : s = 0
  · rw [if_pos ((nle0 (by omega)).mpr h0), if_pos h0]
    subst h0
    exact ⟨f, rfl, Nat.zero_le n, fun k hk => by omega, rfl, fun h => by omega⟩
  · rw [if_neg (fun q => h0 ((nle0 (by omega)).mp q)), if_neg (fun q => by have := (nle0 (k := n) (by omega)).mp q; omega), if_pos (ix_0 (by omega) (by omega)), if_neg h0, c0, nI_l (by omega)]
    have hb : bd (vp_updL f 0 (lN s)) = du (bd f) 0 s := bd_upd (by omega)
    refine ⟨_, rfl, h1, fun k hk => ?_, ?_, fun _ => ?_⟩
    · rw [show k = 0 by omega, hb]; show s < BB; simp only [BB]; omega
    · rw [hb]; show 0 + s * BB ^ 0 = s; rw [Nat.pow_zero]; omega
    · rw [hb]; exact h0
theorem s_copy (hY : BR n2 f2 u2 Y) (hu2 : u2 ≤ n) (hn : n ≤ 50000) (hn2 : n2 ≤ 50000) : ∃ g, m_X1_copy (nI u) n f (nI u2) n2 f2 = some (nI u2, g) ∧ BR n g u2 Y := by
  obtain ⟨h1, h2, h3, h4⟩ := hY
  unfold m_X1_copy
  rw [minI (by omega) (by omega), minI (by omega) (by omega), Nat.min_eq_right (by omega)]
  have hcp : cpok 0 0 (nI u2) n2 n = true := by
    unfold cpok
    refine decide_eq_true ⟨by decide, by decide, nI_pos (by omega), ?_, ?_⟩
    · rw [cl (by omega), c0]; omega
    · rw [cl (by omega), c0]; omega
  simp only [lt]
  rw [if_pos hcp, c0, cl (by omega)]
  have hg : ∀ k, k < u2 → va_cpy f2 f 0 0 u2 k = f2 k := by
    intro k hk
    rw [pk_cpy_in (Nat.zero_le k) (by omega)]
    congr 1
    omega
  have hbd : ∀ k, k < u2 → bd (va_cpy f2 f 0 0 u2) k = bd f2 k := fun k hk => by unfold bd; rw [hg k hk]
  exact ⟨_, rfl, hu2, fun k hk => by rw [hbd k hk]; exact h2 k hk, by rw [dv_congr hbd]; exact h3, fun h => by rw [hbd (u2 - 1) (by omega)]; exact h4 h⟩
theorem lg_cmp_eq0 {a b : Nat} (ha : a < 2 ^ 62) (hb : b < 2 ^ 62) : (lg_cmp (lN a) (lN b) = 0 ↔ a = b) ∧ (0 ≤ lg_cmp (lN a) (lN b) ↔ b ≤ a) := by
  constructor
  · rw [← pk_lEQ (show a < 2 ^ 63 by omega) (show b < 2 ^ 63 by omega)]
    unfold lg_cmp
    by_cases q1 : lN a > lN b
    · rw [if_pos q1]
      exact ⟨fun q => absurd q (by decide), fun q => by rw [q] at q1; exact absurd q1 Int64.lt_irrefl⟩
    · rw [if_neg q1]
      by_cases q2 : lN a = lN b
      · rw [if_pos q2]; exact ⟨fun _ => q2, fun _ => rfl⟩
      · rw [if_neg q2]; exact ⟨fun q => absurd q (by decide), fun q => absurd q q2⟩
  · rw [lg_cmp_ge, pk_lLE (by omega) (by omega)]
theorem s_against (hX : BR n f u X) (hY : BR n2 f2 u2 Y) (hn : n ≤ 50000) (hn2 : n2 ≤ 50000) :
    m_X1_against (nI u) n f (nI u2) n2 f2 = some (if X < Y then -1 else if X = Y then 0 else 1) := by
  have hXl := BR_lt hX
  have hYl := BR_lt hY
  have hu := hX.1
  have hu2 := hY.1
  unfold m_X1_against
  by_cases huu : u = u2
  · rw [if_pos ((neq (by omega) (by omega)).mpr huu)]
    subst huu
    have L := lp_inv (body := b_X1_against_35 (nI u) n f (nI u) n2 f2) (fun s => ∃ k, s = nI k + (-1) ∧ k ≤ u ∧ ∀ j, k ≤ j → j < u → bd f j = bd f2 j) (fun b => (match b with | .inl _ => some (0 : Int32) | .inr z => some z) = some (if X < Y then -1 else if X = Y then 0 else 1)) (fun s => u3 (s + 1)) ?_ FU (nI u + (-1)) ⟨u, rfl, Nat.le_refl u, fun j h1 h2 => by omega⟩ ?_
    · obtain ⟨b, e, hb⟩ := L
      simp only [lt]
      rw [nm1', e]
      simp only [Option.bind_some]
      exact hb
    · rintro s ⟨k, rfl, hk, heq⟩
      rw [eb_X1_against_35]
      by_cases h0 : k = 0
      · right
        rw [if_pos ((nm1_neg (by omega)).mpr h0)]
        refine ⟨_, rfl, ?_⟩
        have hXY : X = Y := by
          rw [← hX.2.2.1, ← hY.2.2.1]
          exact dv_congr (fun j hj => heq j (by omega) hj)
        show some (0 : Int32) = _
        rw [if_neg (by omega), if_pos hXY]
      · rw [if_neg (fun h => h0 ((nm1_neg (by omega)).mp h)), nm1 (by omega), s_at hX hn (by omega), s_at hY hn2 (by omega)]
        simp only [Option.bind_some]
        rw [if_pos (show k - 1 < u by omega), if_pos (show k - 1 < u by omega)]
        have hfk := hX.2.1 (k - 1) (by omega)
        have hgk := hY.2.1 (k - 1) (by omega)
        simp only [BB] at hfk hgk
        obtain ⟨c1, c2⟩ := lg_cmp_eq0 (a := bd f (k - 1)) (b := bd f2 (k - 1)) (by omega) (by omega)
        by_cases he : bd f (k - 1) = bd f2 (k - 1)
        · left
          rw [if_pos (c1.mpr he)]
          refine ⟨nI (k - 1) + (-1), rfl, ⟨k - 1, rfl, by omega, fun j h1 h2 => ?_⟩, ?_⟩
          · by_cases hj : j = k - 1
            · rw [hj]; exact he
            · exact heq j (by omega) h2
          · have e3 : ∀ m : Nat, nI m + (-1) + 1 = nI m := fun m => by rw [Int32.add_assoc]; exact Int32.add_zero _
            rw [e3, nI_1, u3n (by omega), u3n (by omega)]; omega
        · right
          rw [if_neg (fun h => he (c1.mp h))]
          simp only [lt]
          refine ⟨_, rfl, ?_⟩
          show some _ = some _
          by_cases hgt : bd f2 (k - 1) ≤ bd f (k - 1)
          · rw [if_pos (c2.mpr hgt)]
            have := dv_gt (d := bd f) (e := bd f2) (p := k - 1) (n := u) (by omega) hY.2.1 (fun j h1 h2 => heq j (by omega) h2) (by omega)
            rw [hX.2.2.1, hY.2.2.1] at this
            rw [if_neg (by omega), if_neg (by omega)]
          · rw [if_neg (fun h => hgt (c2.mp h))]
            have := dv_gt (d := bd f2) (e := bd f) (p := k - 1) (n := u) (by omega) hX.2.1 (fun j h1 h2 => (heq j (by omega) h2).symm) (by omega)
            rw [hX.2.2.1, hY.2.2.1] at this
            rw [if_pos (by omega)]
    · have e3 : nI u + (-1) + 1 = nI u := by rw [Int32.add_assoc]; exact Int32.add_zero _
      rw [e3, u3n (by omega)]
      exact FU_big (by omega)
  · rw [if_neg (fun h => huu ((neq (by omega) (by omega)).mp h))]
    simp only [lt]
    by_cases hlt : u2 ≤ u
    · rw [if_pos ((nle (by omega) (by omega)).mpr hlt)]
      have q2 := dv_pos (d := bd f) (n := u) (by omega) (hX.2.2.2 (by omega))
      have q3 : BB ^ u2 ≤ BB ^ (u - 1) := Nat.pow_le_pow_right (by decide) (by omega)
      rw [hX.2.2.1] at q2
      rw [if_neg (by omega), if_neg (by omega)]
    · rw [if_neg (fun h => hlt ((nle (by omega) (by omega)).mp h))]
      have q2 := dv_pos (d := bd f2) (n := u2) (by omega) (hY.2.2.2 (by omega))
      have q3 : BB ^ u ≤ BB ^ (u2 - 1) := Nat.pow_le_pow_right (by decide) (by omega)
      rw [hY.2.2.1] at q2
      rw [if_pos (by omega)]
end BC
