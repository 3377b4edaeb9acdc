theorem t_common_main {f0 f1 f2 : Nat → Int32} {n1 n2 x y : Nat} (h1 : MR f1 n1 x) (h2 : MR f2 n2 y) (hx : 0 < x) (ho : x % 2 = 1 ∨ y % 2 = 1) (c1' : n1 < 320) (c2' : n2 < 320) :
    ∃ q n', lp b_X11_common_58 FU (f0, f1, f2) = some q ∧ MR q.2.1 n' (Nat.gcd x y) ∧ n' < 320 := by
  have key := lp_inv (body := b_X11_common_58) (fun s => ∃ n1 n2 x' y', MR s.2.1 n1 x' ∧ MR s.2.2 n2 y' ∧ 0 < x' ∧ (x' % 2 = 1 ∨ y' % 2 = 1) ∧ n1 < 320 ∧ n2 < 320 ∧ Nat.gcd x' y' = Nat.gcd x y) (fun s => ∃ n', MR s.2.1 n' (Nat.gcd x y) ∧ n' < 320) (fun s => 2 * (Nat.log2 (mv s.2.1) + Nat.log2 (mv s.2.2)) + mv s.2.2 % 2) ?_ FU (f0, f1, f2) ⟨n1, n2, x, y, h1, h2, hx, ho, c1', c2', rfl⟩ ?_
  · obtain ⟨q, e, n', hM, hn⟩ := key
    exact ⟨q, n', e, hM, hn⟩
  · rintro ⟨g0, g1, g2⟩ ⟨n1, n2, x', y', hM1, hM2, hx', ho', hc1, hc2, hg⟩
    dsimp only at hM1 hM2
    rw [eb_X11_common_58, if_pos (ix_0 (by omega) (by omega)), c0, hM2.1]
    by_cases hz : n2 = 0
    · right
      rw [if_pos ((nle0 (by omega)).mpr hz)]
      have : y' = 0 := by
        rcases Nat.eq_zero_or_pos y' with q | q
        · exact q
        · have := (MR_pos hM2).mpr q; omega
      subst this
      rw [Nat.gcd_zero_right] at hg
      exact ⟨_, rfl, n1, by rw [← hg]; exact hM1, hc1⟩
    · left
      rw [if_neg (fun h => hz ((nle0 (by omega)).mp h))]
      have hy' : 0 < y' := (MR_pos hM2).mp (by omega)
      obtain ⟨p1, m1, u, j1, e1, hu, hm1, hju, huo⟩ := (t_odd hM1 hx' hc1).1
      obtain ⟨p2, m2, v, j2, e2, hv, hm2, hjv, hvo⟩ := (t_odd hM2 hy' hc2).2
      obtain ⟨lu, -, hule⟩ := odd_log hju huo
      obtain ⟨lv, lv2, hvle⟩ := odd_log hjv hvo
      have hgcd : Nat.gcd u v = Nat.gcd x y := by
        rw [← hg]
        have hA : Nat.gcd x' y' = Nat.gcd u y' := by
          rcases ho' with q | q
          · have hj : j1 = 0 := by
              rcases j1 with _ | i
              · rfl
              · rw [Nat.pow_succ, Nat.mul_comm (2 ^ i) 2, Nat.mul_assoc] at hju; omega
            rw [hju, hj, Nat.pow_zero, Nat.one_mul]
          · rw [hju]; exact gcd_odd q
        rw [hA, hjv, Nat.gcd_comm u (2 ^ j2 * v), gcd_odd huo, Nat.gcd_comm]
      rw [e1]
      show ∃ a', ((lp b_X11_common_87 FU g2).bind _) = _ ∧ _
      rw [e2]
      show ∃ a', ((m_X11_compareTo 320 p1 320 p2).bind _) = _ ∧ _
      obtain ⟨c, ec, hc1', hc2', hc3'⟩ := t_compareTo (nx := 320) (ny := 320) hu hv (by omega) (by omega) (by omega) (by omega)
      rw [ec]
      show ∃ a', (if c ≤ 0 then _ else _) = _ ∧ _
      have hle : c ≤ 0 ↔ u ≤ v := by
        constructor
        · intro h
          rcases Nat.lt_or_ge v u with q | q
          · exact absurd (hc3'.mpr q) (Int32.not_lt.mpr h)
          · exact q
        · intro h
          exact Int32.not_lt.mp (fun q => by have := hc3'.mp q; omega)
      have mx := mv_of hM1 (by omega)
      have my := mv_of hM2 (by omega)
      by_cases huv : u ≤ v
      · rw [if_pos (hle.mpr huv)]
        obtain ⟨r, cr, er, hcr, hMr, -⟩ := t_less (nx := 320) (ny := 320) hv hu huv (by omega) (by omega) (by omega) (by omega)
        rw [er]
        refine ⟨_, rfl, ⟨m1, cr, u, v - u, hu, hMr, by omega, Or.inl huo, by omega, by omega, ?_⟩, ?_⟩
        · rw [← hgcd]; exact Nat.gcd_sub_self_right huv
        · show 2 * (Nat.log2 (mv p1) + Nat.log2 (mv r)) + mv r % 2 < 2 * (Nat.log2 (mv g1) + Nat.log2 (mv g2)) + mv g2 % 2
          rw [mv_of hu (by omega), mv_of hMr (by omega), mx, my]
          have := log2_mono (show v - u ≤ v by omega)
          omega
      · rw [if_neg (fun h => huv (hle.mp h))]
        obtain ⟨r1, er1, hr1, -⟩ := t_copy (nx := 320) (fx := p1) (ny := 320) (fy := g0) hu.1 (by omega) (by omega) (by omega) (by omega)
        obtain ⟨r2, er2, hr2, -⟩ := t_copy (nx := 320) (fx := p2) (ny := 320) (fy := p1) hv.1 (by omega) (by omega) (by omega) (by omega)
        have hM1' := MR_congr hu hr1
        have hM2' := MR_congr hv hr2
        obtain ⟨r3, er3, hr3, -⟩ := t_copy (nx := 320) (fx := r1) (ny := 320) (fy := p2) hM1'.1 (by omega) (by omega) (by omega) (by omega)
        have hM3' := MR_congr hM1' hr3
        obtain ⟨r4, cr, er4, hcr, hMr, -⟩ := t_less (nx := 320) (ny := 320) hM3' hM2' (by omega) (by omega) (by omega) (by omega) (by omega)
        rw [er1]
        show ∃ a', ((m_X11_copy 320 p2 320 p1).bind _) = _ ∧ _
        rw [er2]
        show ∃ a', ((m_X11_copy 320 r1 320 p2).bind _) = _ ∧ _
        rw [er3]
        show ∃ a', ((m_X11_less 320 r3 320 r2).bind _) = _ ∧ _
        rw [er4]
        refine ⟨_, rfl, ⟨m2, cr, v, u - v, hM2', hMr, by omega, Or.inl hvo, by omega, by omega, ?_⟩, ?_⟩
        · rw [← hgcd, Nat.gcd_comm u v]; exact Nat.gcd_sub_self_right (by omega)
        · show 2 * (Nat.log2 (mv r2) + Nat.log2 (mv r4)) + mv r4 % 2 < 2 * (Nat.log2 (mv g1) + Nat.log2 (mv g2)) + mv g2 % 2
          rw [mv_of hM2' (by omega), mv_of hMr (by omega), mx, my]
          have := log2_mono (show u - v ≤ u by omega)
          omega
  · show 2 * (Nat.log2 (mv f1) + Nat.log2 (mv f2)) + mv f2 % 2 < FU
    rw [mv_of h1 (by omega), mv_of h2 (by omega)]
    have a1 := log2_cap (MR_lt h1)
    have a2 := log2_cap (MR_lt h2)
    exact FU_big (by omega)
/-- common: the greatest common divisor of two numbers above 0 comes into the first row -/
theorem t_common {i1 i2 i3 i4 i5 i6 : Int32} {fone ftwo frest fx fy : Nat → Int32} {nx ny a b X Y : Nat} (hX : MR fx a X) (hY : MR fy b Y) (hX0 : 0 < X) (hY0 : 0 < Y) (ha : a < 319) (hb : b < 319) (hax : a < nx) (hby : b < ny) (hnx : nx ≤ 100000) (hny : ny ≤ 100000) :
    ∃ q n, m_X11_common i1 i2 i3 i4 i5 i6 fone ftwo frest nx fx ny fy = some q ∧ MR q.1 n (Nat.gcd X Y) ∧ n ≤ a := by
  obtain ⟨r1, er1, hr1, -⟩ := t_copy (nx := nx) (fx := fx) (ny := 320) (fy := fone) hX.1 hax (by omega) hnx (by omega)
  obtain ⟨r2, er2, hr2, -⟩ := t_copy (nx := ny) (fx := fy) (ny := 320) (fy := ftwo) hY.1 hby (by omega) hny (by omega)
  have hM1 := MR_congr hX hr1
  have hM2 := MR_congr hY hr2
  have hXb := MR_lt hX
  have kcap : ∀ k x', X = 2 ^ k * x' → k ≤ 10240 := by
    intro k x' hk
    have hx' : 1 ≤ x' := by
      rcases Nat.eq_zero_or_pos x' with q | q
      · subst q; omega
      · exact q
    have h1 : 2 ^ k ≤ X := by rw [hk]; exact Nat.le_mul_of_pos_right _ hx'
    have h2 : X < 2 ^ (32 * a) := by rw [Nat.pow_mul]; exact hXb
    have h3 : 2 ^ k < 2 ^ (32 * a) := by omega
    have h4 := (Nat.pow_lt_pow_iff_right (by decide : 1 < 2)).mp h3
    omega
  -- twos that both have
  have L1 := lp_inv (body := b_X11_common_18) (fun s => ∃ k n1 n2 x' y', s.1 = nI k ∧ MR s.2.1 n1 x' ∧ MR s.2.2 n2 y' ∧ n1 ≤ a ∧ n2 ≤ b ∧ X = 2 ^ k * x' ∧ Y = 2 ^ k * y') (fun s => ∃ k n1 n2 x' y', s.1 = nI k ∧ MR s.2.1 n1 x' ∧ MR s.2.2 n2 y' ∧ n1 ≤ a ∧ n2 ≤ b ∧ X = 2 ^ k * x' ∧ Y = 2 ^ k * y' ∧ (x' % 2 = 1 ∨ y' % 2 = 1)) (fun s => 10300 - u3 s.1) ?_ FU (0, r1, r2) ⟨0, a, b, X, Y, rfl, hM1, hM2, Nat.le_refl a, Nat.le_refl b, by simp, by simp⟩ (FU_big (by show 10300 - u3 0 ≤ 200000; omega))
  · obtain ⟨s1, e1, k, n1, n2, x', y', hk, hm1, hm2, hn1, hn2, hXk, hYk, ho⟩ := L1
    have hkc := kcap k x' hXk
    have hx' : 0 < x' := by
      rcases Nat.eq_zero_or_pos x' with q | q
      · subst q; omega
      · exact q
    obtain ⟨s2, n', e2, hm, hn'⟩ := t_common_main (f0 := frest) hm1 hm2 hx' ho (by omega) (by omega)
    have hG : Nat.gcd X Y = 2 ^ k * Nat.gcd x' y' := by rw [hXk, hYk, Nat.gcd_mul_left]
    have hGX : Nat.gcd X Y ≤ X := Nat.gcd_le_left Y hX0
    have hG0 : 0 < Nat.gcd X Y := Nat.gcd_pos_of_pos_left Y hX0
    have L3 := lp_inv (body := b_X11_common_171 s1) (fun s => ∃ i n, s.1 = nI i ∧ i ≤ k ∧ MR s.2 n (2 ^ i * Nat.gcd x' y') ∧ n < 320) (fun s => ∃ n, MR s.2 n (2 ^ k * Nat.gcd x' y')) (fun s => k - u3 s.1) ?_ FU (0, s2.2.1) ⟨0, n', rfl, Nat.zero_le k, by rw [Nat.pow_zero, Nat.one_mul]; exact hm, hn'⟩ (Nat.lt_of_le_of_lt (Nat.sub_le _ _) (FU_big (by omega)))
    · obtain ⟨s3, e3, n, hM3⟩ := L3
      rw [← hG] at hM3
      refine ⟨(s3.2, s2.2.2, s2.1), n, ?_, hM3, MR_cap hM3 hGX hXb⟩
      unfold m_X11_common
      rw [er1]
      show ((m_X11_copy ny fy 320 ftwo).bind _) = _
      rw [er2]
      show ((lp b_X11_common_18 FU (0, r1, r2)).bind _) = _
      rw [e1]
      show ((lp b_X11_common_58 FU (frest, s1.2.1, s1.2.2)).bind _) = _
      rw [e2]
      show ((lp (b_X11_common_171 s1) FU (0, s2.2.1)).bind _) = _
      rw [e3]
      rfl
    · rintro ⟨iw, g⟩ ⟨i, n, ei, hik, hMi, hni⟩
      dsimp only at ei hMi
      subst ei
      rw [eb_X11_common_171, hk]
      by_cases hik2 : k ≤ i
      · right
        rw [if_pos ((nle (by omega) (by omega)).mpr hik2)]
        have : i = k := by omega
        subst this
        exact ⟨_, rfl, n, hMi⟩
      · left
        rw [if_neg (fun h => hik2 ((nle (by omega) (by omega)).mp h))]
        have hle : 2 ^ (i + 1) * Nat.gcd x' y' ≤ Nat.gcd X Y := by
          rw [hG]
          exact Nat.mul_le_mul_right _ (Nat.pow_le_pow_right (by decide) (by omega))
        have hle0 : 2 ^ i * Nat.gcd x' y' ≤ Nat.gcd X Y := by
          rw [hG]
          exact Nat.mul_le_mul_right _ (Nat.pow_le_pow_right (by decide) (by omega))
        have hna := MR_cap hMi (Nat.le_trans hle0 hGX) hXb
        obtain ⟨g', c, e, hc, hM', -⟩ := t_twice (nx := 320) (bit := 0) hMi (by omega) (by omega) (by omega)
        have hv : 2 * (2 ^ i * Nat.gcd x' y') + 0 = 2 ^ (i + 1) * Nat.gcd x' y' := by
          rw [Nat.add_zero, ← Nat.mul_assoc, Nat.pow_succ, Nat.mul_comm 2]
        rw [hv] at hM'
        rw [show (0 : Int32) = nI 0 from rfl, e]
        refine ⟨(nI (i + 1), g'), ?_, ⟨i + 1, c, rfl, by omega, hM', ?_⟩, ?_⟩
        · show some (Sum.inl (nI i + 1, g')) = _
          rw [nI_1]
        · have := MR_cap hM' (Nat.le_trans hle hGX) hXb
          omega
        · show k - u3 (nI (i + 1)) < k - u3 (nI i)
          rw [u3n (by omega), u3n (by omega)]; omega
  · rintro ⟨kw, g1, g2⟩ ⟨k, n1, n2, x', y', ek, hm1, hm2, hn1, hn2, hXk, hYk⟩
    dsimp only at ek hm1 hm2
    subst ek
    have hkc := kcap k x' hXk
    have hx' : 0 < x' := by
      rcases Nat.eq_zero_or_pos x' with q | q
      · subst q; omega
      · exact q
    have hy' : 0 < y' := by
      rcases Nat.eq_zero_or_pos y' with q | q
      · subst q; omega
      · exact q
    rw [eb_X11_common_18, t_isEven (nx := 320) hm1 ((MR_pos hm1).mpr hx') (by omega) (by omega)]
    by_cases h1 : x' % 2 = 0
    · rw [if_pos h1]
      simp only [Option.bind_some]
      rw [if_neg (by decide), t_isEven (nx := 320) hm2 ((MR_pos hm2).mpr hy') (by omega) (by omega)]
      by_cases h2 : y' % 2 = 0
      · left
        rw [if_pos h2]
        simp only [Option.bind_some]
        rw [if_neg (by decide)]
        obtain ⟨g1', c1, e1, hc1, hM1', -⟩ := t_halve (nx := 320) hm1 (by omega) (by omega)
        obtain ⟨g2', c2, e2, hc2, hM2', -⟩ := t_halve (nx := 320) hm2 (by omega) (by omega)
        rw [e1]
        simp only [Option.bind_some]
        rw [e2]
        have hXk2 : X = 2 ^ (k + 1) * (x' / 2) := by
          rw [hXk, Nat.pow_succ, Nat.mul_assoc]
          congr 1
          omega
        have hYk2 : Y = 2 ^ (k + 1) * (y' / 2) := by
          rw [hYk, Nat.pow_succ, Nat.mul_assoc]
          congr 1
          omega
        have := kcap (k + 1) (x' / 2) hXk2
        refine ⟨(nI (k + 1), g1', g2'), ?_, ⟨k + 1, c1, c2, x' / 2, y' / 2, rfl, hM1', hM2', by omega, by omega, hXk2, hYk2⟩, ?_⟩
        · show some (Sum.inl (nI k + 1, g1', g2')) = _
          rw [nI_1]
        · show 10300 - u3 (nI (k + 1)) < 10300 - u3 (nI k)
          rw [u3n (by omega), u3n (by omega)]; omega
      · right
        rw [if_neg h2]
        simp only [Option.bind_some]
        rw [if_pos trivial]
        exact ⟨_, rfl, k, n1, n2, x', y', rfl, hm1, hm2, hn1, hn2, hXk, hYk, Or.inr (by omega)⟩
    · right
      rw [if_neg h1]
      simp only [Option.bind_some]
      rw [if_pos trivial]
      exact ⟨_, rfl, k, n1, n2, x', y', rfl, hm1, hm2, hn1, hn2, hXk, hYk, Or.inl (by omega)⟩
