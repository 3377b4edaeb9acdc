/-! divide: by the row 'one', the quotient stays -/
theorem s_uu : ∀ n, n < 32 → (((nI n).toUInt32 &&& Int32.toUInt32 31).toBitVec % 32).toNat = n := by decide
theorem s_ll : ∀ n, n < 32 → ((nI n &&& 31).toBitVec.smod 32).toNat = n := by decide
theorem bit_at (x : Int32) {j : Nat} (hj : j < 32) : ((x.toUInt32 >>> ((nI j).toUInt32 &&& Int32.toUInt32 31)).toInt32 &&& 1) = nI (u3 x / 2 ^ j % 2) := by
  have h := pk_ushr x (nI j) j (s_uu j hj)
  rw [pk_and _ 1 (by decide), h]
  rfl
theorem u3_one_shl {j : Nat} (hj : j < 32) : u3 (1 <<< (nI j &&& 31)) = 2 ^ j := by
  have h := pk_shl 1 (nI j &&& 31) j (s_ll j hj)
  show ((1 : Int32) <<< (nI j &&& 31)).toBitVec.toNat = 2 ^ j
  rw [h]
  show 1 * 2 ^ j % 2 ^ 32 = 2 ^ j
  rw [Nat.one_mul]
  exact Nat.mod_eq_of_lt (Nat.pow_lt_pow_right (by decide) hj)
section DV
variable {fone : Nat → Int32} {c D : Nat}
/-- one word of the quotient -/
theorem t_div_in {x4 : Int32} {g0 : Nat → Int32} {n0 R0 : Nat} (hD : MR fone c D) (hD0 : 0 < D) (hc : c < 318) (hR : MR g0 n0 R0) (hRD : R0 < D) :
    ∃ q n, lp (b_X11_divide_29 fone x4) FU (0, 31, g0) = some q ∧ u3 q.1 = (R0 * BB + u3 x4) / D ∧ MR q.2.2 n ((R0 * BB + u3 x4) % D) := by
  have hx4 := u3_lt x4
  simp only [BB] at hx4
  have hDb := MR_lt hD
  have key := lp_inv (body := b_X11_divide_29 fone x4) (fun s => ∃ k n T R, k ≤ 32 ∧ s.2.1 = nI k + (-1) ∧ u3 s.1 = T * 2 ^ k ∧ MR s.2.2 n R ∧ R < D ∧ T * D + R = R0 * 2 ^ (32 - k) + u3 x4 / 2 ^ k) (fun s => ∃ n T R, u3 s.1 = T ∧ MR s.2.2 n R ∧ R < D ∧ T * D + R = R0 * BB + u3 x4) (fun s => u3 (s.2.1 + 1)) ?_ FU (0, 31, g0) ⟨32, n0, 0, R0, Nat.le_refl 32, rfl, by simp [u3_0], hR, hRD, ?_⟩ (FU_big (by show u3 (31 + 1) ≤ _; decide))
  · obtain ⟨q, e, n, T, R, h1, h2, h3, h4⟩ := key
    have hdiv : (R0 * BB + u3 x4) / D = T := by
      rw [← h4, Nat.mul_comm T D, Nat.mul_add_div hD0, Nat.div_eq_of_lt h3, Nat.add_zero]
    have hmod : (R0 * BB + u3 x4) % D = R := by
      rw [← h4, Nat.mul_comm T D, Nat.mul_add_mod, Nat.mod_eq_of_lt h3]
    exact ⟨q, n, e, by rw [hdiv]; exact h1, by rw [hmod]; exact h2⟩
  · rintro ⟨tw, bw, g⟩ ⟨k, n, T, R, hk, e1, hT, hM, hRD', hv⟩
    dsimp only at e1 hT hM
    subst e1
    rw [eb_X11_divide_29]
    by_cases h0 : k = 0
    · right
      subst h0
      rw [if_pos (show nI 0 + (-1) < 0 by decide)]
      refine ⟨_, rfl, n, T, R, by rw [hT]; simp, hM, hRD', ?_⟩
      rw [hv]
      simp [BB]
    · left
      obtain ⟨j, rfl⟩ : ∃ j, k = j + 1 := ⟨k - 1, by omega⟩
      rw [pk_m1, if_neg (nI_pos (by omega)), bit_at x4 (by omega)]
      have hn : n ≤ c := MR_cap hM (Nat.le_of_lt hRD') hDb
      obtain ⟨g1, n1, e1, hn1, hM1, -⟩ := t_twice (nx := 320) (bit := u3 x4 / 2 ^ j % 2) hM (by omega) (by omega) (by omega)
      rw [e1]
      simp only [Option.bind_some]
      obtain ⟨cc, ec, hc1, hc2, hc3⟩ := t_compareTo (nx := 320) (ny := 320) hM1 hD (by omega) (by omega) (by omega) (by omega)
      rw [ec]
      simp only [Option.bind_some]
      have hhalf : u3 x4 / 2 ^ j = 2 * (u3 x4 / 2 ^ (j + 1)) + u3 x4 / 2 ^ j % 2 := by
        have : u3 x4 / 2 ^ (j + 1) = u3 x4 / 2 ^ j / 2 := by rw [Nat.pow_succ, Nat.div_div_eq_div_mul]
        omega
      have hpow : R0 * 2 ^ (32 - j) = 2 * (R0 * 2 ^ (32 - (j + 1))) := by
        rw [show 32 - j = (32 - (j + 1)) + 1 by omega, Nat.pow_succ]
        rw [← Nat.mul_assoc, Nat.mul_comm]
      have hmu : ∀ z : Int32, z = nI j + (-1) → u3 (z + 1) < u3 (nI (j + 1) + (-1) + 1) := by
        intro z hz
        have e2 : ∀ m : Nat, m ≤ 32 → u3 (nI m + (-1) + 1) = m := by decide
        rw [hz, e2 j (by omega), e2 (j + 1) hk]
        omega
      by_cases hlt : 2 * R + u3 x4 / 2 ^ j % 2 < D
      · rw [if_pos (hc1.mpr hlt)]
        refine ⟨(tw, nI j + (-1), g1), rfl, ⟨j, n1, 2 * T, 2 * R + u3 x4 / 2 ^ j % 2, by omega, rfl, ?_, hM1, hlt, ?_⟩, ?_⟩
        · show u3 tw = 2 * T * 2 ^ j
          rw [hT, Nat.pow_succ, Nat.mul_comm (2 ^ j) 2, ← Nat.mul_assoc, Nat.mul_comm T 2]
        · rw [hpow, hhalf]
          have : 2 * T * D = 2 * (T * D) := by rw [Nat.mul_assoc]
          omega
        · show u3 (nI j + (-1) + 1) < u3 (nI j + 1)
          have := hmu _ rfl
          rw [pk_m1] at this
          exact this
      · rw [if_neg (fun h => hlt (hc1.mp h))]
        obtain ⟨g2, n2, e2, hn2, hM2, -⟩ := t_less (nx := 320) (ny := 320) hM1 hD (by omega) (by omega) (by omega) (by omega) (by omega)
        rw [e2]
        simp only [Option.bind_some, lt]
        refine ⟨_, rfl, ⟨j, n2, 2 * T + 1, 2 * R + u3 x4 / 2 ^ j % 2 - D, by omega, rfl, ?_, hM2, by omega, ?_⟩, ?_⟩
        · show u3 (tw ||| (1 <<< (nI j &&& 31))) = (2 * T + 1) * 2 ^ j
          have eo : tw ||| (1 <<< (nI j &&& 31)) = (1 <<< (nI j &&& 31)) ||| tw := Int32.or_comm ..
          rw [eo, u3_or (i := j + 1) (m := T) (by rw [u3_one_shl (by omega)]; exact Nat.pow_lt_pow_right (by decide) (by omega)) (by rw [hT, Nat.mul_comm]), u3_one_shl (by omega), hT, Nat.add_mul, Nat.one_mul, Nat.pow_succ, Nat.mul_comm (2 ^ j) 2, ← Nat.mul_assoc, Nat.mul_comm T 2, Nat.add_comm]
        · rw [hpow, hhalf]
          have : (2 * T + 1) * D = 2 * (T * D) + D := by rw [Nat.add_mul, Nat.one_mul, Nat.mul_assoc]
          omega
        · show u3 (nI j + (-1) + 1) < u3 (nI j + 1)
          have := hmu _ rfl
          rw [pk_m1] at this
          exact this
  · have : u3 x4 / 2 ^ 32 = 0 := Nat.div_eq_of_lt (by omega)
    rw [this]; simp
theorem t_divide {i1 i2 i3 i4 i5 i6 : Int32} {frest fx : Nat → Int32} {nx a X : Nat} (hD : MR fone c D) (hD0 : 0 < D) (hc : c < 318) (hX : MR fx a X) (ha : a < nx) (hx : nx ≤ 100000) :
    ∃ q n, m_X11_divide i1 i2 i3 i4 i5 i6 fone frest nx fx = some q ∧ MR q.2 n (X / D) ∧ n ≤ a ∧ ∀ k, a < k → q.2 k = fx k := by
  obtain ⟨hx0, hxv, hxt⟩ := hX
  have L := lp_inv (body := b_X11_divide_13 fone nx) (fun s => ∃ k hi n R, k ≤ a ∧ s.1 = nI k ∧ X = hi * BB ^ k + dv (md fx) k ∧ MR s.2.1 n R ∧ R < D ∧ (∃ T, hi = T * D + R ∧ dv (md s.2.2) a = T * BB ^ k + dv (md fx) k) ∧ (∀ j, j ≤ k → s.2.2 j = fx j) ∧ ∀ j, a < j → s.2.2 j = fx j) (fun s => dv (md s.2.2) a = X / D ∧ ∀ j, a < j → s.2.2 j = fx j) (fun s => u3 s.1) ?_ FU (nI a, upd frest 0 0, fx) ⟨a, 0, 0, 0, Nat.le_refl a, rfl, by rw [Nat.zero_mul, Nat.zero_add, hxv], ⟨rfl, rfl, fun h => by omega⟩, hD0, ⟨0, by simp, by simp [hxv]⟩, fun j _ => rfl, fun j _ => rfl⟩ (by show u3 (nI a) < FU; rw [u3n (by omega)]; exact FU_big (by omega))
  · obtain ⟨q, e, hv, hr⟩ := L
    obtain ⟨f', n, e', hn, hM, hr'⟩ := t_trim (nx := nx) (fx := q.2.2) (n := a) ha hx
    rw [hv] at hM
    refine ⟨(q.2.1, f'), n, ?_, hM, hn, fun k hk => (hr' k (by omega)).trans (hr k hk)⟩
    unfold m_X11_divide
    rw [if_pos (ix_0 (by omega) (by omega)), c0]
    show (if ix 0 nx = true then _ else none) = _
    rw [if_pos (ix_0 (by omega) hx)]
    show ((lp (b_X11_divide_13 fone nx) FU (fx 0, upd frest 0 0, fx)).bind _) = _
    rw [hx0, e]
    simp only [Option.bind_some]
    rw [e']
    rfl
  · rintro ⟨kw, rs, g⟩ ⟨k, hi, n, R, hk, e1, hXk, hM, hRD, ⟨T, hT, hdv⟩, hlo, hhi⟩
    dsimp only at e1 hM hdv hlo hhi
    subst e1
    rw [eb_X11_divide_13]
    by_cases h0 : k = 0
    · right
      rw [if_pos ((nle0 (by omega)).mpr h0)]
      subst h0
      refine ⟨_, rfl, ?_, hhi⟩
      show dv (md g) a = X / D
      rw [hdv, hXk]
      simp only [Nat.pow_zero, Nat.mul_one, dv, Nat.add_zero]
      rw [hT, Nat.mul_comm T D, Nat.mul_add_div hD0, Nat.div_eq_of_lt hRD, Nat.add_zero]
    · left
      obtain ⟨p, rfl⟩ : ∃ p, k = p + 1 := ⟨k - 1, by omega⟩
      rw [if_neg (fun h => h0 ((nle0 (by omega)).mp h)), if_pos (ixn (by omega) hx), cl (by omega)]
      simp only [lt]
      obtain ⟨q, m, eq, hq1, hq2⟩ := t_div_in (x4 := g (p + 1)) hD hD0 hc hM hRD
      rw [eq]
      simp only [Option.bind_some]
      rw [if_pos (ixn (by omega) hx), nm1 (by omega)]
      have hg : u3 (g (p + 1)) = md fx p := by rw [hlo (p + 1) (Nat.le_refl _)]; rfl
      rw [hg] at hq1 hq2
      refine ⟨_, rfl, ⟨p, hi * BB + md fx p, m, (R * BB + md fx p) % D, by omega, rfl, ?_, hq2, Nat.mod_lt _ hD0, ⟨T * BB + (R * BB + md fx p) / D, ?_, ?_⟩, fun j hj => (pk_un (by omega)).trans (hlo j (by omega)), fun j hj => (pk_un (by omega)).trans (hhi j hj)⟩, ?_⟩
      · rw [hXk, dv, Nat.pow_succ, Nat.add_mul]
        have : hi * (BB ^ p * BB) = hi * BB * BB ^ p := by rw [Nat.mul_comm (BB ^ p), ← Nat.mul_assoc]
        rw [this, Nat.add_comm (dv (md fx) p), ← Nat.add_assoc]
      · have h1 := Nat.div_add_mod (R * BB + md fx p) D
        have h2 : (T * BB + (R * BB + md fx p) / D) * D = T * D * BB + D * ((R * BB + md fx p) / D) := by
          rw [Nat.add_mul, Nat.mul_assoc, Nat.mul_comm BB D, ← Nat.mul_assoc, Nat.mul_comm D ((R * BB + md fx p) / D)]
        have h3 : hi * BB = T * D * BB + R * BB := by rw [hT, Nat.add_mul]
        rw [h2, h3, Nat.add_assoc, Nat.add_assoc (T * D * BB) (D * _), h1]
      · show dv (md (upd g (p + 1) q.1)) a = _
        rw [md_upd, hq1]
        have hdu := dv_du (d := md g) (p := p) (e := (R * BB + md fx p) / D) (n := a) (by omega)
        have hgp : md g p = md fx p := by unfold md; rw [hlo (p + 1) (Nat.le_refl _)]
        rw [hgp, hdv, dv] at hdu
        have : T * BB ^ (p + 1) = T * BB * BB ^ p := by rw [Nat.pow_succ, Nat.mul_comm (BB ^ p), ← Nat.mul_assoc]
        rw [Nat.add_mul]
        omega
      · show u3 (nI (p + 1 - 1)) < u3 (nI (p + 1))
        rw [u3n (by omega), u3n (by omega)]; omega
end DV
/-- least: the fraction of two numbers in least terms -/
theorem t_least {i1 i2 i3 i4 i5 i6 : Int32} {fone ftwo frest fa fb : Nat → Int32} {a b X Y : Nat} (hX : MR fa a X) (hY : MR fb b Y) (hX0 : 0 < X) (hY0 : 0 < Y) (ha : a < 318) (hb : b < 318) :
    ∃ q n1 n2, m_X11_least i1 i2 i3 i4 i5 i6 fone ftwo frest fa fb = some q ∧ MR q.2.2.2.1 n1 (X / Nat.gcd X Y) ∧ n1 ≤ a ∧ MR q.2.2.2.2 n2 (Y / Nat.gcd X Y) ∧ n2 ≤ b := by
  obtain ⟨r1, n, e1, hM1, hn⟩ := t_common (i1 := i1) (i2 := i2) (i3 := i3) (i4 := i4) (i5 := i5) (i6 := i6) (fone := fone) (ftwo := ftwo) (frest := frest) (nx := 320) (ny := 320) hX hY hX0 hY0 (by omega) (by omega) (by omega) (by omega) (by omega) (by omega)
  have hG0 : 0 < Nat.gcd X Y := Nat.gcd_pos_of_pos_left Y hX0
  obtain ⟨r2, n1, e2, hM2, hn1, -⟩ := t_divide (i1 := i1) (i2 := i2) (i3 := i3) (i4 := i4) (i5 := i5) (i6 := i6) (frest := r1.2.2) (nx := 320) hM1 hG0 (by omega) hX (by omega) (by omega)
  obtain ⟨r3, n2, e3, hM3, hn2, -⟩ := t_divide (i1 := i1) (i2 := i2) (i3 := i3) (i4 := i4) (i5 := i5) (i6 := i6) (frest := r2.1) (nx := 320) hM1 hG0 (by omega) hY (by omega) (by omega)
  refine ⟨(r1.1, r1.2.1, r3.1, r2.2, r3.2), n1, n2, ?_, hM2, hn1, hM3, hn2⟩
  unfold m_X11_least
  have ha0 : ¬ fa 0 = 0 := by
    rw [hX.1]
    intro h
    have := (neq (a := a) (b := 0) (by omega) (by omega)).mp h
    have := (MR_pos hX).mpr hX0
    omega
  rw [if_pos (ix_0 (by omega) (by omega)), c0, if_neg ha0, e1]
  simp only [Option.bind_some]
  rw [e2]
  simp only [Option.bind_some]
  rw [e3]
  rfl
