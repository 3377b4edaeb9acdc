theorem mac_lt {X Y T c : Nat} (hX : X < BB) (hY : Y < BB) (hT : T < BB) (hc : c < BB) : X * Y + T + c < 2 ^ 64 := by
  simp only [BB] at *
  have h : X * Y ≤ 4294967295 * 4294967295 := Nat.mul_le_mul (by omega) (by omega)
  omega
theorem div_BB {v : Nat} (h : v < 2 ^ 64) : v / BB < BB := by
  simp only [BB]; omega
theorem mod_div_BB (v P : Nat) : v * P = v % BB * P + v / BB * (P * BB) := by
  have h : v % BB + BB * (v / BB) = v := Nat.mod_add_div v BB
  have h2 : v / BB * (P * BB) = BB * (v / BB) * P := by
    rw [Nat.mul_comm P BB, ← Nat.mul_assoc, Nat.mul_comm (v / BB) BB]
  rw [h2, ← Nat.add_mul, h]
section TT
variable {nx : Nat} {fx : Nat → Int32} {ny : Nat} {fy : Nat → Int32} {nt : Nat} {a b : Nat}
/-- one word times a row, added at its place -/
theorem t_times_in {i : Nat} {g0 : Nat → Int32} (hy0 : fy 0 = nI b) (ha : a < nx) (hb : b < ny) (ht : a + b < nt) (hx : nx ≤ 100000) (hy : ny ≤ 100000) (hn : nt ≤ 100000) (hi1 : 1 ≤ i) (hi2 : i ≤ a) :
    ∃ q, lp (b_X11_times_45 nx fx ny fy nt (nI i)) FU (0, 1, g0) = some q ∧ ∃ c, q.1 = lN c ∧ c < BB ∧ dv (md q.2.2) (a + b) + c * BB ^ (i - 1 + b) = dv (md g0) (a + b) + u3 (fx i) * dv (md fy) b * BB ^ (i - 1) ∧ (∀ k, i + b ≤ k → q.2.2 k = g0 k) ∧ q.2.2 0 = g0 0 := by
  refine lp_inv (body := b_X11_times_45 nx fx ny fy nt (nI i)) (fun s => ∃ j c, s.1 = lN c ∧ s.2.1 = nI j ∧ 1 ≤ j ∧ j ≤ b + 1 ∧ c < BB ∧ dv (md s.2.2) (a + b) + c * BB ^ (i - 1 + (j - 1)) = dv (md g0) (a + b) + u3 (fx i) * dv (md fy) (j - 1) * BB ^ (i - 1) ∧ (∀ k, i + j - 1 ≤ k → s.2.2 k = g0 k) ∧ s.2.2 0 = g0 0) _ (fun s => b + 1 - u3 s.2.1) ?_ FU (0, 1, g0) ⟨1, 0, rfl, rfl, Nat.le_refl 1, by omega, by decide, by simp [dv], fun k _ => rfl, rfl⟩ (Nat.lt_of_le_of_lt (Nat.sub_le _ _) (FU_big (by omega)))
  rintro ⟨cw, jw, g⟩ ⟨j, c, e1, e2, hj1, hj2, hc, hv, hhi, hz⟩
  dsimp only at e1 e2 hv hhi hz
  subst e1
  subst e2
  have i0 := ix_0 (n := ny) (by omega) hy
  rw [eb_X11_times_45, if_pos i0, c0, hy0]
  by_cases hjb : b < j
  · right
    rw [if_pos ((nlt (by omega) (by omega)).mpr hjb)]
    have : j = b + 1 := by omega
    subst this
    exact ⟨_, rfl, c, rfl, hc, hv, fun k hk => hhi k (by omega), hz⟩
  · left
    have i1 := ixn (j := i) (n := nx) (by omega) hx
    have i2 := ixn (j := j) (n := ny) (by omega) hy
    have ei : nI i + nI j - 1 = nI (i + j - 1) := by rw [nI_add]; exact pk_sub (b := 1) (by omega)
    have i3 := ixn (j := i + j - 1) (n := nt) (by omega) hn
    rw [if_neg (fun h => hjb ((nlt (by omega) (by omega)).mp h)), if_pos i1, if_pos i2, ei, if_pos i3, cl (j := i) (by omega), cl (j := j) (by omega), cl (j := i + j - 1) (by omega), lN_mask, lN_mask, lN_mask, lN_mul, lN_add, lN_add]
    have hv64 := mac_lt (u3_lt (fx i)) (u3_lt (fy j)) (u3_lt (g (i + j - 1))) hc
    generalize hvv : u3 (fx i) * u3 (fy j) + u3 (g (i + j - 1)) + c = v at hv64 ⊢
    refine ⟨(lN (v / BB), nI (j + 1), upd g (i + j - 1) (lN v).toInt32), ?_, ⟨j + 1, v / BB, rfl, rfl, by omega, by omega, div_BB hv64, ?_, ?_, ?_⟩, ?_⟩
    · show (if ix (nI (i + j - 1)) nt = true then _ else none) = _
      rw [if_pos i3]
      show some (Sum.inl (_, _, _)) = _
      rw [lN_shr32 hv64, nI_1]
    · show dv (md (upd g (i + j - 1) (lN v).toInt32)) (a + b) + v / BB * BB ^ (i - 1 + (j + 1 - 1)) = _
      have ep : i + j - 1 = (i - 1 + (j - 1)) + 1 := by omega
      have hT : u3 (g (i + j - 1)) = md g (i - 1 + (j - 1)) := by rw [ep]; rfl
      rw [hT] at hvv
      rw [ep, md_upd, u3_l2i]
      generalize hp : i - 1 + (j - 1) = p at hvv hv ⊢
      have hplt : p < a + b := by omega
      have hdu := dv_du (d := md g) (p := p) (e := v % BB) hplt
      have hY : dv (md fy) (j + 1 - 1) = dv (md fy) (j - 1) + u3 (fy j) * BB ^ (j - 1) := by
        rw [show j + 1 - 1 = (j - 1) + 1 by omega, dv]
        unfold md
        rw [show j - 1 + 1 = j by omega]
      have hP : BB ^ p = BB ^ (i - 1) * BB ^ (j - 1) := by rw [← hp, Nat.pow_add]
      have hP1 : BB ^ (i - 1 + (j + 1 - 1)) = BB ^ p * BB := by rw [← hp, ← Nat.pow_succ]; congr 1; omega
      have e1 := mod_div_BB v (BB ^ p)
      have e2 : v * BB ^ p = u3 (fx i) * u3 (fy j) * BB ^ p + md g p * BB ^ p + c * BB ^ p := by rw [← hvv, Nat.add_mul, Nat.add_mul]
      have e3 : u3 (fx i) * (dv (md fy) (j - 1) + u3 (fy j) * BB ^ (j - 1)) * BB ^ (i - 1) = u3 (fx i) * dv (md fy) (j - 1) * BB ^ (i - 1) + u3 (fx i) * u3 (fy j) * BB ^ p := by
        rw [hP, Nat.mul_add, Nat.add_mul, Nat.mul_comm (BB ^ (i - 1)) (BB ^ (j - 1))]
        simp only [Nat.mul_assoc]
      rw [hY, hP1, e3]
      omega
    · intro k hk
      exact (pk_un (by omega)).trans (hhi k (by omega))
    · exact (pk_un (by omega)).trans hz
    · show b + 1 - u3 (nI (j + 1)) < b + 1 - u3 (nI j)
      rw [u3n (by omega), u3n (by omega)]; omega
theorem t_times {ft : Nat → Int32} {X Y : Nat} (hX : MR fx a X) (hY : MR fy b Y) (ha : a < nx) (hb : b < ny) (ht : a + b < nt) (hx : nx ≤ 100000) (hy : ny ≤ 100000) (hn : nt ≤ 100000) :
    ∃ f' c, m_X11_times nx fx ny fy nt ft = some f' ∧ c ≤ a + b ∧ MR f' c (X * Y) ∧ ∀ k, a + b < k → f' k = ft k := by
  obtain ⟨hx0, hxv, hxt⟩ := hX
  obtain ⟨hy0, hyv, hyt⟩ := hY
  have L1 := lp_inv (body := b_X11_times_11 nt (nI (a + b))) (fun s => ∃ k, s.1 = nI k ∧ 1 ≤ k ∧ k ≤ a + b + 1 ∧ (∀ j, 1 ≤ j → j < k → s.2 j = 0) ∧ ∀ j, k ≤ j → s.2 j = ft j) (fun s => (∀ j, 1 ≤ j → j ≤ a + b → s.2 j = 0) ∧ ∀ j, a + b < j → s.2 j = ft j) (fun s => a + b + 1 - u3 s.1) ?_ FU (1, ft) ⟨1, rfl, Nat.le_refl 1, by omega, fun j h1 h2 => by omega, fun j _ => rfl⟩ (Nat.lt_of_le_of_lt (Nat.sub_le _ _) (FU_big (by omega)))
  · obtain ⟨q, eq, hq1, hq2⟩ := L1
    have L2 := lp_inv (body := b_X11_times_31 nx fx ny fy nt) (fun s => ∃ i, s.1 = nI i ∧ 1 ≤ i ∧ i ≤ a + 1 ∧ dv (md s.2) (a + b) = dv (md fx) (i - 1) * dv (md fy) b ∧ (∀ j, i + b ≤ j → j ≤ a + b → s.2 j = 0) ∧ ∀ j, a + b < j → s.2 j = ft j) (fun s => dv (md s.2) (a + b) = dv (md fx) a * dv (md fy) b ∧ ∀ j, a + b < j → s.2 j = ft j) (fun s => a + 1 - u3 s.1) ?_ FU (1, q.2) ⟨1, rfl, Nat.le_refl 1, by omega, ?_, fun j h1 h2 => hq1 j (by omega) h2, hq2⟩ (Nat.lt_of_le_of_lt (Nat.sub_le _ _) (FU_big (by omega)))
    · obtain ⟨q2, eq2, h1, h2⟩ := L2
      obtain ⟨f', c, e, hc, hM, hr⟩ := t_trim (nx := nt) (fx := q2.2) (n := a + b) ht hn
      refine ⟨f', c, ?_, hc, ?_, fun k hk => (hr k (by omega)).trans (h2 k hk)⟩
      · unfold m_X11_times
        rw [if_pos (ix_0 (by omega) hx), if_pos (ix_0 (by omega) hy)]
        show ((lp (b_X11_times_11 nt (fx 0 + fy 0)) FU (1, ft)).bind _) = _
        rw [hx0, hy0, nI_add, eq]
        show ((lp (b_X11_times_31 nx fx ny fy nt) FU (1, q.2)).bind _) = _
        rw [eq2]
        show ((m_X11_trim nt q2.2 (fx 0 + fy 0)).bind _) = _
        rw [hx0, hy0, nI_add, e]
        rfl
      · rw [h1, hxv, hyv] at hM
        exact hM
    · rintro ⟨iw, g⟩ ⟨i, e1, hi1, hi2, hv, hz, hr⟩
      dsimp only at e1 hv hz hr
      subst e1
      rw [eb_X11_times_31, if_pos (ix_0 (by omega) hx), c0, hx0]
      by_cases hia : a < i
      · right
        rw [if_pos ((nlt (by omega) (by omega)).mpr hia)]
        have : i = a + 1 := by omega
        subst this
        exact ⟨_, rfl, hv, hr⟩
      · left
        rw [if_neg (fun h => hia ((nlt (by omega) (by omega)).mp h))]
        obtain ⟨q2, eq2, c, hc1, hc, hcv, hck, hc0⟩ := t_times_in (g0 := g) (nx := nx) (fx := fx) (ny := ny) (fy := fy) (nt := nt) (a := a) (b := b) (i := i) hy0 ha hb ht hx hy hn hi1 (by omega)
        have i3 := ixn (j := i + b) (n := nt) (by omega) hn
        refine ⟨(nI (i + 1), upd q2.2.2 (i + b) (lN c).toInt32), ?_, ⟨i + 1, rfl, by omega, by omega, ?_, ?_, ?_⟩, ?_⟩
        · rw [eq2]
          show (if ix 0 ny = true then _ else none) = _
          rw [if_pos (ix_0 (by omega) hy), hy0, nI_add, if_pos i3, cl (by omega), hc1]
          show some (Sum.inl (_, _)) = _
          rw [nI_1]
        · show dv (md (upd q2.2.2 (i + b) (lN c).toInt32)) (a + b) = _
          have ep : i + b = (i - 1 + b) + 1 := by omega
          have hgz : md q2.2.2 (i - 1 + b) = 0 := by
            show u3 (q2.2.2 (i - 1 + b + 1)) = 0
            rw [← ep, hck _ (by omega), hz _ (by omega) (by omega)]; rfl
          rw [ep, md_upd, u3_l2i, Nat.mod_eq_of_lt hc]
          have hdu := dv_du (d := md q2.2.2) (p := i - 1 + b) (e := c) (n := a + b) (by omega)
          rw [hgz] at hdu
          have hX1 : dv (md fx) (i + 1 - 1) = dv (md fx) (i - 1) + u3 (fx i) * BB ^ (i - 1) := by
            rw [show i + 1 - 1 = (i - 1) + 1 by omega, dv]
            unfold md
            rw [show i - 1 + 1 = i by omega]
          have e3 : u3 (fx i) * dv (md fy) b * BB ^ (i - 1) = u3 (fx i) * BB ^ (i - 1) * dv (md fy) b := by
            rw [Nat.mul_assoc, Nat.mul_comm (dv (md fy) b), ← Nat.mul_assoc]
          rw [hX1, Nat.add_mul, ← hv, ← e3]
          omega
        · intro j h1 h2
          exact (pk_un (by omega)).trans ((hck j (by omega)).trans (hz j (by omega) h2))
        · intro j hj
          exact (pk_un (by omega)).trans ((hck j (by omega)).trans (hr j hj))
        · show a + 1 - u3 (nI (i + 1)) < a + 1 - u3 (nI i)
          rw [u3n (by omega), u3n (by omega)]; omega
    · show dv (md q.2) (a + b) = dv (md fx) 0 * _
      rw [show dv (md fx) 0 = 0 from rfl, Nat.zero_mul]
      have := dv_zeros (d := md q.2) (m := 0) (n := a + b) (by omega) (fun k _ h2 => by show u3 (q.2 (k + 1)) = 0; rw [hq1 _ (by omega) (by omega)]; rfl)
      exact this
  · rintro ⟨kw, g⟩ ⟨k, e1, hk1, hk2, hlo, hhi⟩
    dsimp only at e1 hlo hhi
    subst e1
    rw [eb_X11_times_11]
    by_cases hkn : a + b < k
    · right
      rw [if_pos ((nlt (by omega) (by omega)).mpr hkn)]
      exact ⟨_, rfl, fun j h1 h2 => hlo j h1 (by omega), fun j hj => hhi j (by omega)⟩
    · left
      rw [if_neg (fun h => hkn ((nlt (by omega) (by omega)).mp h)), if_pos (ixn (by omega) hn), cl (by omega)]
      refine ⟨(nI (k + 1), upd g k 0), by rw [← nI_1]; rfl, ⟨k + 1, rfl, by omega, by omega, fun j h1 h2 => ?_, fun j hj => (pk_un (by omega)).trans (hhi j (by omega))⟩, ?_⟩
      · by_cases hjk : j = k
        · subst hjk; exact pk_us
        · exact (pk_un hjk).trans (hlo j h1 (by omega))
      · show a + b + 1 - u3 (nI (k + 1)) < a + b + 1 - u3 (nI k)
        rw [u3n (by omega), u3n (by omega)]; omega
end TT
