/-! parents of a name in a graph; the FIT of a graph; order of two FITS -/
def parN (g c : Nat) : Nat → Nat
  | 0 => 0
  | p + 1 => parN g c p + g / 2 ^ (5 * p + c) % 2 * 2 ^ p
theorem parN_lt (g c : Nat) : ∀ n, parN g c n < 2 ^ n := by
  intro n
  induction n with
  | zero => exact Nat.one_pos
  | succ n ih =>
    unfold parN
    have h : g / 2 ^ (5 * n + c) % 2 * 2 ^ n ≤ 1 * 2 ^ n := Nat.mul_le_mul_right _ (by omega)
    rw [Nat.pow_succ]
    omega
theorem nI_or {a m i : Nat} (ha : a < 2 ^ i) (h : a + m * 2 ^ i < BB) : nI a ||| nI (m * 2 ^ i) = nI (a + m * 2 ^ i) := by
  have h1 : u3 (nI a) = a := u3_nI (by omega)
  have h2 : u3 (nI (m * 2 ^ i)) = m * 2 ^ i := u3_nI (by omega)
  rw [← nI_u3 (nI a ||| nI (m * 2 ^ i)), u3_or (i := i) (m := m) (by rw [h1]; exact ha) (by rw [h2, Nat.mul_comm]), h1, h2]
theorem t_parentsOf {g c : Nat} (hg : g < 2 ^ 30) (hc : c < 5) : m_X11_parentsOf (nI g) (nI c) = some (nI (parN g c 5)) := by
  have L := lp_inv (body := b_X11_parentsOf_4 (nI g) (nI c)) (fun s => ∃ p, s.2 = nI p ∧ p ≤ 5 ∧ s.1 = nI (parN g c p)) (fun s => s.1 = nI (parN g c 5)) (fun s => 5 - u3 s.2) ?_ FU (0, 0) ⟨0, rfl, by omega, rfl⟩ (Nat.lt_of_le_of_lt (Nat.sub_le _ _) (FU_big (by omega)))
  · obtain ⟨q, e, hq⟩ := L
    unfold m_X11_parentsOf
    rw [e]
    simp only [Option.bind_some]
    rw [hq]
  · rintro ⟨sw, pw⟩ ⟨p, e1, hp, e2⟩
    dsimp only at e1 e2
    subst e1
    subst e2
    rw [eb_X11_parentsOf_4]
    have h5i : (5 : Int32) ≤ nI p ↔ 5 ≤ p := nle (a := 5) (by omega) (by omega)
    by_cases h5 : 5 ≤ p
    · right
      rw [if_pos (h5i.mpr h5)]
      have : p = 5 := by omega
      subst this
      exact ⟨_, rfl, rfl⟩
    · left
      rw [if_neg (fun h => h5 (h5i.mp h)), five, pk_shrN (by omega) (nI (5 * p + c) &&& 31) (5 * p + c) (s_ll _ (by omega))]
      have hd : g / 2 ^ (5 * p + c) < 2 ^ 32 := Nat.lt_of_le_of_lt (Nat.div_le_self _ _) (by omega)
      have e3 : nI (g / 2 ^ (5 * p + c)) &&& 1 = nI (g / 2 ^ (5 * p + c) % 2) := pk_andN hd 1 (by decide)
      have hb : g / 2 ^ (5 * p + c) % 2 ≤ 1 := by omega
      have hp2 : 2 ^ p ≤ 16 := Nat.le_trans (Nat.pow_le_pow_right (by decide) (show p ≤ 4 by omega)) (by decide)
      have hm : g / 2 ^ (5 * p + c) % 2 * 2 ^ p ≤ 1 * 16 := Nat.mul_le_mul hb hp2
      have hl := parN_lt g c p
      rw [e3, pk_shlN (nI p &&& 31) p (s_ll p (by omega)) (by omega), nI_or hl (by simp only [BB]; omega)]
      refine ⟨(nI (parN g c (p + 1)), nI (p + 1)), by rw [← nI_1]; rfl, ⟨p + 1, rfl, by omega, rfl⟩, ?_⟩
      show 5 - u3 (nI (p + 1)) < 5 - u3 (nI p)
      rw [u3n (by omega), u3n (by omega)]; omega
theorem t_multiply {i1 i2 i3 i4 i5 i6 : Int32} {ff fm fx fy : Nat → Int32} {ny p a b X Y : Nat} (hX : MR fx a X) (hY : MR (sh fy p) b Y) (hab : a + b < 320) (hb : p + b < ny) (hy : ny ≤ 50000) :
    ∃ q c, m_X11_multiply i1 i2 i3 i4 i5 i6 ff fm 320 fx ny fy (nI p) = some q ∧ MR q.2.2 c (X * Y) ∧ c ≤ a + b := by
  obtain ⟨r1, e1, h1, -⟩ := t_load (nx := ny) (fx := fy) (ny := 320) (fy := ff) (n := b) (p := p) hY.1 hb (by omega) hy (by omega)
  have hM1 : MR r1 b Y := MR_congr hY h1
  obtain ⟨r2, c, e2, hc, hM2, -⟩ := t_times (nx := 320) (ny := 320) (nt := 320) (ft := fm) hX hM1 (by omega) (by omega) hab (by omega) (by omega) (by omega)
  obtain ⟨r3, e3, h3, -⟩ := t_copy (nx := 320) (fx := r2) (ny := 320) (fy := fx) hM2.1 (by omega) (by omega) (by omega) (by omega)
  refine ⟨(r1, r2, r3), c, ?_, MR_congr hM2 h3, hc⟩
  unfold m_X11_multiply
  rw [e1]
  simp only [Option.bind_some]
  rw [e2]
  simp only [Option.bind_some]
  rw [e3]
  rfl
/-- the FIT of a graph, above and below, not in least terms -/
def grT (cell : Nat → Nat → Nat) (vals : Nat → Nat) (N R w g n : Nat) : Nat := prF (fun c => fitT cell vals N R w c (parN g c 5)) n
def grL (cell : Nat → Nat → Nat) (vals : Nat → Nat) (N R w g n : Nat) : Nat := prF (fun c => fitL cell vals N R w c (parN g c 5)) n
theorem prF_cap {f : Nat → Nat} {N : Nat} (h : ∀ r, r < N → 0 < f r ∧ f r < BB ^ 6) : ∀ r, r ≤ N → 0 < prF f r ∧ prF f r < BB ^ (6 * r + 1) := by
  intro r
  induction r with
  | zero => intro _; exact ⟨Nat.one_pos, show 1 < BB ^ 1 by decide⟩
  | succ r ih =>
    intro hr
    obtain ⟨a, b⟩ := ih (by omega)
    obtain ⟨c, d⟩ := h r (by omega)
    unfold prF
    refine ⟨Nat.mul_pos a c, ?_⟩
    rw [show 6 * (r + 1) + 1 = (6 * r + 1) + 6 by omega, Nat.pow_add]
    exact Nat.mul_lt_mul'' b d
section GF
variable {N R w : Nat} {vals : Nat → Nat} {cell : Nat → Nat → Nat} {fvalues fcells : Nat → Int32} {i4 i5 i6 : Int32} {fk ftops flows fsmall flarge fone ftwo frest ff fm fx fy : Nat → Int32} {g : Nat}
theorem g_cap (h : MS N R w vals cell fvalues fcells) (hs : ∀ c, c < N → parN g c 5 / 2 ^ c % 2 = 0) : ∀ n, n ≤ N → (0 < grT cell vals N R w g n ∧ grT cell vals N R w g n < BB ^ (6 * n + 1)) ∧ 0 < grL cell vals N R w g n ∧ grL cell vals N R w g n < BB ^ (6 * n + 1) := fun n hn =>
  ⟨prF_cap (fun c hc => (fit_pos h hc (hs c hc)).1) n hn, prF_cap (fun c hc => (fit_pos h hc (hs c hc)).2) n hn⟩
theorem t_fit (h : MS N R w vals cell fvalues fcells) (hk : MK cell vals N R w fk ftops flows) (hg : g < 2 ^ 30) (hs : ∀ c, c < N → parN g c 5 / 2 ^ c % 2 = 0) :
    ∃ q n1 n2, m_X11_fit (nI N) (nI R) (nI w) i4 i5 i6 fvalues fcells fk ftops flows fsmall flarge fone ftwo frest ff fm 320 fx 320 fy (nI g) = some q ∧ MK cell vals N R w q.1 q.2.1 q.2.2.1 ∧ MR q.2.2.2.2.2.2.2.2.2.2.1 n1 (grT cell vals N R w g N) ∧ MR q.2.2.2.2.2.2.2.2.2.2.2 n2 (grL cell vals N R w g N) ∧ n1 ≤ 31 ∧ n2 ≤ 31 := by
  have hN := h.1
  obtain ⟨x0, ex0, hx0, -⟩ := t_put (nx := 320) (fx := fx) (v := 1) (by omega) (by omega) (by omega)
  obtain ⟨y0, ey0, hy0, -⟩ := t_put (nx := 320) (fx := fy) (v := 1) (by omega) (by omega) (by omega)
  have L := lp_inv (body := b_X11_fit_13 (nI N) (nI R) (nI w) i4 i5 i6 fvalues fcells 320 320 (nI g)) (fun s => ∃ c n1 n2, s.1 = nI c ∧ c ≤ N ∧ MK cell vals N R w s.2.1 s.2.2.1 s.2.2.2.1 ∧ MR s.2.2.2.2.2.2.2.2.2.2.2.1 n1 (grT cell vals N R w g c) ∧ MR s.2.2.2.2.2.2.2.2.2.2.2.2 n2 (grL cell vals N R w g c)) (fun s => ∃ n1 n2, MK cell vals N R w s.2.1 s.2.2.1 s.2.2.2.1 ∧ MR s.2.2.2.2.2.2.2.2.2.2.2.1 n1 (grT cell vals N R w g N) ∧ MR s.2.2.2.2.2.2.2.2.2.2.2.2 n2 (grL cell vals N R w g N)) (fun s => N - u3 s.1) ?_ FU (0, fk, ftops, flows, fsmall, flarge, fone, ftwo, frest, ff, fm, x0, y0) ⟨0, 1, 1, rfl, Nat.zero_le N, hk, hx0, hy0⟩ (Nat.lt_of_le_of_lt (Nat.sub_le _ _) (FU_big (by omega)))
  · obtain ⟨q, e, n1, n2, h1, h2, h3⟩ := L
    have hcap := g_cap h hs N (Nat.le_refl N)
    have c1 := MR_len h2 hcap.1.2
    have c2 := MR_len h3 hcap.2.2
    refine ⟨_, n1, n2, ?_, h1, h2, h3, by omega, by omega⟩
    unfold m_X11_fit
    rw [show (1 : Int32) = nI 1 from rfl, ex0]
    simp only [Option.bind_some]
    rw [ey0]
    simp only [Option.bind_some]
    rw [e]
    rfl
  · rintro ⟨cw, kn, tp, lw, sm, lg, on, tw, rs, fc, mm, x, y⟩ ⟨c, n1, n2, e1, hc, hK, hM1, hM2⟩
    dsimp only at e1 hK hM1 hM2
    subst e1
    rw [eb_X11_fit_13]
    by_cases hcN : N ≤ c
    · right
      rw [if_pos ((nle (by omega) (by omega)).mpr hcN)]
      have : c = N := by omega
      subst this
      exact ⟨_, rfl, n1, n2, hK, hM1, hM2⟩
    · left
      rw [if_neg (fun h => hcN ((nle (by omega) (by omega)).mp h)), t_parentsOf hg (by omega)]
      simp only [Option.bind_some]
      have hse := parN_lt g c 5
      obtain ⟨q, eq, hq1, hqK, m1, m2, hF1, hF2, hm1, hm2⟩ := t_family (i4 := i4) (i5 := i5) (i6 := i6) (fsmall := sm) (flarge := lg) (fone := on) (ftwo := tw) (frest := rs) h hK (show parN g c 5 < 32 from hse) (show c < N by omega) (hs c (by omega))
      have hcap := g_cap h hs c hc
      have k1 := MR_len hM1 hcap.1.2
      have k2 := MR_len hM2 hcap.2.2
      rw [eq]
      simp only [Option.bind_some]
      rw [hq1]
      obtain ⟨a1, v1, ea1, hA1, hv1⟩ := t_multiply (i1 := nI N) (i2 := nI R) (i3 := nI w) (i4 := i4) (i5 := i5) (i6 := i6) (ff := fc) (fm := mm) (ny := 1280) hM1 hF1 (by omega) (by omega) (by omega)
      obtain ⟨a2, v2, ea2, hA2, hv2⟩ := t_multiply (i1 := nI N) (i2 := nI R) (i3 := nI w) (i4 := i4) (i5 := i5) (i6 := i6) (ff := a1.1) (fm := a1.2.1) (ny := 1280) hM2 hF2 (by omega) (by omega) (by omega)
      rw [ea1]
      simp only [Option.bind_some]
      rw [ea2]
      simp only [Option.bind_some, lt]
      rw [nI_1]
      refine ⟨_, rfl, ⟨c + 1, v1, v2, rfl, by omega, hqK, hA1, hA2⟩, ?_⟩
      show N - u3 (nI (c + 1)) < N - u3 (nI c)
      rw [u3n (by omega), u3n (by omega)]; omega
theorem t_sign {i1 i2 i3 : Int32} {tA lA tB lB lf rt : Nat → Int32} {a b c d A B C D : Nat} (hA : MR tA a A) (hB : MR lA b B) (hC : MR tB c C) (hD : MR lB d D) (h1 : a + d < 320) (h2 : b + c < 320) :
    ∃ q, m_X11_sign i1 i2 i3 i4 i5 i6 tA lA tB lB lf rt = some q ∧ (q.1 < 0 ↔ A * D < C * B) ∧ (q.1 = 0 ↔ A * D = C * B) ∧ (0 < q.1 ↔ C * B < A * D) := by
  obtain ⟨r1, n1, e1, hn1, hM1, -⟩ := t_times (nx := 320) (ny := 320) (nt := 320) (ft := lf) hA hD (by omega) (by omega) h1 (by omega) (by omega) (by omega)
  obtain ⟨r2, n2, e2, hn2, hM2, -⟩ := t_times (nx := 320) (ny := 320) (nt := 320) (ft := rt) hC hB (by omega) (by omega) (by omega) (by omega) (by omega) (by omega)
  obtain ⟨z, ez, hz1, hz2, hz3⟩ := t_compareTo (nx := 320) (ny := 320) hM1 hM2 (by omega) (by omega) (by omega) (by omega)
  refine ⟨(z, r1, r2), ?_, hz1, hz2, hz3⟩
  unfold m_X11_sign
  rw [e1]
  simp only [Option.bind_some]
  rw [e2]
  simp only [Option.bind_some]
  rw [ez]
  rfl
end GF
