/-! common: the greatest common divisor -/
theorem MR_len {f : Nat → Int32} {n v m : Nat} (h : MR f n v) (hv : v < BB ^ m) : n ≤ m := by
  rcases Nat.lt_or_ge m n with q | q
  · have q2 := dv_pos (d := md f) (n := n) (by omega) (h.2.2 (by omega))
    have q3 : BB ^ m ≤ BB ^ (n - 1) := Nat.pow_le_pow_right (by decide) (by omega)
    rw [h.2.1] at q2
    omega
  · exact q
theorem MR_lt {f : Nat → Int32} {n v : Nat} (h : MR f n v) : v < BB ^ n := by
  rw [← h.2.1]
  exact dv_lt (fun k _ => md_lt f k)
theorem MR_pos {f : Nat → Int32} {n v : Nat} (h : MR f n v) : 0 < n ↔ 0 < v := by
  constructor
  · intro hn
    have q2 := dv_pos (d := md f) (n := n) hn (h.2.2 hn)
    rw [h.2.1] at q2
    exact Nat.lt_of_lt_of_le (Nat.pow_pos (by decide)) q2
  · intro hv
    rcases Nat.eq_zero_or_pos n with q | q
    · subst q
      have : v = 0 := h.2.1.symm
      omega
    · exact q
theorem MR_cap {f : Nat → Int32} {n v m w : Nat} (h : MR f n v) (hv : v ≤ w) (hw : w < BB ^ m) : n ≤ m := MR_len h (Nat.lt_of_le_of_lt hv hw)
/-- equal rows of words hold the same number -/
theorem MR_congr {f g : Nat → Int32} {n v : Nat} (h : MR f n v) (e : ∀ k, k ≤ n → g k = f k) : MR g n v := by
  refine ⟨(e 0 (Nat.zero_le n)).trans h.1, ?_, fun hn => ?_⟩
  · rw [← h.2.1]
    exact dv_congr (fun k hk => by unfold md; rw [e (k + 1) hk])
  · have := h.2.2 hn
    unfold md at this ⊢
    rw [e (n - 1 + 1) (by omega)]
    exact this
def mv (f : Nat → Int32) : Nat := dv (md f) (u3 (f 0))
theorem mv_of {f : Nat → Int32} {n v : Nat} (h : MR f n v) (hn : n ≤ 100000) : mv f = v := by
  unfold mv
  rw [h.1, u3n hn]
  exact h.2.1
theorem log2_half {x : Nat} (h : 2 ≤ x) : Nat.log2 (x / 2) + 1 = Nat.log2 x := by
  rw [Nat.log2_def x, if_pos h]
theorem log2_mono {x y : Nat} (h : x ≤ y) : Nat.log2 x ≤ Nat.log2 y := by
  by_cases hx : x = 0
  · subst hx; exact Nat.zero_le _
  · rcases Nat.lt_or_ge (Nat.log2 y) (Nat.log2 x) with q | q
    · have h1 := (Nat.log2_lt (n := y) (k := Nat.log2 x) (by omega)).mp q
      have h2 := Nat.log2_self_le hx
      omega
    · exact q
theorem log2_cap {x m : Nat} (h : x < BB ^ m) : Nat.log2 x ≤ 32 * m := by
  by_cases hx : x = 0
  · subst hx; exact Nat.zero_le _
  · have e : BB ^ m = 2 ^ (32 * m) := by rw [Nat.pow_mul]
    rw [e] at h
    exact Nat.le_of_lt ((Nat.log2_lt hx).mpr h)
theorem gcd_odd {j x y : Nat} (hy : y % 2 = 1) : Nat.gcd (2 ^ j * x) y = Nat.gcd x y := by
  refine Nat.Coprime.gcd_mul_left_cancel x (Nat.Coprime.pow_left j ?_)
  show Nat.gcd 2 y = 1
  rw [Nat.gcd_rec, hy]
  decide
/-- a row is halved until it is odd -/
theorem t_odd {f : Nat → Int32} {n x : Nat} (h : MR f n x) (h0 : 0 < x) (hn : n < 320) :
    (∃ f' n' x' j, lp b_X11_common_67 FU f = some f' ∧ MR f' n' x' ∧ n' ≤ n ∧ x = 2 ^ j * x' ∧ x' % 2 = 1) ∧ (∃ f' n' x' j, lp b_X11_common_87 FU f = some f' ∧ MR f' n' x' ∧ n' ≤ n ∧ x = 2 ^ j * x' ∧ x' % 2 = 1) := by
  have hlog : Nat.log2 (mv f) < FU := by
    rw [mv_of h (by omega)]
    exact Nat.lt_of_le_of_lt (log2_cap (MR_lt h)) (FU_big (by omega))
  have step : ∀ (g : Nat → Int32), (∃ n' x' j, MR g n' x' ∧ 0 < x' ∧ n' ≤ n ∧ x = 2 ^ j * x') →
      (∃ n' x' j, MR g n' x' ∧ n' ≤ n ∧ x = 2 ^ j * x' ∧ x' % 2 = 1 ∧ m_X11_isEven 320 g = some 0) ∨ (m_X11_isEven 320 g = some 1 ∧ ∃ g', m_X11_halve 320 g = some g' ∧ (∃ n' x' j, MR g' n' x' ∧ 0 < x' ∧ n' ≤ n ∧ x = 2 ^ j * x') ∧ Nat.log2 (mv g') < Nat.log2 (mv g)) := by
    rintro g ⟨n', x', j, hM, hx', hn', hj⟩
    have hpos := (MR_pos hM).mpr hx'
    have he := t_isEven (nx := 320) hM hpos (by omega) (by omega)
    by_cases hp : x' % 2 = 0
    · right
      rw [if_pos hp] at he
      obtain ⟨g', c, e, hc, hM', -⟩ := t_halve (nx := 320) hM (by omega) (by omega)
      refine ⟨he, g', e, ⟨c, x' / 2, j + 1, hM', by omega, by omega, ?_⟩, ?_⟩
      · rw [hj, Nat.pow_succ, Nat.mul_assoc]
        congr 1
        omega
      · rw [mv_of hM' (by omega), mv_of hM (by omega)]
        have := log2_half (x := x') (by omega)
        omega
    · left
      rw [if_neg hp] at he
      exact ⟨n', x', j, hM, hn', hj, by omega, he⟩
  have init : ∃ n' x' j, MR f n' x' ∧ 0 < x' ∧ n' ≤ n ∧ x = 2 ^ j * x' := ⟨n, x, 0, h, h0, Nat.le_refl n, by simp⟩
  constructor
  · obtain ⟨q, e, hq⟩ := lp_inv (body := b_X11_common_67) (fun g => ∃ n' x' j, MR g n' x' ∧ 0 < x' ∧ n' ≤ n ∧ x = 2 ^ j * x') (fun g => ∃ n' x' j, MR g n' x' ∧ n' ≤ n ∧ x = 2 ^ j * x' ∧ x' % 2 = 1) (fun g => Nat.log2 (mv g)) (by
      intro g hg
      rw [eb_X11_common_67]
      rcases step g hg with ⟨n', x', j, h1, h2, h3, h4, he⟩ | ⟨he, g', e, h1, h2⟩
      · right
        exact ⟨g, by rw [he]; rfl, n', x', j, h1, h2, h3, h4⟩
      · left
        refine ⟨g', ?_, h1, h2⟩
        rw [he]
        simp only [Option.bind_some]
        rw [if_neg (by decide), e]; rfl) FU f init hlog
    obtain ⟨n', x', j, h1, h2, h3, h4⟩ := hq
    exact ⟨q, n', x', j, e, h1, h2, h3, h4⟩
  · obtain ⟨q, e, hq⟩ := lp_inv (body := b_X11_common_87) (fun g => ∃ n' x' j, MR g n' x' ∧ 0 < x' ∧ n' ≤ n ∧ x = 2 ^ j * x') (fun g => ∃ n' x' j, MR g n' x' ∧ n' ≤ n ∧ x = 2 ^ j * x' ∧ x' % 2 = 1) (fun g => Nat.log2 (mv g)) (by
      intro g hg
      rw [eb_X11_common_87]
      rcases step g hg with ⟨n', x', j, h1, h2, h3, h4, he⟩ | ⟨he, g', e, h1, h2⟩
      · right
        exact ⟨g, by rw [he]; rfl, n', x', j, h1, h2, h3, h4⟩
      · left
        refine ⟨g', ?_, h1, h2⟩
        rw [he]
        simp only [Option.bind_some]
        rw [if_neg (by decide), e]; rfl) FU f init hlog
    obtain ⟨n', x', j, h1, h2, h3, h4⟩ := hq
    exact ⟨q, n', x', j, e, h1, h2, h3, h4⟩
theorem odd_log {x x' j : Nat} (hx : x = 2 ^ j * x') (ho : x' % 2 = 1) : Nat.log2 x' ≤ Nat.log2 x ∧ (x % 2 = 0 → Nat.log2 x' + 1 ≤ Nat.log2 x) ∧ x' ≤ x := by
  have h1 : 1 ≤ 2 ^ j := Nat.one_le_two_pow
  have hle : x' ≤ x := by
    rw [hx]
    exact Nat.le_mul_of_pos_left _ h1
  refine ⟨log2_mono hle, fun he => ?_, hle⟩
  obtain ⟨i, rfl⟩ : ∃ i, j = i + 1 := by
    rcases j with _ | i
    · rw [Nat.pow_zero, Nat.one_mul] at hx; omega
    · exact ⟨i, rfl⟩
  have h2 : x / 2 = 2 ^ i * x' := by
    rw [hx, Nat.pow_succ, Nat.mul_comm (2 ^ i) 2, Nat.mul_assoc]
    omega
  have h3 : 1 ≤ 2 ^ i := Nat.one_le_two_pow
  have h4 : x' ≤ x / 2 := by
    rw [h2]
    exact Nat.le_mul_of_pos_left _ h3
  have h5 := log2_half (x := x) (by omega)
  have h6 := log2_mono h4
  omega
