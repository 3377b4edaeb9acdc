/-! Powers.write; the FITS of names and graphs out of the class -/
theorem lg_cmp_le0 {a b : Nat} (ha : a < 2 ^ 62) (hb : b < 2 ^ 62) : lg_cmp (lN a) (lN b) ≤ 0 ↔ a ≤ b := by
  obtain ⟨h1, h2⟩ := lg_cmp_eq0 ha hb
  rcases Nat.lt_trichotomy a b with q | q | q
  · refine ⟨fun _ => by omega, fun _ => ?_⟩
    have : ¬ 0 ≤ lg_cmp (lN a) (lN b) := fun z => by have := h2.mp z; omega
    exact Int32.le_of_lt (Int32.not_le.mp this)
  · exact ⟨fun _ => by omega, fun _ => by rw [h1.mpr q]; exact Int32.le_refl _⟩
  · refine ⟨fun z => ?_, fun z => by omega⟩
    have := h2.mpr (by omega)
    have e := Int32.le_antisymm z this
    have := h1.mp e
    omega
def sE (σ : Bool) (e : Nat → Int) : Nat → Int := if σ = true then e else ngv e
theorem ppw_le {e : Nat → Int} (h : two e) {a b : Nat} (hab : a ≤ b) : ppw e a ≤ ppw e b := by
  induction b with
  | zero => rw [Nat.le_zero.mp hab]; exact Nat.le_refl _
  | succ b ih =>
    by_cases z : a = b + 1
    · rw [z]; exact Nat.le_refl _
    · refine Nat.le_trans (ih (by omega)) ?_
      rw [ppw]
      refine Nat.le_mul_of_pos_right _ ?_
      by_cases hn : e b = 0
      · rw [hn]; exact Nat.one_pos
      · exact Nat.pow_pos (by have := h b hn; omega)
theorem ppw_ge {e : Nat → Int} (h : two e) {k n : Nat} (hk : k < n) : k ^ (e k).toNat ≤ ppw e n := by
  refine Nat.le_trans ?_ (ppw_le h (show k + 1 ≤ n from hk))
  rw [ppw]
  exact Nat.le_mul_of_pos_left _ (ppw_pos h k)
/-- exponents are small where the number is -/
theorem exp_lt {e : Nat → Int} (h : two e) {k n m : Nat} (hk : k < n) (hc : ppw e n < BB ^ m) : (e k).toNat < 32 * m := by
  by_cases hz : e k = 0
  · rw [hz]
    rcases Nat.eq_zero_or_pos m with z | z
    · exfalso
      rw [z, Nat.pow_zero] at hc
      have := ppw_pos h n
      omega
    · show 0 < 32 * m; omega
  · have h2 := h k hz
    have h1 := ppw_ge h hk
    have h3 : 2 ^ (e k).toNat ≤ k ^ (e k).toNat := Nat.pow_le_pow_left h2 _
    rw [show BB = 2 ^ 32 from rfl, ← Nat.pow_mul] at hc
    exact (Nat.pow_lt_pow_iff_right (by decide)).mp (show 2 ^ (e k).toNat < 2 ^ (32 * m) by omega)
section WR
variable {e : Nat → Int} {f : Nat → Int32} {l nw : Nat}
theorem t_write_in {es : Nat → Int} {p : Nat} (hp : 2 ≤ p) (hp2 : p ≤ 3672) (hes : es p < 100000 ∧ -100000 < es p) (hn : nw ≤ 50000) {b X c : Nat} {g : Nat → Int64} (hB : BR nw g c X) (hb1 : 1 ≤ b) (hb2 : b < BB) (hcap : X * b * p ^ (es p).toNat < BB ^ nw) :
    ∃ q b' X' c', lp (b_X5_write_43 nw (nI p) (Int32.ofInt (es p))) FU (lN b, 0, nI c, g) = some q ∧ q.1 = lN b' ∧ q.2.2.1 = nI c' ∧ BR nw q.2.2.2 c' X' ∧ 1 ≤ b' ∧ b' < BB ∧ X' * b' = X * b * p ^ (es p).toNat := by
  have hti : (Int32.ofInt (es p)).toInt = es p := Int32.toInt_ofInt_of_le (by omega) (by omega)
  have L := lp_inv (body := b_X5_write_43 nw (nI p) (Int32.ofInt (es p))) (fun s => ∃ j b' X' c', s.2.1 = nI j ∧ j ≤ (es p).toNat ∧ s.1 = lN b' ∧ s.2.2.1 = nI c' ∧ BR nw s.2.2.2 c' X' ∧ 1 ≤ b' ∧ b' < BB ∧ X' * b' = X * b * p ^ j) (fun s => ∃ b' X' c', s.1 = lN b' ∧ s.2.2.1 = nI c' ∧ BR nw s.2.2.2 c' X' ∧ 1 ≤ b' ∧ b' < BB ∧ X' * b' = X * b * p ^ (es p).toNat) (fun s => (es p).toNat - u3 s.2.1) ?_ FU (lN b, 0, nI c, g) ⟨0, b, X, c, rfl, Nat.zero_le _, rfl, rfl, hB, hb1, hb2, by rw [Nat.pow_zero, Nat.mul_one]⟩ (Nat.lt_of_le_of_lt (Nat.sub_le _ _) (FU_big (by omega)))
  · obtain ⟨q, eq, b', X', c', h⟩ := L
    exact ⟨q, b', X', c', eq, h⟩
  · rintro ⟨s1, s2, s3, s4⟩ ⟨j, b', X', c', e1, hj, e2, e3, hB', h1, h2, h3⟩
    dsimp only at e1 e2 e3 hB'
    subst e1 e2 e3
    rw [eb_X5_write_43]
    have hcmp : Int32.ofInt (es p) ≤ nI j ↔ (es p).toNat ≤ j := by
      rw [Int32.le_iff_toInt_le, hti, nI_toInt (by omega)]
      omega
    by_cases hd : (es p).toNat ≤ j
    · right
      rw [if_pos (hcmp.mpr hd)]
      have : j = (es p).toNat := by omega
      subst this
      exact ⟨_, rfl, b', X', c', rfl, rfl, hB', h1, h2, h3⟩
    · left
      rw [if_neg (fun z => hd (hcmp.mp z)), nI_l (by omega), lN_mul]
      have hbp : b' * p < 2 ^ 62 := by
        have : b' * p ≤ BB * 3672 := Nat.mul_le_mul (by omega) hp2
        simp only [BB] at this
        omega
      have hst : X * b * p ^ (j + 1) = X * b * p ^ j * p := by rw [Nat.pow_succ]; ac_rfl
      have hle : X * b * p ^ j ≤ X * b * p ^ (es p).toNat := Nat.mul_le_mul_left _ (Nat.pow_le_pow_right (by omega) hj)
      have hmu : (es p).toNat - u3 (nI (j + 1)) < (es p).toNat - u3 (nI j) := by
        rw [u3n (by omega), u3n (by omega)]
        omega
      by_cases hm : b' * p ≤ 4294967295
      · rw [show (4294967295 : Int64) = lN 4294967295 from rfl, if_pos ((lg_cmp_le0 hbp (by decide)).mpr hm)]
        simp only [lt]
        rw [nI_1]
        exact ⟨_, rfl, ⟨j + 1, b' * p, X', c', rfl, by omega, rfl, rfl, hB', Nat.mul_pos h1 (by omega), by simp only [BB]; omega, by rw [← Nat.mul_assoc, h3, hst]⟩, hmu⟩
      · rw [show (4294967295 : Int64) = lN 4294967295 from rfl, if_neg (fun z => hm ((lg_cmp_le0 hbp (by decide)).mp z))]
        obtain ⟨g', c2, m1, m2⟩ := s_timesSmall hB' h2 h1 (by rw [h3]; omega) hn
        rw [m1]
        simp only [Option.bind_some, lt]
        rw [nI_1, show (1 : Int64) = lN 1 from rfl, lN_mul, Nat.one_mul]
        exact ⟨_, rfl, ⟨j + 1, p, X' * b', c2, rfl, by omega, rfl, rfl, m2, by omega, by simp only [BB]; omega, by rw [h3, hst]⟩, hmu⟩
theorem t_write (σ : Bool) (h : PE e f l) (hb : ∀ k, e k < 100000 ∧ -100000 < e k) (hcap : ppw (sE σ e) 3673 < BB ^ nw) (h1 : 1 ≤ nw) (hn : nw ≤ 50000) {iu : Int32} {fw : Nat → Int64} :
    ∃ c g, m_X5_write (nI l) 3673 f iu nw fw (Int32.ofInt (sg σ)) = some (nI c, g) ∧ BR nw g c (ppw (sE σ e) 3673) := by
  have hl := h.1
  have htw : two (sE σ e) := by
    unfold sE
    split
    · exact h.two
    · exact two_ng h.two
  have hes : ∀ k, sE σ e k = sg σ * e k := by
    intro k
    unfold sE sg ngv
    cases σ <;> simp
  have hz : ∀ k, l < k → sE σ e k = 0 := by
    intro k hk
    rw [hes]
    have : e k = 0 := by
      by_cases z : e k = 0
      · exact z
      · have := (h.2.2 k z).2; omega
    rw [this, Int.mul_zero]
  have hsb : ∀ k, sE σ e k < 100000 ∧ -100000 < sE σ e k := by
    intro k
    have := hb k
    unfold sE
    split
    · exact this
    · show - e k < 100000 ∧ -100000 < - e k
      omega
  obtain ⟨g0, b1, b2⟩ := s_become (n := nw) (f := fw) (s := 1) (iu := iu) (by omega) h1 hn
  have L := lp_inv (body := b_X5_write_10 (nI l) 3673 f nw (Int32.ofInt (sg σ))) (fun s => ∃ k b X c, s.2.1 = nI k ∧ 2 ≤ k ∧ k ≤ 3673 ∧ s.1 = lN b ∧ s.2.2.1 = nI c ∧ BR nw s.2.2.2 c X ∧ 1 ≤ b ∧ b < BB ∧ X * b = ppw (sE σ e) k) (fun s => ∃ b X c, s.1 = lN b ∧ s.2.2.1 = nI c ∧ BR nw s.2.2.2 c X ∧ 1 ≤ b ∧ b < BB ∧ X * b = ppw (sE σ e) 3673) (fun s => 3673 - u3 s.2.1) ?_ FU (1, 2, nI 1, g0) ⟨2, 1, 1, 1, rfl, by omega, by omega, rfl, rfl, b2, by omega, by decide, ?_⟩ (Nat.lt_of_le_of_lt (Nat.sub_le _ _) (FU_big (by omega)))
  · obtain ⟨q, eq, b, X, c, q1, q2, q3, q4, q5, q6⟩ := L
    obtain ⟨g', c2, m1, m2⟩ := s_timesSmall q3 q5 q4 (by rw [q6]; exact hcap) hn
    refine ⟨c2, g', ?_, by rw [← q6]; exact m2⟩
    have b1' : m_X1_become iu nw fw 1 = some (nI 1, g0) := b1
    rw [em_X5_write, b1']
    simp only [Option.bind_some]
    rw [eq]
    simp only [Option.bind_some]
    rw [q1, q2, m1]
    rfl
  · rintro ⟨s1, s2, s3, s4⟩ ⟨k, b, X, c, e1, hk2, hk, e2, e3, hB, hb1, hb2, hXb⟩
    dsimp only at e1 e2 e3 hB
    subst e1 e2 e3
    rw [eb_X5_write_10]
    by_cases hkl : l < k
    · right
      rw [if_pos ((nlt (by omega) (by omega)).mpr hkl)]
      refine ⟨_, rfl, b, X, c, rfl, rfl, hB, hb1, hb2, ?_⟩
      rw [hXb]
      have key : ∀ m, k ≤ m → ppw (sE σ e) m = ppw (sE σ e) k := by
        intro m
        induction m with
        | zero => intro hm; omega
        | succ m ih =>
          intro hm
          by_cases z : k = m + 1
          · rw [z]
          · rw [ppw, hz m (by omega), ih (by omega)]
            show _ * m ^ 0 = _
            rw [Nat.pow_zero, Nat.mul_one]
      exact (key 3673 hk).symm
    · left
      rw [if_neg (fun z => hkl ((nlt (by omega) (by omega)).mp z)), if_neg (fun z => by have := (nle (by omega) (by omega)).mp z; omega), if_pos (ixn (by omega) (by omega)), cl (by omega)]
      simp only [lt]
      rw [h.2.1 k (by omega), ← Int32.ofInt_mul, ← hes]
      have hc2 : X * b * k ^ (sE σ e k).toNat < BB ^ nw := by
        rw [hXb]
        have := ppw_le htw (show k + 1 ≤ 3673 by omega)
        rw [ppw] at this
        omega
      obtain ⟨q, b', X', c', q1, q2, q3, q4, q5, q6, q7⟩ := t_write_in hk2 (by omega) (hsb k) hn hB hb1 hb2 hc2
      rw [q1]
      simp only [Option.bind_some]
      rw [nI_1]
      refine ⟨_, rfl, ⟨k + 1, b', X', c', rfl, by omega, by omega, q2, q3, q4, q5, q6, by rw [q7, hXb, ppw]⟩, ?_⟩
      show 3673 - u3 (nI (k + 1)) < 3673 - u3 (nI k)
      rw [u3n (by omega), u3n (by omega)]
      omega
  · show 1 * 1 = ppw (sE σ e) 2
    have z0 : sE σ e 0 = 0 := by
      by_cases z : sE σ e 0 = 0
      · exact z
      · have := htw 0 z; omega
    have z1 : sE σ e 1 = 0 := by
      by_cases z : sE σ e 1 = 0
      · exact z
      · have := htw 1 z; omega
    rw [ppw, ppw, ppw, z0, z1]
    rfl
end WR
