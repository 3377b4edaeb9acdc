/-! family: the FIT of a name with a set, in least terms, kept -/
def numT (cell : Nat → Nat → Nat) (vals : Nat → Nat) (N R w nm se : Nat) : Nat := prF (facT cell vals N w se nm) R
def numL (cell : Nat → Nat → Nat) (vals : Nat → Nat) (N R w nm se : Nat) : Nat := prF (facL cell vals N w se nm) R
def fitT (cell : Nat → Nat → Nat) (vals : Nat → Nat) (N R w nm se : Nat) : Nat := numT cell vals N R w nm se / Nat.gcd (numT cell vals N R w nm se) (numL cell vals N R w nm se)
def fitL (cell : Nat → Nat → Nat) (vals : Nat → Nat) (N R w nm se : Nat) : Nat := numL cell vals N R w nm se / Nat.gcd (numT cell vals N R w nm se) (numL cell vals N R w nm se)
def MF (cell : Nat → Nat → Nat) (vals : Nat → Nat) (N R w nm se : Nat) (ftops flows : Nat → Int32) : Prop := ∃ n1 n2, MR (sh ftops ((32 * nm + se) * 8)) n1 (fitT cell vals N R w nm se) ∧ MR (sh flows ((32 * nm + se) * 8)) n2 (fitL cell vals N R w nm se) ∧ n1 ≤ 6 ∧ n2 ≤ 6
/-- what is kept is right -/
def MK (cell : Nat → Nat → Nat) (vals : Nat → Nat) (N R w : Nat) (fk ftops flows : Nat → Int32) : Prop := ∀ nm se, nm < N → se < 32 → se / 2 ^ nm % 2 = 0 → fk (32 * nm + se) = 0 ∨ MF cell vals N R w nm se ftops flows
section FM
variable {N R w : Nat} {vals : Nat → Nat} {cell : Nat → Nat → Nat} {fvalues fcells : Nat → Int32} {i4 i5 i6 : Int32} {se nm : Nat} {fk ftops flows fsmall flarge fone ftwo frest : Nat → Int32}
theorem num_pos (h : MS N R w vals cell fvalues fcells) (hnm : nm < N) (hb : se / 2 ^ nm % 2 = 0) : (0 < numT cell vals N R w nm se ∧ numT cell vals N R w nm se < BB ^ 6) ∧ 0 < numL cell vals N R w nm se ∧ numL cell vals N R w nm se < BB ^ 6 :=
  ⟨prF_le h.2.1 (fun r hr => (fac_ok2 h hnm hb hr).1) R (Nat.le_refl R), prF_le h.2.1 (fun r hr => (fac_ok2 h hnm hb hr).2) R (Nat.le_refl R)⟩
theorem fit_pos (h : MS N R w vals cell fvalues fcells) (hnm : nm < N) (hb : se / 2 ^ nm % 2 = 0) : (0 < fitT cell vals N R w nm se ∧ fitT cell vals N R w nm se < BB ^ 6) ∧ 0 < fitL cell vals N R w nm se ∧ fitL cell vals N R w nm se < BB ^ 6 := by
  obtain ⟨⟨a1, a2⟩, b1, b2⟩ := num_pos (se := se) h hnm hb
  have g0 := Nat.gcd_pos_of_pos_left (numL cell vals N R w nm se) a1
  refine ⟨⟨Nat.div_pos (Nat.gcd_le_left _ a1) g0, Nat.lt_of_le_of_lt (Nat.div_le_self _ _) a2⟩, Nat.div_pos (Nat.gcd_le_right _ b1) g0, Nat.lt_of_le_of_lt (Nat.div_le_self _ _) b2⟩
theorem t_family (h : MS N R w vals cell fvalues fcells) (hk : MK cell vals N R w fk ftops flows) (hse : se < 32) (hnm : nm < N) (hb : se / 2 ^ nm % 2 = 0) :
    ∃ q, m_X11_family (nI N) (nI R) (nI w) i4 i5 i6 fvalues fcells fk ftops flows fsmall flarge fone ftwo frest (nI nm) (nI se) = some q ∧ q.1 = nI ((32 * nm + se) * 8) ∧ MK cell vals N R w q.2.1 q.2.2.1 q.2.2.2.1 ∧ MF cell vals N R w nm se q.2.2.1 q.2.2.2.1 := by
  have hN := h.1
  have e32 : (32 : Int32) * nI nm + nI se = nI (32 * nm + se) := by rw [show (32 : Int32) = nI 32 from rfl, pk_mul, nI_add]
  unfold m_X11_family
  rw [t_place]
  simp only [Option.bind_some]
  rw [e32, if_pos (ixn (by omega) (by omega)), cl (by omega)]
  by_cases hkn : fk (32 * nm + se) = 0
  · rw [if_pos hkn]
    obtain ⟨q, n1, n2, eq, hM1, hM2, hn1, hn2, hout⟩ := t_work (i4 := i4) (i5 := i5) (i6 := i6) (ftops := ftops) (flows := flows) h hse hnm hb
    obtain ⟨⟨p1, p2⟩, p3, p4⟩ := num_pos (se := se) h hnm hb
    generalize hat : (32 * nm + se) * 8 = p at *
    rw [eq]
    simp only [Option.bind_some]
    obtain ⟨s1, es1, hs1, -⟩ := t_load (nx := 1280) (fx := q.1) (ny := 320) (fy := fsmall) (n := n1) (p := p) hM1.1 (by omega) (by omega) (by omega) (by omega)
    obtain ⟨l1, el1, hl1, -⟩ := t_load (nx := 1280) (fx := q.2) (ny := 320) (fy := flarge) (n := n2) (p := p) hM2.1 (by omega) (by omega) (by omega) (by omega)
    have hS : MR s1 n1 (numT cell vals N R w nm se) := MR_congr hM1 hs1
    have hL : MR l1 n2 (numL cell vals N R w nm se) := MR_congr hM2 hl1
    obtain ⟨g, ng, eg, hG, hng⟩ := t_common (i1 := nI N) (i2 := nI R) (i3 := nI w) (i4 := i4) (i5 := i5) (i6 := i6) (fone := fone) (ftwo := ftwo) (frest := frest) (nx := 320) (ny := 320) hS hL p1 p3 (by omega) (by omega) (by omega) (by omega) (by omega) (by omega)
    have hg0 := Nat.gcd_pos_of_pos_left (numL cell vals N R w nm se) p1
    obtain ⟨d1, m1, ed1, hD1, hm1, -⟩ := t_divide (i1 := nI N) (i2 := nI R) (i3 := nI w) (i4 := i4) (i5 := i5) (i6 := i6) (frest := g.2.2) (nx := 320) hG hg0 (by omega) hS (by omega) (by omega)
    obtain ⟨d2, m2, ed2, hD2, hm2, -⟩ := t_divide (i1 := nI N) (i2 := nI R) (i3 := nI w) (i4 := i4) (i5 := i5) (i6 := i6) (frest := d1.1) (nx := 320) hG hg0 (by omega) hL (by omega) (by omega)
    obtain ⟨t1, et1, ht1, ht1o⟩ := t_store (nx := 320) (fx := d1.2) (ny := 1280) (fy := q.1) (n := m1) (p := p) hD1.1 (by omega) (by omega) (by omega) (by omega)
    obtain ⟨t2, et2, ht2, ht2o⟩ := t_store (nx := 320) (fx := d2.2) (ny := 1280) (fy := q.2) (n := m2) (p := p) hD2.1 (by omega) (by omega) (by omega) (by omega)
    have hMF : MF cell vals N R w nm se t1 t2 := by
      refine ⟨m1, m2, ?_, ?_, by omega, by omega⟩
      · rw [hat]; exact MR_congr hD1 ht1
      · rw [hat]; exact MR_congr hD2 ht2
    rw [es1]
    simp only [Option.bind_some]
    rw [el1]
    simp only [Option.bind_some]
    rw [eg]
    simp only [Option.bind_some]
    rw [ed1]
    simp only [Option.bind_some]
    rw [et1]
    simp only [Option.bind_some]
    rw [ed2]
    simp only [Option.bind_some]
    rw [et2]
    simp only [Option.bind_some, lt]
    rw [if_pos (ixn (by omega) (by omega))]
    refine ⟨_, rfl, rfl, ?_, hMF⟩
    show MK cell vals N R w (upd fk (32 * nm + se) 1) t1 t2
    intro nm' se' h1 h2 h3
    by_cases hsame : 32 * nm' + se' = 32 * nm + se
    · right
      have e1 : nm' = nm := by omega
      have e2 : se' = se := by omega
      subst e1
      subst e2
      exact hMF
    · rcases hk nm' se' h1 h2 h3 with q0 | ⟨k1, k2, hk1, hk2, hk3, hk4⟩
      · left
        rw [pk_un hsame]; exact q0
      · right
        have far : ∀ k, k ≤ 6 → (32 * nm' + se') * 8 + k < p ∨ p + 7 < (32 * nm' + se') * 8 + k := by
          intro k hk
          omega
        refine ⟨k1, k2, MR_congr hk1 (fun k hk => ?_), MR_congr hk2 (fun k hk => ?_), hk3, hk4⟩
        · show t1 ((32 * nm' + se') * 8 + k) = ftops ((32 * nm' + se') * 8 + k)
          have hf := far k (by omega)
          rw [ht1o _ (by omega)]
          exact (hout _ hf).1
        · show t2 ((32 * nm' + se') * 8 + k) = flows ((32 * nm' + se') * 8 + k)
          have hf := far k (by omega)
          rw [ht2o _ (by omega)]
          exact (hout _ hf).2
  · rw [if_neg hkn]
    refine ⟨_, rfl, rfl, hk, ?_⟩
    rcases hk nm se hnm hse hb with q | q
    · exact absurd q hkn
    · exact q
end FM
