/-! test: class and reference answer alike -/
theorem isPart_e (x : Int32) : m_X11_isPart x = some (if x = 0 ∨ x = 1 then 1 else 0) ∧ m_X10_isPart x = some (if x = 0 ∨ x = 1 then 1 else 0) := by
  by_cases h0 : x = 0
  · subst h0; exact ⟨by decide, by decide⟩
  · by_cases h1 : x = 1
    · subst h1; exact ⟨by decide, by decide⟩
    · rw [if_neg (fun z => z.elim h0 h1), em_X11_isPart, em_X10_isPart]
      simp [h0, h1, lt, bz]
theorem isName10 {N : Nat} {i2 i3 i4 x : Int32} (hN : N ≤ 5) : m_X10_isName (nI N) i2 i3 i4 x = some (if u3 x < N then 1 else 0) := t_isName (i2 := i2) (i3 := i3) (i4 := i4) (i5 := 0) (i6 := 0) hN
theorem isPair10 {N : Nat} {i2 i3 i4 x y : Int32} (hN : N ≤ 5) : m_X10_isPair (nI N) i2 i3 i4 x y = some (if u3 x < N ∧ u3 y < N ∧ x ≠ y then 1 else 0) := by
  rw [em_X10_isPair, isName10 hN]
  simp only [Option.bind_some]
  by_cases h1 : u3 x < N
  · rw [if_pos h1, if_neg (show ¬ (1 : Int32) = 0 by decide), isName10 hN]
    simp only [Option.bind_some]
    by_cases h2 : u3 y < N
    · rw [if_pos h2, if_neg (show ¬ (1 : Int32) = 0 by decide)]
      by_cases h3 : x = y
      · rw [if_pos h3, if_neg (fun z => z.2.2 h3)]; rfl
      · rw [if_neg h3, if_pos ⟨h1, h2, h3⟩]; rfl
    · rw [if_neg h2, if_pos rfl, if_neg (fun z => h2 z.2.1)]; rfl
  · rw [if_neg h1, if_pos rfl, if_neg (fun z => h1 z.1)]
theorem isPairT {N : Nat} {i2 i3 i4 x y : Int32} (hN : N ≤ 5) (h : u3 x < N ∧ u3 y < N ∧ x ≠ y) : m_X10_isPair (nI N) i2 i3 i4 x y = some 1 := by rw [isPair10 hN, if_pos h]
theorem isPairF {N : Nat} {i2 i3 i4 x y : Int32} (hN : N ≤ 5) (h : ¬ (u3 x < N ∧ u3 y < N ∧ x ≠ y)) : m_X10_isPair (nI N) i2 i3 i4 x y = some 0 := by rw [isPair10 hN, if_neg h]
section TT
variable {N R w : Nat} {vals : Nat → Nat} {cell : Nat → Nat → Nat} {fvalues fcells fsv fsc : Nat → Int32} {ms i4 i5 i6 : Int32}
theorem isValue10 (h : CS N R w vals cell fsv fsc) {i2 i3 v : Int32} {p : Nat} (hp : p < N) : m_X10_isValue (nI N) i2 i3 ms 5 fsv (nI p) v = some (if ¬ v < 0 ∧ v < nI (vals p) then 1 else 0) := by
  rw [em_X10_isValue]
  by_cases h0 : v < 0
  · rw [if_pos h0, if_neg (fun z => z.1 h0)]
  · rw [if_neg h0, s_valuesOf h hp]
    simp only [Option.bind_some, lt]
    by_cases h1 : nI (vals p) ≤ v
    · rw [if_pos h1, if_neg (show ¬ (¬ v < 0 ∧ v < nI (vals p)) from fun z => Int32.not_lt.mpr h1 z.2)]
      rfl
    · rw [if_neg h1, if_pos (show ¬ v < 0 ∧ v < nI (vals p) from ⟨h0, Int32.not_le.mp h1⟩)]
      rfl
theorem ix9 : ix (0 : Int32) 9 = true ∧ ix (1 : Int32) 9 = true ∧ ix (2 : Int32) 9 = true ∧ ix (3 : Int32) 9 = true ∧ ix (4 : Int32) 9 = true ∧ ix (5 : Int32) 9 = true ∧ ix (6 : Int32) 9 = true ∧ ix (7 : Int32) 9 = true ∧ ix (8 : Int32) 9 = true := by decide
/-- the answer, of rows that count -/
def tsA (cell : Nat → Nat → Nat) (R a b : Nat) (p2 v part : Int32) : Int64 := if part = 0 then S6 (aF cell (psF cell p2 v) a 0 R) (aF cell (psF cell p2 v) a 1 R) (aF cell (psF cell p2 v) b 0 R) (aF cell (psF cell p2 v) b 1 R) (aF cell (psF cell p2 v) b 2 R) ((dl (cF cell (psF cell p2 v) a b 0 0 R) (cF cell (psF cell p2 v) a b 0 1 R) (cF cell (psF cell p2 v) a b 0 2 R) * dl (cF cell (psF cell p2 v) a b 1 0 R) (cF cell (psF cell p2 v) a b 1 1 R) (cF cell (psF cell p2 v) a b 1 2 R)) * dl (cF cell (psF cell p2 v) a b 2 0 R) (cF cell (psF cell p2 v) a b 2 1 R) (cF cell (psF cell p2 v) a b 2 2 R)) else dl (aF cell (psF cell p2 v) b 0 R) (aF cell (psF cell p2 v) b 1 R) (aF cell (psF cell p2 v) b 2 R)
theorem aF_tot (hc3 : ∀ r p, r < R → p < N → cell r p < 3) {a b : Nat} (ha : a < N) (hb : b < N) (hR : R ≤ 16) (ps : Nat → Bool) : aF cell ps a 0 R + aF cell ps a 1 R + aF cell ps a 2 R ≤ 16 ∧ aF cell ps b 0 R + aF cell ps b 1 R + aF cell ps b 2 R ≤ 16 ∧ ∀ x, x < 3 → cF cell ps a b x 0 R + cF cell ps a b x 1 R + cF cell ps a b x 2 R ≤ 16 := by
  have h0 := cF_le (cell := cell) (ps := ps) (a := a) (b := b) R
  have r0 := aF_row (cell := cell) (ps := ps) (a := a) (b := b) (x := 0) R (fun r hr => hc3 r b hr hb)
  have r1 := aF_row (cell := cell) (ps := ps) (a := a) (b := b) (x := 1) R (fun r hr => hc3 r b hr hb)
  have r2 := aF_row (cell := cell) (ps := ps) (a := a) (b := b) (x := 2) R (fun r hr => hc3 r b hr hb)
  have q0 := aF_col (cell := cell) (ps := ps) (a := a) (b := b) (y := 0) R (fun r hr => hc3 r a hr ha)
  have q1 := aF_col (cell := cell) (ps := ps) (a := a) (b := b) (y := 1) R (fun r hr => hc3 r a hr ha)
  have q2 := aF_col (cell := cell) (ps := ps) (a := a) (b := b) (y := 2) R (fun r hr => hc3 r a hr ha)
  refine ⟨by omega, by omega, fun x hx => ?_⟩
  match x, hx with
  | 0, _ => omega
  | 1, _ => omega
  | 2, _ => omega
theorem r_body (h : MS N R w vals cell fvalues fcells) {a b : Nat} (ha : a < N) (hb : b < N) {p2 v part : Int32} (hp : p2 = -1 ∨ u3 p2 < N) (hpt : part = 0 ∨ part = 1) {f1 f2 f3 : Nat → Int32} {bd : QT → Int64 → Int64 × Int32 → Option ((Int64 × Int32) ⊕ (Int64 × Int32))} (hbd : bd = b_X11_test_327) :
    ∃ g1 g2 g3, ((lp (b_X11_test_79) FU (0, f1, f2, f3)).bind (fun q_12 : Int32 × (Nat → Int32) × (Nat → Int32) × (Nat → Int32) => (lp (b_X11_test_123 (nI R) fcells (nI a) (nI b) p2 v) FU (0, q_12.2.1, q_12.2.2.1, q_12.2.2.2)).bind (fun q_25 : Int32 × (Nat → Int32) × (Nat → Int32) × (Nat → Int32) => if part = (1 : Int32) then if ix (0 : Int32) 3 = true then if ix (1 : Int32) 3 = true then if ix (2 : Int32) 3 = true then (m_X11_ways (q_25.2.2.1 (0 : Int32).toNatClampNeg) (q_25.2.2.1 (1 : Int32).toNatClampNeg) (q_25.2.2.1 (2 : Int32).toNatClampNeg)).bind (fun r_63 : Int64 => some (r_63, q_25.2.1, q_25.2.2.1, q_25.2.2.2)) else none else none else none else if ix (0 : Int32) 9 = true then if ix (1 : Int32) 9 = true then if ix (2 : Int32) 9 = true then (m_X11_ways (q_25.2.2.2 (0 : Int32).toNatClampNeg) (q_25.2.2.2 (1 : Int32).toNatClampNeg) (q_25.2.2.2 (2 : Int32).toNatClampNeg)).bind (fun r_26 : Int64 => if ix (3 : Int32) 9 = true then if ix (4 : Int32) 9 = true then if ix (5 : Int32) 9 = true then (m_X11_ways (q_25.2.2.2 (3 : Int32).toNatClampNeg) (q_25.2.2.2 (4 : Int32).toNatClampNeg) (q_25.2.2.2 (5 : Int32).toNatClampNeg)).bind (fun r_27 : Int64 => if ix (6 : Int32) 9 = true then if ix (7 : Int32) 9 = true then if ix (8 : Int32) 9 = true then (m_X11_ways (q_25.2.2.2 (6 : Int32).toNatClampNeg) (q_25.2.2.2 (7 : Int32).toNatClampNeg) (q_25.2.2.2 (8 : Int32).toNatClampNeg)).bind (fun r_28 : Int64 => lt ((r_26 * r_27) * r_28 : Int64) (fun x6_29 : Int64 => (lp (bd q_25 x6_29) FU (0, 0)).bind (fun q_61 : Int64 × Int32 => some (q_61.1, q_25.2.1, q_25.2.2.1, q_25.2.2.2)))) else none else none else none) else none else none else none) else none else none else none)) : Option (Int64 × (Nat → Int32) × (Nat → Int32) × (Nat → Int32))) = some (tsA cell R a b p2 v part, g1, g2, g3) := by
  subst hbd
  obtain ⟨i1, g1, g2, g3, e1, z1, z2⟩ := t_cz (f1 := f1) (f2 := f2) (f3 := f3)
  obtain ⟨i2, k1, k2, k3, e2, h1, h2⟩ := t_cr (v := v) h ha hb hp z1 z2
  obtain ⟨t1, t2, t3⟩ := aF_tot (ps := psF cell p2 v) (fun r p hr hp => (h.2.2.2.2.2 r p hr hp).2) ha hb h.2.1
  refine ⟨k1, k2, k3, ?_⟩
  rw [e1]
  simp only [Option.bind_some]
  rw [e2]
  simp only [Option.bind_some]
  unfold tsA
  rcases hpt with rfl | rfl
  · obtain ⟨x0, x1, x2, x3, x4, x5, x6, x7, x8⟩ := ix9
    obtain ⟨z, ez⟩ := r_327 (own := (dl (cF cell (psF cell p2 v) a b 0 0 R) (cF cell (psF cell p2 v) a b 0 1 R) (cF cell (psF cell p2 v) a b 0 2 R) * dl (cF cell (psF cell p2 v) a b 1 0 R) (cF cell (psF cell p2 v) a b 1 1 R) (cF cell (psF cell p2 v) a b 1 2 R)) * dl (cF cell (psF cell p2 v) a b 2 0 R) (cF cell (psF cell p2 v) a b 2 1 R) (cF cell (psF cell p2 v) a b 2 2 R)) (q := (i2, k1, k2, k3)) ⟨(h1 0 (by omega)).1, (h1 1 (by omega)).1⟩ ⟨(h1 0 (by omega)).2, (h1 1 (by omega)).2, (h1 2 (by omega)).2⟩ (by omega) t2
    have w0 := t_ways (t3 0 (by omega))
    have w1 := t_ways (t3 1 (by omega))
    have w2 := t_ways (t3 2 (by omega))
    rw [← h2 0 0 (by omega) (by omega), ← h2 0 1 (by omega) (by omega), ← h2 0 2 (by omega) (by omega)] at w0
    rw [← h2 1 0 (by omega) (by omega), ← h2 1 1 (by omega) (by omega), ← h2 1 2 (by omega) (by omega)] at w1
    rw [← h2 2 0 (by omega) (by omega), ← h2 2 1 (by omega) (by omega), ← h2 2 2 (by omega) (by omega)] at w2
    rw [if_neg (show ¬ (0 : Int32) = 1 by decide), if_pos rfl, if_pos x0, if_pos x1, if_pos x2, show m_X11_ways (k3 (0 : Int32).toNatClampNeg) (k3 (1 : Int32).toNatClampNeg) (k3 (2 : Int32).toNatClampNeg) = _ from w0]
    simp only [Option.bind_some]
    rw [if_pos x3, if_pos x4, if_pos x5, show m_X11_ways (k3 (3 : Int32).toNatClampNeg) (k3 (4 : Int32).toNatClampNeg) (k3 (5 : Int32).toNatClampNeg) = _ from w1]
    simp only [Option.bind_some]
    rw [if_pos x6, if_pos x7, if_pos x8, show m_X11_ways (k3 (6 : Int32).toNatClampNeg) (k3 (7 : Int32).toNatClampNeg) (k3 (8 : Int32).toNatClampNeg) = _ from w2]
    simp only [Option.bind_some, lt]
    rw [ez]
    rfl
  · rw [if_pos rfl, if_neg (show ¬ (1 : Int32) = 0 by decide), if_pos ix03, if_pos ix13, if_pos ix23, c0, c1, c2', (h1 0 (by omega)).2, (h1 1 (by omega)).2, (h1 2 (by omega)).2, t_ways t2]
    rfl
theorem c_body (h : CS N R w vals cell fsv fsc) {a b : Nat} (ha : a < N) (hb : b < N) {p2 v part : Int32} (hp : p2 = -1 ∨ u3 p2 < N) (hpt : part = 0 ∨ part = 1) {f1 f2 f3 : Nat → Int32} :
    ∃ g1 g2 g3, ((m_X9_count 9 f1 3 f2 3 f3 (nI N) (nI R) (nI w) ms 16 fsc (nI a) (nI b) p2 v).bind (fun r_3 : (Nat → Int32) × (Nat → Int32) × (Nat → Int32) => if part = 0 then (m_X9_waysNotAbove 9 r_3.1 3 r_3.2.1 3 r_3.2.2).bind (fun r_5 : Int64 => some (r_5, r_3.1, r_3.2.1, r_3.2.2)) else (m_X9_allWays 3 r_3.2.2).bind (fun r_4 : Int64 => some (r_4, r_3.1, r_3.2.1, r_3.2.2))) : Option (Int64 × (Nat → Int32) × (Nat → Int32) × (Nat → Int32))) = some (tsA cell R a b p2 v part, g1, g2, g3) := by
  obtain ⟨g1, g2, g3, e, h1, h2⟩ := s_count (v := v) (i3 := nI w) (i4 := ms) (f1 := f1) (f2 := f2) (f3 := f3) h ha hb hp
  obtain ⟨t1, t2, t3⟩ := aF_tot (ps := psF cell p2 v) (fun r p hr hp => (h.2.2.2.2.2 r hr).2 p hp) ha hb h.2.1
  refine ⟨g1, g2, g3, ?_⟩
  rw [e]
  simp only [Option.bind_some]
  unfold tsA
  rcases hpt with rfl | rfl
  · rw [if_pos rfl, if_pos rfl, s_notAbove ⟨(h2 0 (by omega)).1, (h2 1 (by omega)).1⟩ ⟨(h2 0 (by omega)).2, (h2 1 (by omega)).2, (h2 2 (by omega)).2⟩ (by omega) t2 (c := fun x y => cF cell (psF cell p2 v) a b x y R) h1 t3]
    rfl
  · rw [if_neg (show ¬ (1 : Int32) = 0 by decide), if_neg (show ¬ (1 : Int32) = 0 by decide), em_X9_allWays, show m_X9_second 3 g3 0 = _ from s_second (k := 0) (by omega), show m_X9_second 3 g3 1 = _ from s_second (k := 1) (by omega), show m_X9_second 3 g3 2 = _ from s_second (k := 2) (by omega)]
    simp only [Option.bind_some]
    rw [(h2 0 (by omega)).2, (h2 1 (by omega)).2, (h2 2 (by omega)).2, t_deals t2]
    rfl
theorem p_test (hC : CS N R w vals cell fsv fsc) (hM : MS N R w vals cell fvalues fcells) (p0 p1 p2 v part : Int32) (f1 f2 f3 k1 k2 k3 : Nat → Int32) :
    ∃ r g1 g2 g3 l1 l2 l3, m_X10_test 9 f1 3 f2 3 f3 (nI N) (nI R) (nI w) ms 5 fsv 16 fsc p0 p1 p2 v part = some (r, g1, g2, g3) ∧ m_X11_test (nI N) (nI R) (nI w) i4 i5 i6 fvalues fcells k1 k2 k3 p0 p1 p2 v part = some (r, l1, l2, l3) := by
  have hN := hC.1
  rw [em_X10_test, em_X11_test, t_isName hN]
  simp only [Option.bind_some]
  by_cases h0 : u3 p0 < N
  · rw [if_pos h0, if_neg (show ¬ (1 : Int32) = 0 by decide), t_isName hN]
    simp only [Option.bind_some]
    by_cases h1 : u3 p1 < N
    · rw [if_pos h1, if_neg (show ¬ (1 : Int32) = 0 by decide)]
      by_cases h01 : p0 = p1
      · rw [isPairF hN (fun z => z.2.2 h01), if_pos h01]
        simp only [Option.bind_some, if_true]
        exact ⟨_, _, _, _, _, _, _, rfl, rfl⟩
      · rw [isPairT hN ⟨h0, h1, h01⟩, if_neg h01, (isPart_e part).1, (isPart_e part).2]
        simp only [Option.bind_some]
        rw [if_neg (show ¬ (1 : Int32) = 0 by decide)]
        by_cases hpt : part = 0 ∨ part = 1
        · rw [if_pos hpt, if_neg (show ¬ (1 : Int32) = 0 by decide), if_neg (show ¬ (1 : Int32) = 0 by decide)]
          have e0 : p0 = nI (u3 p0) := (nI_u3 p0).symm
          have e1 : p1 = nI (u3 p1) := (nI_u3 p1).symm
          have n01 : u3 p0 ≠ u3 p1 := fun z => h01 (by rw [e0, e1, z])
          generalize u3 p0 = a at *
          generalize u3 p1 = b at *
          subst e0 e1
          by_cases hp2 : p2 = -1
          · rw [if_pos hp2, if_pos hp2]
            obtain ⟨g1, g2, g3, eg⟩ := c_body (ms := ms) (f1 := f1) (f2 := f2) (f3 := f3) (v := v) hC h0 h1 (Or.inl hp2) hpt
            obtain ⟨l1, l2, l3, el⟩ := r_body (f1 := k1) (f2 := k2) (f3 := k3) (v := v) hM h0 h1 (Or.inl hp2) hpt (bd := b_X11_test_327) rfl
            exact ⟨_, _, _, _, _, _, _, eg, el⟩
          · rw [if_neg hp2, if_neg hp2, t_isName hN]
            simp only [Option.bind_some]
            have ua : u3 (nI a) = a := u3n (by omega)
            have ub : u3 (nI b) = b := u3n (by omega)
            have ha5 : u3 (nI a) < N := by rw [ua]; exact h0
            have hb5 : u3 (nI b) < N := by rw [ub]; exact h1
            by_cases h2 : u3 p2 < N
            · rw [if_pos h2, if_neg (show ¬ (1 : Int32) = 0 by decide)]
              by_cases h20 : p2 = nI a
              · rw [isPairF hN (fun z => z.2.2 h20.symm), if_pos h20]
                simp only [Option.bind_some, if_true]
                exact ⟨_, _, _, _, _, _, _, rfl, rfl⟩
              · rw [isPairT hN ⟨ha5, h2, fun z => h20 z.symm⟩, if_neg h20]
                simp only [Option.bind_some]
                rw [if_neg (show ¬ (1 : Int32) = 0 by decide)]
                by_cases h21 : p2 = nI b
                · rw [isPairF hN (fun z => z.2.2 h21.symm), if_pos h21]
                  simp only [Option.bind_some, if_true]
                  exact ⟨_, _, _, _, _, _, _, rfl, rfl⟩
                · rw [isPairT hN ⟨hb5, h2, fun z => h21 z.symm⟩, if_neg h21]
                  simp only [Option.bind_some]
                  rw [if_neg (show ¬ (1 : Int32) = 0 by decide)]
                  have e2 : m_X10_isValue (nI N) (nI R) (nI w) ms 5 fsv p2 v = some (if ¬ v < 0 ∧ v < nI (vals (u3 p2)) then 1 else 0) := by
                    have := isValue10 (ms := ms) (i2 := nI R) (i3 := nI w) (v := v) hC h2
                    rw [nI_u3] at this
                    exact this
                  have ex : ix p2 5 = true := by rw [← nI_u3 p2]; exact ixn (by omega) (by omega)
                  have ef : fvalues p2.toNatClampNeg = nI (vals (u3 p2)) := by
                    have : p2.toNatClampNeg = u3 p2 := by
                      have := cl (j := u3 p2) (by omega)
                      rw [nI_u3] at this
                      exact this
                    rw [this]
                    exact (hM.2.2.2.2.1 (u3 p2) h2).1
                  rw [e2, ef]
                  simp only [Option.bind_some]
                  by_cases hv0 : v < 0
                  · rw [if_neg (show ¬ (¬ v < 0 ∧ v < nI (vals (u3 p2))) from fun z => z.1 hv0), if_pos rfl, if_pos hv0]
                    simp only [Option.bind_some, if_true]
                    exact ⟨_, _, _, _, _, _, _, rfl, rfl⟩
                  · rw [if_neg hv0, if_pos ex]
                    by_cases hv1 : v < nI (vals (u3 p2))
                    · rw [if_pos (show ¬ v < 0 ∧ v < nI (vals (u3 p2)) from ⟨hv0, hv1⟩), if_neg (show ¬ (1 : Int32) = 0 by decide), if_pos hv1]
                      simp only [Option.bind_some, Bool.false_eq_true, if_false]
                      obtain ⟨g1, g2, g3, eg⟩ := c_body (ms := ms) (f1 := f1) (f2 := f2) (f3 := f3) (v := v) hC h0 h1 (Or.inr h2) hpt
                      obtain ⟨l1, l2, l3, el⟩ := r_body (f1 := k1) (f2 := k2) (f3 := k3) (v := v) hM h0 h1 (Or.inr h2) hpt (bd := b_X11_test_327v1) same_327
                      exact ⟨_, _, _, _, _, _, _, eg, el⟩
                    · rw [if_neg (show ¬ (¬ v < 0 ∧ v < nI (vals (u3 p2))) from fun z => hv1 z.2), if_pos rfl, if_neg hv1]
                      simp only [Option.bind_some, if_true]
                      exact ⟨_, _, _, _, _, _, _, rfl, rfl⟩
            · rw [if_neg h2, isPairF hN (fun z => h2 z.2.1), if_pos rfl]
              simp only [Option.bind_some, if_true]
              exact ⟨_, _, _, _, _, _, _, rfl, rfl⟩
        · rw [if_neg hpt, if_pos rfl, if_pos rfl]
          exact ⟨_, _, _, _, _, _, _, rfl, rfl⟩
    · rw [if_neg h1, if_pos rfl, isPairF hN (fun z => h1 z.2.1)]
      simp only [Option.bind_some, if_true]
      exact ⟨_, _, _, _, _, _, _, rfl, rfl⟩
  · rw [if_neg h0, if_pos rfl, isPairF hN (fun z => h0 z.1)]
    simp only [Option.bind_some, if_true]
    exact ⟨_, _, _, _, _, _, _, rfl, rfl⟩
end TT
