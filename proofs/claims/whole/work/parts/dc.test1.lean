/-! test: the counts, of the reference and of the class -/
def aF (cell : Nat → Nat → Nat) (ps : Nat → Bool) (a x : Nat) : Nat → Nat
  | 0 => 0
  | n + 1 => aF cell ps a x n + (if ps n = true ∧ cell n a = x then 1 else 0)
theorem inc3e (p : Prop) [Decidable p] {B : Nat} (hB : B < 3) : (if p ∧ B = 0 then 1 else 0) + (if p ∧ B = 1 then 1 else 0) + (if p ∧ B = 2 then 1 else 0) = if p then 1 else 0 := by
  by_cases hp : p
  · simp only [hp, true_and, if_true]
    split <;> split <;> split <;> omega
  · simp [hp]
theorem aF_row {cell : Nat → Nat → Nat} {ps : Nat → Bool} {a b x : Nat} : ∀ n, (∀ r, r < n → cell r b < 3) → cF cell ps a b x 0 n + cF cell ps a b x 1 n + cF cell ps a b x 2 n = aF cell ps a x n := by
  intro n
  induction n with
  | zero => intro _; rfl
  | succ n ih =>
    intro h
    have i := ih (fun r hr => h r (by omega))
    have e := inc3e (ps n = true ∧ cell n a = x) (h n (by omega))
    unfold cF aF
    omega
theorem aF_col {cell : Nat → Nat → Nat} {ps : Nat → Bool} {a b y : Nat} : ∀ n, (∀ r, r < n → cell r a < 3) → cF cell ps a b 0 y n + cF cell ps a b 1 y n + cF cell ps a b 2 y n = aF cell ps b y n := by
  intro n
  induction n with
  | zero => intro _; rfl
  | succ n ih =>
    intro h
    have i := ih (fun r hr => h r (by omega))
    have e := inc3e (ps n = true ∧ cell n b = y) (h n (by omega))
    have r : ∀ x, (if (ps n = true ∧ cell n a = x) ∧ cell n b = y then 1 else 0) = if (ps n = true ∧ cell n b = y) ∧ cell n a = x then (1 : Nat) else 0 := fun x => by
      by_cases h1 : (ps n = true ∧ cell n a = x) ∧ cell n b = y
      · rw [if_pos h1, if_pos ⟨⟨h1.1.1, h1.2⟩, h1.1.2⟩]
      · rw [if_neg h1, if_neg (fun z => h1 ⟨⟨z.1.1, z.2⟩, z.1.2⟩)]
    unfold cF aF
    rw [r, r, r]
    omega
section TC
variable {N R w : Nat} {vals : Nat → Nat} {cell : Nat → Nat → Nat} {fvalues fcells fsv fsc : Nat → Int32} {a b : Nat} {p2 v : Int32}
theorem t_cz {f1 f2 f3 : Nat → Int32} : ∃ i g1 g2 g3, lp (b_X11_test_79) FU (0, f1, f2, f3) = some (i, g1, g2, g3) ∧ (∀ j, j < 3 → g1 j = 0 ∧ g2 j = 0) ∧ ∀ j, j < 9 → g3 j = 0 := by
  have L := lp_cnt (body := b_X11_test_79) (fun k z => (∀ j, j < 3 → j < k → z.1 j = 0 ∧ z.2.1 j = 0) ∧ ∀ j, j < k → z.2.2 j = 0) (n0 := 0) (n1 := 9) (Nat.zero_le _) (by omega) ?_ ?_ (s0 := (f1, f2, f3)) ⟨fun j _ hj => by omega, fun j hj => by omega⟩
  · obtain ⟨⟨g1, g2, g3⟩, e, h1, h2⟩ := L
    exact ⟨_, g1, g2, g3, e, fun j hj => h1 j hj (by omega), h2⟩
  · rintro ⟨z1, z2, z3⟩ -
    rw [eb_X11_test_79, if_pos (by decide)]
  · rintro k ⟨z1, z2, z3⟩ - hk ⟨h1, h2⟩
    dsimp only at h1 h2
    rw [eb_X11_test_79, if_neg (show ¬ (9 : Int32) ≤ nI k from fun z => by have := (nle (a := 9) (by omega) (by omega)).mp z; omega), show (3 : Int32) = nI 3 from rfl, nI_rem (by omega) (by omega) (by omega)]
    have h3 : k % 3 < 3 := Nat.mod_lt _ (by decide)
    rw [if_pos (ixn h3 (by omega))]
    simp only [lt]
    rw [if_pos (ixn h3 (by omega)), if_pos (ixn hk (by omega)), cl (by omega), cl (by omega), nI_1]
    refine ⟨_, rfl, fun j hj hjk => ?_, fun j hj => ?_⟩
    · by_cases hjm : j = k % 3
      · rw [hjm]; exact ⟨pk_us, pk_us⟩
      · have := h1 j hj (by omega)
        exact ⟨(pk_un hjm).trans this.1, (pk_un hjm).trans this.2⟩
    · by_cases hjm : j = k
      · rw [hjm]; exact pk_us
      · exact (pk_un hjm).trans (h2 j (by omega))
theorem t_cr (h : MS N R w vals cell fvalues fcells) (ha : a < N) (hb : b < N) (hp : p2 = -1 ∨ u3 p2 < N) {f1 f2 f3 : Nat → Int32} (z1 : ∀ j, j < 3 → f1 j = 0 ∧ f2 j = 0) (z2 : ∀ j, j < 9 → f3 j = 0) :
    ∃ i g1 g2 g3, lp (b_X11_test_123 (nI R) fcells (nI a) (nI b) p2 v) FU (0, f1, f2, f3) = some (i, g1, g2, g3) ∧ (∀ x, x < 3 → g1 x = nI (aF cell (psF cell p2 v) a x R) ∧ g2 x = nI (aF cell (psF cell p2 v) b x R)) ∧ ∀ x y, x < 3 → y < 3 → g3 (3 * x + y) = nI (cF cell (psF cell p2 v) a b x y R) := by
  obtain ⟨hN, hR, -, -, -, hcell⟩ := h
  have L := lp_cnt (body := b_X11_test_123 (nI R) fcells (nI a) (nI b) p2 v) (fun k z => (∀ x, x < 3 → z.1 x = nI (aF cell (psF cell p2 v) a x k) ∧ z.2.1 x = nI (aF cell (psF cell p2 v) b x k)) ∧ ∀ x y, x < 3 → y < 3 → z.2.2 (3 * x + y) = nI (cF cell (psF cell p2 v) a b x y k)) (n0 := 0) (n1 := R) (Nat.zero_le _) (by omega) ?_ ?_ (s0 := (f1, f2, f3)) ⟨fun x hx => ⟨(z1 x hx).1, (z1 x hx).2⟩, fun x y hx hy => z2 _ (by omega)⟩
  · obtain ⟨⟨g1, g2, g3⟩, e, h1, h2⟩ := L
    exact ⟨_, g1, g2, g3, e, h1, h2⟩
  · rintro ⟨q1, q2, q3⟩ -
    rw [eb_X11_test_123, if_pos ((nle (by omega) (by omega)).mpr (Nat.le_refl _))]
  · rintro k ⟨q1, q2, q3⟩ - hk ⟨h1, h2⟩
    dsimp only at h1 h2
    obtain ⟨ca, cA⟩ := hcell k a hk ha
    obtain ⟨cb, cB⟩ := hcell k b hk hb
    have ec : (if p2 = ((-1) : Int32) then some true else if ix ((5 * nI k) + p2) 80 = true then if (fcells ((5 * nI k) + p2).toNatClampNeg) = v then some true else some false else none) = some (psF cell p2 v k) := by
      unfold psF
      by_cases hp2 : p2 = -1
      · rw [if_pos hp2, decide_eq_true (Or.inl hp2)]
      · have hu := hp.resolve_left hp2
        have ep : p2 = nI (u3 p2) := (nI_u3 p2).symm
        have e5 : (5 * nI k) + p2 = nI (5 * k + u3 p2) := by
          have : (5 * nI k) + p2 = (5 * nI k) + nI (u3 p2) := by rw [nI_u3]
          rw [this, five]
        rw [if_neg hp2, e5, if_pos (ixn (by omega) (by omega)), cl (by omega), (hcell k (u3 p2) hk hu).1]
        by_cases hv : nI (cell k (u3 p2)) = v
        · rw [if_pos hv, decide_eq_true (Or.inr hv)]
        · rw [if_neg hv, decide_eq_false (fun z => z.elim hp2 hv)]
    rw [eb_X11_test_123, if_neg (fun z => by have := (nle (by omega) (by omega)).mp z; omega), ec]
    simp only [Option.bind_some]
    cases hps : psF cell p2 v k with
    | true =>
      rw [if_pos rfl, five, five, if_pos (ixn (by omega) (by omega)), cl (by omega), ca]
      simp only [lt]
      rw [if_pos (ixn (by omega) (by omega)), cl (by omega), cb, if_pos (ixn (by omega) (by omega)), if_pos (ixn (by omega) (by omega)), cl (by omega), if_pos (ixn (by omega) (by omega)), if_pos (ixn (by omega) (by omega)), cl (by omega), show (3 : Int32) = nI 3 from rfl, nI_mulm, nI_add, if_pos (ixn (by omega) (by omega)), if_pos (ixn (by omega) (by omega)), cl (by omega), nI_1]
      refine ⟨_, rfl, fun x hx => ⟨?_, ?_⟩, fun x y hx hy => ?_⟩
      · show upd q1 (cell k a) (q1 (cell k a) + 1) x = nI (aF cell (psF cell p2 v) a x k + (if psF cell p2 v k = true ∧ cell k a = x then 1 else 0))
        by_cases hxa : x = cell k a
        · rw [if_pos ⟨hps, hxa.symm⟩, ← hxa, ← nI_1, ← (h1 x hx).1]; exact pk_us
        · rw [if_neg (fun z => hxa z.2.symm)]; exact (pk_un hxa).trans (h1 x hx).1
      · show upd q2 (cell k b) (q2 (cell k b) + 1) x = nI (aF cell (psF cell p2 v) b x k + (if psF cell p2 v k = true ∧ cell k b = x then 1 else 0))
        by_cases hxb : x = cell k b
        · rw [if_pos ⟨hps, hxb.symm⟩, ← hxb, ← nI_1, ← (h1 x hx).2]; exact pk_us
        · rw [if_neg (fun z => hxb z.2.symm)]; exact (pk_un hxb).trans (h1 x hx).2
      · show upd q3 (3 * cell k a + cell k b) (q3 (3 * cell k a + cell k b) + 1) (3 * x + y) = nI (cF cell (psF cell p2 v) a b x y k + (if (psF cell p2 v k = true ∧ cell k a = x) ∧ cell k b = y then 1 else 0))
        by_cases hxy : x = cell k a ∧ y = cell k b
        · rw [if_pos ⟨⟨hps, hxy.1.symm⟩, hxy.2.symm⟩, ← hxy.1, ← hxy.2, ← nI_1, ← h2 x y hx hy]; exact pk_us
        · rw [if_neg (fun z => hxy ⟨z.1.2.symm, z.2.symm⟩)]
          exact (pk_un (fun z => hxy (by omega))).trans (h2 x y hx hy)
    | false =>
      rw [if_neg (by decide), lt, nI_1]
      refine ⟨_, rfl, fun x hx => ⟨?_, ?_⟩, fun x y hx hy => ?_⟩
      · show q1 x = nI (aF cell (psF cell p2 v) a x k + (if psF cell p2 v k = true ∧ cell k a = x then 1 else 0))
        rw [if_neg (fun z => by rw [hps] at z; exact absurd z.1 (by decide))]; exact (h1 x hx).1
      · show q2 x = nI (aF cell (psF cell p2 v) b x k + (if psF cell p2 v k = true ∧ cell k b = x then 1 else 0))
        rw [if_neg (fun z => by rw [hps] at z; exact absurd z.1 (by decide))]; exact (h1 x hx).2
      · show q3 (3 * x + y) = nI (cF cell (psF cell p2 v) a b x y k + (if (psF cell p2 v k = true ∧ cell k a = x) ∧ cell k b = y then 1 else 0))
        rw [if_neg (fun z => by rw [hps] at z; exact absurd z.1.1 (by decide))]; exact h2 x y hx hy
theorem s_valueIn (h : CS N R w vals cell fsv fsc) {i1 i3 i4 : Int32} {r p : Nat} (hr : r < R) (hp : p < N) : m_X8_valueIn i1 (nI R) i3 i4 16 fsc (nI r) (nI p) = some (nI (cell r p)) := by
  have hN := h.1
  rw [em_X8_valueIn, s_codeOf h hr]
  simp only [Option.bind_some]
  have hd := cdF_dig N (fun q hq => (h.2.2.2.2.2 r hr).2 q hq) p hp
  have hl := cdF_lt N (fun q hq => (h.2.2.2.2.2 r hr).2 q hq)
  have h4 : 4 ^ N ≤ 4 ^ 5 := Nat.pow_le_pow_right (by decide) hN
  have tb : ∀ p, p < 5 → (((2 * nI p) &&& 31).toBitVec.smod 32).toNat = 2 * p := by decide
  rw [pk_shrN (by omega) _ (2 * p) (tb p (by omega)), pk_andN (Nat.lt_of_le_of_lt (Nat.div_le_self _ _) (by omega)) 2 (by decide), Nat.pow_mul, show 2 ^ 2 = 4 from rfl, hd]
theorem s_count (h : CS N R w vals cell fsv fsc) (ha : a < N) (hb : b < N) (hp : p2 = -1 ∨ u3 p2 < N) {i3 i4 : Int32} {f1 f2 f3 : Nat → Int32} :
    ∃ g1 g2 g3, m_X9_count 9 f1 3 f2 3 f3 (nI N) (nI R) i3 i4 16 fsc (nI a) (nI b) p2 v = some (g1, g2, g3) ∧ (∀ x y, x < 3 → y < 3 → g1 (3 * x + y) = nI (cF cell (psF cell p2 v) a b x y R)) ∧ ∀ x, x < 3 → g2 x = nI (aF cell (psF cell p2 v) a x R) ∧ g3 x = nI (aF cell (psF cell p2 v) b x R) := by
  have hN := h.1
  have hR := h.2.1
  have hc3 : ∀ r p, r < R → p < N → cell r p < 3 := fun r p hr hp => (h.2.2.2.2.2 r hr).2 p hp
  have L0 := lp_cnt (body := b_X9_count_3 9) (fun k z => ∀ j, j < k → z j = 0) (n0 := 0) (n1 := 9) (Nat.zero_le _) (by omega) (fun z _ => by rw [eb_X9_count_3, if_pos ((nle (by omega) (by omega)).mpr (Nat.le_refl _))]) (fun k z _ hk hz => by
    rw [eb_X9_count_3, if_neg (fun z => by have := (nle (by omega) (by omega)).mp z; omega), if_pos (ixn hk (by omega)), cl (by omega)]
    simp only [lt]
    rw [nI_1]
    refine ⟨_, rfl, fun j hj => ?_⟩
    by_cases hjm : j = k
    · rw [hjm]; exact pk_us
    · exact (pk_un hjm).trans (hz j (by omega))) (s0 := f1) (fun j hj => by omega)
  obtain ⟨f4, e4, h4⟩ := L0
  have L1 := lp_cnt (body := b_X9_count_30 9 (nI N) (nI R) i3 i4 16 fsc (nI a) (nI b) p2 v) (fun k z => ∀ x y, x < 3 → y < 3 → z (3 * x + y) = nI (cF cell (psF cell p2 v) a b x y k)) (n0 := 0) (n1 := R) (Nat.zero_le _) (by omega) ?_ ?_ (s0 := f4) (fun x y hx hy => h4 _ (by omega))
  · obtain ⟨f5, e5, h5⟩ := L1
    have cell_e : ∀ x y, x < 3 → y < 3 → m_X9_cell 9 f5 (nI x) (nI y) = some (nI (cF cell (psF cell p2 v) a b x y R)) := by
      intro x y hx hy
      rw [em_X9_cell, show (3 : Int32) = nI 3 from rfl, nI_mulm, nI_add]
      simp only [lt]
      rw [if_neg (nI_pos (by omega)), if_neg (fun z => by have := (nle (by omega) (by omega)).mp z; omega), if_pos (ixn (by omega) (by omega)), cl (by omega), h5 x y hx hy]
      rfl
    have L2 := lp_cnt (body := b_X9_count_124 9 3 3 (nI R, f5)) (fun k z => ∀ x, x < k → z.1 x = nI (aF cell (psF cell p2 v) a x R) ∧ z.2 x = nI (aF cell (psF cell p2 v) b x R)) (n0 := 0) (n1 := 3) (Nat.zero_le _) (by omega) (fun z _ => by obtain ⟨q1, q2⟩ := z; rw [eb_X9_count_124, if_pos (by decide)]) (fun k z _ hk hz => by
      obtain ⟨q1, q2⟩ := z
      dsimp only at hz
      have h3k : ¬ nI 3 ≤ nI k := fun z => by have := (nle (a := 3) (by omega) (by omega)).mp z; omega
      rw [eb_X9_count_124, if_neg (show ¬ (3 : Int32) ≤ nI k from h3k), if_neg h3k, if_neg h3k]
      rw [show (0 : Int32) = nI 0 from rfl, show (1 : Int32) = nI 1 from rfl, show (2 : Int32) = nI 2 from rfl, cell_e k 0 hk (by omega), cell_e k 1 hk (by omega), cell_e k 2 hk (by omega)]
      simp only [Option.bind_some]
      rw [if_pos (ixn hk (by omega)), cell_e 0 k (by omega) hk, cell_e 1 k (by omega) hk, cell_e 2 k (by omega) hk]
      simp only [lt, Option.bind_some]
      rw [if_pos (ixn hk (by omega)), cl (by omega), show nI 1 = (1 : Int32) from rfl, nI_1, nI_add, nI_add, nI_add, nI_add, aF_row R (fun r hr => hc3 r b hr hb), aF_col R (fun r hr => hc3 r a hr ha)]
      refine ⟨_, rfl, fun x hx => ?_⟩
      by_cases hxk : x = k
      · rw [hxk]; exact ⟨pk_us, pk_us⟩
      · exact ⟨(pk_un hxk).trans (hz x (by omega)).1, (pk_un hxk).trans (hz x (by omega)).2⟩) (s0 := (f2, f3)) (fun x hx => by omega)
    obtain ⟨⟨g2, g3⟩, e6, h6⟩ := L2
    refine ⟨f5, g2, g3, ?_, h5, h6⟩
    rw [em_X9_count, show (0 : Int32) = nI 0 from rfl, e4]
    simp only [Option.bind_some]
    rw [e5]
    simp only [Option.bind_some]
    rw [e6]
    rfl
  · intro z _
    rw [eb_X9_count_30, if_pos ((nle (by omega) (by omega)).mpr (Nat.le_refl _))]
  · intro k z _ hk hz
    have cA := hc3 k a hk ha
    have cB := hc3 k b hk hb
    rw [eb_X9_count_30, if_neg (fun z => by have := (nle (by omega) (by omega)).mp z; omega)]
    have go : psF cell p2 v k = true → ∃ s', (((m_X8_valueIn (nI N) (nI R) i3 i4 16 fsc (nI k) (nI a)).bind (fun r_8 : Int32 => (m_X8_valueIn (nI N) (nI R) i3 i4 16 fsc (nI k) (nI b)).bind (fun r_9 : Int32 => lt ((3 * r_8) + r_9 : Int32) (fun x6_10 : Int32 => if x6_10 < 0 then lt (nI k + 1 : Int32) (fun x5_11 : Int32 => some (Sum.inl (β := Int32 × (Nat → Int32)) (x5_11, z))) else if (nI 9) ≤ x6_10 then lt (nI k + 1 : Int32) (fun x5_12 : Int32 => some (.inl (x5_12, z))) else if ix x6_10 9 = true then if ix x6_10 9 = true then lt ((upd z x6_10.toNatClampNeg ((z x6_10.toNatClampNeg) + 1)) : Nat → Int32) (fun ftc_13 : Nat → Int32 => lt (nI k + 1 : Int32) (fun x5_14 : Int32 => some (.inl (x5_14, ftc_13)))) else none else none))))) = some (.inl (nI (k + 1), s')) ∧ ∀ x y, x < 3 → y < 3 → s' (3 * x + y) = nI (cF cell (psF cell p2 v) a b x y (k + 1)) := by
      intro hps
      rw [s_valueIn h hk ha, s_valueIn h hk hb]
      simp only [Option.bind_some, lt]
      rw [show (3 : Int32) = nI 3 from rfl, nI_mulm, nI_add, if_neg (nI_pos (by omega)), if_neg (fun z => by have := (nle (by omega) (by omega)).mp z; omega), if_pos (ixn (by omega) (by omega)), if_pos (ixn (by omega) (by omega)), cl (by omega), nI_1]
      refine ⟨_, rfl, fun x y hx hy => ?_⟩
      show upd z (3 * cell k a + cell k b) (z (3 * cell k a + cell k b) + 1) (3 * x + y) = nI (cF cell (psF cell p2 v) a b x y k + (if (psF cell p2 v k = true ∧ cell k a = x) ∧ cell k b = y then 1 else 0))
      by_cases hxy : x = cell k a ∧ y = cell k b
      · rw [if_pos ⟨⟨hps, hxy.1.symm⟩, hxy.2.symm⟩, ← hxy.1, ← hxy.2, ← nI_1, ← hz x y hx hy]; exact pk_us
      · rw [if_neg (fun z => hxy ⟨z.1.2.symm, z.2.symm⟩)]
        exact (pk_un (fun z => hxy (by omega))).trans (hz x y hx hy)
    have skip : psF cell p2 v k = false → ∀ x y, x < 3 → y < 3 → z (3 * x + y) = nI (cF cell (psF cell p2 v) a b x y (k + 1)) := by
      intro hps x y hx hy
      show z (3 * x + y) = nI (cF cell (psF cell p2 v) a b x y k + (if (psF cell p2 v k = true ∧ cell k a = x) ∧ cell k b = y then 1 else 0))
      rw [if_neg (fun z => by rw [hps] at z; exact absurd z.1.1 (by decide))]; exact hz x y hx hy
    by_cases hp2 : p2 = -1
    · rw [if_pos (by rw [hp2]; decide)]
      exact go (by unfold psF; exact decide_eq_true (Or.inl hp2))
    · have hu := hp.resolve_left hp2
      have hn0 : ¬ p2 < 0 := by rw [← nI_u3 p2]; exact nI_pos (by omega)
      have e9 : m_X8_valueIn (nI N) (nI R) i3 i4 16 fsc (nI k) p2 = some (nI (cell k (u3 p2))) := by
        have := s_valueIn (i1 := nI N) (i3 := i3) (i4 := i4) h hk hu
        rw [nI_u3] at this
        exact this
      rw [if_neg hn0, e9]
      simp only [Option.bind_some]
      by_cases hv : nI (cell k (u3 p2)) = v
      · rw [if_pos hv]
        simp only [Option.bind_some, if_true]
        exact go (by unfold psF; exact decide_eq_true (Or.inr hv))
      · rw [if_neg hv]
        simp only [Option.bind_some, Bool.false_eq_true, if_false, lt]
        rw [nI_1]
        exact ⟨_, rfl, skip (by unfold psF; exact decide_eq_false (fun z => z.elim hp2 hv))⟩
end TC
