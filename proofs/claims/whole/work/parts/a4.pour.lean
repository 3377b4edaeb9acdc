/-! the class's sheet: rows as numbers of two bits a name; pourFit -/
def cdF (cell : Nat → Nat → Nat) (r : Nat) : Nat → Nat
  | 0 => 0
  | n + 1 => cdF cell r n + cell r n * 4 ^ n
def CS (N R w : Nat) (vals : Nat → Nat) (cell : Nat → Nat → Nat) (fsv fsc : Nat → Int32) : Prop :=
  N ≤ 5 ∧ R ≤ 16 ∧ 1 ≤ w ∧ w ≤ 9 ∧ (∀ p, p < N → fsv p = nI (vals p) ∧ 2 ≤ vals p ∧ vals p ≤ 3) ∧ ∀ r, r < R → fsc r = nI (cdF cell r N) ∧ ∀ p, p < N → cell r p < 3
theorem cdF_lt {cell : Nat → Nat → Nat} {r : Nat} : ∀ n, (∀ p, p < n → cell r p < 3) → cdF cell r n < 4 ^ n := by
  intro n
  induction n with
  | zero => intro _; exact Nat.one_pos
  | succ n ih =>
    intro h
    have h1 := ih (fun p hp => h p (by omega))
    have h2 : cell r n * 4 ^ n ≤ 2 * 4 ^ n := Nat.mul_le_mul_right _ (by have := h n (by omega); omega)
    rw [cdF, Nat.pow_succ]
    omega
theorem cdF_dig {cell : Nat → Nat → Nat} {r : Nat} : ∀ n, (∀ p, p < n → cell r p < 3) → ∀ p, p < n → cdF cell r n / 4 ^ p % 4 = cell r p := by
  intro n
  induction n with
  | zero => intro _ p hp; omega
  | succ n ih =>
    intro h p hp
    have h1 := cdF_lt n (fun p hp => h p (by omega))
    rw [cdF]
    by_cases e : p = n
    · subst e
      rw [Nat.add_mul_div_right _ _ (Nat.pow_pos (by decide)), Nat.div_eq_of_lt h1, Nat.zero_add]
      exact Nat.mod_eq_of_lt (by have := h p (by omega); omega)
    · have h2 : 4 ^ n = 4 ^ p * (4 * 4 ^ (n - p - 1)) := by
        rw [← Nat.pow_succ', ← Nat.pow_add]
        congr 1
        omega
      rw [h2, show cell r n * (4 ^ p * (4 * 4 ^ (n - p - 1))) = 4 ^ p * (4 * (cell r n * 4 ^ (n - p - 1))) by ac_rfl, Nat.add_mul_div_left _ _ (Nat.pow_pos (by decide)), Nat.add_mul_mod_self_left]
      exact ih (fun p hp => h p (by omega)) p (by omega)
theorem tb_d4 : ∀ a, a < 4 → ∀ b, b < 4 → ((a.testBit 0 = b.testBit 0 ∧ a.testBit 1 = b.testBit 1) ↔ a = b) := by decide +kernel
theorem bit4 (a p i : Nat) (hi : i < 2) : (a / 4 ^ p % 4).testBit i = a.testBit (2 * p + i) := by
  rw [show (4 : Nat) = 2 ^ 2 from rfl, ← Nat.pow_mul, Nat.testBit_mod_two_pow, Nat.testBit_div_two_pow]
  simp only [hi, decide_true, Bool.true_and]
  congr 1
  omega
theorem and2 (x k : Nat) : x &&& 2 ^ k = 0 ↔ x.testBit k = false := by
  constructor
  · intro h
    have h1 := congrArg (fun y => y.testBit k) h
    simp only [Nat.testBit_and, Nat.testBit_two_pow, Nat.zero_testBit, decide_true, Bool.and_true] at h1
    exact h1
  · intro h
    apply Nat.eq_of_testBit_eq
    intro i
    rw [Nat.testBit_and, Nat.testBit_two_pow, Nat.zero_testBit]
    by_cases e : k = i
    · rw [← e, h]; rfl
    · simp [e]
theorem tb_3 (k : Nat) : 3 * 2 ^ k = 2 ^ k ||| 2 ^ (k + 1) := by
  have h := Nat.two_pow_add_eq_or_of_lt (i := k + 1) (b := 2 ^ k) (Nat.pow_lt_pow_right (by decide) (by omega)) 1
  rw [Nat.mul_one, Nat.or_comm] at h
  rw [← h, Nat.pow_succ]
  omega
theorem dig_eq (a b p : Nat) : (a ^^^ b) &&& (3 * 2 ^ (2 * p)) = 0 ↔ a / 4 ^ p % 4 = b / 4 ^ p % 4 := by
  rw [tb_3, Nat.and_or_distrib_left, Nat.or_eq_zero_iff, and2, and2, Nat.testBit_xor, Nat.testBit_xor]
  rw [← tb_d4 _ (Nat.mod_lt _ (by decide)) _ (Nat.mod_lt _ (by decide)), bit4 a p 0 (by decide), bit4 b p 0 (by decide), bit4 a p 1 (by decide), bit4 b p 1 (by decide)]
  simp
theorem nI_lxor (a b : Nat) : nI a ^^^ nI b = nI (a ^^^ b) := by
  apply Int32.toBitVec_inj.mp
  apply BitVec.eq_of_toNat_eq
  show (BitVec.ofNat 32 a ^^^ BitVec.ofNat 32 b).toNat = (BitVec.ofNat 32 (a ^^^ b)).toNat
  simp only [BitVec.toNat_xor, BitVec.toNat_ofNat]
  exact Nat.xor_mod_two_pow.symm
theorem nI_land (a b : Nat) : nI a &&& nI b = nI (a &&& b) := by
  apply Int32.toBitVec_inj.mp
  apply BitVec.eq_of_toNat_eq
  show (BitVec.ofNat 32 a &&& BitVec.ofNat 32 b).toNat = (BitVec.ofNat 32 (a &&& b)).toNat
  simp only [BitVec.toNat_and, BitVec.toNat_ofNat]
  exact Nat.and_mod_two_pow.symm
theorem tb_own : ∀ p, p < 5 → (3 : Int32) <<< ((2 * nI p) &&& 31) = nI (3 * 2 ^ (2 * p)) := by decide +kernel
def mkF (se : Nat) : Nat → Nat
  | 0 => 0
  | n + 1 => if se.testBit n = true then mkF se n ||| 3 * 2 ^ (2 * n) else mkF se n
theorem mkF_and (se x : Nat) : ∀ n, x &&& mkF se n = 0 ↔ ∀ p, p < n → se.testBit p = true → x &&& 3 * 2 ^ (2 * p) = 0 := by
  intro n
  induction n with
  | zero => rw [mkF, Nat.and_zero]; exact ⟨fun _ p hp => by omega, fun _ => rfl⟩
  | succ n ih =>
    rw [mkF]
    by_cases hb : se.testBit n = true
    · rw [if_pos hb, Nat.and_or_distrib_left, Nat.or_eq_zero_iff, ih]
      constructor
      · rintro ⟨h1, h2⟩ p hp hpb
        by_cases e : p = n
        · rw [e]; exact h2
        · exact h1 p (by omega) hpb
      · intro h
        exact ⟨fun p hp => h p (by omega), h n (by omega) hb⟩
    · rw [if_neg hb, ih]
      constructor
      · intro h1 p hp hpb
        by_cases e : p = n
        · rw [e] at hpb; exact absurd hpb hb
        · exact h1 p (by omega) hpb
      · intro h p hp
        exact h p (by omega)
theorem mkF_lt (se : Nat) : ∀ n, n ≤ 5 → mkF se n < 1024 := by
  intro n
  induction n with
  | zero => intro _; exact Nat.zero_lt_succ _
  | succ n ih =>
    intro h
    rw [mkF]
    have h1 := ih (by omega)
    split
    · refine Nat.or_lt_two_pow (n := 10) h1 ?_
      have : 2 ^ (2 * n) ≤ 2 ^ 8 := Nat.pow_le_pow_right (by decide) (by omega)
      omega
    · exact h1
theorem agr_iff {cell : Nat → Nat → Nat} {se r k : Nat} : ∀ n, agr cell se r k n = true ↔ ∀ p, p < n → se.testBit p = true → cell r p = cell k p := by
  intro n
  induction n with
  | zero => exact ⟨fun _ p hp => by omega, fun _ => rfl⟩
  | succ n ih =>
    rw [agr, Bool.and_eq_true, ih, Bool.or_eq_true, beq_iff_eq, beq_iff_eq, bit_tb]
    constructor
    · rintro ⟨h1, h2⟩ p hp hpb
      by_cases e : p = n
      · rw [e] at hpb ⊢
        rcases h2 with h2 | h2
        · rw [h2] at hpb; cases hpb
        · exact h2
      · exact h1 p (by omega) hpb
    · intro h
      refine ⟨fun p hp => h p (by omega), ?_⟩
      cases hb : se.testBit n with
      | false => exact Or.inl rfl
      | true => exact Or.inr (h n (by omega) hb)
section PF
variable {N R w : Nat} {vals : Nat → Nat} {cell : Nat → Nat → Nat} {fsv fsc : Nat → Int32} {i4 : Int32} {se nm : Nat}
theorem s_valuesOf (h : CS N R w vals cell fsv fsc) {i2 i3 : Int32} {p : Nat} (hp : p < N) : m_X8_valuesOf (nI N) i2 i3 i4 5 fsv (nI p) = some (nI (vals p)) := by
  have hN := h.1
  rw [em_X8_valuesOf, if_neg (nI_pos (by omega)), if_neg (fun z => by have := (nle (by omega) (by omega)).mp z; omega), if_neg (fun z => by have := (nle (by omega) (by omega)).mp z; omega), if_pos (ixn (by omega) (by omega)), cl (by omega), (h.2.2.2.2.1 p hp).1]
  rfl
theorem s_codeOf (h : CS N R w vals cell fsv fsc) {i1 i3 : Int32} {r : Nat} (hr : r < R) : m_X8_codeOf i1 (nI R) i3 i4 16 fsc (nI r) = some (nI (cdF cell r N)) := by
  have hN := h.2.1
  rw [em_X8_codeOf, if_neg (nI_pos (by omega)), if_neg (fun z => by have := (nle (by omega) (by omega)).mp z; omega), if_neg (fun z => by have := (nle (by omega) (by omega)).mp z; omega), if_pos (ixn (by omega) (by omega)), cl (by omega), (h.2.2.2.2.2 r hr).1]
  rfl
theorem s_agree (h : CS N R w vals cell fsv fsc) {r k : Nat} (hr : r < R) (hk : k < R) : (nI (cdF cell r N) ^^^ nI (cdF cell k N)) &&& nI (mkF se N) = 0 ↔ agr cell se r k N = true := by
  have c1 := (h.2.2.2.2.2 r hr).2
  have c2 := (h.2.2.2.2.2 k hk).2
  have hlt : (cdF cell r N ^^^ cdF cell k N) &&& mkF se N < 2 ^ 31 := Nat.lt_of_le_of_lt Nat.and_le_right (by have := mkF_lt se N h.1; omega)
  rw [nI_lxor, nI_land, show (0 : Int32) = nI 0 from rfl, nI_eq hlt (by decide), mkF_and, agr_iff]
  constructor
  · intro h p hp hb
    have := (dig_eq _ _ p).mp (h p hp hb)
    rw [cdF_dig N c1 p hp, cdF_dig N c2 p hp] at this
    exact this
  · intro h p hp hb
    apply (dig_eq _ _ p).mpr
    rw [cdF_dig N c1 p hp, cdF_dig N c2 p hp]
    exact h p hp hb
theorem s_own (h : CS N R w vals cell fsv fsc) {r k : Nat} (hr : r < R) (hk : k < R) (hnm : nm < N) : (nI (cdF cell r N) ^^^ nI (cdF cell k N)) &&& nI (3 * 2 ^ (2 * nm)) = 0 ↔ cell r nm = cell k nm := by
  have c1 := (h.2.2.2.2.2 r hr).2
  have c2 := (h.2.2.2.2.2 k hk).2
  have hN := h.1
  have hp2 : 2 ^ (2 * nm) ≤ 2 ^ 8 := Nat.pow_le_pow_right (by decide) (by omega)
  have hlt : (cdF cell r N ^^^ cdF cell k N) &&& 3 * 2 ^ (2 * nm) < 2 ^ 31 := Nat.lt_of_le_of_lt Nat.and_le_right (by omega)
  rw [nI_lxor, nI_land, show (0 : Int32) = nI 0 from rfl, nI_eq hlt (by decide), dig_eq, cdF_dig N c1 nm hnm, cdF_dig N c2 nm hnm]
theorem s_mask (h : CS N R w vals cell fsv fsc) {i2 i3 : Int32} (hse : se < 32) (hnm : nm < N) : ∃ q, lp (b_X8_pourFit_24 (nI N) i2 i3 i4 5 fsv (nI se)) FU (0, nI (vals nm), 0) = some q ∧ q.1 = nI (mkF se N) ∧ q.2.1 = nI (byF vals se nm N) := by
  have hN := h.1
  refine lp_inv (body := b_X8_pourFit_24 (nI N) i2 i3 i4 5 fsv (nI se)) (fun s => ∃ p, s.2.2 = nI p ∧ p ≤ N ∧ s.1 = nI (mkF se p) ∧ s.2.1 = nI (byF vals se nm p)) _ (fun s => N - u3 s.2.2) ?_ FU (0, nI (vals nm), 0) ⟨0, rfl, Nat.zero_le N, rfl, rfl⟩ (Nat.lt_of_le_of_lt (Nat.sub_le _ _) (FU_big (by omega)))
  rintro ⟨s1, s2, s3⟩ ⟨p, e1, hp, e2, e3⟩
  dsimp only at e1 e2 e3
  subst e1 e2 e3
  rw [eb_X8_pourFit_24]
  by_cases hpN : N ≤ p
  · right
    rw [if_pos ((nle (by omega) (by omega)).mpr hpN)]
    have : p = N := by omega
    subst this
    exact ⟨_, rfl, rfl, rfl⟩
  · left
    rw [if_neg (fun h => hpN ((nle (by omega) (by omega)).mp h)), t_isIn hse (by omega)]
    simp only [Option.bind_some, lt]
    have hbt : se / 2 ^ p % 2 = 1 ↔ se.testBit p = true := by rw [Nat.testBit_eq_decide_div_mod_eq, decide_eq_true_eq]
    by_cases hb : se.testBit p = true
    · rw [if_pos hb, if_neg (by decide), tb_own p (by omega), nI_lor, s_valuesOf h (by omega)]
      simp only [Option.bind_some]
      rw [nI_mulm, nI_1]
      refine ⟨_, rfl, ⟨p + 1, rfl, by omega, by rw [mkF, if_pos hb], by rw [byF, if_pos (hbt.mpr hb)]⟩, ?_⟩
      show N - u3 (nI (p + 1)) < N - u3 (nI p)
      rw [u3n (by omega), u3n (by omega)]
      omega
    · rw [if_neg hb, if_pos rfl, nI_1]
      refine ⟨_, rfl, ⟨p + 1, rfl, by omega, by rw [mkF, if_neg hb], by rw [byF, if_neg (fun z => hb (hbt.mp z)), Nat.mul_one]⟩, ?_⟩
      show N - u3 (nI (p + 1)) < N - u3 (nI p)
      rw [u3n (by omega), u3n (by omega)]
      omega
theorem s_cnt (h : CS N R w vals cell fsv fsc) {i3 : Int32} {q : Int32 × Int32 × Int32} (hq : q.1 = nI (mkF se N)) (hnm : nm < N) {r : Nat} (hr : r < R) : ∃ s, lp (b_X8_pourFit_91 (nI N) (nI R) i3 i4 16 fsc (nI (3 * 2 ^ (2 * nm))) q (nI r)) FU (0, 0, 0) = some s ∧ s.1 = nI (waysF cell N se r r) ∧ s.2.1 = nI (likeF cell N se nm r r) := by
  have hN := h.1
  have hR := h.2.1
  refine lp_inv (body := b_X8_pourFit_91 (nI N) (nI R) i3 i4 16 fsc (nI (3 * 2 ^ (2 * nm))) q (nI r)) (fun s => ∃ k, s.2.2 = nI k ∧ k ≤ r ∧ s.1 = nI (waysF cell N se r k) ∧ s.2.1 = nI (likeF cell N se nm r k)) _ (fun s => r - u3 s.2.2) ?_ FU (0, 0, 0) ⟨0, rfl, Nat.zero_le r, rfl, rfl⟩ (Nat.lt_of_le_of_lt (Nat.sub_le _ _) (FU_big (by omega)))
  rintro ⟨s1, s2, s3⟩ ⟨k, e1, hk, e2, e3⟩
  dsimp only at e1 e2 e3
  subst e1 e2 e3
  rw [eb_X8_pourFit_91]
  by_cases hkr : r ≤ k
  · right
    rw [if_pos ((nle (by omega) (by omega)).mpr hkr)]
    have : k = r := by omega
    subst this
    exact ⟨_, rfl, rfl, rfl⟩
  · left
    rw [if_neg (fun h => hkr ((nle (by omega) (by omega)).mp h)), s_codeOf h hr, s_codeOf h (show k < R by omega)]
    simp only [Option.bind_some, lt]
    rw [hq]
    have ha := s_agree (se := se) h hr (show k < R by omega)
    have ho := s_own (nm := nm) h hr (show k < R by omega) hnm
    refine ⟨(nI (waysF cell N se r (k + 1)), nI (likeF cell N se nm r (k + 1)), nI (k + 1)), ?_, ⟨k + 1, rfl, by omega, rfl, rfl⟩, ?_⟩
    · by_cases h1 : agr cell se r k N = true
      · rw [if_pos (ha.mpr h1)]
        by_cases h2 : cell r nm = cell k nm
        · rw [if_pos (ho.mpr h2)]
          simp only [Option.bind_some]
          rw [waysF, likeF, if_pos h1, if_pos ⟨h1, h2⟩, nI_1, nI_1, nI_1]
        · rw [if_neg (fun z => h2 (ho.mp z))]
          simp only [Option.bind_some]
          rw [waysF, likeF, if_pos h1, if_neg (fun z => h2 z.2), nI_1, nI_1]
          rfl
      · rw [if_neg (fun z => h1 (ha.mp z))]
        simp only [Option.bind_some]
        rw [waysF, likeF, if_neg h1, if_neg (fun z => h1 z.1), nI_1]
        rfl
    · show r - u3 (nI (k + 1)) < r - u3 (nI k)
      rw [u3n (by omega), u3n (by omega)]
      omega
end PF
