/-! Big.bits, Big.from -/
theorem dv_dig {d : Nat → Nat} : ∀ n, (∀ k, k < n → d k < BB) → ∀ i, i < n → dv d n / BB ^ i % BB = d i := by
  intro n
  induction n with
  | zero => intro _ i hi; omega
  | succ n ih =>
    intro hd i hi
    have e : dv d (n + 1) = dv d n + d n * BB ^ n := rfl
    rw [e]
    have hlt := dv_lt (fun k hk => hd k (show k < n + 1 by omega)) (n := n) (d := d)
    have hp : 0 < BB ^ i := Nat.pow_pos (by decide)
    by_cases h : i = n
    · subst h
      rw [Nat.add_mul_div_right _ _ hp, Nat.div_eq_of_lt hlt, Nat.zero_add, Nat.mod_eq_of_lt (hd i hi)]
    · have hin : i < n := by omega
      have e2 : d n * BB ^ n = (d n * BB ^ (n - i - 1) * BB) * BB ^ i := by
        rw [Nat.mul_assoc, Nat.mul_assoc, ← Nat.pow_succ', ← Nat.pow_add]
        congr 2
        omega
      rw [e2, Nat.add_mul_div_right _ _ hp, Nat.add_mul_mod_self_right]
      exact ih (fun k hk => hd k (by omega)) i hin
theorem BR_dig {n u X : Nat} {f : Nat → Int64} (h : BR n f u X) (i : Nat) : (if i < u then bd f i else 0) = X / BB ^ i % BB := by
  by_cases hi : i < u
  · rw [if_pos hi, ← h.2.2.1]
    exact (dv_dig u h.2.1 i hi).symm
  · rw [if_neg hi, Nat.div_eq_of_lt (Nat.lt_of_lt_of_le (BR_lt h) (Nat.pow_le_pow_right (by decide) (by omega))), Nat.zero_mod]
theorem lN_lor (a b : Nat) : lN a ||| lN b = lN (a ||| b) := by
  apply Int64.toBitVec_inj.mp
  apply BitVec.eq_of_toNat_eq
  show (BitVec.ofNat 64 a ||| BitVec.ofNat 64 b).toNat = (BitVec.ofNat 64 (a ||| b)).toNat
  simp only [BitVec.toNat_or, BitVec.toNat_ofNat]
  exact Nat.or_mod_two_pow.symm
theorem or_add {a b k : Nat} (h : a < 2 ^ k) : a ||| b * 2 ^ k = a + b * 2 ^ k := by
  rw [Nat.or_comm, Nat.mul_comm b, ← Nat.two_pow_add_eq_or_of_lt h, Nat.add_comm]
theorem tb_sm : ∀ k, k < 64 → (lN k).toBitVec.smod 64 = BitVec.ofNat 64 k := by decide +kernel
theorem lN_shl (w : Nat) {k : Nat} (h : k < 64) : lN w <<< lN k = lN (w * 2 ^ k) := by
  apply Int64.toBitVec_inj.mp
  rw [Int64.toBitVec_shiftLeft]
  have e := tb_sm k h
  rw [e]
  apply BitVec.eq_of_toNat_eq
  show ((BitVec.ofNat 64 w) <<< (BitVec.ofNat 64 k)).toNat = (BitVec.ofNat 64 (w * 2 ^ k)).toNat
  rw [BitVec.shiftLeft_eq', BitVec.toNat_shiftLeft, BitVec.toNat_ofNat, BitVec.toNat_ofNat, BitVec.toNat_ofNat, Nat.mod_eq_of_lt (show k < 2 ^ 64 by omega), Nat.shiftLeft_eq, Nat.mod_mul_mod]
theorem tb_us : ∀ s, s < 32 → ((nI s).toInt64.toUInt64 &&& Int64.toUInt64 63).toBitVec % 64 = BitVec.ofNat 64 s := by decide +kernel
theorem lN_ushr {v s : Nat} (h : v < 2 ^ 64) (hs : s < 32) : ((lN v).toUInt64 >>> ((nI s).toInt64.toUInt64 &&& Int64.toUInt64 63)).toInt64 = lN (v / 2 ^ s) := by
  apply Int64.toBitVec_inj.mp
  apply BitVec.eq_of_toNat_eq
  show ((BitVec.ofNat 64 v) >>> (((nI s).toInt64.toUInt64 &&& Int64.toUInt64 63).toBitVec % 64)).toNat = (BitVec.ofNat 64 (v / 2 ^ s)).toNat
  rw [tb_us s hs, BitVec.ushiftRight_eq', BitVec.toNat_ushiftRight, BitVec.toNat_ofNat, BitVec.toNat_ofNat, BitVec.toNat_ofNat, Nat.mod_eq_of_lt h, Nat.mod_eq_of_lt (show s < 2 ^ 64 by omega), Nat.shiftRight_eq_div_pow]
  have : v / 2 ^ s < 2 ^ 64 := Nat.lt_of_le_of_lt (Nat.div_le_self _ _) h
  rw [Nat.mod_eq_of_lt this]
theorem tb_64 : ∀ s, s < 32 → 1 ≤ s → ((64 : Int32) - nI s).toInt64 &&& 63 = lN (64 - s) := by decide +kernel
theorem s_fill {k d : Nat} (hd : bl d k) (hk : k < 32) : ∃ b, lp b_X1_bits_13 FU (lN d, 1) = some b ∧ b.1 = lN (2 ^ (k + 1) - 1) := by
  have h32 : d < 2 ^ 32 := Nat.lt_of_lt_of_le hd.2 (Nat.pow_le_pow_right (by decide) (by omega))
  refine lp_inv (body := b_X1_bits_13) (fun s => ∃ j v, j ≤ 5 ∧ s.2 = nI (2 ^ j) ∧ s.1 = lN v ∧ v < 2 ^ 32 ∧ fl k (2 ^ j) v) _ (fun s => 32 - u3 s.2) ?_ FU (lN d, 1) ⟨0, d, by omega, rfl, rfl, h32, fl_1 hd⟩ (Nat.lt_of_le_of_lt (Nat.sub_le _ _) (FU_big (by omega)))
  intro s hs
  obtain ⟨x, c⟩ := s
  obtain ⟨j, v, hj, e1, e2, hv, hf⟩ := hs
  dsimp only at e1 e2
  subst e1
  subst e2
  rw [eb_X1_bits_13]
  by_cases h5 : j = 5
  · subst h5
    right
    refine ⟨_, if_pos (by decide), ?_⟩
    show lN v = _
    rw [fl_e hf (show k < 2 ^ 5 by omega)]
  · left
    have hp : 2 ^ j ≤ 2 ^ 4 := Nat.pow_le_pow_right (by decide) (by omega)
    have hq : 0 < 2 ^ j := Nat.pow_pos (by decide)
    have e3 : nI (2 ^ j) * 2 = nI (2 ^ j * 2) := nI_mulm _ 2
    rw [if_neg (show ¬ (32 : Int32) ≤ nI (2 ^ j) from fun z => by have := (nle (a := 32) (by omega) (by omega)).mp z; omega)]
    simp only [lt]
    rw [lN_ushr (by omega) (by omega), lN_lor, e3]
    refine ⟨_, rfl, ⟨j + 1, v ||| v / 2 ^ 2 ^ j, by omega, ?_, rfl, Nat.or_lt_two_pow hv (Nat.lt_of_le_of_lt (Nat.div_le_self _ _) hv), ?_⟩, ?_⟩
    · rw [Nat.pow_succ]
    · rw [Nat.pow_succ]
      exact fl_s hf
    · show 32 - u3 (nI (2 ^ j * 2)) < 32 - u3 (nI (2 ^ j))
      rw [u3_nI (by simp only [BB]; omega), u3_nI (by simp only [BB]; omega)]
      omega
section BF
variable {n u X : Nat} {f : Nat → Int64}
theorem s_bits {k : Nat} (hX : BR n f u X) (hb : bl X k) (hn : n ≤ 50000) : m_X1_bits (nI u) n f = some (nI (k + 1)) := by
  have h0 : 0 < X := by have := hb.1; have : 0 < 2 ^ k := Nat.pow_pos (by decide); omega
  have hu := (BR_pos hX).mpr h0
  have hun := hX.1
  have hd0 := hX.2.2.2 hu
  have hd := hX.2.1 (u - 1) (by omega)
  obtain ⟨kd, hkd⟩ := bl_ex (show 0 < bd f (u - 1) by omega)
  have hk32 : kd < 32 := bl_lt hkd hd
  have hval : X = dv (bd f) (u - 1) + bd f (u - 1) * BB ^ (u - 1) := by
    have e : dv (bd f) (u - 1 + 1) = dv (bd f) (u - 1) + bd f (u - 1) * BB ^ (u - 1) := rfl
    rw [Nat.sub_add_cancel hu] at e
    rw [← hX.2.2.1, e]
  have hlow := dv_lt (fun k hk => hX.2.1 k (show k < u by omega)) (n := u - 1) (d := bd f)
  have hbl : bl X (32 * (u - 1) + kd) := by
    have ep : BB ^ (u - 1) = 2 ^ (32 * (u - 1)) := by rw [show BB = 2 ^ 32 from rfl, ← Nat.pow_mul]
    rw [ep] at hval hlow
    constructor
    · rw [hval, Nat.pow_add, Nat.mul_comm (2 ^ (32 * (u - 1)))]
      have := Nat.mul_le_mul_right (2 ^ (32 * (u - 1))) hkd.1
      omega
    · rw [hval, show 32 * (u - 1) + kd + 1 = (kd + 1) + 32 * (u - 1) by omega, Nat.pow_add]
      have h1 : (bd f (u - 1) + 1) * 2 ^ (32 * (u - 1)) ≤ 2 ^ (kd + 1) * 2 ^ (32 * (u - 1)) := Nat.mul_le_mul_right _ hkd.2
      rw [Nat.add_mul, Nat.one_mul] at h1
      omega
  have hke := bl_un hb hbl
  obtain ⟨⟨y, c⟩, e1, e2⟩ := s_fill hkd hk32
  dsimp only at e2
  subst e2
  rw [em_X1_bits, show (1 : Int32) = nI 1 from rfl, nI_subm (by omega), s_at hX hn (by omega), if_pos (by omega)]
  simp only [Option.bind_some]
  rw [show nI 1 = (1 : Int32) from rfl, e1]
  simp only [Option.bind_some]
  rw [if_neg (show ¬ nI u = 0 from fun z => by have := (neq (a := u) (b := 0) (by omega) (by omega)).mp z; omega), t_bc64 kd hk32]
  simp only [Option.bind_some]
  rw [show (32 : Int32) = nI 32 from rfl, nI_mulm, nI_add]
  congr 2
  omega
theorem tb_b5 (b : Nat) (h : b < 2 ^ 31) : nI b >>> (5 &&& 31) = nI (b / 32) := by
  rw [show ((5 : Int32) &&& 31) = nI 5 &&& 31 from rfl, pk_shrN h (nI 5 &&& 31) 5 (s_ll 5 (by decide))]
theorem tb_b31 (b : Nat) : nI b &&& 31 = nI (b % 32) := by
  rw [show (31 : Int32) = nI 31 from rfl, nI_land, show (31 : Nat) = 2 ^ 5 - 1 from rfl, Nat.and_two_pow_sub_one_eq_mod]
theorem s_from {b : Nat} (hX : BR n f u X) (hn : n ≤ 1000) (hb : b ≤ 40000) (hc : X / 2 ^ b < 2 ^ 63) : m_X1_from (nI u) n f (nI b) = some (lN (X / 2 ^ b)) := by
  have d0 := BR_dig hX (b / 32)
  have d1 := BR_dig hX (b / 32 + 1)
  have d2 := BR_dig hX (b / 32 + 2)
  rw [em_X1_from, tb_b5 b (by omega), tb_b31]
  simp only [lt]
  rw [s_at hX (by omega) (by omega), nI_1, s_at hX (by omega) (by omega), d0, d1]
  simp only [Option.bind_some]
  rw [show ((32 : Int32).toInt64 &&& 63) = lN 32 from rfl, lN_shl _ (by decide), lN_lor]
  have hpow : 2 ^ b = BB ^ (b / 32) * 2 ^ (b % 32) := by
    rw [show BB = 2 ^ 32 from rfl, ← Nat.pow_mul, ← Nat.pow_add]
    congr 1
    omega
  have hY : X / 2 ^ b = X / BB ^ (b / 32) / 2 ^ (b % 32) := by rw [hpow, Nat.div_div_eq_div_mul]
  have hs1 : X / BB ^ (b / 32 + 1) = X / BB ^ (b / 32) / BB := by rw [Nat.pow_succ, Nat.div_div_eq_div_mul]
  have hs2 : X / BB ^ (b / 32 + 2) = X / BB ^ (b / 32) / BB / BB := by rw [show b / 32 + 2 = b / 32 + 1 + 1 from rfl, Nat.pow_succ, ← Nat.div_div_eq_div_mul, hs1]
  rw [hs1, hY]
  rw [hY] at hc
  rw [hs2] at d2
  generalize X / BB ^ (b / 32) = Y at *
  have hlow : Y % BB ||| Y / BB % BB * 2 ^ 32 = Y % BB + Y / BB % BB * 2 ^ 32 := or_add (Nat.mod_lt _ (by decide))
  rw [hlow]
  by_cases hz : b % 32 = 0
  · rw [hz, if_pos (show nI 0 = 0 from rfl), Nat.pow_zero, Nat.div_one]
    rw [hz, Nat.pow_zero, Nat.div_one] at hc
    congr 2
    simp only [BB]
    omega
  · rw [if_neg (show ¬ nI (b % 32) = 0 from fun z => hz ((neq (a := b % 32) (b := 0) (by omega) (by omega)).mp z)), show (2 : Int32) = nI 2 from rfl, nI_add, s_at hX (by omega) (by omega), d2]
    simp only [Option.bind_some]
    have hs : b % 32 < 32 := Nat.mod_lt _ (by decide)
    generalize b % 32 = s at *
    rw [lN_ushr (by simp only [BB]; omega) hs, tb_64 s hs (by omega), lN_shl _ (by omega), lN_lor]
    have hY3 : Y = (Y % BB + Y / BB % BB * 2 ^ 32) + (Y / BB / BB) * 2 ^ 64 := by simp only [BB]; omega
    have hp : 2 ^ 64 = 2 ^ (64 - s) * 2 ^ s := by rw [← Nat.pow_add]; congr 1; omega
    have hq : Y / 2 ^ s = (Y % BB + Y / BB % BB * 2 ^ 32) / 2 ^ s + (Y / BB / BB) * 2 ^ (64 - s) := by
      rw (config := { occs := .pos [1] }) [hY3]
      rw [hp, ← Nat.mul_assoc, Nat.add_mul_div_right _ _ (Nat.pow_pos (by decide))]
    have hsm : Y / BB / BB % BB = Y / BB / BB := by
      apply Nat.mod_eq_of_lt
      have h1 : Y / BB / BB * 2 ^ (64 - s) < 2 ^ 63 := by
        have h9 := hc
        rw [hq] at h9
        exact Nat.lt_of_le_of_lt (Nat.le_add_left _ _) h9
      have h2 : 2 ^ 33 ≤ 2 ^ (64 - s) := Nat.pow_le_pow_right (by decide) (by omega)
      have h3 := Nat.mul_le_mul_left (Y / BB / BB) h2
      show Y / BB / BB < 4294967296
      omega
    rw [hsm, or_add, hq]
    refine (Nat.div_lt_iff_lt_mul (Nat.pow_pos (by decide))).mpr ?_
    rw [← hp]
    simp only [BB]
    omega
end BF
