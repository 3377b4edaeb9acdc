theorem l_subm {a b : Nat} (ha : a < BB) (hb : b < BB) : (lN a - lN b) &&& 4294967295 = lN (if a < b then a + BB - b else a - b) := by
  have ha' := ha
  have hb' := hb
  simp only [BB] at ha' hb'
  by_cases h : a < b
  · have e : lN a - lN b = lN (18446744073709551616 + a - b) := by
      apply Int64.toBitVec_inj.mp
      apply BitVec.eq_of_toNat_eq
      show (BitVec.ofNat 64 a - BitVec.ofNat 64 b).toNat = (BitVec.ofNat 64 (18446744073709551616 + a - b)).toNat
      simp only [BitVec.toNat_sub, BitVec.toNat_ofNat]
      omega
    rw [e, lN_maskL (by omega), if_pos h]
    congr 1
    simp only [BB]
    omega
  · rw [lN_sub (by omega), lN_maskL (by omega), if_neg h, Nat.mod_eq_of_lt (by omega)]
section BS
variable {n n2 u u2 : Nat} {f f2 : Nat → Int64}
theorem s_subtractMultiple {d p : Nat} (hu : u ≤ n) (hn : n ≤ 50000) (hu2 : u2 ≤ n2) (hn2 : n2 ≤ 50000) (hd : ∀ k, k < u → bd f k < BB) (hd2 : ∀ k, k < u2 → bd f2 k < BB) (hdg : d < BB) (hp : p + u2 ≤ u) (hv : d * dv (bd f2) u2 * BB ^ p ≤ dv (bd f) u) :
    ∃ g c, m_X1_subtractMultiple (nI u) n f (nI u2) n2 f2 (lN d) (nI p) = some (nI c, g) ∧ BR n g c (dv (bd f) u - d * dv (bd f2) u2 * BB ^ p) ∧ c ≤ u := by
  have L := lp_inv (body := b_X1_subtractMultiple_38 n n2 f2 (lN d) (nI p) (nI u) (nI (p + u2))) (fun s => ∃ k c, s.1 = lN c ∧ s.2.1 = nI k ∧ c < BB ∧ p ≤ k ∧ k ≤ u ∧ (∀ j, j < u → bd s.2.2 j < BB) ∧ dv (bd s.2.2) u + d * dv (bd f2) (min (k - p) u2) * BB ^ p = dv (bd f) u + c * BB ^ k) (fun s => (∀ j, j < u → bd s.2.2 j < BB) ∧ dv (bd s.2.2) u + d * dv (bd f2) u2 * BB ^ p = dv (bd f) u) (fun s => u - u3 s.2.1) ?_ FU (0, nI p, f) ⟨p, 0, rfl, rfl, by decide, Nat.le_refl p, by omega, hd, by simp [dv]⟩ (Nat.lt_of_le_of_lt (Nat.sub_le _ _) (FU_big (by omega)))
  · obtain ⟨q, e, h1, h2⟩ := L
    obtain ⟨c, ec, hB, hc⟩ := s_trim (f := q.2.2) (u := u) hu (by omega) h1
    refine ⟨q.2.2, c, ?_, ?_, hc⟩
    · unfold m_X1_subtractMultiple
      rw [minI (by omega) (by omega), minI (by omega) (by omega), Nat.min_eq_right hu, Nat.min_eq_right hu2, nI_add]
      simp only [lt]
      rw [e]
      simp only [Option.bind_some]
      rw [ec]
      rfl
    · rw [show dv (bd f) u - d * dv (bd f2) u2 * BB ^ p = dv (bd q.2.2) u by omega]
      exact hB
  · rintro ⟨cw, kw, g⟩ ⟨k, c, e1, e2, hc, hk1, hk2, hgd, hgv⟩
    dsimp only at e1 e2 hgd hgv
    subst e1
    subst e2
    rw [eb_X1_subtractMultiple_38, if_neg (nI_pos (by omega))]
    have hcz := lg_cmp_0 hc
    by_cases hku : u ≤ k
    · right
      rw [if_pos ((nle (by omega) (by omega)).mpr hku)]
      simp only [Option.bind_some, if_true]
      refine ⟨_, rfl, hgd, ?_⟩
      have hk : k = u := by omega
      subst hk
      rw [Nat.min_eq_right (by omega)] at hgv
      show dv (bd g) k + _ = _
      have hgl := dv_lt (d := bd g) (n := k) hgd
      have : c = 0 := by
        rcases Nat.eq_zero_or_pos c with q | q
        · exact q
        · have := Nat.le_mul_of_pos_left (BB ^ k) q
          omega
      subst this
      omega
    · rw [if_neg (fun h => hku ((nle (by omega) (by omega)).mp h))]
      have hk3 : k < u := by omega
      have step : ∀ y : Nat, y < BB → (if nI (p + u2) ≤ nI k then some (lN c) else if ix (nI k - nI p) n2 = true then some (lN c + lN d * f2 (nI k - nI p).toNatClampNeg) else none) = some (lN (c + d * y)) → (d * dv (bd f2) (min (k + 1 - p) u2) * BB ^ p = d * dv (bd f2) (min (k - p) u2) * BB ^ p + d * y * BB ^ k) →
          (∃ a', ((if nI (p + u2) ≤ nI k then some (lN c) else if ix (nI k - nI p) n2 = true then lt (lN c + lN d * f2 (nI k - nI p).toNatClampNeg) (fun x10_13 : Int64 => some x10_13) else none).bind (fun y_7 : Int64 => if ix (nI k) n = true then lt (g (nI k).toNatClampNeg - (y_7 &&& 4294967295)) (fun x12_8 : Int64 => if ix (nI k) n = true then lt (vp_updL g (nI k).toNatClampNeg (x12_8 &&& 4294967295)) (fun fw_9 : Nat → Int64 => lt (if 0 ≤ lg_cmp x12_8 0 then 0 else 1 : Int32) (fun z_10 : Int32 => lt ((y_7.toUInt64 >>> ((32 : Int32).toInt64.toUInt64 &&& Int64.toUInt64 63)).toInt64 + z_10.toInt64) (fun x5_11 : Int64 => lt (nI k + 1) (fun x9_12 : Int32 => some (Sum.inl (x5_11, x9_12, fw_9)))))) else none) else none)) = some (Sum.inl a' : (Int64 × Int32 × (Nat → Int64)) ⊕ (Int64 × Int32 × (Nat → Int64))) ∧ (∃ k c, a'.1 = lN c ∧ a'.2.1 = nI k ∧ c < BB ∧ p ≤ k ∧ k ≤ u ∧ (∀ j, j < u → bd a'.2.2 j < BB) ∧ dv (bd a'.2.2) u + d * dv (bd f2) (min (k - p) u2) * BB ^ p = dv (bd f) u + c * BB ^ k) ∧ u - u3 a'.2.1 < u - u3 (nI k)) := by
        intro y hy hval hdv
        have hdy : d * y ≤ 4294967295 * 4294967295 := Nat.mul_le_mul (by simp only [BB] at hdg; omega) (by simp only [BB] at hy; omega)
        have hc' := hc
        simp only [BB] at hc'
        have hv64 : c + d * y < 2 ^ 64 := by omega
        have hPle : c + d * y ≤ 4294967295 * 4294967296 := by omega
        simp only [lt]
        rw [hval]
        simp only [Option.bind_some]
        rw [if_pos (ixn (by omega) (by omega)), if_pos (ixn (by omega) (by omega)), cl (by omega), lN_maskL hv64, lN_shr32 hv64, nI_1, lN_bd g k]
        generalize hvv : c + d * y = v at hv64 hPle ⊢
        have hlo : v % BB < BB := Nat.mod_lt _ (by decide)
        have hw := hgd k hk3
        rw [l_subm hw hlo]
        obtain ⟨s1, -⟩ := l_sub2 hw hlo
        have hge : 0 ≤ lg_cmp (lN (bd g k) - lN (v % BB)) 0 ↔ ¬ bd g k < v % BB := by
          rw [lg_cmp_ge, ← s1]
          exact Int64.not_lt.symm
        generalize hE : (if bd g k < v % BB then bd g k + BB - v % BB else bd g k - v % BB) = E
        have fin : ∀ b : Nat, b ≤ 1 → E + v % BB = bd g k + b * BB → E < BB → v / BB + b < BB → (∃ a', some (Sum.inl (lN (v / BB) + lN b, nI (k + 1), vp_updL g k (lN E))) = some (Sum.inl a' : (Int64 × Int32 × (Nat → Int64)) ⊕ (Int64 × Int32 × (Nat → Int64))) ∧ (∃ k c, a'.1 = lN c ∧ a'.2.1 = nI k ∧ c < BB ∧ p ≤ k ∧ k ≤ u ∧ (∀ j, j < u → bd a'.2.2 j < BB) ∧ dv (bd a'.2.2) u + d * dv (bd f2) (min (k - p) u2) * BB ^ p = dv (bd f) u + c * BB ^ k) ∧ u - u3 a'.2.1 < u - u3 (nI k)) := by
          intro b hb hEq hEl hcl
          have hE64 : E < 2 ^ 64 := by simp only [BB] at hEl; omega
          refine ⟨_, rfl, ⟨k + 1, v / BB + b, lN_add _ _, rfl, hcl, by omega, by omega, fun j hj => ?_, ?_⟩, ?_⟩
          · show bd (vp_updL g k (lN E)) j < BB
            rw [bd_upd hE64]
            unfold du
            split
            · exact hEl
            · exact hgd j hj
          · show dv (bd (vp_updL g k (lN E))) u + _ = _
            rw [bd_upd hE64, hdv, Nat.pow_succ]
            have hdu := dv_du (d := bd g) (p := k) (e := E) (n := u) hk3
            have e1 := mod_div_BB v (BB ^ k)
            have e2 : v * BB ^ k = c * BB ^ k + d * y * BB ^ k := by rw [← hvv, Nat.add_mul]
            have e3 : E * BB ^ k + v % BB * BB ^ k = bd g k * BB ^ k + b * (BB ^ k * BB) := by
              rw [← Nat.add_mul, hEq, Nat.add_mul, Nat.mul_assoc, Nat.mul_comm BB]
            have e4 : (v / BB + b) * (BB ^ k * BB) = v / BB * (BB ^ k * BB) + b * (BB ^ k * BB) := Nat.add_mul ..
            omega
          · show u - u3 (nI (k + 1)) < u - u3 (nI k)
            rw [u3n (by omega), u3n (by omega)]; omega
        have hw' := hw
        simp only [BB] at hw' hlo
        by_cases hlt : bd g k < v % BB
        · rw [if_neg (fun q => (hge.mp q) hlt)]
          rw [if_pos hlt] at hE
          exact fin 1 (Nat.le_refl 1) (by rw [← hE]; simp only [BB] at hlt ⊢; omega) (by rw [← hE]; simp only [BB] at hlt ⊢; omega) (by simp only [BB] at hlt ⊢; omega)
        · rw [if_pos (hge.mpr hlt)]
          rw [if_neg hlt] at hE
          exact fin 0 (by omega) (by rw [← hE]; simp only [BB] at hlt ⊢; omega) (by rw [← hE]; simp only [BB] at hlt ⊢; omega) (by simp only [BB]; omega)
      by_cases hkt : k < p + u2
      · left
        rw [if_pos ((nlt (by omega) (by omega)).mpr hkt)]
        simp only [Option.bind_some, if_true, Bool.false_eq_true, if_false]
        refine step (bd f2 (k - p)) (hd2 _ (by omega)) ?_ ?_
        · rw [if_neg (fun h => by have := (nle (by omega) (by omega)).mp h; omega), pk_sub hk1, if_pos (ixn (by omega) (by omega)), cl (by omega), lN_bd f2 (k - p), lN_mul, lN_add]
        · rw [Nat.min_eq_left (by omega), Nat.min_eq_left (by omega), show k + 1 - p = (k - p) + 1 by omega, dv, Nat.mul_add, Nat.add_mul]
          congr 1
          rw [show BB ^ k = BB ^ (k - p) * BB ^ p by rw [← Nat.pow_add]; congr 1; omega]
          simp only [Nat.mul_assoc]
      · rw [if_neg (fun h => hkt ((nlt (by omega) (by omega)).mp h))]
        by_cases hc0 : c = 0
        · right
          rw [if_pos (hcz.mpr hc0)]
          simp only [Option.bind_some, if_true, Bool.false_eq_true, if_false]
          refine ⟨_, rfl, hgd, ?_⟩
          rw [Nat.min_eq_right (by omega)] at hgv
          subst hc0
          show dv (bd g) u + _ = _
          omega
        · left
          rw [if_neg (fun h => hc0 (hcz.mp h))]
          simp only [Option.bind_some, if_true, Bool.false_eq_true, if_false]
          refine step 0 (by decide) ?_ ?_
          · rw [if_pos ((nle (by omega) (by omega)).mpr (by omega))]; rfl
          · rw [Nat.min_eq_right (by omega), Nat.min_eq_right (by omega), Nat.mul_zero, Nat.zero_mul, Nat.add_zero]
theorem s_minus {X Y : Nat} (hX : BR n f u X) (hY : BR n2 f2 u2 Y) (hYX : Y ≤ X) (hn : n ≤ 50000) (hn2 : n2 ≤ 50000) :
    ∃ g c, m_X1_minus (nI u) n f (nI u2) n2 f2 = some (nI c, g) ∧ BR n g c (X - Y) ∧ c ≤ u := by
  have hl := BR_len hY (Nat.lt_of_le_of_lt hYX (BR_lt hX))
  obtain ⟨g, c, e, hB, hc⟩ := s_subtractMultiple (d := 1) (p := 0) hX.1 hn hY.1 hn2 hX.2.1 hY.2.1 (by decide) (by omega) (by rw [hX.2.2.1, hY.2.2.1]; simp only [Nat.one_mul, Nat.pow_zero, Nat.mul_one]; exact hYX)
  rw [hX.2.2.1, hY.2.2.1, Nat.one_mul, Nat.pow_zero, Nat.mul_one] at hB
  refine ⟨g, c, ?_, hB, hc⟩
  unfold m_X1_minus
  rw [show (1 : Int64) = lN 1 from rfl, show (0 : Int32) = nI 0 from rfl, e]
  rfl
end BS
