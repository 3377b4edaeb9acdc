/-! the class's long numbers: words of 32 bits in longs -/
def bd (f : Nat → Int64) (k : Nat) : Nat := (f k).toBitVec.toNat
theorem lN_bd (f : Nat → Int64) (k : Nat) : f k = lN (bd f k) := by
  apply Int64.toBitVec_inj.mp
  apply BitVec.eq_of_toNat_eq
  show bd f k = (BitVec.ofNat 64 (bd f k)).toNat
  rw [BitVec.toNat_ofNat]
  exact (Nat.mod_eq_of_lt (f k).toBitVec.isLt).symm
theorem bd_lN {v : Nat} (h : v < 2 ^ 64) : (lN v).toBitVec.toNat = v := by
  show (BitVec.ofNat 64 v).toNat = v
  rw [BitVec.toNat_ofNat, Nat.mod_eq_of_lt h]
theorem bd_upd {f : Nat → Int64} {k v : Nat} (h : v < 2 ^ 64) : bd (vp_updL f k (lN v)) = du (bd f) k v := by
  funext j
  unfold bd du
  by_cases hj : j = k
  · subst hj; rw [if_pos rfl, pk_uLs, bd_lN h]
  · rw [if_neg hj, pk_uLn hj]
theorem lN_maskL {v : Nat} (h : v < 2 ^ 64) : lN v &&& 4294967295 = lN (v % BB) := by
  apply Int64.toBitVec_inj.mp
  apply BitVec.eq_of_toNat_eq
  show ((lN v).toBitVec &&& (4294967295 : Int64).toBitVec).toNat = (lN (v % BB)).toBitVec.toNat
  rw [BitVec.toNat_and, bd_lN h, show ((4294967295 : Int64).toBitVec).toNat = 2 ^ 32 - 1 from rfl, Nat.and_two_pow_sub_one_eq_mod]
  rw [bd_lN (Nat.lt_of_le_of_lt (Nat.mod_le v BB) h)]
/-- f holds the number v in u words, n places are there -/
def BR (n : Nat) (f : Nat → Int64) (u v : Nat) : Prop := u ≤ n ∧ (∀ k, k < u → bd f k < BB) ∧ dv (bd f) u = v ∧ (0 < u → bd f (u - 1) ≠ 0)
theorem nm1' (k : Nat) : nI k - 1 = nI k + (-1) := Int32.sub_eq_add_neg ..
theorem nm1_neg {k : Nat} (h : k ≤ 100000) : nI k + (-1) < 0 ↔ k = 0 := by
  rcases Nat.eq_zero_or_pos k with h0 | h0
  · subst h0; exact ⟨fun _ => rfl, fun _ => by decide⟩
  · rw [nm1 h0]
    exact ⟨fun q => absurd q (nI_pos (by omega)), fun q => by omega⟩
theorem minI {a b : Nat} (ha : a ≤ 100000) (hb : b ≤ 100000) : (if nI a < nI b then nI a else nI b) = nI (min a b) := by
  by_cases h : a < b
  · rw [if_pos ((nlt ha hb).mpr h), Nat.min_eq_left (by omega)]
  · rw [if_neg (fun q => h ((nlt ha hb).mp q)), Nat.min_eq_right (by omega)]
theorem maxI {a b : Nat} (ha : a ≤ 100000) (hb : b ≤ 100000) : (if nI a < nI b then nI b else nI a) = nI (max a b) := by
  by_cases h : a < b
  · rw [if_pos ((nlt ha hb).mpr h), Nat.max_eq_right (by omega)]
  · rw [if_neg (fun q => h ((nlt ha hb).mp q)), Nat.max_eq_left (by omega)]
section BG
variable {n n2 u u2 : Nat} {f f2 : Nat → Int64}
theorem s_trim (hu : u ≤ n) (hn : n ≤ 100000) (hd : ∀ k, k < u → bd f k < BB) : ∃ c, m_X1_trim (nI u) n f = some (nI c) ∧ BR n f c (dv (bd f) u) ∧ c ≤ u := by
  have L := lp_inv (body := b_X1_trim_15 n f) (fun s => ∃ k, s.1 = nI k + (-1) ∧ s.2 = nI k ∧ k ≤ u ∧ dv (bd f) k = dv (bd f) u) (fun s => ∃ k, s.2 = nI k ∧ k ≤ u ∧ dv (bd f) k = dv (bd f) u ∧ (0 < k → bd f (k - 1) ≠ 0)) (fun s => u3 s.2) ?_ FU (nI u + (-1), nI u) ⟨u, rfl, rfl, Nat.le_refl u, rfl⟩ (by show u3 (nI u) < FU; rw [u3n (by omega)]; exact FU_big (by omega))
  · obtain ⟨q, e, k, hq, hk, hv, h0⟩ := L
    refine ⟨k, ?_, ⟨by omega, fun j hj => hd j (by omega), hv, h0⟩, hk⟩
    unfold m_X1_trim
    rw [minI (by omega) (by omega), Nat.min_eq_right hu, nm1']
    simp only [lt]
    rw [e]
    simp only [Option.bind_some]
    rw [hq]
  · rintro ⟨iw, uw⟩ ⟨k, e1, e2, hk, hv⟩
    dsimp only at e1 e2
    subst e1
    subst e2
    rw [eb_X1_trim_15]
    by_cases h0 : k = 0
    · right
      rw [if_pos ((nm1_neg (by omega)).mpr h0)]
      exact ⟨_, rfl, k, rfl, hk, hv, fun h => by omega⟩
    · rw [if_neg (fun h => h0 ((nm1_neg (by omega)).mp h)), nm1 (by omega), if_pos (ixn (by omega) hn), cl (by omega), lN_bd f (k - 1)]
      have hz := lg_cmp_0 (hd (k - 1) (by omega))
      by_cases hzz : bd f (k - 1) = 0
      · left
        rw [if_pos (hz.mpr hzz)]
        refine ⟨(nI (k - 1) + (-1), nI (k - 1)), rfl, ⟨k - 1, rfl, rfl, by omega, ?_⟩, by show u3 (nI (k - 1)) < u3 (nI k); rw [u3n (by omega), u3n (by omega)]; omega⟩
        rw [← hv]
        exact (dv_zeros (by omega) (fun j h1 h2 => by rw [show j = k - 1 by omega]; exact hzz)).symm
      · right
        rw [if_neg (fun h => hzz (hz.mp h))]
        exact ⟨_, rfl, k, rfl, hk, hv, fun _ => hzz⟩
/-- words 0 come behind, up to so many -/
theorem s_widen {l : Nat} (hu : u ≤ n) (hn : n ≤ 50000) (hl : l ≤ n) : ∃ g, m_X1_widen (nI u) n f (nI l) = some (nI (max u l), g) ∧ (∀ k, k < u → g k = f k) ∧ (∀ k, u ≤ k → k < max u l → g k = 0) := by
  have L := lp_inv (body := b_X1_widen_15 n (nI l)) (fun s => ∃ k, s.1 = nI k ∧ u ≤ k ∧ k ≤ max u l ∧ (∀ j, j < u → s.2 j = f j) ∧ ∀ j, u ≤ j → j < k → s.2 j = 0) (fun s => (∀ k, k < u → s.2 k = f k) ∧ ∀ k, u ≤ k → k < max u l → s.2 k = 0) (fun s => max u l - u3 s.1) ?_ FU (nI u, f) ⟨u, rfl, Nat.le_refl u, by omega, fun j _ => rfl, fun j h1 h2 => by omega⟩ (Nat.lt_of_le_of_lt (Nat.sub_le _ _) (FU_big (by omega)))
  · obtain ⟨q, e, h1, h2⟩ := L
    refine ⟨q.2, ?_, h1, h2⟩
    unfold m_X1_widen
    rw [minI (by omega) (by omega), Nat.min_eq_right hl]
    simp only [lt]
    rw [e]
    simp only [Option.bind_some]
    rw [maxI (by omega) (by omega)]
  · rintro ⟨kw, g⟩ ⟨k, e1, hk1, hk2, hlo, hz⟩
    dsimp only at e1 hlo hz
    subst e1
    rw [eb_X1_widen_15]
    by_cases hkl : l ≤ k
    · right
      rw [if_pos ((nle (by omega) (by omega)).mpr hkl)]
      exact ⟨_, rfl, hlo, fun j h1 h2 => hz j h1 (by omega)⟩
    · left
      rw [if_neg (fun h => hkl ((nle (by omega) (by omega)).mp h)), if_pos (ixn (by omega) (by omega)), cl (by omega)]
      refine ⟨(nI (k + 1), vp_updL g k 0), by rw [← nI_1]; rfl, ⟨k + 1, rfl, by omega, by omega, fun j hj => (pk_uLn (by omega)).trans (hlo j hj), fun j h1 h2 => ?_⟩, ?_⟩
      · by_cases hjk : j = k
        · subst hjk; exact pk_uLs
        · exact (pk_uLn hjk).trans (hz j h1 (by omega))
      · show max u l - u3 (nI (k + 1)) < max u l - u3 (nI k)
        rw [u3n (by omega), u3n (by omega)]; omega
/-- a multiple of another number is added at a place; the room is there -/
theorem s_addMultiple {d p : Nat} (hu : u ≤ n) (hn : n ≤ 50000) (hu2 : u2 ≤ n2) (hn2 : n2 ≤ 50000) (hd : ∀ k, k < u → bd f k < BB) (hd2 : ∀ k, k < u2 → bd f2 k < BB) (hdg : d < BB) (hp : p + u2 ≤ u) (hv : dv (bd f) u + d * dv (bd f2) u2 * BB ^ p < BB ^ u) :
    ∃ g, m_X1_addMultiple (nI u) n f (nI u2) n2 f2 (lN d) (nI p) = some g ∧ (∀ k, k < u → bd g k < BB) ∧ dv (bd g) u = dv (bd f) u + d * dv (bd f2) u2 * BB ^ p ∧ (∀ j, j < p → g j = f j) := by
  have L := lp_inv (body := b_X1_addMultiple_38 n n2 f2 (lN d) (nI p) (nI u) (nI (p + u2))) (fun s => ∃ k c, s.1 = lN c ∧ s.2.1 = nI k ∧ c < BB ∧ p ≤ k ∧ k ≤ u ∧ (∀ j, j < u → bd s.2.2 j < BB) ∧ dv (bd s.2.2) u + c * BB ^ k = dv (bd f) u + d * dv (bd f2) (min (k - p) u2) * BB ^ p ∧ ∀ j, j < p → s.2.2 j = f j) (fun s => (∀ j, j < u → bd s.2.2 j < BB) ∧ dv (bd s.2.2) u = dv (bd f) u + d * dv (bd f2) u2 * BB ^ p ∧ ∀ j, j < p → s.2.2 j = f j) (fun s => u - u3 s.2.1) ?_ FU (0, nI p, f) ⟨p, 0, rfl, rfl, by decide, Nat.le_refl p, by omega, hd, by simp [dv], fun j _ => rfl⟩ (Nat.lt_of_le_of_lt (Nat.sub_le _ _) (FU_big (by omega)))
  · obtain ⟨q, e, h1, h2, h3⟩ := L
    refine ⟨q.2.2, ?_, h1, h2, h3⟩
    unfold m_X1_addMultiple
    rw [minI (by omega) (by omega), minI (by omega) (by omega), Nat.min_eq_right hu, Nat.min_eq_right hu2, nI_add]
    simp only [lt]
    rw [e]
    rfl
  · rintro ⟨cw, kw, g⟩ ⟨k, c, e1, e2, hc, hk1, hk2, hgd, hgv, hgl⟩
    dsimp only at e1 e2 hgd hgv hgl
    subst e1
    subst e2
    rw [eb_X1_addMultiple_38, if_neg (nI_pos (by omega))]
    have hcz := lg_cmp_0 hc
    by_cases hku : u ≤ k
    · right
      rw [if_pos ((nle (by omega) (by omega)).mpr hku)]
      simp only [Option.bind_some, if_true]
      refine ⟨_, rfl, hgd, ?_, hgl⟩
      have hk : k = u := by omega
      subst hk
      rw [Nat.min_eq_right (by omega)] at hgv
      show dv (bd g) k = _
      have : c = 0 := by
        rcases Nat.eq_zero_or_pos c with q | q
        · exact q
        · have := Nat.le_mul_of_pos_left (BB ^ k) q
          omega
      subst this
      omega
    · rw [if_neg (fun h => hku ((nle (by omega) (by omega)).mp h))]
      have hk3 : k < u := by omega
      have step : ∀ y : Nat, y < BB → (if nI (p + u2) ≤ nI k then some (lN (bd g k) + lN c) else if ix (nI k - nI p) n2 = true then some (lN (bd g k) + lN c + lN d * f2 (nI k - nI p).toNatClampNeg) else none) = some (lN (bd g k + c + d * y)) → (d * dv (bd f2) (min (k + 1 - p) u2) * BB ^ p = d * dv (bd f2) (min (k - p) u2) * BB ^ p + d * y * BB ^ k) →
          (∃ a', (if ix (nI k) n = true then lt (g (nI k).toNatClampNeg + lN c) (fun x10_7 : Int64 => (if nI (p + u2) ≤ nI k then some x10_7 else if ix (nI k - nI p) n2 = true then lt (x10_7 + lN d * f2 (nI k - nI p).toNatClampNeg) (fun x10_12 : Int64 => some x10_12) else none).bind (fun y_8 : Int64 => if ix (nI k) n = true then lt (vp_updL g (nI k).toNatClampNeg (y_8 &&& 4294967295)) (fun fw_9 : Nat → Int64 => lt ((y_8.toUInt64 >>> ((32 : Int32).toInt64.toUInt64 &&& Int64.toUInt64 63)).toInt64) (fun x5_10 : Int64 => lt (nI k + 1) (fun x9_11 : Int32 => some (Sum.inl (x5_10, x9_11, fw_9))))) else none)) else none) = some (Sum.inl a' : (Int64 × Int32 × (Nat → Int64)) ⊕ (Int64 × Int32 × (Nat → Int64))) ∧ (∃ k c, a'.1 = lN c ∧ a'.2.1 = nI k ∧ c < BB ∧ p ≤ k ∧ k ≤ u ∧ (∀ j, j < u → bd a'.2.2 j < BB) ∧ dv (bd a'.2.2) u + c * BB ^ k = dv (bd f) u + d * dv (bd f2) (min (k - p) u2) * BB ^ p ∧ ∀ j, j < p → a'.2.2 j = f j) ∧ u - u3 a'.2.1 < u - u3 (nI k)) := by
        intro y hy hval hdv
        have hv64 : bd g k + c + d * y < 2 ^ 64 := by
          have := mac_lt hdg hy (hgd k hk3) hc
          omega
        rw [if_pos (ixn (by omega) (by omega)), cl (by omega)]
        simp only [lt]
        rw [lN_bd g k, hval]
        simp only [Option.bind_some]
        rw [if_pos (ixn (by omega) (by omega)), lN_maskL hv64, lN_shr32 hv64, nI_1]
        generalize hvv : bd g k + c + d * y = v at hv64 ⊢
        have hmod : v % BB < BB := Nat.mod_lt _ (by decide)
        have hm64 : v % BB < 2 ^ 64 := Nat.lt_of_le_of_lt (Nat.mod_le v BB) hv64
        refine ⟨_, rfl, ⟨k + 1, v / BB, rfl, rfl, div_BB hv64, by omega, by omega, fun j hj => ?_, ?_, fun j hj => (pk_uLn (by omega)).trans (hgl j hj)⟩, ?_⟩
        · show bd (vp_updL g k (lN (v % BB))) j < BB
          rw [bd_upd hm64]
          unfold du
          split
          · exact hmod
          · exact hgd j hj
        · show dv (bd (vp_updL g k (lN (v % BB)))) u + v / BB * BB ^ (k + 1) = _
          rw [bd_upd hm64, hdv, Nat.pow_succ]
          have hdu := dv_du (d := bd g) (p := k) (e := v % BB) (n := u) hk3
          have e1 := mod_div_BB v (BB ^ k)
          have e2 : v * BB ^ k = bd g k * BB ^ k + c * BB ^ k + d * y * BB ^ k := by rw [← hvv, Nat.add_mul, Nat.add_mul]
          omega
        · show u - u3 (nI (k + 1)) < u - u3 (nI k)
          rw [u3n (by omega), u3n (by omega)]; omega
      by_cases hkt : k < p + u2
      · left
        rw [if_pos ((nlt (by omega) (by omega)).mpr hkt)]
        simp only [Option.bind_some, if_true, Bool.false_eq_true, if_false]
        refine step (bd f2 (k - p)) (hd2 _ (by omega)) ?_ ?_
        · rw [if_neg (fun h => by have := (nle (by omega) (by omega)).mp h; omega), pk_sub hk1, if_pos (ixn (by omega) (by omega)), cl (by omega), lN_bd f2 (k - p), lN_mul, lN_add, lN_add]
        · rw [Nat.min_eq_left (by omega), Nat.min_eq_left (by omega), show k + 1 - p = (k - p) + 1 by omega, dv, Nat.mul_add, Nat.add_mul]
          congr 1
          rw [show BB ^ k = BB ^ (k - p) * BB ^ p by rw [← Nat.pow_add]; congr 1; omega]
          simp only [Nat.mul_assoc]
      · rw [if_neg (fun h => hkt ((nlt (by omega) (by omega)).mp h))]
        by_cases hc0 : c = 0
        · right
          rw [if_pos (hcz.mpr hc0)]
          simp only [Option.bind_some, if_true, Bool.false_eq_true, if_false]
          refine ⟨_, rfl, hgd, ?_, hgl⟩
          rw [Nat.min_eq_right (by omega)] at hgv
          subst hc0
          show dv (bd g) u = _
          omega
        · left
          rw [if_neg (fun h => hc0 (hcz.mp h))]
          simp only [Option.bind_some, if_true, Bool.false_eq_true, if_false]
          refine step 0 (by decide) ?_ ?_
          · rw [if_pos ((nle (by omega) (by omega)).mpr (by omega)), lN_add]; rfl
          · rw [Nat.min_eq_right (by omega), Nat.min_eq_right (by omega), Nat.mul_zero, Nat.zero_mul, Nat.add_zero]
end BG
