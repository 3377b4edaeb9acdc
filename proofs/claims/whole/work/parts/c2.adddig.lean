/-! Big.addDigit; one round of a division -/
theorem s_addDigit {n u O d p : Nat} {f : Nat → Int64} (hO : BR n f u O) (hd : d < BB) (hr : max u (p + 1) + 1 ≤ n) (hn : n ≤ 50000) :
    ∃ g c, m_X1_addDigit (nI u) n f (lN d) (nI p) = some (nI c, g) ∧ BR n g c (O + d * BB ^ p) := by
  have hul := hO.1
  obtain ⟨g0, w1, w2, w3⟩ := s_widen (n := n) (f := f) (u := u) (l := max u (p + 1) + 1) hul hn hr
  have hmx : max u (max u (p + 1) + 1) = max u (p + 1) + 1 := by omega
  rw [hmx] at w1 w3
  generalize hL : max u (p + 1) + 1 = l at *
  have hg0 : ∀ k, k < l → bd g0 k < BB := by
    intro k hk
    by_cases h : k < u
    · unfold bd; rw [w2 k h]; exact hO.2.1 k h
    · unfold bd; rw [w3 k (by omega) hk]; decide
  have hv0 : dv (bd g0) l = O := by rw [dv_wide (f := f) (show u ≤ l by omega) w2 w3]; exact hO.2.2.1
  have hT : O + d * BB ^ p < BB ^ l := by
    have h1 : O < BB ^ (l - 1) := Nat.lt_of_lt_of_le (BR_lt hO) (Nat.pow_le_pow_right (by decide) (by omega))
    have h2 : (d + 1) * BB ^ p ≤ BB ^ (l - 1) := by
      refine Nat.le_trans (Nat.mul_le_mul_right _ (show d + 1 ≤ BB from hd)) ?_
      rw [← Nat.pow_succ']
      exact Nat.pow_le_pow_right (by decide) (by omega)
    have h3 : BB ^ l = BB ^ (l - 1) * BB := by rw [← Nat.pow_succ]; congr 1; omega
    rw [Nat.add_mul, Nat.one_mul] at h2
    have h4 : BB ^ (l - 1) * 2 ≤ BB ^ (l - 1) * BB := Nat.mul_le_mul_left _ (by decide)
    have h5 : 0 < BB ^ p := Nat.pow_pos (by decide)
    omega
  have L := lp_inv (body := b_X1_addDigit_36 n (nI l)) (fun s => ∃ k c, s.1 = lN c ∧ s.2.1 = nI k ∧ c < BB ∧ k ≤ l ∧ (∀ j, j < l → bd s.2.2 j < BB) ∧ dv (bd s.2.2) l + c * BB ^ k = O + d * BB ^ p) (fun s => (∀ j, j < l → bd s.2.2 j < BB) ∧ dv (bd s.2.2) l = O + d * BB ^ p) (fun s => l - u3 s.2.1) ?_ FU (lN d, nI p, g0) ⟨p, d, rfl, rfl, hd, by omega, hg0, by rw [hv0]⟩ (Nat.lt_of_le_of_lt (Nat.sub_le _ _) (FU_big (by omega)))
  · obtain ⟨q, e, h1, h2⟩ := L
    obtain ⟨c, t1, t2, t3⟩ := s_trim (n := n) (f := q.2.2) (u := l) (by omega) (by omega) h1
    refine ⟨q.2.2, c, ?_, by rw [← h2]; exact t2⟩
    rw [em_X1_addDigit, show (1 : Int32) = nI 1 from rfl, nI_add, maxI (by omega) (by omega), nI_add, hL, w1]
    simp only [Option.bind_some, lt]
    rw [minI (by omega) (by omega), Nat.min_eq_right hr, e]
    simp only [Option.bind_some]
    rw [t1]
    rfl
  · rintro ⟨cw, kw, g⟩ ⟨k, c, e1, e2, hc, hk, hgd, hgv⟩
    dsimp only at e1 e2 hgd hgv
    subst e1
    subst e2
    rw [eb_X1_addDigit_36, if_neg (nI_pos (by omega))]
    by_cases hkl : l ≤ k
    · right
      rw [if_pos ((nle (by omega) (by omega)).mpr hkl)]
      have : k = l := by omega
      subst this
      have hc0 : c = 0 := by
        rcases Nat.eq_zero_or_pos c with z | z
        · exact z
        · have := Nat.le_mul_of_pos_left (BB ^ k) z
          omega
      subst hc0
      rw [Nat.zero_mul, Nat.add_zero] at hgv
      exact ⟨_, rfl, hgd, hgv⟩
    · rw [if_neg (fun h => hkl ((nle (by omega) (by omega)).mp h))]
      by_cases hz : c = 0
      · right
        rw [if_pos (show lg_cmp (lN c) 0 = 0 from (lg_cmp_0 hc).mpr hz)]
        subst hz
        rw [Nat.zero_mul, Nat.add_zero] at hgv
        exact ⟨_, rfl, hgd, hgv⟩
      · left
        rw [if_neg (show ¬ lg_cmp (lN c) 0 = 0 from fun h => hz ((lg_cmp_0 hc).mp h)), if_pos (ixn (by omega) (by omega)), cl (by omega)]
        simp only [lt]
        rw [if_pos (ixn (by omega) (by omega)), lN_bd g k, lN_add]
        have hgk := hgd k (by omega)
        have hv64 : bd g k + c < 2 ^ 64 := by simp only [BB] at hgk hc; omega
        rw [lN_maskL hv64, lN_shr32 hv64, nI_1]
        generalize hvv : bd g k + c = v at hv64 ⊢
        have hmod : v % BB < BB := Nat.mod_lt _ (by decide)
        have hm64 : v % BB < 2 ^ 64 := Nat.lt_of_le_of_lt (Nat.mod_le v BB) hv64
        refine ⟨_, rfl, ⟨k + 1, v / BB, rfl, rfl, div_BB hv64, by omega, fun j hj => ?_, ?_⟩, ?_⟩
        · show bd (vp_updL g k (lN (v % BB))) j < BB
          rw [bd_upd hm64]
          unfold du
          split
          · exact hmod
          · exact hgd j hj
        · show dv (bd (vp_updL g k (lN (v % BB)))) l + v / BB * BB ^ (k + 1) = _
          rw [bd_upd hm64, Nat.pow_succ]
          have e0 := dv_du (d := bd g) (p := k) (e := v % BB) (n := l) (by omega)
          have e1 := mod_div_BB v (BB ^ k)
          have e2 : v * BB ^ k = bd g k * BB ^ k + c * BB ^ k := by rw [← hvv, Nat.add_mul]
          omega
        · show l - u3 (nI (k + 1)) < l - u3 (nI k)
          rw [u3n (by omega), u3n (by omega)]; omega
/-- the digit of a round -/
def dgt (Q D : Nat) : Nat := max 1 (min 4294967295 (Q / D))
section RD
variable {X Y kx ky : Nat}
/-- place and size of a round of a division: X has kx + 1 bits, Y has ky + 1 -/
theorem rd_ok (hX : bl X kx) (hY : bl Y ky) (hXY : Y ≤ X) {low p D : Nat} (hlow : low = ky + 1 - 31) (hp : p = (kx - ky - 1) / 32) (hD : D = Y / 2 ^ low + (if 0 < low then 1 else 0)) :
    ky ≤ kx ∧ 1 ≤ D ∧ D ≤ 2 ^ 31 ∧ X / 2 ^ (low + 32 * p) < 2 ^ 63 ∧ dgt (X / 2 ^ (low + 32 * p)) D < BB ∧ 1 ≤ dgt (X / 2 ^ (low + 32 * p)) D ∧ dgt (X / 2 ^ (low + 32 * p)) D * Y * BB ^ p ≤ X ∧ X ≤ 32 * (dgt (X / 2 ^ (low + 32 * p)) D * Y * BB ^ p) := by
  have hkk : ky ≤ kx := by
    have := bl_lt hY (Nat.lt_of_le_of_lt hXY hX.2)
    omega
  have hpl : 0 < 2 ^ low := Nat.pow_pos (by decide)
  have hT : 0 < 2 ^ (low + 32 * p) := Nat.pow_pos (by decide)
  have eB : BB ^ p = 2 ^ (32 * p) := by rw [show BB = 2 ^ 32 from rfl, ← Nat.pow_mul]
  -- Y over 2^low
  have hyl : 1 ≤ Y / 2 ^ low := by
    rw [Nat.le_div_iff_mul_le hpl, Nat.one_mul]
    exact Nat.le_trans (Nat.pow_le_pow_right (by decide) (by omega)) hY.1
  have hyh : Y / 2 ^ low < 2 ^ 31 := by
    rw [Nat.div_lt_iff_lt_mul hpl, ← Nat.pow_add]
    exact Nat.lt_of_lt_of_le hY.2 (Nat.pow_le_pow_right (by decide) (by omega))
  have hD1 : 1 ≤ D := by rw [hD]; omega
  have hD2 : D ≤ 2 ^ 31 := by
    rw [hD]
    split
    · omega
    · omega
  -- Y ≤ D * 2^low ≤ 2 Y
  have hm := Nat.div_add_mod Y (2 ^ low)
  have hml := Nat.mod_lt Y hpl
  have hYD : Y ≤ D * 2 ^ low := by
    rw [hD]
    split
    · rw [Nat.add_mul, Nat.one_mul, Nat.mul_comm (Y / 2 ^ low)]
      omega
    · rename_i h
      have : low = 0 := by omega
      subst this
      simp
  have hDY : D * 2 ^ low ≤ 2 * Y := by
    have h1 : D ≤ 2 * (Y / 2 ^ low) := by
      rw [hD]
      split <;> omega
    have h2 := Nat.mul_le_mul_right (2 ^ low) h1
    rw [Nat.mul_assoc, Nat.mul_comm (Y / 2 ^ low)] at h2
    omega
  have hQ63 : X / 2 ^ (low + 32 * p) < 2 ^ 63 := by
    rw [Nat.div_lt_iff_lt_mul hT, ← Nat.pow_add]
    exact Nat.lt_of_lt_of_le hX.2 (Nat.pow_le_pow_right (by decide) (by omega))
  have hZ : Y * BB ^ p ≤ X := by
    rw [eB]
    by_cases hg : kx = ky
    · have : p = 0 := by rw [hp]; omega
      rw [this]
      simp
      exact hXY
    · refine Nat.le_trans ?_ hX.1
      have h1 : Y * 2 ^ (32 * p) < 2 ^ (ky + 1) * 2 ^ (32 * p) := Nat.mul_lt_mul_of_pos_right hY.2 (Nat.pow_pos (by decide))
      rw [← Nat.pow_add] at h1
      exact Nat.le_trans (Nat.le_of_lt h1) (Nat.pow_le_pow_right (by decide) (by omega))
  have hQm := Nat.div_add_mod X (2 ^ (low + 32 * p))
  have hQl := Nat.mod_lt X hT
  have hqm := Nat.div_add_mod (X / 2 ^ (low + 32 * p)) D
  have hql := Nat.mod_lt (X / 2 ^ (low + 32 * p)) (show 0 < D by omega)
  have eT : 2 ^ (low + 32 * p) = 2 ^ low * BB ^ p := by rw [eB, Nat.pow_add]
  generalize hQ : X / 2 ^ (low + 32 * p) = Q at *
  have hdb : dgt Q D < BB ∧ 1 ≤ dgt Q D := by unfold dgt; simp only [BB]; omega
  refine ⟨hkk, hD1, hD2, hQ63, hdb.1, hdb.2, ?_, ?_⟩
  · -- not too much
    by_cases hq : Q / D ≤ 0
    · have : dgt Q D = 1 := by unfold dgt; omega
      rw [this, Nat.one_mul]
      exact hZ
    · have hdq : dgt Q D ≤ Q / D := by unfold dgt; omega
      have h1 : dgt Q D * Y * BB ^ p ≤ Q / D * (D * 2 ^ low) * BB ^ p := Nat.mul_le_mul_right _ (Nat.mul_le_mul hdq hYD)
      have h2 : Q / D * (D * 2 ^ low) * BB ^ p = D * (Q / D) * 2 ^ (low + 32 * p) := by rw [eT]; ac_rfl
      have h3 : D * (Q / D) * 2 ^ (low + 32 * p) ≤ Q * 2 ^ (low + 32 * p) := Nat.mul_le_mul_right _ (by omega)
      rw [Nat.mul_comm Q] at h3
      omega
  · -- enough
    have h1 : X < (Q / D + 1) * (2 * Y) * BB ^ p := by
      have a1 : X < (Q + 1) * 2 ^ (low + 32 * p) := by rw [Nat.add_mul, Nat.one_mul, Nat.mul_comm Q]; omega
      have a2 : (Q + 1) * 2 ^ (low + 32 * p) ≤ ((Q / D + 1) * D) * 2 ^ (low + 32 * p) := Nat.mul_le_mul_right _ (by rw [Nat.add_mul, Nat.one_mul, Nat.mul_comm (Q / D)]; omega)
      have a3 : ((Q / D + 1) * D) * 2 ^ (low + 32 * p) = (Q / D + 1) * (D * 2 ^ low) * BB ^ p := by rw [eT]; ac_rfl
      have a4 : (Q / D + 1) * (D * 2 ^ low) * BB ^ p ≤ (Q / D + 1) * (2 * Y) * BB ^ p := Nat.mul_le_mul_right _ (Nat.mul_le_mul_left _ hDY)
      omega
    by_cases hbig : 4294967295 ≤ Q / D
    · have : dgt Q D = 4294967295 := by unfold dgt; omega
      rw [this]
      have b1 : X < 2 ^ (kx + 1) := hX.2
      have b2 : 2 ^ (kx + 1) ≤ 2 ^ 33 * (2 ^ ky * 2 ^ (32 * p)) := by
        rw [← Nat.pow_add, ← Nat.pow_add]
        exact Nat.pow_le_pow_right (by decide) (by omega)
      have b3 : 2 ^ ky * 2 ^ (32 * p) ≤ Y * BB ^ p := by rw [eB]; exact Nat.mul_le_mul_right _ hY.1
      rw [Nat.mul_assoc]
      generalize Y * BB ^ p = Z at *
      omega
    · have hle : Q / D + 1 ≤ 2 * dgt Q D := by unfold dgt; omega
      have h2 : (Q / D + 1) * (2 * Y) * BB ^ p ≤ (2 * dgt Q D) * (2 * Y) * BB ^ p := Nat.mul_le_mul_right _ (Nat.mul_le_mul_right _ hle)
      have h3 : (2 * dgt Q D) * (2 * Y) * BB ^ p = 4 * (dgt Q D * Y * BB ^ p) := by
        rw [show (4 : Nat) = 2 * 2 from rfl]
        ac_rfl
      omega
/-- what is left to do falls with every round -/
def mu (X : Nat) : Nat := if X = 0 then 0 else 64 * (X.log2 + 1) + 64 * X / 2 ^ X.log2
theorem mu_bl {X k : Nat} (h : bl X k) : mu X = 64 * (k + 1) + 64 * X / 2 ^ k ∧ 64 ≤ 64 * X / 2 ^ k ∧ 64 * X / 2 ^ k < 128 := by
  have h0 : X ≠ 0 := by have := h.1; have : 0 < 2 ^ k := Nat.pow_pos (by decide); omega
  have e : X.log2 = k := bl_un ⟨Nat.log2_self_le h0, Nat.lt_log2_self⟩ h
  unfold mu
  rw [if_neg h0, e]
  have hp : 0 < 2 ^ k := Nat.pow_pos (by decide)
  refine ⟨rfl, ?_, ?_⟩
  · rw [Nat.le_div_iff_mul_le hp]
    exact Nat.mul_le_mul_left 64 h.1
  · rw [Nat.div_lt_iff_lt_mul hp]
    have := h.2
    rw [Nat.pow_succ] at this
    omega
theorem mu_lt {X X' S : Nat} (hX : 0 < X) (h : X' + S ≤ X) (hS : X ≤ 32 * S) : mu X' < mu X := by
  obtain ⟨k, hk⟩ := bl_ex hX
  obtain ⟨m1, m2, m3⟩ := mu_bl hk
  rcases Nat.eq_zero_or_pos X' with z | z
  · subst z
    rw [m1]
    unfold mu
    rw [if_pos rfl]
    omega
  · obtain ⟨k', hk'⟩ := bl_ex z
    obtain ⟨n1, n2, n3⟩ := mu_bl hk'
    have hle : k' ≤ k := by
      have := bl_lt hk' (Nat.lt_of_le_of_lt (show X' ≤ X by omega) hk.2)
      omega
    rw [m1, n1]
    by_cases he : k' = k
    · subst he
      have hp : 0 < 2 ^ k' := Nat.pow_pos (by decide)
      have h1 : 64 * X' + 2 ^ k' ≤ 64 * X := by have := hk.1; omega
      have h2 : 64 * X' / 2 ^ k' + 1 ≤ 64 * X / 2 ^ k' := by
        rw [← Nat.add_div_right _ hp]
        exact Nat.div_le_div_right h1
      omega
    · omega
end RD
