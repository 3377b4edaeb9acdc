/-! Big.commonDivisor -/
/-- which of the two holds the divisor in the end -/
def who (X Y : Nat) : Bool := if h : Y = 0 then true else !(who Y (X % Y))
termination_by Y
decreasing_by exact Nat.mod_lt _ (Nat.pos_of_ne_zero h)
theorem who_0 (X : Nat) : who X 0 = true := by rw [who, dif_pos rfl]
theorem who_s {X Y : Nat} (h : 0 < Y) : who X Y = !(who Y (X % Y)) := by rw [who, dif_neg (by omega)]
theorem half_mod {X Y : Nat} (h : Y ≤ X) (h0 : 0 < Y) : 2 * (X % Y) ≤ X := by
  have h1 := Nat.div_add_mod X Y
  have h2 := Nat.mod_lt X h0
  have h3 : 1 ≤ X / Y := by rw [Nat.le_div_iff_mul_le h0]; omega
  have h4 := Nat.mul_le_mul_left Y h3
  omega
abbrev rm_X1_commonDivisor : Room := { frames := 4, cells := 0, slots := 0, locals := 160 }
set_option maxRecDepth 100000 in
theorem c_X1_commonDivisor (l : Launch) (G : GG) (bi wi bj wj n n2 c1 c2 X Y : Nat) (f1 f2 : Nat → Int64) (hX : BR n f1 c1 X) (hY : BR n2 f2 c2 Y) (hn : n ≤ 168) (hn2 : n2 ≤ 168) : Ctr l G yX1_commonDivisor w2_X1_commonDivisor rm_X1_commonDivisor [.ref bi, .ref bj] [(bi, .inr (0, [.ref wi, .int (nI c1)])), (wi, .inl (gJ G, n, .inr (.inl f1))), (bj, .inr (0, [.ref wj, .int (nI c2)])), (wj, .inl (gJ G, n2, .inr (.inl f2)))] (fun v w => v = some (.ref (if who X Y = true then bi else bj)) ∧ ∃ c1' f1' c2' f2', w = [(bi, .inr (0, [.ref wi, .int (nI c1')])), (wi, .inl (gJ G, n, .inr (.inl f1'))), (bj, .inr (0, [.ref wj, .int (nI c2')])), (wj, .inl (gJ G, n2, .inr (.inl f2')))] ∧ BR n f1' c1' (if who X Y = true then Nat.gcd X Y else 0) ∧ BR n2 f2' c2' (if who X Y = true then 0 else Nat.gcd X Y)) := by
  refine ctr_entry (cc := cX1_commonDivisor) (maxL := 6) (ret := some (.object "StructureSearch$Big")) (lv0 := [(0, .ref bi), (1, .ref bj)]) (by decide) rfl (Nat.le_of_ble_eq_true rfl) rfl ?_
  intro K hl9 hG9 hk hn9 hrt
  subst hl9
  subst hG9
  have hcap : X * Y < 2 ^ 10752 := by
    have h1 := BR_lt hX
    have h2 := BR_lt hY
    have h3 := hX.1
    have h4 := hY.1
    rw [show BB = 2 ^ 32 from rfl, ← Nat.pow_mul] at h1 h2
    refine Nat.lt_of_lt_of_le (Nat.mul_lt_mul'' h1 h2) ?_
    rw [← Nat.pow_add]
    exact Nat.pow_le_pow_right (by decide) (by omega)
  have LP : ∀ (k r : Nat), r + k = 20000 → ∀ (p pw q qw na nb a1 a2 X' Y' : Nat) (g1 g2 : Nat → Int64), BR na g1 a1 X' → BR nb g2 a2 Y' → Nat.gcd X' Y' = Nat.gcd X Y → (r = 0 ∨ Y' ≤ X') → X' * Y' * 2 ^ (r - 1) ≤ X * Y → ((p = bi ∧ pw = wi ∧ q = bj ∧ qw = wj ∧ na = n ∧ nb = n2 ∧ who X' Y' = who X Y) ∨ (p = bj ∧ pw = wj ∧ q = bi ∧ qw = wi ∧ na = n2 ∧ nb = n ∧ who X' Y' = !(who X Y))) → V K 6 [(p, .inr (0, [.ref pw, .int (nI a1)])), (pw, .inl (gJ (kG K), na, .inr (.inl g1))), (q, .inr (0, [.ref qw, .int (nI a2)])), (qw, .inl (gJ (kG K), nb, .inr (.inl g2)))] 0 0 7 [(0, .ref bi), (1, .ref bj), (2, .ref p), (3, .ref q), (4, .int (nI r))] [] := by
    intro k
    induction k with
    | zero =>
      intro r hr p pw q qw na nb a1 a2 X' Y' g1 g2 hB1 hB2 hg hle hpr ho
      have hna : na ≤ 168 := by rcases ho with ⟨_, _, _, _, e, _, _⟩ | ⟨_, _, _, _, e, _, _⟩ <;> omega
      have hnb : nb ≤ 168 := by rcases ho with ⟨_, _, _, _, _, e, _⟩ | ⟨_, _, _, _, _, e, _⟩ <;> omega
      have ha1 := hB1.1
      have ha2 := hB2.1
      have hps := BR_pos hB2
      have hY0 : Y' = 0 := by
        rcases Nat.eq_zero_or_pos Y' with z | z
        · exact z
        · exfalso
          have h1 : 1 ≤ X' * Y' := Nat.mul_pos (by omega) z
          have h2 : 2 ^ 10752 ≤ X' * Y' * 2 ^ (r - 1) := Nat.le_trans (Nat.pow_le_pow_right (by decide) (by omega)) (Nat.le_mul_of_pos_left _ h1)
          omega
      have ha20 : a2 = 0 := by omega
      refine v_iload hk dX1_commonDivisor_7 rfl ?_
      refine v_ldc (v := 1000000) hk dX1_commonDivisor_9 (by decide +kernel) ?_
      refine v_icmp_ge (tgt := 41) hk dX1_commonDivisor_11 (by decide) (fun hc => absurd hc (show ¬ (1000000 : Int32) ≤ nI r from fun z => by have := (nle31 (a := 1000000) (by decide) (by omega)).mp z; omega)) (fun _ => ?_)
      refine v_aload_n hk dX1_commonDivisor_14 rfl ?_
      refine v_get (C := RX1) (T := TX1) (N := 2) (ci := 0) (v := .int (nI a2)) hk dX1_commonDivisor_15 w2i_X1_commonDivisor_X10 2 rfl rfl 1 (by decide) (by decide +kernel) rfl rfl ?_
      refine v_if_le (tgt := 41) hk dX1_commonDivisor_18 (by decide) (fun _ => ?_) (fun hc => absurd (show nI a2 ≤ 0 from (nle (b := 0) (by omega) (by omega)).mpr (by omega)) hc)
      refine v_aload_n hk dX1_commonDivisor_41 rfl ?_
      rw [hY0] at hg ho
      rw [Nat.gcd_zero_right] at hg
      rw [who_0] at ho
      rcases ho with ⟨rfl, rfl, rfl, rfl, rfl, rfl, hw⟩ | ⟨rfl, rfl, rfl, rfl, rfl, rfl, hw⟩
      · exact hrt (some (.ref p)) _ _ _ _ _ ⟨by rw [if_pos hw.symm], a1, g1, a2, g2, rfl, by rw [if_pos hw.symm, ← hg]; exact hB1, by rw [if_pos hw.symm, ← hY0]; exact hB2⟩ (Nat.zero_le _) (Nat.zero_le _) dX1_commonDivisor_42
      · have hw : who X Y = false := by cases hh : who X Y with
          | false => rfl
          | true => rw [hh] at hw; cases hw
        refine v_lperm (ws' := [(q, .inr (0, [.ref qw, .int (nI a2)])), (qw, .inl (gJ (kG K), nb, .inr (.inl g2))), (p, .inr (0, [.ref pw, .int (nI a1)])), (pw, .inl (gJ (kG K), na, .inr (.inl g1)))]) (perm_ixn [2, 3, 0, 1] 4 rfl (by decide) rfl) ?_
        exact hrt (some (.ref p)) _ _ _ _ _ ⟨by rw [hw]; rfl, a2, g2, a1, g1, rfl, by rw [hw, ← hY0]; exact hB2, by rw [hw, ← hg]; exact hB1⟩ (Nat.zero_le _) (Nat.zero_le _) dX1_commonDivisor_42
    | succ k ih =>
      intro r hr p pw q qw na nb a1 a2 X' Y' g1 g2 hB1 hB2 hg hle hpr ho
      have hna : na ≤ 168 := by rcases ho with ⟨_, _, _, _, e, _, _⟩ | ⟨_, _, _, _, e, _, _⟩ <;> omega
      have hnb : nb ≤ 168 := by rcases ho with ⟨_, _, _, _, _, e, _⟩ | ⟨_, _, _, _, _, e, _⟩ <;> omega
      have ha1 := hB1.1
      have ha2 := hB2.1
      have hps := BR_pos hB2
      refine v_iload hk dX1_commonDivisor_7 rfl ?_
      refine v_ldc (v := 1000000) hk dX1_commonDivisor_9 (by decide +kernel) ?_
      refine v_icmp_ge (tgt := 41) hk dX1_commonDivisor_11 (by decide) (fun hc => absurd hc (show ¬ (1000000 : Int32) ≤ nI r from fun z => by have := (nle31 (a := 1000000) (by decide) (by omega)).mp z; omega)) (fun _ => ?_)
      refine v_aload_n hk dX1_commonDivisor_14 rfl ?_
      refine v_get (C := RX1) (T := TX1) (N := 2) (ci := 0) (v := .int (nI a2)) hk dX1_commonDivisor_15 w2i_X1_commonDivisor_X10 2 rfl rfl 1 (by decide) (by decide +kernel) rfl rfl ?_
      rcases Nat.eq_zero_or_pos Y' with hY0 | hpos
      · have ha20 : a2 = 0 := by omega
        refine v_if_le (tgt := 41) hk dX1_commonDivisor_18 (by decide) (fun _ => ?_) (fun hc => absurd (show nI a2 ≤ 0 from (nle (b := 0) (by omega) (by omega)).mpr (by omega)) hc)
        refine v_aload_n hk dX1_commonDivisor_41 rfl ?_
        rw [hY0] at hg ho
        rw [Nat.gcd_zero_right] at hg
        rw [who_0] at ho
        rcases ho with ⟨rfl, rfl, rfl, rfl, rfl, rfl, hw⟩ | ⟨rfl, rfl, rfl, rfl, rfl, rfl, hw⟩
        · exact hrt (some (.ref p)) _ _ _ _ _ ⟨by rw [if_pos hw.symm], a1, g1, a2, g2, rfl, by rw [if_pos hw.symm, ← hg]; exact hB1, by rw [if_pos hw.symm, ← hY0]; exact hB2⟩ (Nat.zero_le _) (Nat.zero_le _) dX1_commonDivisor_42
        · have hw : who X Y = false := by cases hh : who X Y with
            | false => rfl
            | true => rw [hh] at hw; cases hw
          refine v_lperm (ws' := [(q, .inr (0, [.ref qw, .int (nI a2)])), (qw, .inl (gJ (kG K), nb, .inr (.inl g2))), (p, .inr (0, [.ref pw, .int (nI a1)])), (pw, .inl (gJ (kG K), na, .inr (.inl g1)))]) (perm_ixn [2, 3, 0, 1] 4 rfl (by decide) rfl) ?_
          exact hrt (some (.ref p)) _ _ _ _ _ ⟨by rw [hw]; rfl, a2, g2, a1, g1, rfl, by rw [hw, ← hY0]; exact hB2, by rw [hw, ← hg]; exact hB1⟩ (Nat.zero_le _) (Nat.zero_le _) dX1_commonDivisor_42
      · refine v_if_le (tgt := 41) hk dX1_commonDivisor_18 (by decide) (fun hc => absurd hc (show ¬ nI a2 ≤ 0 from fun z => by have := (nle (b := 0) (by omega) (by omega)).mp z; omega)) (fun _ => ?_)
        refine v_aload_n hk dX1_commonDivisor_21 rfl ?_
        refine v_aload_n hk dX1_commonDivisor_22 rfl ?_
        refine v_null hk dX1_commonDivisor_23 ?_
        obtain ⟨g, c3, m1, m2⟩ := s_reduceBy_n hB1 hB2 hpos hna hnb
        refine v_callVGT (L := [(p, .inr (0, [.ref pw, .int (nI a1)])), (pw, .inl (gJ (kG K), na, .inr (.inl g1))), (q, .inr (0, [.ref qw, .int (nI a2)])), (qw, .inl (gJ (kG K), nb, .inr (.inl g2)))]) (wx := []) (n := 2) (st := []) (b := p) (T := TX1) (N := 2) hk dX1_commonDivisor_24 (c_X1_reduceBy_n (kl K) (kG K) p pw q qw (nI a1) na g1 (nI a2) nb g2 (nI c3, g) m1) rfl gd_X1_commonDivisor_X1_reduceBy rfl (by decide +kernel) ⟨Nat.le_of_ble_eq_true rfl, Nat.le_of_ble_eq_true rfl⟩ ⟨Nat.zero_le _, Nat.zero_le _⟩ rfl rfl (Nat.le_of_ble_eq_true rfl) 0 rfl rfl (wr := []) [] [0, 1, 2, 3] 4 rfl (by decide) rfl rfl ?_
        intro v9 w9 hp9
        obtain ⟨rfl, rfl⟩ := hp9
        show V K 6 [(p, .inr (0, [.ref pw, .int (nI c3)])), (pw, .inl (gJ (kG K), na, .inr (.inl g))), (q, .inr (0, [.ref qw, .int (nI a2)])), (qw, .inl (gJ (kG K), nb, .inr (.inl g2)))] 0 0 27 [(0, .ref bi), (1, .ref bj), (2, .ref p), (3, .ref q), (4, .int (nI r))] []
        refine v_aload_n hk dX1_commonDivisor_27 rfl ?_
        refine v_astore hk dX1_commonDivisor_28 (by decide) [1, 2, 3, 4, 5, 0] (lv' := [(0, .ref bi), (1, .ref bj), (2, .ref p), (3, .ref q), (4, .int (nI r)), (5, .ref p)]) rfl ?_
        refine v_aload_n hk dX1_commonDivisor_30 rfl ?_
        refine v_astore_n hk dX1_commonDivisor_31 rfl (by decide) [1, 2, 0, 3, 4, 5] (lv' := [(0, .ref bi), (1, .ref bj), (2, .ref q), (3, .ref q), (4, .int (nI r)), (5, .ref p)]) rfl ?_
        refine v_aload hk dX1_commonDivisor_32 rfl ?_
        refine v_astore_n hk dX1_commonDivisor_34 rfl (by decide) [1, 2, 3, 0, 4, 5] (lv' := [(0, .ref bi), (1, .ref bj), (2, .ref q), (3, .ref p), (4, .int (nI r)), (5, .ref p)]) rfl ?_
        refine v_iinc (v := nI r + 1) hk dX1_commonDivisor_35 rfl rfl (by decide) [1, 2, 3, 4, 0, 5] (lv' := [(0, .ref bi), (1, .ref bj), (2, .ref q), (3, .ref p), (4, .int (nI r + 1)), (5, .ref p)]) rfl ?_
        refine v_goto (tgt := 7) hk dX1_commonDivisor_38 (by decide) ?_
        refine v_lperm (ws' := [(q, .inr (0, [.ref qw, .int (nI a2)])), (qw, .inl (gJ (kG K), nb, .inr (.inl g2))), (p, .inr (0, [.ref pw, .int (nI c3)])), (pw, .inl (gJ (kG K), na, .inr (.inl g)))]) (perm_ixn [2, 3, 0, 1] 4 rfl (by decide) rfl) ?_
        refine v_loc [0, 1, 2, 3, 4] (lv' := [(0, .ref bi), (1, .ref bj), (2, .ref q), (3, .ref p), (4, .int (nI r + 1))]) rfl ?_
        rw [nI_1]
        refine ih (r + 1) (by omega) q qw p pw nb na a2 c3 Y' (X' % Y') g2 g hB2 m2 ?_ (Or.inr (Nat.le_of_lt (Nat.mod_lt _ hpos))) ?_ ?_
        · rw [← hg, Nat.gcd_comm X' Y', Nat.gcd_rec Y' X', Nat.gcd_comm]
        · show Y' * (X' % Y') * 2 ^ r ≤ X * Y
          rcases Nat.eq_zero_or_pos r with z | z
          · subst z
            refine Nat.le_trans ?_ hpr
            rw [Nat.pow_zero, Nat.mul_one, Nat.mul_one, Nat.mul_comm X']
            exact Nat.mul_le_mul_left _ (Nat.mod_le _ _)
          · refine Nat.le_trans ?_ hpr
            have h1 := half_mod (show Y' ≤ X' by omega) hpos
            have h2 : 2 ^ r = 2 * 2 ^ (r - 1) := by rw [← Nat.pow_succ']; congr 1; omega
            rw [h2]
            have h3 : Y' * (X' % Y') * (2 * 2 ^ (r - 1)) = Y' * (2 * (X' % Y')) * 2 ^ (r - 1) := by ac_rfl
            rw [h3, Nat.mul_comm X']
            exact Nat.mul_le_mul_right _ (Nat.mul_le_mul_left _ h1)
        · rw [who_s hpos] at ho
          rcases ho with ⟨e1, e2, e3, e4, e5, e6, hw⟩ | ⟨e1, e2, e3, e4, e5, e6, hw⟩
          · exact Or.inr ⟨e3, e4, e1, e2, e6, e5, by rw [← hw, Bool.not_not]⟩
          · exact Or.inl ⟨e3, e4, e1, e2, e6, e5, by rw [← Bool.not_not (who Y' (X' % Y')), hw, Bool.not_not]⟩
  refine v_aload_n hk dX1_commonDivisor_0 rfl ?_
  refine v_astore_n hk dX1_commonDivisor_1 rfl (by decide) [1, 2, 0] (lv' := [(0, .ref bi), (1, .ref bj), (2, .ref bi)]) rfl ?_
  refine v_aload_n hk dX1_commonDivisor_2 rfl ?_
  refine v_astore_n hk dX1_commonDivisor_3 rfl (by decide) [1, 2, 3, 0] (lv' := [(0, .ref bi), (1, .ref bj), (2, .ref bi), (3, .ref bj)]) rfl ?_
  refine v_iconst (v := 0) hk dX1_commonDivisor_4 (by decide) ?_
  refine v_istore hk dX1_commonDivisor_5 (by decide) [1, 2, 3, 4, 0] (lv' := [(0, .ref bi), (1, .ref bj), (2, .ref bi), (3, .ref bj), (4, .int 0)]) rfl ?_
  exact LP 20000 0 (by omega) bi wi bj wj n n2 c1 c2 X Y f1 f2 hX hY rfl (Or.inl rfl) (by rw [show 0 - 1 = 0 from rfl, Nat.pow_zero, Nat.mul_one]; exact Nat.le_refl _) (Or.inl ⟨rfl, rfl, rfl, rfl, rfl, rfl, rfl⟩)
