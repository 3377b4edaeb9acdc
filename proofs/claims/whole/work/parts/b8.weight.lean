/-! Shares.weight, Shares.sum -/
def wi (n s : Nat) : Nat := if s.testBit n = true then 64 else 16 * n + s
def wcont (ad : Nat → Nat) : Nat → Option Nat := fun i => if i < 64 then if (i % 16).testBit (i / 16) = true then none else some (ad i) else none
def scont (ad : Nat → Nat) : Nat → Option Nat := fun i => if i < 16 then some (ad (65 + i)) else none
def wix (x y : Int32) : Option Nat := if (decide (u3 x < 4) && decide (u3 y < 16)) = true then some (wi (u3 x) (u3 y)) else none
def six (x : Int32) : Option Nat := if decide (u3 x < 16) = true then some (65 + u3 x) else none
abbrev rm_X7_weight : Room := { frames := 0, cells := 0, slots := 0, locals := 0 }
abbrev rm_X7_sum : Room := { frames := 0, cells := 0, slots := 0, locals := 0 }
set_option maxRecDepth 100000 in
theorem c_X7_weight (l : Launch) (G : GG) (ad : Nat → Nat) (adh ads adp adlp adwa adsa adshr : Nat) (sf st : Int32) {x y : Int32} {k : Nat} (h : wix x y = some k) : Ctr l G yX7_weight w2_X7_weight rm_X7_weight [.ref adh, .int x, .int y] [(adh, .inr (6, [.ref ads, .ref adp, .ref adlp, .ref adwa, .ref adsa, .ref (ad 64), .ref (ad 81), .ref (ad 82), .ref (ad 83), .ref adshr, .int sf, .int st])), (adwa, .inl (gB G, 64, .inr (.inr (.inr (.inr (wcont ad))))))] (fun r w => r = some (.ref (ad k)) ∧ w = [(adh, .inr (6, [.ref ads, .ref adp, .ref adlp, .ref adwa, .ref adsa, .ref (ad 64), .ref (ad 81), .ref (ad 82), .ref (ad 83), .ref adshr, .int sf, .int st])), (adwa, .inl (gB G, 64, .inr (.inr (.inr (.inr (wcont ad))))))]) := by
  obtain ⟨hc, hk0⟩ := ifs h
  simp only [Bool.and_eq_true, decide_eq_true_eq] at hc
  obtain ⟨hx, hy⟩ := hc
  have ex : x = nI (u3 x) := (nI_u3 x).symm
  have ey : y = nI (u3 y) := (nI_u3 y).symm
  generalize u3 x = n at hx hk0 ex
  generalize u3 y = s at hy hk0 ey
  subst ex
  subst ey
  refine ctr_entry (cc := cX7_weight) (maxL := 4) (ret := some (.object "StructureSearch$Big")) (lv0 := [(0, .ref adh), (1, .int (nI n)), (2, .int (nI s))]) (by decide) rfl (Nat.le_of_ble_eq_true rfl) rfl ?_
  intro K hl9 hG9 hk hn9 hrt
  subst hl9
  subst hG9
  refine v_iload_n hk dX7_weight_0 rfl ?_
  refine v_bipush (v := 16) hk dX7_weight_1 (by decide) ?_
  refine v_imul hk dX7_weight_3 ?_
  refine v_iload_n hk dX7_weight_4 rfl ?_
  refine v_iadd hk dX7_weight_5 ?_
  refine v_topi (y := nI (16 * n + s)) (by rw [show (16 : Int32) = nI 16 from rfl, nI_mulm, nI_add, Nat.mul_comm]) ?_
  refine v_istore_n hk dX7_weight_6 rfl (by decide) [1, 2, 3, 0] (lv' := [(0, .ref adh), (1, .int (nI n)), (2, .int (nI s)), (3, .int (nI (16 * n + s)))]) rfl ?_
  refine v_iload_n hk dX7_weight_7 rfl ?_
  refine v_if_lt (tgt := 38) hk dX7_weight_8 (by decide) (fun hc => absurd hc (nI_pos (by omega))) (fun _ => ?_)
  refine v_iload_n hk dX7_weight_11 rfl ?_
  refine v_aload_n hk dX7_weight_12 rfl ?_
  refine v_get (C := RX7) (T := TX7) (N := 12) (ci := 6) (v := .ref adwa) hk dX7_weight_13 w2i_X7_weight_X70 0 rfl rfl 3 (by decide) (by decide +kernel) rfl rfl ?_
  refine v_alenB hk dX7_weight_16 1 rfl rfl ?_
  refine v_icmp_ge (tgt := 38) hk dX7_weight_17 (by decide) (fun hc => absurd hc (fun z => by have := (nle (by omega) (by omega)).mp z; omega)) (fun _ => ?_)
  refine v_aload_n hk dX7_weight_20 rfl ?_
  refine v_get (C := RX7) (T := TX7) (N := 12) (ci := 6) (v := .ref adwa) hk dX7_weight_21 w2i_X7_weight_X70 0 rfl rfl 3 (by decide) (by decide +kernel) rfl rfl ?_
  refine v_iload_n hk dX7_weight_24 rfl ?_
  have h16 : (16 * n + s) % 16 = s := by omega
  have h17 : (16 * n + s) / 16 = n := by omega
  by_cases hb : s.testBit n = true
  · refine v_aaldB (v := .null) hk dX7_weight_25 1 rfl (ix_in (ixn (by omega) (by omega))) (by rw [nI_clamp (by omega), wcont, if_pos (by omega), h16, h17, if_pos hb]; rfl) ?_
    refine v_ifnullN (tgt := 38) hk dX7_weight_26 (by decide) ?_
    refine v_aload_n hk dX7_weight_38 rfl ?_
    refine v_get (C := RX7) (T := TX7) (N := 12) (ci := 6) (v := .ref (ad 64)) hk dX7_weight_39 w2i_X7_weight_X70 0 rfl rfl 5 (by decide) (by decide +kernel) rfl rfl ?_
    exact hrt (some (.ref (ad 64))) _ _ _ _ _ ⟨by rw [← hk0, wi, if_pos hb], rfl⟩ (Nat.zero_le _) (Nat.zero_le _) dX7_weight_42
  · refine v_aaldB (v := .ref (ad (16 * n + s))) hk dX7_weight_25 1 rfl (ix_in (ixn (by omega) (by omega))) (by rw [nI_clamp (by omega), wcont, if_pos (by omega), h16, h17, if_neg hb]; rfl) ?_
    refine v_ifnull hk dX7_weight_26 ?_
    refine v_aload_n hk dX7_weight_29 rfl ?_
    refine v_get (C := RX7) (T := TX7) (N := 12) (ci := 6) (v := .ref adwa) hk dX7_weight_30 w2i_X7_weight_X70 0 rfl rfl 3 (by decide) (by decide +kernel) rfl rfl ?_
    refine v_iload_n hk dX7_weight_33 rfl ?_
    refine v_aaldB (v := .ref (ad (16 * n + s))) hk dX7_weight_34 1 rfl (ix_in (ixn (by omega) (by omega))) (by rw [nI_clamp (by omega), wcont, if_pos (by omega), h16, h17, if_neg hb]; rfl) ?_
    refine v_goto (tgt := 42) hk dX7_weight_35 (by decide) ?_
    exact hrt (some (.ref (ad (16 * n + s)))) _ _ _ _ _ ⟨by rw [← hk0, wi, if_neg hb], rfl⟩ (Nat.zero_le _) (Nat.zero_le _) dX7_weight_42
set_option maxRecDepth 100000 in
theorem c_X7_sum (l : Launch) (G : GG) (ad : Nat → Nat) (adh ads adp adlp adwa adsa adshr : Nat) (sf st : Int32) {x : Int32} {k : Nat} (h : six x = some k) : Ctr l G yX7_sum w2_X7_sum rm_X7_sum [.ref adh, .int x] [(adh, .inr (6, [.ref ads, .ref adp, .ref adlp, .ref adwa, .ref adsa, .ref (ad 64), .ref (ad 81), .ref (ad 82), .ref (ad 83), .ref adshr, .int sf, .int st])), (adsa, .inl (gB G, 16, .inr (.inr (.inr (.inr (scont ad))))))] (fun r w => r = some (.ref (ad k)) ∧ w = [(adh, .inr (6, [.ref ads, .ref adp, .ref adlp, .ref adwa, .ref adsa, .ref (ad 64), .ref (ad 81), .ref (ad 82), .ref (ad 83), .ref adshr, .int sf, .int st])), (adsa, .inl (gB G, 16, .inr (.inr (.inr (.inr (scont ad))))))]) := by
  obtain ⟨hx, rfl⟩ := ifs h
  have hx := of_decide_eq_true hx
  have ex : x = nI (u3 x) := (nI_u3 x).symm
  generalize u3 x = s at hx ex
  subst ex
  refine ctr_entry (cc := cX7_sum) (maxL := 2) (ret := some (.object "StructureSearch$Big")) (lv0 := [(0, .ref adh), (1, .int (nI s))]) (by decide) rfl (Nat.le_of_ble_eq_true rfl) rfl ?_
  intro K hl9 hG9 hk hn9 hrt
  subst hl9
  subst hG9
  refine v_iload_n hk dX7_sum_0 rfl ?_
  refine v_if_lt (tgt := 31) hk dX7_sum_1 (by decide) (fun hc => absurd hc (nI_pos (by omega))) (fun _ => ?_)
  refine v_iload_n hk dX7_sum_4 rfl ?_
  refine v_aload_n hk dX7_sum_5 rfl ?_
  refine v_get (C := RX7) (T := TX7) (N := 12) (ci := 6) (v := .ref adsa) hk dX7_sum_6 w2i_X7_sum_X70 0 rfl rfl 4 (by decide) (by decide +kernel) rfl rfl ?_
  refine v_alenB hk dX7_sum_9 1 rfl rfl ?_
  refine v_icmp_ge (tgt := 31) hk dX7_sum_10 (by decide) (fun hc => absurd hc (fun z => by have := (nle (by omega) (by omega)).mp z; omega)) (fun _ => ?_)
  refine v_aload_n hk dX7_sum_13 rfl ?_
  refine v_get (C := RX7) (T := TX7) (N := 12) (ci := 6) (v := .ref adsa) hk dX7_sum_14 w2i_X7_sum_X70 0 rfl rfl 4 (by decide) (by decide +kernel) rfl rfl ?_
  refine v_iload_n hk dX7_sum_17 rfl ?_
  refine v_aaldB (v := .ref (ad (65 + s))) hk dX7_sum_18 1 rfl (ix_in (ixn (by omega) (by omega))) (by rw [nI_clamp (by omega), scont, if_pos (show s < 16 by assumption)]; rfl) ?_
  refine v_ifnull hk dX7_sum_19 ?_
  refine v_aload_n hk dX7_sum_22 rfl ?_
  refine v_get (C := RX7) (T := TX7) (N := 12) (ci := 6) (v := .ref adsa) hk dX7_sum_23 w2i_X7_sum_X70 0 rfl rfl 4 (by decide) (by decide +kernel) rfl rfl ?_
  refine v_iload_n hk dX7_sum_26 rfl ?_
  refine v_aaldB (v := .ref (ad (65 + s))) hk dX7_sum_27 1 rfl (ix_in (ixn (by omega) (by omega))) (by rw [nI_clamp (by omega), scont, if_pos (show s < 16 by assumption)]; rfl) ?_
  refine v_goto (tgt := 35) hk dX7_sum_28 (by decide) ?_
  exact hrt (some (.ref (ad (65 + s)))) _ _ _ _ _ ⟨rfl, rfl⟩ (Nat.zero_le _) (Nat.zero_le _) dX7_sum_35
