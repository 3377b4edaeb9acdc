/-! the law: its loop, and its start -/
abbrev kLaw (p : Program) (l : Launch) (e : Env) (s : State) (m : MethodId) (below : List Frame) (meth : Method) (c : Code) (b : Nat) (G : GG) : Cx := (p, l, e, room_1, s, m, #[Value.ref b], below, meth, c, lw_Z below #[Value.ref b] s, (fun q : Nat => s.heap.size ≤ q), G)
theorem and31 (y : Int32) : ∃ j : Nat, j < 32 ∧ y &&& 31 = nI j := by
  refine ⟨u3 (y &&& 31), ?_, (nI_u3 _).symm⟩
  show ((y.toBitVec &&& (31 : Int32).toBitVec)).toNat < 32
  rw [BitVec.toNat_and]
  exact Nat.lt_of_le_of_lt Nat.and_le_right (by decide)
theorem len6 {L i : Nat} (hL : L ≤ 3072) (hi : i ≤ 4000) (h : ¬ Int32.ofNat L - 6 < nI i) : i + 6 ≤ L := by
  rcases Nat.lt_or_ge L 6 with q | q
  · exfalso
    apply h
    have h0 : Int32.ofNat L - 6 < 0 := (show ∀ L, L < 6 → Int32.ofNat L - 6 < 0 by decide) L q
    have h1 : ¬ nI i < 0 := nI_pos (by omega)
    exact Int32.lt_of_lt_of_le h0 (Int32.not_lt.mp h1)
  · have e : Int32.ofNat L - 6 = nI (L - 6) := nI_subm (a := L) (b := 6) q
    rw [e] at h
    rcases Nat.lt_or_ge (L - 6) i with z | z
    · exact absurd ((nlt (by omega) (by omega)).mpr z) h
    · omega
theorem ar8 {a b i : Nat} (h1 : a ≤ b + 820) (h2 : b ≤ 200 + 820 * i) : a ≤ 200 + 820 * (i + 1) := by
  rw [Nat.mul_succ, ← Nat.add_assoc]
  exact Nat.le_trans h1 (Nat.add_le_add_right h2 _)
theorem ar9 {a b i : Nat} (h1 : a ≤ b + 10400) (h2 : b ≤ 46000 + 10400 * i) : a ≤ 46000 + 10400 * (i + 1) := by
  rw [Nat.mul_succ, ← Nat.add_assoc]
  exact Nat.le_trans h1 (Nat.add_le_add_right h2 _)
theorem out19 : ∀ j, j < 32 → 20 ≤ j → (nI j).toInt < 0 ∨ (nI j).toInt > 19 := by decide
set_option maxRecDepth 20000 in
theorem law_loop {p : Program} {l : Launch} {e : Env} {s : State} {m : MethodId} {below : List Frame} {meth : Method} {c : Code} {b L : Nat} {xs : Nat → Int32} {G : GG} {A B : Nat → Nat} {o : Nat} {wz : va_W} (hL : L ≤ 3072) (C0 : lw_At p s m meth c b L xs) (hk : Ok (kLaw p l e s m below meth c b G) cL_law 4 RL w2_L_law room_1) :
    ∀ (n i : Nat), 6 * i ≤ L → 513 ≤ i + n → ∀ (cell : Nat → Nat → Nat) (vals : Nat → Nat) (N R w ms : Nat) (wx wy : va_W) (ce sl : Nat), CW G A cell vals N R w ms wx → RW G o B cell vals N R w ms wy → ce ≤ 200 + 820 * i → sl ≤ 46000 + 10400 * i → V (kLaw p l e s m below meth c b G) 4 (wx ++ (wy ++ wz)) ce sl 18 [(0, .ref b), (1, .ref (A 17)), (2, .ref o), (3, .int (nI (6 * i)))] [] := by
  obtain ⟨hx, hb, hr, hml, hown, hts, hX, hbl, hlocks, hgv⟩ := C0
  have hbA : ¬ kA (kLaw p l e s m below meth c b G) b := Nat.not_le.mpr hbl
  intro n
  induction n with
  | zero => intro i hi h; omega
  | succ n ih =>
    intro i hi hin cell vals N R w ms wx wy ce sl hC hR hce hsl
    refine v_iload_n hk dL_law_18 rfl ?_
    refine v_aload_n hk dL_law_19 rfl ?_
    refine v_slen hk hX hbl hbA dL_law_20 ?_
    refine v_bipush (v := 6) hk dL_law_21 (by decide) ?_
    refine v_isub hk dL_law_23 ?_
    refine v_icmp_gt (tgt := 817) hk dL_law_24 (by decide) (fun _ => ?_) (fun hlt => ?_)
    · refine v_iconst (v := 1) hk dL_law_817 (by decide) ?_
      intro H locs ls hP hD hS hl
      refine va_forget (fun q hq => hS.2.2 q hq) ?_
      refine W.widen (k := 600000) (n := 7302249) (by omega) (by omega) ?_
      exact lw_ret hx hb hr hlocks dL_law_818
    · have hiL := len6 (i := 6 * i) hL (by omega) hlt
      refine v_aload_n hk dL_law_27 rfl ?_
      refine v_iload_n hk dL_law_28 rfl ?_
      refine v_sld hk hX hbl hbA dL_law_29 (vp_in_nI (by omega) (by omega)) ?_
      refine v_bipush (v := 31) hk dL_law_30 (by decide) ?_
      refine v_iand hk dL_law_32 ?_
      have hin6 : ∀ j : Int32, 0 < j → j < 6 → vp_in (nI (6 * i) + j) L := by
        intro j h0 h6
        obtain ⟨k, hk31, rfl⟩ := nI_of (show ¬ j < 0 from fun z => Int32.lt_irrefl (Int32.lt_trans h0 z))
        have hk6 : k < 6 := (nlt31 (b := 6) hk31 (by omega)).mp h6
        rw [nI_add]
        exact vp_in_nI (by omega) (by omega)
      have hce2 : ce + 5820 ≤ 600000 := by omega
      have hsl2 : sl + 26400 ≤ 7302249 := by omega
      have ct : ∀ (u v : va_W) (cell : Nat → Nat → Nat) (vals : Nat → Nat) (N R w ms ce1 sl1 : Nat), CW G A cell vals N R w ms u → RW G o B cell vals N R w ms v → ce1 ≤ ce + 820 → sl1 ≤ sl + 10400 → V (kLaw p l e s m below meth c b G) 4 (u ++ (v ++ wz)) ce1 sl1 811 [(0, .ref b), (1, .ref (A 17)), (2, .ref o), (3, .int (nI (6 * i)))] [] := by
        intro u v cell vals N R w ms ce1 sl1 hC hR hc1 hs1
        refine v_iinc (v := nI (6 * (i + 1))) hk dL_law_811 rfl (show nI (6 * i) + nI 6 = nI (6 * (i + 1)) by rw [nI_add, Nat.mul_succ]) (by decide) [1, 2, 3, 0] (lv' := [(0, .ref b), (1, .ref (A 17)), (2, .ref o), (3, .int (nI (6 * (i + 1))))]) rfl ?_
        refine v_goto (tgt := 18) hk dL_law_814 (by decide) ?_
        exact ih (i + 1) (by omega) (by omega) cell vals N R w ms u v ce1 sl1 hC hR (ar8 hc1 hce) (ar9 hs1 hsl)
      obtain ⟨j, hj, ej⟩ := and31 (xs (nI (6 * i)).toNatClampNeg)
      refine v_topi ej ?_
      rcases Nat.lt_or_ge j 20 with hj2 | hj2
      · match j, hj2 with
        | 0, _ => exact v_tsIn (off := 95) (tgt := 128) hk dL_law_33 (by decide) (by decide) (by decide) (lc_clear hk hX hbl hbA hC hR hin6 hce2 hsl2 ct)
        | 1, _ => exact v_tsIn (off := 108) (tgt := 141) hk dL_law_33 (by decide) (by decide) (by decide) (lc_name hk hX hbl hbA hC hR hin6 hce2 hsl2 ct)
        | 2, _ => exact v_tsIn (off := 131) (tgt := 164) hk dL_law_33 (by decide) (by decide) (by decide) (lc_row hk hX hbl hbA hC hR hin6 hce2 hsl2 ct)
        | 3, _ => exact v_tsIn (off := 194) (tgt := 227) hk dL_law_33 (by decide) (by decide) (by decide) (lc_drop hk hX hbl hbA hC hR hin6 hce2 hsl2 ct)
        | 4, _ => exact v_tsIn (off := 217) (tgt := 250) hk dL_law_33 (by decide) (by decide) (by decide) (lc_value hk hX hbl hbA hC hR hin6 hce2 hsl2 ct)
        | 5, _ => exact v_tsIn (off := 250) (tgt := 283) hk dL_law_33 (by decide) (by decide) (by decide) (lc_set hk hX hbl hbA hC hR hin6 hce2 hsl2 ct)
        | 6, _ => exact v_tsIn (off := 283) (tgt := 316) hk dL_law_33 (by decide) (by decide) (by decide) (lc_about hk hX hbl hbA hC hR hin6 hce2 hsl2 ct)
        | 7, _ => exact v_tsIn (off := 306) (tgt := 339) hk dL_law_33 (by decide) (by decide) (by decide) (lc_isGraph hk hX hbl hbA hC hR hin6 hce2 hsl2 ct)
        | 8, _ => exact v_tsIn (off := 329) (tgt := 362) hk dL_law_33 (by decide) (by decide) (by decide) (lc_order hk hX hbl hbA hC hR hin6 hce2 hsl2 ct)
        | 9, _ => exact v_tsIn (off := 362) (tgt := 395) hk dL_law_33 (by decide) (by decide) (by decide) (lc_size hk hX hbl hbA hC hR hin6 hce2 hsl2 ct)
        | 10, _ => exact v_tsIn (off := 395) (tgt := 428) hk dL_law_33 (by decide) (by decide) (by decide) (lc_word hk hX hbl hbA hC hR hin6 hce2 hsl2 ct)
        | 11, _ => exact v_tsIn (off := 439) (tgt := 472) hk dL_law_33 (by decide) (by decide) (by decide) (lc_compare hk hX hbl hbA hC hR hin6 hce2 hsl2 ct)
        | 12, _ => exact v_tsIn (off := 472) (tgt := 505) hk dL_law_33 (by decide) (by decide) (by decide) (lc_parents hk hX hbl hbA hC hR hin6 hce2 hsl2 ct)
        | 13, _ => exact v_tsIn (off := 505) (tgt := 538) hk dL_law_33 (by decide) (by decide) (by decide) (lc_best hk hX hbl hbA hC hR hin6 hce2 hsl2 ct)
        | 14, _ => exact v_tsIn (off := 518) (tgt := 551) hk dL_law_33 (by decide) (by decide) (by decide) (lc_climb hk hX hbl hbA hC hR hin6 hce2 hsl2 ct)
        | 15, _ => exact v_tsIn (off := 551) (tgt := 584) hk dL_law_33 (by decide) (by decide) (by decide) (lc_alike hk hX hbl hbA hC hR hin6 hce2 hsl2 ct)
        | 16, _ => exact v_tsIn (off := 584) (tgt := 617) hk dL_law_33 (by decide) (by decide) (by decide) (lc_kin hk hX hbl hbA hC hR hin6 hce2 hsl2 ct)
        | 17, _ => exact v_tsIn (off := 617) (tgt := 650) hk dL_law_33 (by decide) (by decide) (by decide) (lc_shareSize hk hX hbl hbA hC hR hin6 hce2 hsl2 ct)
        | 18, _ => exact v_tsIn (off := 660) (tgt := 693) hk dL_law_33 (by decide) (by decide) (by decide) (lc_shareWord hk hX hbl hbA hC hR hin6 hce2 hsl2 ct)
        | 19, _ => exact v_tsIn (off := 714) (tgt := 747) hk dL_law_33 (by decide) (by decide) (by decide) (lc_test hk hX hbl hbA hC hR hin6 hce2 hsl2 ct)
        | n + 20, h => exact absurd h (by omega)
      · exact v_tsOut (tgt := 811) hk dL_law_33 (out19 j hj hj2) (by decide) (ct wx wy cell vals N R w ms ce sl hC hR (by omega) (by omega))
theorem cw_init {G : GG} {a q1 q2 q3 q4 q5 q6 q7 q8 q9 q10 q11 q12 q13 q14 q15 q16 q17 q18 q19 q20 q21 q22 q23 q24 q25 q26 q27 : Nat} : ∃ (A : Nat → Nat) (wx wz : va_W), A 17 = a ∧ CW G A (fun _ _ => 0) (fun _ => 0) 0 0 1 4 wx ∧ ([(a, .inr (9, [.ref q1, .ref q4, .ref q6, .ref q22, .ref q24, .null])), (q2, .inl (gI G, 5, .inl (fun _ => 0))), (q3, .inl (gI G, 16, .inl (fun _ => 0))), (q1, .inr (7, [.int 0, .int 0, .int 1, .int 4, .ref q2, .ref q3])), (q4, .inr (4, [.ref q5, .int 0])), (q5, .inl (gI G, 3673, .inl (fun _ => 0))), (q6, .inr (1, [.ref q1, .ref q4, .ref q7, .ref q8, .ref q13, .int 0, .ref q18, .ref q20])), (q7, .inl (gF G, 160, .inr (.inr (.inr (.inr (fun _ => none)))))), (q8, .inr (2, [.ref q9, .ref q11, .int 0])), (q9, .inr (0, [.ref q10, .int 0])), (q10, .inl (gJ G, 1, .inr (.inl (fun _ => 0)))), (q11, .inr (0, [.ref q12, .int 0])), (q12, .inl (gJ G, 1, .inr (.inl (fun _ => 0)))), (q13, .inr (2, [.ref q14, .ref q16, .int 0])), (q14, .inr (0, [.ref q15, .int 0])), (q15, .inl (gJ G, 30, .inr (.inl (fun _ => 0)))), (q16, .inr (0, [.ref q17, .int 0])), (q17, .inl (gJ G, 30, .inr (.inl (fun _ => 0)))), (q18, .inr (0, [.ref q19, .int 0])), (q19, .inl (gJ G, 60, .inr (.inl (fun _ => 0)))), (q20, .inr (0, [.ref q21, .int 0])), (q21, .inl (gJ G, 60, .inr (.inl (fun _ => 0)))), (q22, .inr (5, [.ref q1, .ref q6, .ref q23])), (q23, .inl (gI G, 32, .inl (fun _ => 0))), (q24, .inr (8, [.ref q1, .ref q25, .ref q26, .ref q27])), (q25, .inl (gI G, 9, .inl (fun _ => 0))), (q26, .inl (gI G, 3, .inl (fun _ => 0))), (q27, .inl (gI G, 3, .inl (fun _ => 0)))] : va_W).Perm (wx ++ wz) := by
  refine ⟨fun j => [q6, q4, q5, q7, q8, q13, q14, q15, q16, q17, q18, q19, q20, q21, q1, q2, q3, a, q22, q23, q24, q25, q26, q27].getD j 0, _, [(q8, .inr (2, [.ref q9, .ref q11, .int 0])), (q9, .inr (0, [.ref q10, .int 0])), (q10, .inl (gJ G, 1, .inr (.inl (fun _ => 0)))), (q11, .inr (0, [.ref q12, .int 0])), (q12, .inl (gJ G, 1, .inr (.inl (fun _ => 0))))], rfl, ⟨0, .null, fun _ => 0, fun _ => 0, fun _ => 0, fun _ => 0, fun _ => 0, fun _ => 0, fall G (fun j => [q6, q4, q5, q7, q8, q13, q14, q15, q16, q17, q18, q19, q20, q21, q1, q2, q3, a, q22, q23, q24, q25, q26, q27].getD j 0) (nI 0) (fun _ => 0) (fun _ => none) 0 0 0 (fun _ => 0) 0 (fun _ => 0) 0 (fun _ => 0) 0 (fun _ => 0) ++ ([] : List En).flatMap (ec G), [], CS_0, by omega, ⟨[], fun _ => none, 0, fun _ => 0, fun _ => 0, 0, 0, 0, fun _ => 0, 0, fun _ => 0, 0, fun _ => 0, 0, fun _ => 0, ⟨by omega, fun _ _ => rfl, fun k h => absurd rfl h⟩, ⟨fun e h => (by cases h), fun i f h => (by cases h), List.nodup_nil⟩, fun e h => (by cases h), Or.inl rfl, rfl, rfl⟩, Or.inl ⟨rfl, rfl⟩, rfl⟩, ?_⟩
  exact perm_ixn [0, 3, 1, 2, 22, 23, 24, 25, 26, 27, 6, 4, 5, 7, 13, 14, 15, 16, 17, 18, 19, 20, 21, 8, 9, 10, 11, 12] 28 rfl (by decide +kernel) rfl
set_option maxRecDepth 100000 in
theorem law_start {p : Program} {l : Launch} {e : Env} {s : State} {m : MethodId} {below : List Frame} {meth : Method} {c : Code} {b L : Nat} {xs : Nat → Int32} {G : GG} (hL : L ≤ 3072) (C0 : lw_At p s m meth c b L xs) (hk : Ok (kLaw p l e s m below meth c b G) cL_law 4 RL w2_L_law room_1) : V (kLaw p l e s m below meth c b G) 4 [] 0 0 0 [(0, .ref b)] [] := by
  refine v_new (C := RX10) (T := TX10) (N := 6) (ci := 9) (fs := [.null, .null, .null, .null, .null, .null]) hk dL_law_0 w2i_L_law_X100 tyX10 tyX10_ok (by decide +kernel) (by decide +kernel) (by decide +kernel) rfl (by decide) (show 0 + 1 ≤ 600000 by omega) (show 0 + 6 ≤ 7302249 by omega) (fun a => ?_)
  refine v_dup hk dL_law_3 rfl ?_
  refine v_callIG (n := 0) (st := [.ref a]) (b := a) (wr := []) hk dL_law_4 (c_X10_init l G a) rfl gd_L_law_X10_init rfl (by decide +kernel) (by decide +kernel) (by decide +kernel) rfl (by decide +kernel) ⟨Nat.le_of_ble_eq_true rfl, Nat.le_of_ble_eq_true rfl⟩ ⟨show 0 + 1 + 60 ≤ 600000 by omega, show 0 + 6 + 5000 ≤ 7302249 by omega⟩ rfl rfl (Nat.le_of_ble_eq_true rfl) (List.Perm.refl _) ?_
  rintro v w1 ⟨rfl, q1, q2, q3, q4, q5, q6, q7, q8, q9, q10, q11, q12, q13, q14, q15, q16, q17, q18, q19, q20, q21, q22, q23, q24, q25, q26, q27, rfl⟩
  obtain ⟨A, wx, wz, hA, hC, hpm⟩ := cw_init (G := G) (a := a) (q1 := q1) (q2 := q2) (q3 := q3) (q4 := q4) (q5 := q5) (q6 := q6) (q7 := q7) (q8 := q8) (q9 := q9) (q10 := q10) (q11 := q11) (q12 := q12) (q13 := q13) (q14 := q14) (q15 := q15) (q16 := q16) (q17 := q17) (q18 := q18) (q19 := q19) (q20 := q20) (q21 := q21) (q22 := q22) (q23 := q23) (q24 := q24) (q25 := q25) (q26 := q26) (q27 := q27)
  refine v_lperm hpm ?_
  refine v_astore_n hk dL_law_7 rfl (by decide) [1, 0] (lv' := [(0, .ref b), (1, .ref a)]) rfl ?_
  refine v_new (C := RX11) (T := TX11) (N := 39) (ci := 10) (fs := [.int 0, .null, .int 0, .null, .int 0, .int 0, .null, .null, .null, .null, .null, .null, .null, .null, .null, .null, .null, .null, .null, .null, .null, .null, .null, .null, .int 0, .int 0, .null, .null, .null, .null, .null, .null, .null, .null, .null, .null, .null, .null, .null]) hk dL_law_8 w2i_L_law_X110 tyX11 tyX11_ok (by decide +kernel) (by decide +kernel) (by decide +kernel) rfl (by decide) (show 0 + 1 + 60 + 1 ≤ 600000 by omega) (show 0 + 6 + 5000 + 39 ≤ 7302249 by omega) (fun o => ?_)
  refine v_dup hk dL_law_11 rfl ?_
  refine v_callIG (n := 0) (st := [.ref o]) (b := o) (wr := wx ++ wz) hk dL_law_12 (c_X11_init l G o) rfl gd_L_law_X11_init rfl (by decide +kernel) (by decide +kernel) (by decide +kernel) rfl (by decide +kernel) ⟨Nat.le_of_ble_eq_true rfl, Nat.le_of_ble_eq_true rfl⟩ ⟨show 0 + 1 + 60 + 1 + 40 ≤ 600000 by omega, show 0 + 6 + 5000 + 39 + 40000 ≤ 7302249 by omega⟩ rfl rfl (Nat.le_of_ble_eq_true rfl) (List.Perm.refl _) ?_
  rintro v w2 ⟨rfl, B, rfl⟩
  refine v_astore_n hk dL_law_15 rfl (by decide) [1, 2, 0] (lv' := [(0, .ref b), (1, .ref a), (2, .ref o)]) rfl ?_
  refine v_iconst (v := 0) hk dL_law_16 (by decide) ?_
  refine v_istore_n hk dL_law_17 rfl (by decide) [1, 2, 3, 0] (lv' := [(0, .ref b), (1, .ref a), (2, .ref o), (3, .int 0)]) rfl ?_
  have hR : RW G o B (fun _ _ => 0) (fun _ => 0) 0 0 1 4 (rW G o B (nI 0) (nI 0) (nI 1) (nI 4) (-1) (-1) (fun _ _ => 0)) := RWi rfl MS_0 (MK_z (by omega) (fun _ _ => rfl)) TOLD_0
  subst hA
  refine v_lperm (ws' := wx ++ (rW G o B (nI 0) (nI 0) (nI 1) (nI 4) (-1) (-1) (fun _ _ => 0) ++ wz)) ?_ ?_
  · rw [List.append_assoc]
    exact List.Perm.append_left wx List.perm_append_comm
  · exact law_loop hL C0 hk 513 0 (by omega) (by omega) _ _ _ _ _ _ _ _ _ _ hC hR (by decide) (by decide)
/-- from the entry, for every script of at most 3072 ints, the law comes to its end with true -/
theorem whole_start {p : Program} {e : Env} {s : State} {m : MethodId} {below : List Frame} {meth : Method} {c : Code} (l : Launch) {b L : Nat} {xs : Nat → Int32} (hL : L ≤ 3072) (C0 : lw_At p s m meth c b L xs) : W p l e room_1 s m #[Value.ref b] below meth c s.heap [] 0 0 (lw_Z below #[Value.ref b] s) (entryFrame m ([Value.ref b] : List Value).toArray 4) := by
  obtain ⟨hx, hb, hr, hml, hown, hts, hX, hbl, hlocks, hgv⟩ := id C0
  obtain ⟨G, hG⟩ := law_K hts
  have hk : Ok (kLaw p l e s m below meth c b G) cL_law 4 RL w2_L_law room_1 := ⟨hx, hb, hml, hown, fun w hw => hts w (tl_L_law w hw), hG, fun q h => h, law_S hts hgv, rfl⟩
  have hl := lv_entry ([Value.ref b]) (n := 4) (Nat.le_of_ble_eq_true rfl)
  rw [lg_entry_eq]
  exact law_start hL C0 hk s.heap [] _ (fun k q h => by simp at h) ⟨fun i j p q h => by simp at h, fun k q h => by simp at h⟩ va_S.rf hl
