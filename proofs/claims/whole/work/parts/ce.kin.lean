/-! StructureSearch: kin -/
abbrev rm_X10_kinA : Room := { frames := 6, cells := 1, slots := 4, locals := 160 }
set_option maxRecDepth 100000 in
theorem k_kin (l : Launch) (G : GG) (A : Nat → Nat) {N R w : Nat} {ms x what r0 r1 r2 r3 : Int32} {vs : Value} (hgr : m_X10_isGraph (nI N) (nI R) (nI w) ms x = some 1) (h0 : ¬ what < 0) (h3 : what ≤ 3) (hga : m_X4_gather 0 0 0 0 x (nI N) = some (r0, r1, r2, r3)) : Ctr l G yX10_kin w2_X10_kin rm_X10_kinA [.ref (A 17), .int x, .int what] [((A 17), .inr (9, [.ref (A 14), .ref (A 1), .ref (A 0), .ref (A 18), .ref (A 20), vs])), ((A 14), .inr (7, [.int (nI N), .int (nI R), .int (nI w), .int ms, .ref (A 15), .ref (A 16)]))] (fun v w1 => v = some (.int (if what = 0 then r0 else if what = 1 then r1 else if what = 2 then r2 else r3)) ∧ w1 = [((A 17), .inr (9, [.ref (A 14), .ref (A 1), .ref (A 0), .ref (A 18), .ref (A 20), vs])), ((A 14), .inr (7, [.int (nI N), .int (nI R), .int (nI w), .int ms, .ref (A 15), .ref (A 16)]))]) := by
  refine ctr_entry (cc := cX10_kin) (maxL := 4) (ret := some .int) (lv0 := [(0, .ref (A 17)), (1, .int x), (2, .int what)]) (by decide) rfl (Nat.le_of_ble_eq_true rfl) rfl ?_
  intro K hl9 hG9 hk hn9 hrt
  subst hl9
  subst hG9
  refine v_aload_n hk dX10_kin_0 rfl ?_
  refine v_iload_n hk dX10_kin_1 rfl ?_
  refine v_callVGT (L := [((A 17), .inr (9, [.ref (A 14), .ref (A 1), .ref (A 0), .ref (A 18), .ref (A 20), vs])), ((A 14), .inr (7, [.int (nI N), .int (nI R), .int (nI w), .int ms, .ref (A 15), .ref (A 16)]))]) (wx := []) (n := 1) (st := []) (b := (A 17)) (T := TX10) (N := 6) hk dX10_kin_2 (c_X10_isGraph (kl K) (kG K) (A 17) vs (A 14) (A 1) (A 0) (A 18) (A 20) (A 15) (A 16) (nI N) (nI R) (nI w) ms x 1 hgr) rfl gd_X10_kin_X10_isGraph rfl (by decide +kernel) ⟨Nat.le_of_ble_eq_true rfl, Nat.le_of_ble_eq_true rfl⟩ ⟨show 0 + 0 ≤ 1 by omega, show 0 + 0 ≤ 4 by omega⟩ rfl rfl (Nat.le_of_ble_eq_true rfl) 0 rfl rfl (wr := []) [] [0, 1] 2 rfl (by decide) rfl rfl ?_
  intro v9 w9 hp9
  obtain ⟨rfl, rfl⟩ := hp9
  show V K 4 [((A 17), .inr (9, [.ref (A 14), .ref (A 1), .ref (A 0), .ref (A 18), .ref (A 20), vs])), ((A 14), .inr (7, [.int (nI N), .int (nI R), .int (nI w), .int ms, .ref (A 15), .ref (A 16)]))] 0 0 5 [(0, .ref (A 17)), (1, .int x), (2, .int what)] [.int 1]
  refine v_if_eq (tgt := 17) hk dX10_kin_5 (by decide) (fun hc => absurd hc (by decide)) (fun _ => ?_)
  refine v_iload_n hk dX10_kin_8 rfl ?_
  refine v_if_lt (tgt := 17) hk dX10_kin_9 (by decide) (fun hc => absurd hc h0) (fun _ => ?_)
  refine v_iload_n hk dX10_kin_12 rfl ?_
  refine v_iconst (v := 3) hk dX10_kin_13 (by decide) ?_
  refine v_icmp_le (tgt := 19) hk dX10_kin_14 (by decide) (fun _ => ?_) (fun hc => absurd h3 hc)
  refine v_newT (ci := 3) (fs := [.int 0, .int 0, .int 0, .int 0]) (L := [((A 17), .inr (9, [.ref (A 14), .ref (A 1), .ref (A 0), .ref (A 18), .ref (A 20), vs])), ((A 14), .inr (7, [.int (nI N), .int (nI R), .int (nI w), .int ms, .ref (A 15), .ref (A 16)]))]) (wx := []) hk dX10_kin_19 w2i_X10_kin_X40 tyX4 tyX4_ok (by decide +kernel) (by decide +kernel) (by decide +kernel) rfl (by decide) (show 0 + 1 ≤ 1 by omega) (show 0 + 4 ≤ 4 by omega) (fun q1 => ?_)
  show V K 4 [((A 17), .inr (9, [.ref (A 14), .ref (A 1), .ref (A 0), .ref (A 18), .ref (A 20), vs])), ((A 14), .inr (7, [.int (nI N), .int (nI R), .int (nI w), .int ms, .ref (A 15), .ref (A 16)])), (q1, .inr (3, [.int 0, .int 0, .int 0, .int 0]))] (0 + 1) (0 + 4) 22 [(0, .ref (A 17)), (1, .int x), (2, .int what)] [.ref q1]
  refine v_dup hk dX10_kin_22 rfl ?_
  refine v_callIGT (L := [((A 17), .inr (9, [.ref (A 14), .ref (A 1), .ref (A 0), .ref (A 18), .ref (A 20), vs])), ((A 14), .inr (7, [.int (nI N), .int (nI R), .int (nI w), .int ms, .ref (A 15), .ref (A 16)])), (q1, .inr (3, [.int 0, .int 0, .int 0, .int 0]))]) (wx := []) (n := 0) (st := [.ref q1]) (b := q1) hk dX10_kin_23 (c_X4_init (kl K) (kG K) q1) rfl gd_X10_kin_X4_init rfl (by decide +kernel) (by decide +kernel) (by decide +kernel) rfl (by decide +kernel) ⟨Nat.le_of_ble_eq_true rfl, Nat.le_of_ble_eq_true rfl⟩ ⟨show 0 + 1 + 0 ≤ 1 by omega, show 0 + 4 + 0 ≤ 4 by omega⟩ rfl rfl (Nat.le_of_ble_eq_true rfl) (wr := [((A 17), .inr (9, [.ref (A 14), .ref (A 1), .ref (A 0), .ref (A 18), .ref (A 20), vs])), ((A 14), .inr (7, [.int (nI N), .int (nI R), .int (nI w), .int ms, .ref (A 15), .ref (A 16)]))]) [0, 1] [2] 3 rfl (by decide) rfl rfl ?_
  intro v9 w9 hp9
  obtain ⟨rfl, rfl⟩ := hp9
  show V K 4 [((A 17), .inr (9, [.ref (A 14), .ref (A 1), .ref (A 0), .ref (A 18), .ref (A 20), vs])), ((A 14), .inr (7, [.int (nI N), .int (nI R), .int (nI w), .int ms, .ref (A 15), .ref (A 16)])), (q1, .inr (3, [.int 0, .int 0, .int 0, .int 0]))] (0 + 1) (0 + 4) 26 [(0, .ref (A 17)), (1, .int x), (2, .int what)] [.ref q1]
  refine v_astore_n hk dX10_kin_26 rfl (by decide) [1, 2, 3, 0] (lv' := [(0, .ref (A 17)), (1, .int x), (2, .int what), (3, .ref q1)]) rfl ?_
  refine v_aload_n hk dX10_kin_27 rfl ?_
  refine v_iload_n hk dX10_kin_28 rfl ?_
  refine v_aload_n hk dX10_kin_29 rfl ?_
  refine v_get (C := RX10) (T := TX10) (N := 6) (ci := 9) (v := .ref (A 14)) hk dX10_kin_30 w2i_X10_kin_X100 0 rfl rfl 0 (by decide) (by decide +kernel) rfl rfl ?_
  refine v_get (C := RX8) (T := TX8) (N := 6) (ci := 7) (v := .int (nI N)) hk dX10_kin_33 w2i_X10_kin_X80 1 rfl rfl 0 (by decide) (by decide +kernel) rfl rfl ?_
  refine v_callVGT (L := [((A 17), .inr (9, [.ref (A 14), .ref (A 1), .ref (A 0), .ref (A 18), .ref (A 20), vs])), ((A 14), .inr (7, [.int (nI N), .int (nI R), .int (nI w), .int ms, .ref (A 15), .ref (A 16)])), (q1, .inr (3, [.int 0, .int 0, .int 0, .int 0]))]) (wx := []) (n := 2) (st := []) (b := q1) (T := TX4) (N := 4) hk dX10_kin_36 (c_X4_gather (kl K) (kG K) q1 0 0 0 0 x (nI N) _ hga) rfl gd_X10_kin_X4_gather rfl (by decide +kernel) ⟨Nat.le_of_ble_eq_true rfl, Nat.le_of_ble_eq_true rfl⟩ ⟨show 0 + 1 + 0 ≤ 1 by omega, show 0 + 4 + 0 ≤ 4 by omega⟩ rfl rfl (Nat.le_of_ble_eq_true rfl) 2 rfl rfl (wr := [((A 17), .inr (9, [.ref (A 14), .ref (A 1), .ref (A 0), .ref (A 18), .ref (A 20), vs])), ((A 14), .inr (7, [.int (nI N), .int (nI R), .int (nI w), .int ms, .ref (A 15), .ref (A 16)]))]) [0, 1] [2] 3 rfl (by decide) rfl rfl ?_
  intro v9 w9 hp9
  obtain ⟨rfl, rfl⟩ := hp9
  show V K 4 [((A 17), .inr (9, [.ref (A 14), .ref (A 1), .ref (A 0), .ref (A 18), .ref (A 20), vs])), ((A 14), .inr (7, [.int (nI N), .int (nI R), .int (nI w), .int ms, .ref (A 15), .ref (A 16)])), (q1, .inr (3, [.int r0, .int r1, .int r2, .int r3]))] (0 + 1) (0 + 4) 39 [(0, .ref (A 17)), (1, .int x), (2, .int what), (3, .ref q1)] []
  refine v_iload_n hk dX10_kin_39 rfl ?_
  by_cases t0 : what = 0
  · refine v_tableIn (off := 28) (tgt := 68) (k0 := 0) hk dX10_kin_40 t0 (by decide) (by decide) (by decide) (by decide) ?_
    refine v_aload_n hk dX10_kin_68 rfl ?_
    refine v_get (C := RX4) (T := TX4) (N := 4) (ci := 3) (v := .int r0) hk dX10_kin_69 w2i_X10_kin_X40 2 rfl rfl 0 (by decide) (by decide +kernel) rfl rfl ?_
    refine v_lperm (ws' := [((A 17), .inr (9, [.ref (A 14), .ref (A 1), .ref (A 0), .ref (A 18), .ref (A 20), vs])), ((A 14), .inr (7, [.int (nI N), .int (nI R), .int (nI w), .int ms, .ref (A 15), .ref (A 16)]))] ++ [(q1, .inr (3, [.int r0, .int r1, .int r2, .int r3]))]) (perm_ixn [0, 1, 2] 3 rfl (by decide) rfl) ?_
    refine v_drop ?_
    exact hrt (some (.int r0)) _ _ _ _ _ ⟨by rw [if_pos t0], rfl⟩ (show 0 + 1 ≤ 1 by omega) (show 0 + 4 ≤ 4 by omega) dX10_kin_72
  by_cases t1 : what = 1
  · refine v_tableIn (off := 33) (tgt := 73) (k0 := 1) hk dX10_kin_40 t1 (by decide) (by decide) (by decide) (by decide) ?_
    refine v_aload_n hk dX10_kin_73 rfl ?_
    refine v_get (C := RX4) (T := TX4) (N := 4) (ci := 3) (v := .int r1) hk dX10_kin_74 w2i_X10_kin_X40 2 rfl rfl 1 (by decide) (by decide +kernel) rfl rfl ?_
    refine v_lperm (ws' := [((A 17), .inr (9, [.ref (A 14), .ref (A 1), .ref (A 0), .ref (A 18), .ref (A 20), vs])), ((A 14), .inr (7, [.int (nI N), .int (nI R), .int (nI w), .int ms, .ref (A 15), .ref (A 16)]))] ++ [(q1, .inr (3, [.int r0, .int r1, .int r2, .int r3]))]) (perm_ixn [0, 1, 2] 3 rfl (by decide) rfl) ?_
    refine v_drop ?_
    exact hrt (some (.int r1)) _ _ _ _ _ ⟨by rw [if_neg t0, if_pos t1], rfl⟩ (show 0 + 1 ≤ 1 by omega) (show 0 + 4 ≤ 4 by omega) dX10_kin_77
  by_cases t2 : what = 2
  · refine v_tableIn (off := 38) (tgt := 78) (k0 := 2) hk dX10_kin_40 t2 (by decide) (by decide) (by decide) (by decide) ?_
    refine v_aload_n hk dX10_kin_78 rfl ?_
    refine v_get (C := RX4) (T := TX4) (N := 4) (ci := 3) (v := .int r2) hk dX10_kin_79 w2i_X10_kin_X40 2 rfl rfl 2 (by decide) (by decide +kernel) rfl rfl ?_
    refine v_lperm (ws' := [((A 17), .inr (9, [.ref (A 14), .ref (A 1), .ref (A 0), .ref (A 18), .ref (A 20), vs])), ((A 14), .inr (7, [.int (nI N), .int (nI R), .int (nI w), .int ms, .ref (A 15), .ref (A 16)]))] ++ [(q1, .inr (3, [.int r0, .int r1, .int r2, .int r3]))]) (perm_ixn [0, 1, 2] 3 rfl (by decide) rfl) ?_
    refine v_drop ?_
    exact hrt (some (.int r2)) _ _ _ _ _ ⟨by rw [if_neg t0, if_neg t1, if_pos t2], rfl⟩ (show 0 + 1 ≤ 1 by omega) (show 0 + 4 ≤ 4 by omega) dX10_kin_82
  refine v_tableOut (tgt := 83) hk dX10_kin_40 (t_out2 t0 t1 t2) (by decide) ?_
  refine v_aload_n hk dX10_kin_83 rfl ?_
  refine v_get (C := RX4) (T := TX4) (N := 4) (ci := 3) (v := .int r3) hk dX10_kin_84 w2i_X10_kin_X40 2 rfl rfl 3 (by decide) (by decide +kernel) rfl rfl ?_
  refine v_lperm (ws' := [((A 17), .inr (9, [.ref (A 14), .ref (A 1), .ref (A 0), .ref (A 18), .ref (A 20), vs])), ((A 14), .inr (7, [.int (nI N), .int (nI R), .int (nI w), .int ms, .ref (A 15), .ref (A 16)]))] ++ [(q1, .inr (3, [.int r0, .int r1, .int r2, .int r3]))]) (perm_ixn [0, 1, 2] 3 rfl (by decide) rfl) ?_
  refine v_drop ?_
  exact hrt (some (.int r3)) _ _ _ _ _ ⟨by rw [if_neg t0, if_neg t1, if_neg t2], rfl⟩ (show 0 + 1 ≤ 1 by omega) (show 0 + 4 ≤ 4 by omega) dX10_kin_87
