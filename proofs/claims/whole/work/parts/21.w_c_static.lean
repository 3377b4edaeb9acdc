abbrev rm_J6_bitCount_0f7a4 : Room := { frames := 0, cells := 0, slots := 0, locals := 0 }
set_option maxHeartbeats 4000000 in
set_option maxRecDepth 100000 in
theorem c_J6_bitCount_0f7a4 (l : Launch) (G : GG) (i : Int32) (r : Int32) (h : m_J6_bitCount_0f7a4 i = some r) : Ctr l G yJ6_bitCount_0f7a4 w2_J6_bitCount_0f7a4 rm_J6_bitCount_0f7a4 [.int i] [] (fun v w => v = some (.int r) ∧ w = []) := by
  refine ctr_entry (cc := cJ6_bitCount_0f7a4) (maxL := 1) (ret := some .int) (lv0 := [(0, .int i)]) (by decide) rfl (Nat.le_of_ble_eq_true rfl) (rfl) ?_
  intro K hl9 hG9 hk hn9 hrt
  subst hl9
  subst hG9
  have hR9 : RoomGe rm_J6_bitCount_0f7a4 rm_J6_bitCount_0f7a4 := RoomGe.rf
  replace h := id_e h
  rw [em_J6_bitCount_0f7a4] at h
  refine v_iload_n hk dJ6_bitCount_0f7a4_0 rfl ?_
  refine v_iload_n hk dJ6_bitCount_0f7a4_1 rfl ?_
  refine v_iconst (v := 1) hk dJ6_bitCount_0f7a4_2 (by decide) ?_
  refine v_iushr hk dJ6_bitCount_0f7a4_3 ?_
  refine v_ldcw (v := 1431655765) hk dJ6_bitCount_0f7a4_4 (by decide +kernel) ?_
  refine v_iand hk dJ6_bitCount_0f7a4_7 ?_
  refine v_isub hk dJ6_bitCount_0f7a4_8 ?_
  obtain ⟨x0_1, ex0_1, h⟩ := lt_e (g := id) h
  refine v_topi ex0_1.symm ?_
  refine v_istore_n hk dJ6_bitCount_0f7a4_9 rfl (by decide) [0] (lv' := [(0, .int x0_1)]) rfl ?_
  refine v_iload_n hk dJ6_bitCount_0f7a4_10 rfl ?_
  refine v_ldcw (v := 858993459) hk dJ6_bitCount_0f7a4_11 (by decide +kernel) ?_
  refine v_iand hk dJ6_bitCount_0f7a4_14 ?_
  refine v_iload_n hk dJ6_bitCount_0f7a4_15 rfl ?_
  refine v_iconst (v := 2) hk dJ6_bitCount_0f7a4_16 (by decide) ?_
  refine v_iushr hk dJ6_bitCount_0f7a4_17 ?_
  refine v_ldcw (v := 858993459) hk dJ6_bitCount_0f7a4_18 (by decide +kernel) ?_
  refine v_iand hk dJ6_bitCount_0f7a4_21 ?_
  refine v_iadd hk dJ6_bitCount_0f7a4_22 ?_
  obtain ⟨x0_2, ex0_2, h⟩ := lt_e (g := id) h
  refine v_topi ex0_2.symm ?_
  refine v_istore_n hk dJ6_bitCount_0f7a4_23 rfl (by decide) [0] (lv' := [(0, .int x0_2)]) rfl ?_
  refine v_iload_n hk dJ6_bitCount_0f7a4_24 rfl ?_
  refine v_iload_n hk dJ6_bitCount_0f7a4_25 rfl ?_
  refine v_iconst (v := 4) hk dJ6_bitCount_0f7a4_26 (by decide) ?_
  refine v_iushr hk dJ6_bitCount_0f7a4_27 ?_
  refine v_iadd hk dJ6_bitCount_0f7a4_28 ?_
  refine v_ldcw (v := 252645135) hk dJ6_bitCount_0f7a4_29 (by decide +kernel) ?_
  refine v_iand hk dJ6_bitCount_0f7a4_32 ?_
  obtain ⟨x0_3, ex0_3, h⟩ := lt_e (g := id) h
  refine v_topi ex0_3.symm ?_
  refine v_istore_n hk dJ6_bitCount_0f7a4_33 rfl (by decide) [0] (lv' := [(0, .int x0_3)]) rfl ?_
  refine v_iload_n hk dJ6_bitCount_0f7a4_34 rfl ?_
  refine v_iload_n hk dJ6_bitCount_0f7a4_35 rfl ?_
  refine v_bipush (v := 8) hk dJ6_bitCount_0f7a4_36 (by decide) ?_
  refine v_iushr hk dJ6_bitCount_0f7a4_38 ?_
  refine v_iadd hk dJ6_bitCount_0f7a4_39 ?_
  obtain ⟨x0_4, ex0_4, h⟩ := lt_e (g := id) h
  refine v_topi ex0_4.symm ?_
  refine v_istore_n hk dJ6_bitCount_0f7a4_40 rfl (by decide) [0] (lv' := [(0, .int x0_4)]) rfl ?_
  refine v_iload_n hk dJ6_bitCount_0f7a4_41 rfl ?_
  refine v_iload_n hk dJ6_bitCount_0f7a4_42 rfl ?_
  refine v_bipush (v := 16) hk dJ6_bitCount_0f7a4_43 (by decide) ?_
  refine v_iushr hk dJ6_bitCount_0f7a4_45 ?_
  refine v_iadd hk dJ6_bitCount_0f7a4_46 ?_
  obtain ⟨x0_5, ex0_5, h⟩ := lt_e (g := id) h
  refine v_topi ex0_5.symm ?_
  refine v_istore_n hk dJ6_bitCount_0f7a4_47 rfl (by decide) [0] (lv' := [(0, .int x0_5)]) rfl ?_
  refine v_iload_n hk dJ6_bitCount_0f7a4_48 rfl ?_
  refine v_bipush (v := 63) hk dJ6_bitCount_0f7a4_49 (by decide) ?_
  refine v_iand hk dJ6_bitCount_0f7a4_51 ?_
  replace h : some (x0_5 &&& 63) = some r := h
  replace h := Option.some.inj h
  subst h
  refine hrt (some (.int (x0_5 &&& 63))) _ _ _ _ _ (⟨rfl, rfl⟩) (Nat.zero_le _) (Nat.zero_le _) (dJ6_bitCount_0f7a4_52)
abbrev rm_J13_bitCount_95d88 : Room := { frames := 0, cells := 0, slots := 0, locals := 0 }
set_option maxHeartbeats 4000000 in
set_option maxRecDepth 100000 in
theorem c_J13_bitCount_95d88 (l : Launch) (G : GG) (i : Int64) (r : Int32) (h : m_J13_bitCount_95d88 i = some r) : Ctr l G yJ13_bitCount_95d88 w2_J13_bitCount_95d88 rm_J13_bitCount_95d88 [.long i] [] (fun v w => v = some (.int r) ∧ w = []) := by
  refine ctr_entry (cc := cJ13_bitCount_95d88) (maxL := 2) (ret := some .int) (lv0 := [(0, .long i)]) (by decide) rfl (Nat.le_of_ble_eq_true rfl) (by simp [lv_args, Value.category]) ?_
  intro K hl9 hG9 hk hn9 hrt
  subst hl9
  subst hG9
  have hR9 : RoomGe rm_J13_bitCount_95d88 rm_J13_bitCount_95d88 := RoomGe.rf
  replace h := id_e h
  rw [em_J13_bitCount_95d88] at h
  refine v_lload_n hk dJ13_bitCount_95d88_0 rfl ?_
  refine v_lload_n hk dJ13_bitCount_95d88_1 rfl ?_
  refine v_iconst (v := 1) hk dJ13_bitCount_95d88_2 (by decide) ?_
  refine v_lushr hk dJ13_bitCount_95d88_3 ?_
  refine v_ldc2 (v := 6148914691236517205) hk dJ13_bitCount_95d88_4 (by decide +kernel) ?_
  refine v_land hk dJ13_bitCount_95d88_7 ?_
  refine v_lsub hk dJ13_bitCount_95d88_8 ?_
  obtain ⟨x0_1, ex0_1, h⟩ := lt_e (g := id) h
  refine v_topl ex0_1.symm ?_
  refine v_lstore_n hk dJ13_bitCount_95d88_9 rfl (by decide) [0] (lv' := [(0, .long x0_1)]) rfl ?_
  refine v_lload_n hk dJ13_bitCount_95d88_10 rfl ?_
  refine v_ldc2 (v := 3689348814741910323) hk dJ13_bitCount_95d88_11 (by decide +kernel) ?_
  refine v_land hk dJ13_bitCount_95d88_14 ?_
  refine v_lload_n hk dJ13_bitCount_95d88_15 rfl ?_
  refine v_iconst (v := 2) hk dJ13_bitCount_95d88_16 (by decide) ?_
  refine v_lushr hk dJ13_bitCount_95d88_17 ?_
  refine v_ldc2 (v := 3689348814741910323) hk dJ13_bitCount_95d88_18 (by decide +kernel) ?_
  refine v_land hk dJ13_bitCount_95d88_21 ?_
  refine v_ladd hk dJ13_bitCount_95d88_22 ?_
  obtain ⟨x0_2, ex0_2, h⟩ := lt_e (g := id) h
  refine v_topl ex0_2.symm ?_
  refine v_lstore_n hk dJ13_bitCount_95d88_23 rfl (by decide) [0] (lv' := [(0, .long x0_2)]) rfl ?_
  refine v_lload_n hk dJ13_bitCount_95d88_24 rfl ?_
  refine v_lload_n hk dJ13_bitCount_95d88_25 rfl ?_
  refine v_iconst (v := 4) hk dJ13_bitCount_95d88_26 (by decide) ?_
  refine v_lushr hk dJ13_bitCount_95d88_27 ?_
  refine v_ladd hk dJ13_bitCount_95d88_28 ?_
  refine v_ldc2 (v := 1085102592571150095) hk dJ13_bitCount_95d88_29 (by decide +kernel) ?_
  refine v_land hk dJ13_bitCount_95d88_32 ?_
  obtain ⟨x0_3, ex0_3, h⟩ := lt_e (g := id) h
  refine v_topl ex0_3.symm ?_
  refine v_lstore_n hk dJ13_bitCount_95d88_33 rfl (by decide) [0] (lv' := [(0, .long x0_3)]) rfl ?_
  refine v_lload_n hk dJ13_bitCount_95d88_34 rfl ?_
  refine v_lload_n hk dJ13_bitCount_95d88_35 rfl ?_
  refine v_bipush (v := 8) hk dJ13_bitCount_95d88_36 (by decide) ?_
  refine v_lushr hk dJ13_bitCount_95d88_38 ?_
  refine v_ladd hk dJ13_bitCount_95d88_39 ?_
  obtain ⟨x0_4, ex0_4, h⟩ := lt_e (g := id) h
  refine v_topl ex0_4.symm ?_
  refine v_lstore_n hk dJ13_bitCount_95d88_40 rfl (by decide) [0] (lv' := [(0, .long x0_4)]) rfl ?_
  refine v_lload_n hk dJ13_bitCount_95d88_41 rfl ?_
  refine v_lload_n hk dJ13_bitCount_95d88_42 rfl ?_
  refine v_bipush (v := 16) hk dJ13_bitCount_95d88_43 (by decide) ?_
  refine v_lushr hk dJ13_bitCount_95d88_45 ?_
  refine v_ladd hk dJ13_bitCount_95d88_46 ?_
  obtain ⟨x0_5, ex0_5, h⟩ := lt_e (g := id) h
  refine v_topl ex0_5.symm ?_
  refine v_lstore_n hk dJ13_bitCount_95d88_47 rfl (by decide) [0] (lv' := [(0, .long x0_5)]) rfl ?_
  refine v_lload_n hk dJ13_bitCount_95d88_48 rfl ?_
  refine v_lload_n hk dJ13_bitCount_95d88_49 rfl ?_
  refine v_bipush (v := 32) hk dJ13_bitCount_95d88_50 (by decide) ?_
  refine v_lushr hk dJ13_bitCount_95d88_52 ?_
  refine v_ladd hk dJ13_bitCount_95d88_53 ?_
  obtain ⟨x0_6, ex0_6, h⟩ := lt_e (g := id) h
  refine v_topl ex0_6.symm ?_
  refine v_lstore_n hk dJ13_bitCount_95d88_54 rfl (by decide) [0] (lv' := [(0, .long x0_6)]) rfl ?_
  refine v_lload_n hk dJ13_bitCount_95d88_55 rfl ?_
  refine v_l2i hk dJ13_bitCount_95d88_56 ?_
  refine v_bipush (v := 127) hk dJ13_bitCount_95d88_57 (by decide) ?_
  refine v_iand hk dJ13_bitCount_95d88_59 ?_
  replace h : some (x0_6.toInt32 &&& 127) = some r := h
  replace h := Option.some.inj h
  subst h
  refine hrt (some (.int (x0_6.toInt32 &&& 127))) _ _ _ _ _ (⟨rfl, rfl⟩) (Nat.zero_le _) (Nat.zero_le _) (dJ13_bitCount_95d88_60)
abbrev rm_X0_isIn : Room := { frames := 0, cells := 0, slots := 0, locals := 0 }
set_option maxHeartbeats 4000000 in
set_option maxRecDepth 100000 in
theorem c_X0_isIn (l : Launch) (G : GG) (p0 : Int32) (p1 : Int32) (r : Int32) (h : m_X0_isIn p0 p1 = some r) : Ctr l G yX0_isIn w2_X0_isIn rm_X0_isIn [.int p0, .int p1] [] (fun v w => v = some (.int r) ∧ w = []) := by
  refine ctr_entry (cc := cX0_isIn) (maxL := 2) (ret := some .boolean) (lv0 := [(0, .int p0), (1, .int p1)]) (by decide) rfl (Nat.le_of_ble_eq_true rfl) (rfl) ?_
  intro K hl9 hG9 hk hn9 hrt
  subst hl9
  subst hG9
  have hR9 : RoomGe rm_X0_isIn rm_X0_isIn := RoomGe.rf
  replace h := id_e h
  rw [em_X0_isIn] at h
  refine v_iload_n hk dX0_isIn_0 rfl ?_
  refine v_iload_n hk dX0_isIn_1 rfl ?_
  refine v_ishr hk dX0_isIn_2 ?_
  refine v_iconst (v := 1) hk dX0_isIn_3 (by decide) ?_
  refine v_iand hk dX0_isIn_4 ?_
  refine v_iconst (v := 1) hk dX0_isIn_5 (by decide) ?_
  obtain ⟨z_1, ez_1, h⟩ := lt_e (g := id) h
  have Jz_1 : V K 2 [] 0 0 14 [(0, .int p0), (1, .int p1)] (.int z_1 :: []) := by
    obtain ⟨hbz, h⟩ := ok_e (g := id) rfl h
    replace h : some z_1 = some r := h
    replace h := Option.some.inj h
    subst h
    refine hrt (some (.int z_1)) _ _ _ _ _ (⟨rfl, rfl⟩) (Nat.zero_le _) (Nat.zero_le _) (⟨dX0_isIn_14, nar_z _ (of_decide_eq_true hbz)⟩)
  refine v_icmp_ne (tgt := 13) hk dX0_isIn_6 (by decide) (fun hc => ?_) (fun hc => ?_)
  · rw [if_neg hc] at ez_1
    subst ez_1
    refine v_iconst (v := 0) hk dX0_isIn_13 (by decide) ?_
    exact Jz_1
  · rw [if_pos hc] at ez_1
    subst ez_1
    refine v_iconst (v := 1) hk dX0_isIn_9 (by decide) ?_
    refine v_goto (tgt := 14) hk dX0_isIn_10 (by decide) ?_
    exact Jz_1
abbrev rm_X0_arc : Room := { frames := 0, cells := 0, slots := 0, locals := 0 }
set_option maxHeartbeats 4000000 in
set_option maxRecDepth 100000 in
theorem c_X0_arc (l : Launch) (G : GG) (p0 : Int32) (p1 : Int32) (r : Int32) (h : m_X0_arc p0 p1 = some r) : Ctr l G yX0_arc w2_X0_arc rm_X0_arc [.int p0, .int p1] [] (fun v w => v = some (.int r) ∧ w = []) := by
  refine ctr_entry (cc := cX0_arc) (maxL := 2) (ret := some .int) (lv0 := [(0, .int p0), (1, .int p1)]) (by decide) rfl (Nat.le_of_ble_eq_true rfl) (rfl) ?_
  intro K hl9 hG9 hk hn9 hrt
  subst hl9
  subst hG9
  have hR9 : RoomGe rm_X0_arc rm_X0_arc := RoomGe.rf
  replace h := id_e h
  rw [em_X0_arc] at h
  refine v_iconst (v := 1) hk dX0_arc_0 (by decide) ?_
  refine v_iconst (v := 5) hk dX0_arc_1 (by decide) ?_
  refine v_iload_n hk dX0_arc_2 rfl ?_
  refine v_imul hk dX0_arc_3 ?_
  refine v_iload_n hk dX0_arc_4 rfl ?_
  refine v_iadd hk dX0_arc_5 ?_
  refine v_ishl hk dX0_arc_6 ?_
  replace h : some (1 <<< (((5 * p0) + p1) &&& 31)) = some r := h
  replace h := Option.some.inj h
  subst h
  refine hrt (some (.int (1 <<< (((5 * p0) + p1) &&& 31)))) _ _ _ _ _ (⟨rfl, rfl⟩) (Nat.zero_le _) (Nat.zero_le _) (dX0_arc_7)
abbrev rm_X0_has : Room := { frames := 1, cells := 0, slots := 0, locals := 21 }
set_option maxHeartbeats 4000000 in
set_option maxRecDepth 100000 in
theorem c_X0_has (l : Launch) (G : GG) (p0 : Int32) (p1 : Int32) (p2 : Int32) (r : Int32) (h : m_X0_has p0 p1 p2 = some r) : Ctr l G yX0_has w2_X0_has rm_X0_has [.int p0, .int p1, .int p2] [] (fun v w => v = some (.int r) ∧ w = []) := by
  refine ctr_entry (cc := cX0_has) (maxL := 3) (ret := some .boolean) (lv0 := [(0, .int p0), (1, .int p1), (2, .int p2)]) (by decide) rfl (Nat.le_of_ble_eq_true rfl) (rfl) ?_
  intro K hl9 hG9 hk hn9 hrt
  subst hl9
  subst hG9
  have hR9 : RoomGe rm_X0_has rm_X0_has := RoomGe.rf
  replace h := id_e h
  rw [em_X0_has] at h
  refine v_iload_n hk dX0_has_0 rfl ?_
  refine v_iload_n hk dX0_has_1 rfl ?_
  refine v_iload_n hk dX0_has_2 rfl ?_
  obtain ⟨r_1, er_1, h⟩ := bd_e (g := id) rfl h
  refine v_callS (n := 2) (st := [.int p0]) hk dX0_has_3 (c_X0_arc (kl K) (kG K) p1 p2 r_1 er_1) gd_X0_has_X0_arc rfl (by decide +kernel) (frok hR9 (Nat.le_of_ble_eq_true rfl) (Nat.le_of_ble_eq_true rfl)) (roomk hR9 (Nat.le_of_ble_eq_true rfl) (Nat.le_of_ble_eq_true rfl)) rfl rfl (Nat.le_of_ble_eq_true rfl) [] [] (wr := []) rfl rfl (by decide) (by decide) (by decide) ?_
  intro v9 w9 hp9
  obtain ⟨rfl, rfl⟩ := hp9
  show V K 3 [] 0 0 6 [(0, .int p0), (1, .int p1), (2, .int p2)] [.int r_1, .int p0]
  refine v_iand hk dX0_has_6 ?_
  obtain ⟨z_2, ez_2, h⟩ := lt_e (g := id) h
  have Jz_2 : V K 3 [] 0 0 15 [(0, .int p0), (1, .int p1), (2, .int p2)] (.int z_2 :: []) := by
    obtain ⟨hbz, h⟩ := ok_e (g := id) rfl h
    replace h : some z_2 = some r := h
    replace h := Option.some.inj h
    subst h
    refine hrt (some (.int z_2)) _ _ _ _ _ (⟨rfl, rfl⟩) (Nat.zero_le _) (Nat.zero_le _) (⟨dX0_has_15, nar_z _ (of_decide_eq_true hbz)⟩)
  refine v_if_eq (tgt := 14) hk dX0_has_7 (by decide) (fun hc => ?_) (fun hc => ?_)
  · rw [if_pos hc] at ez_2
    subst ez_2
    refine v_iconst (v := 0) hk dX0_has_14 (by decide) ?_
    exact Jz_2
  · rw [if_neg hc] at ez_2
    subst ez_2
    refine v_iconst (v := 1) hk dX0_has_10 (by decide) ?_
    refine v_goto (tgt := 15) hk dX0_has_11 (by decide) ?_
    exact Jz_2
abbrev rm_X0_parentsIn : Room := { frames := 0, cells := 0, slots := 0, locals := 0 }
set_option maxHeartbeats 4000000 in
set_option maxRecDepth 100000 in
theorem L_X0_parentsIn_4 {K : Cx} {R9 : Room} (hk : Ok K cX0_parentsIn 4 RX0 w2_X0_parentsIn R9) (hR9 : RoomGe R9 rm_X0_parentsIn) (p0 : Int32) (p1 : Int32) (b9 : (Int32 × Int32)) (kk0 : ∀ q9 : (Int32 × Int32), b9 = q9 → V K 4 [] 0 0 29 [(0, .int p0), (1, .int p1), (2, .int q9.1), (3, .int q9.2)] []) : ∀ (nn : Nat) (i2_1 : Int32) (i3_2 : Int32), lp (b_X0_parentsIn_4 p0 p1) nn (i2_1, i3_2) = some b9 → V K 4 [] 0 0 4 [(0, .int p0), (1, .int p1), (2, .int i2_1), (3, .int i3_2)] [] := by
  intro nn
  induction nn with
  | zero => intro i2_1 i3_2 h; exact absurd h (by simp [lp])
  | succ nn ih =>
    intro i2_1 i3_2 h
    replace h := lp_s h
    rw [eb_X0_parentsIn_4] at h
    refine v_iload_n hk dX0_parentsIn_4 rfl ?_
    refine v_iconst (v := 5) hk dX0_parentsIn_5 (by decide) ?_
    refine v_icmp_ge (tgt := 29) hk dX0_parentsIn_6 (by decide) (fun hc => ?_) (fun hc => ?_)
    · replace h := it_t (g := (lpk (lp (b_X0_parentsIn_4 p0 p1) nn))) h hc
      replace h : some (i2_1, i3_2) = some b9 := h
      replace h := Option.some.inj h
      subst h
      exact kk0 _ rfl
    · replace h := it_f (g := (lpk (lp (b_X0_parentsIn_4 p0 p1) nn))) h hc
      refine v_iload_n hk dX0_parentsIn_9 rfl ?_
      refine v_iload_n hk dX0_parentsIn_10 rfl ?_
      refine v_iconst (v := 5) hk dX0_parentsIn_11 (by decide) ?_
      refine v_iload_n hk dX0_parentsIn_12 rfl ?_
      refine v_imul hk dX0_parentsIn_13 ?_
      refine v_iload_n hk dX0_parentsIn_14 rfl ?_
      refine v_iadd hk dX0_parentsIn_15 ?_
      refine v_ishr hk dX0_parentsIn_16 ?_
      refine v_iconst (v := 1) hk dX0_parentsIn_17 (by decide) ?_
      refine v_iand hk dX0_parentsIn_18 ?_
      refine v_iload_n hk dX0_parentsIn_19 rfl ?_
      refine v_ishl hk dX0_parentsIn_20 ?_
      refine v_ior hk dX0_parentsIn_21 ?_
      obtain ⟨x2_3, ex2_3, h⟩ := lt_e (g := (lpk (lp (b_X0_parentsIn_4 p0 p1) nn))) h
      refine v_topi ex2_3.symm ?_
      refine v_istore_n hk dX0_parentsIn_22 rfl (by decide) [1, 2, 0, 3] (lv' := [(0, .int p0), (1, .int p1), (2, .int x2_3), (3, .int i3_2)]) rfl ?_
      obtain ⟨x3_4, ex3_4, h⟩ := lt_e (g := (lpk (lp (b_X0_parentsIn_4 p0 p1) nn))) h
      refine v_iinc (v := x3_4) hk dX0_parentsIn_23 rfl (by rw [ex3_4]; rfl) (by decide) [1, 2, 3, 0] (lv' := [(0, .int p0), (1, .int p1), (2, .int x2_3), (3, .int x3_4)]) rfl ?_
      refine v_goto (tgt := 4) hk dX0_parentsIn_26 (by decide) ?_
      exact ih x2_3 x3_4 h
set_option maxHeartbeats 4000000 in
set_option maxRecDepth 100000 in
theorem c_X0_parentsIn (l : Launch) (G : GG) (p0 : Int32) (p1 : Int32) (r : Int32) (h : m_X0_parentsIn p0 p1 = some r) : Ctr l G yX0_parentsIn w2_X0_parentsIn rm_X0_parentsIn [.int p0, .int p1] [] (fun v w => v = some (.int r) ∧ w = []) := by
  refine ctr_entry (cc := cX0_parentsIn) (maxL := 4) (ret := some .int) (lv0 := [(0, .int p0), (1, .int p1)]) (by decide) rfl (Nat.le_of_ble_eq_true rfl) (rfl) ?_
  intro K hl9 hG9 hk hn9 hrt
  subst hl9
  subst hG9
  have hR9 : RoomGe rm_X0_parentsIn rm_X0_parentsIn := RoomGe.rf
  replace h := id_e h
  rw [em_X0_parentsIn] at h
  refine v_iconst (v := 0) hk dX0_parentsIn_0 (by decide) ?_
  refine v_istore_n hk dX0_parentsIn_1 rfl (by decide) [1, 2, 0] (lv' := [(0, .int p0), (1, .int p1), (2, .int 0)]) rfl ?_
  refine v_iconst (v := 0) hk dX0_parentsIn_2 (by decide) ?_
  refine v_istore_n hk dX0_parentsIn_3 rfl (by decide) [1, 2, 3, 0] (lv' := [(0, .int p0), (1, .int p1), (2, .int 0), (3, .int 0)]) rfl ?_
  obtain ⟨b_6, eb_6, h⟩ := bd_e (g := id) rfl h
  refine L_X0_parentsIn_4 hk hR9 p0 p1 b_6 (fun q_5 eq_5 => ?_) FU 0 0 eb_6
  · replace eq_5 := eq_5.symm
    subst eq_5
    refine v_iload_n hk dX0_parentsIn_29 rfl ?_
    replace h : some q_5.1 = some r := h
    replace h := Option.some.inj h
    subst h
    refine hrt (some (.int q_5.1)) _ _ _ _ _ (⟨rfl, rfl⟩) (Nat.zero_le _) (Nat.zero_le _) (dX0_parentsIn_30)
abbrev rm_X0_fromAll : Room := { frames := 1, cells := 0, slots := 0, locals := 21 }
set_option maxHeartbeats 4000000 in
set_option maxRecDepth 100000 in
theorem L_X0_fromAll_4 {K : Cx} {R9 : Room} (hk : Ok K cX0_fromAll 4 RX0 w2_X0_fromAll R9) (hR9 : RoomGe R9 rm_X0_fromAll) (p0 : Int32) (p1 : Int32) (b9 : (Int32 × Int32)) (kk0 : ∀ q9 : (Int32 × Int32), b9 = q9 → V K 4 [] 0 0 31 [(0, .int p0), (1, .int p1), (2, .int q9.1), (3, .int q9.2)] []) : ∀ (nn : Nat) (i2_1 : Int32) (i3_2 : Int32), lp (b_X0_fromAll_4 p0 p1) nn (i2_1, i3_2) = some b9 → V K 4 [] 0 0 4 [(0, .int p0), (1, .int p1), (2, .int i2_1), (3, .int i3_2)] [] := by
  intro nn
  induction nn with
  | zero => intro i2_1 i3_2 h; exact absurd h (by simp [lp])
  | succ nn ih =>
    intro i2_1 i3_2 h
    replace h := lp_s h
    rw [eb_X0_fromAll_4] at h
    refine v_iload_n hk dX0_fromAll_4 rfl ?_
    refine v_iconst (v := 5) hk dX0_fromAll_5 (by decide) ?_
    refine v_icmp_ge (tgt := 31) hk dX0_fromAll_6 (by decide) (fun hc => ?_) (fun hc => ?_)
    · replace h := it_t (g := (lpk (lp (b_X0_fromAll_4 p0 p1) nn))) h hc
      replace h : some (i2_1, i3_2) = some b9 := h
      replace h := Option.some.inj h
      subst h
      exact kk0 _ rfl
    · replace h := it_f (g := (lpk (lp (b_X0_fromAll_4 p0 p1) nn))) h hc
      refine v_iload_n hk dX0_fromAll_9 rfl ?_
      refine v_iload_n hk dX0_fromAll_10 rfl ?_
      obtain ⟨r_3, er_3, h⟩ := bd_e (g := (lpk (lp (b_X0_fromAll_4 p0 p1) nn))) rfl h
      refine v_callS (n := 2) (st := []) hk dX0_fromAll_11 (c_X0_isIn (kl K) (kG K) p0 i3_2 r_3 er_3) gd_X0_fromAll_X0_isIn rfl (by decide +kernel) (frok hR9 (Nat.le_of_ble_eq_true rfl) (Nat.le_of_ble_eq_true rfl)) (roomk hR9 (Nat.le_of_ble_eq_true rfl) (Nat.le_of_ble_eq_true rfl)) rfl rfl (Nat.le_of_ble_eq_true rfl) [] [] (wr := []) rfl rfl (by decide) (by decide) (by decide) ?_
      intro v9 w9 hp9
      obtain ⟨rfl, rfl⟩ := hp9
      show V K 4 [] 0 0 14 [(0, .int p0), (1, .int p1), (2, .int i2_1), (3, .int i3_2)] [.int r_3]
      refine v_if_eq (tgt := 25) hk dX0_fromAll_14 (by decide) (fun hc => ?_) (fun hc => ?_)
      · replace h := it_t (g := (lpk (lp (b_X0_fromAll_4 p0 p1) nn))) h hc
        obtain ⟨x3_4, ex3_4, h⟩ := lt_e (g := (lpk (lp (b_X0_fromAll_4 p0 p1) nn))) h
        refine v_iinc (v := x3_4) hk dX0_fromAll_25 rfl (by rw [ex3_4]; rfl) (by decide) [1, 2, 3, 0] (lv' := [(0, .int p0), (1, .int p1), (2, .int i2_1), (3, .int x3_4)]) rfl ?_
        refine v_goto (tgt := 4) hk dX0_fromAll_28 (by decide) ?_
        exact ih i2_1 x3_4 h
      · replace h := it_f (g := (lpk (lp (b_X0_fromAll_4 p0 p1) nn))) h hc
        refine v_iload_n hk dX0_fromAll_17 rfl ?_
        refine v_iload_n hk dX0_fromAll_18 rfl ?_
        refine v_iload_n hk dX0_fromAll_19 rfl ?_
        obtain ⟨r_5, er_5, h⟩ := bd_e (g := (lpk (lp (b_X0_fromAll_4 p0 p1) nn))) rfl h
        refine v_callS (n := 2) (st := [.int i2_1]) hk dX0_fromAll_20 (c_X0_arc (kl K) (kG K) i3_2 p1 r_5 er_5) gd_X0_fromAll_X0_arc rfl (by decide +kernel) (frok hR9 (Nat.le_of_ble_eq_true rfl) (Nat.le_of_ble_eq_true rfl)) (roomk hR9 (Nat.le_of_ble_eq_true rfl) (Nat.le_of_ble_eq_true rfl)) rfl rfl (Nat.le_of_ble_eq_true rfl) [] [] (wr := []) rfl rfl (by decide) (by decide) (by decide) ?_
        intro v9 w9 hp9
        obtain ⟨rfl, rfl⟩ := hp9
        show V K 4 [] 0 0 23 [(0, .int p0), (1, .int p1), (2, .int i2_1), (3, .int i3_2)] [.int r_5, .int i2_1]
        refine v_ior hk dX0_fromAll_23 ?_
        obtain ⟨x2_6, ex2_6, h⟩ := lt_e (g := (lpk (lp (b_X0_fromAll_4 p0 p1) nn))) h
        refine v_topi ex2_6.symm ?_
        refine v_istore_n hk dX0_fromAll_24 rfl (by decide) [1, 2, 0, 3] (lv' := [(0, .int p0), (1, .int p1), (2, .int x2_6), (3, .int i3_2)]) rfl ?_
        obtain ⟨x3_7, ex3_7, h⟩ := lt_e (g := (lpk (lp (b_X0_fromAll_4 p0 p1) nn))) h
        refine v_iinc (v := x3_7) hk dX0_fromAll_25 rfl (by rw [ex3_7]; rfl) (by decide) [1, 2, 3, 0] (lv' := [(0, .int p0), (1, .int p1), (2, .int x2_6), (3, .int x3_7)]) rfl ?_
        refine v_goto (tgt := 4) hk dX0_fromAll_28 (by decide) ?_
        exact ih x2_6 x3_7 h
set_option maxHeartbeats 4000000 in
set_option maxRecDepth 100000 in
theorem c_X0_fromAll (l : Launch) (G : GG) (p0 : Int32) (p1 : Int32) (r : Int32) (h : m_X0_fromAll p0 p1 = some r) : Ctr l G yX0_fromAll w2_X0_fromAll rm_X0_fromAll [.int p0, .int p1] [] (fun v w => v = some (.int r) ∧ w = []) := by
  refine ctr_entry (cc := cX0_fromAll) (maxL := 4) (ret := some .int) (lv0 := [(0, .int p0), (1, .int p1)]) (by decide) rfl (Nat.le_of_ble_eq_true rfl) (rfl) ?_
  intro K hl9 hG9 hk hn9 hrt
  subst hl9
  subst hG9
  have hR9 : RoomGe rm_X0_fromAll rm_X0_fromAll := RoomGe.rf
  replace h := id_e h
  rw [em_X0_fromAll] at h
  refine v_iconst (v := 0) hk dX0_fromAll_0 (by decide) ?_
  refine v_istore_n hk dX0_fromAll_1 rfl (by decide) [1, 2, 0] (lv' := [(0, .int p0), (1, .int p1), (2, .int 0)]) rfl ?_
  refine v_iconst (v := 0) hk dX0_fromAll_2 (by decide) ?_
  refine v_istore_n hk dX0_fromAll_3 rfl (by decide) [1, 2, 3, 0] (lv' := [(0, .int p0), (1, .int p1), (2, .int 0), (3, .int 0)]) rfl ?_
  obtain ⟨b_9, eb_9, h⟩ := bd_e (g := id) rfl h
  refine L_X0_fromAll_4 hk hR9 p0 p1 b_9 (fun q_8 eq_8 => ?_) FU 0 0 eb_9
  · replace eq_8 := eq_8.symm
    subst eq_8
    refine v_iload_n hk dX0_fromAll_31 rfl ?_
    replace h : some q_8.1 = some r := h
    replace h := Option.some.inj h
    subst h
    refine hrt (some (.int q_8.1)) _ _ _ _ _ (⟨rfl, rfl⟩) (Nat.zero_le _) (Nat.zero_le _) (dX0_fromAll_32)
abbrev rm_X0_nextAfter : Room := { frames := 1, cells := 0, slots := 0, locals := 23 }
set_option maxHeartbeats 4000000 in
set_option maxRecDepth 100000 in
theorem L_X0_nextAfter_2 {K : Cx} {R9 : Room} (hk : Ok K cX0_nextAfter 4 RX0 w2_X0_nextAfter R9) (hR9 : RoomGe R9 rm_X0_nextAfter) {post9 : Option Value → va_W → Prop} (hrt : Rt K cX0_nextAfter 4 (some .int) R9 post9) (p0 : Int32) (p1 : Int32) (p2 : Int32) (b9 : Int32 ⊕ Int32) (kk0 : ∀ q9 : Int32, b9 = .inl (q9) → V K 4 [] 0 0 35 [(0, .int p0), (1, .int p1), (2, .int p2), (3, .int q9)] []) (kk1 : ∀ q9 : Int32, b9 = .inr (q9) → post9 (some (.int q9)) []) : ∀ (nn : Nat) (i3_1 : Int32), lp (b_X0_nextAfter_2 p0 p1 p2) nn i3_1 = some b9 → V K 4 [] 0 0 2 [(0, .int p0), (1, .int p1), (2, .int p2), (3, .int i3_1)] [] := by
  intro nn
  induction nn with
  | zero => intro i3_1 h; exact absurd h (by simp [lp])
  | succ nn ih =>
    intro i3_1 h
    replace h := lp_s h
    rw [eb_X0_nextAfter_2] at h
    refine v_iload_n hk dX0_nextAfter_2 rfl ?_
    refine v_iload_n hk dX0_nextAfter_3 rfl ?_
    refine v_icmp_ge (tgt := 35) hk dX0_nextAfter_4 (by decide) (fun hc => ?_) (fun hc => ?_)
    · replace h := it_t (g := (lpk (lp (b_X0_nextAfter_2 p0 p1 p2) nn))) h hc
      replace h : some (.inl (i3_1)) = some b9 := h
      replace h := Option.some.inj h
      subst h
      exact kk0 _ rfl
    · replace h := it_f (g := (lpk (lp (b_X0_nextAfter_2 p0 p1 p2) nn))) h hc
      refine v_iload_n hk dX0_nextAfter_7 rfl ?_
      refine v_iload_n hk dX0_nextAfter_8 rfl ?_
      obtain ⟨r_2, er_2, h⟩ := bd_e (g := (lpk (lp (b_X0_nextAfter_2 p0 p1 p2) nn))) rfl h
      refine v_callS (n := 2) (st := []) hk dX0_nextAfter_9 (c_X0_isIn (kl K) (kG K) p2 i3_1 r_2 er_2) gd_X0_nextAfter_X0_isIn rfl (by decide +kernel) (frok hR9 (Nat.le_of_ble_eq_true rfl) (Nat.le_of_ble_eq_true rfl)) (roomk hR9 (Nat.le_of_ble_eq_true rfl) (Nat.le_of_ble_eq_true rfl)) rfl rfl (Nat.le_of_ble_eq_true rfl) [] [] (wr := []) rfl rfl (by decide) (by decide) (by decide) ?_
      intro v9 w9 hp9
      obtain ⟨rfl, rfl⟩ := hp9
      show V K 4 [] 0 0 12 [(0, .int p0), (1, .int p1), (2, .int p2), (3, .int i3_1)] [.int r_2]
      refine v_if_ne (tgt := 29) hk dX0_nextAfter_12 (by decide) (fun hc => ?_) (fun hc => ?_)
      · replace h := it_f (g := (lpk (lp (b_X0_nextAfter_2 p0 p1 p2) nn))) h hc
        obtain ⟨x3_3, ex3_3, h⟩ := lt_e (g := (lpk (lp (b_X0_nextAfter_2 p0 p1 p2) nn))) h
        refine v_iinc (v := x3_3) hk dX0_nextAfter_29 rfl (by rw [ex3_3]; rfl) (by decide) [1, 2, 3, 0] (lv' := [(0, .int p0), (1, .int p1), (2, .int p2), (3, .int x3_3)]) rfl ?_
        refine v_goto (tgt := 2) hk dX0_nextAfter_32 (by decide) ?_
        exact ih x3_3 h
      · replace h := it_t (g := (lpk (lp (b_X0_nextAfter_2 p0 p1 p2) nn))) h hc
        refine v_iload_n hk dX0_nextAfter_15 rfl ?_
        refine v_iload_n hk dX0_nextAfter_16 rfl ?_
        obtain ⟨r_4, er_4, h⟩ := bd_e (g := (lpk (lp (b_X0_nextAfter_2 p0 p1 p2) nn))) rfl h
        refine v_callS (n := 2) (st := []) hk dX0_nextAfter_17 (c_X0_parentsIn (kl K) (kG K) p0 i3_1 r_4 er_4) gd_X0_nextAfter_X0_parentsIn rfl (by decide +kernel) (frok hR9 (Nat.le_of_ble_eq_true rfl) (Nat.le_of_ble_eq_true rfl)) (roomk hR9 (Nat.le_of_ble_eq_true rfl) (Nat.le_of_ble_eq_true rfl)) rfl rfl (Nat.le_of_ble_eq_true rfl) [] [] (wr := []) rfl rfl (by decide) (by decide) (by decide) ?_
        intro v9 w9 hp9
        obtain ⟨rfl, rfl⟩ := hp9
        show V K 4 [] 0 0 20 [(0, .int p0), (1, .int p1), (2, .int p2), (3, .int i3_1)] [.int r_4]
        refine v_iload_n hk dX0_nextAfter_20 rfl ?_
        refine v_iconst (v := (-1)) hk dX0_nextAfter_21 (by decide) ?_
        refine v_ixor hk dX0_nextAfter_22 ?_
        refine v_iand hk dX0_nextAfter_23 ?_
        refine v_if_ne (tgt := 29) hk dX0_nextAfter_24 (by decide) (fun hc => ?_) (fun hc => ?_)
        · replace h := it_f (g := (lpk (lp (b_X0_nextAfter_2 p0 p1 p2) nn))) h hc
          obtain ⟨x3_5, ex3_5, h⟩ := lt_e (g := (lpk (lp (b_X0_nextAfter_2 p0 p1 p2) nn))) h
          refine v_iinc (v := x3_5) hk dX0_nextAfter_29 rfl (by rw [ex3_5]; rfl) (by decide) [1, 2, 3, 0] (lv' := [(0, .int p0), (1, .int p1), (2, .int p2), (3, .int x3_5)]) rfl ?_
          refine v_goto (tgt := 2) hk dX0_nextAfter_32 (by decide) ?_
          exact ih x3_5 h
        · replace h := it_t (g := (lpk (lp (b_X0_nextAfter_2 p0 p1 p2) nn))) h hc
          refine v_iload_n hk dX0_nextAfter_27 rfl ?_
          replace h : some (.inr (i3_1)) = some b9 := h
          replace h := Option.some.inj h
          subst h
          refine hrt (some (.int i3_1)) _ _ _ _ _ (kk1 _ rfl) (Nat.zero_le _) (Nat.zero_le _) (dX0_nextAfter_28)
set_option maxHeartbeats 4000000 in
set_option maxRecDepth 100000 in
theorem c_X0_nextAfter (l : Launch) (G : GG) (p0 : Int32) (p1 : Int32) (p2 : Int32) (r : Int32) (h : m_X0_nextAfter p0 p1 p2 = some r) : Ctr l G yX0_nextAfter w2_X0_nextAfter rm_X0_nextAfter [.int p0, .int p1, .int p2] [] (fun v w => v = some (.int r) ∧ w = []) := by
  refine ctr_entry (cc := cX0_nextAfter) (maxL := 4) (ret := some .int) (lv0 := [(0, .int p0), (1, .int p1), (2, .int p2)]) (by decide) rfl (Nat.le_of_ble_eq_true rfl) (rfl) ?_
  intro K hl9 hG9 hk hn9 hrt
  subst hl9
  subst hG9
  have hR9 : RoomGe rm_X0_nextAfter rm_X0_nextAfter := RoomGe.rf
  replace h := id_e h
  rw [em_X0_nextAfter] at h
  refine v_iconst (v := 0) hk dX0_nextAfter_0 (by decide) ?_
  refine v_istore_n hk dX0_nextAfter_1 rfl (by decide) [1, 2, 3, 0] (lv' := [(0, .int p0), (1, .int p1), (2, .int p2), (3, .int 0)]) rfl ?_
  obtain ⟨b_7, eb_7, h⟩ := bd_e (g := id) rfl h
  refine L_X0_nextAfter_2 hk hR9 hrt p0 p1 p2 b_7 (fun q_6 eq_6 => ?_) (fun q_6 eq_6 => ?_) FU 0 eb_7
  · replace eq_6 := eq_6.symm
    subst eq_6
    refine v_iconst (v := (-1)) hk dX0_nextAfter_35 (by decide) ?_
    replace h : some (-1) = some r := h
    replace h := Option.some.inj h
    subst h
    refine hrt (some (.int (-1))) _ _ _ _ _ (⟨rfl, rfl⟩) (Nat.zero_le _) (Nat.zero_le _) (dX0_nextAfter_36)
  · replace eq_6 := eq_6.symm
    subst eq_6
    replace h : some q_6 = some r := h
    replace h := Option.some.inj h
    subst h
    exact ⟨rfl, rfl⟩
abbrev rm_X0_haveNoRound : Room := { frames := 2, cells := 0, slots := 0, locals := 46 }
set_option maxHeartbeats 4000000 in
set_option maxRecDepth 100000 in
theorem L_X0_haveNoRound_4 {K : Cx} {R9 : Room} (hk : Ok K cX0_haveNoRound 5 RX0 w2_X0_haveNoRound R9) (hR9 : RoomGe R9 rm_X0_haveNoRound) {post9 : Option Value → va_W → Prop} (hrt : Rt K cX0_haveNoRound 5 (some .boolean) R9 post9) (p0 : Int32) (p1 : Int32) (b9 : (Int32 × Int32) ⊕ Int32) (kk0 : ∀ q9 : (Int32 × Int32), b9 = .inl (q9) → V K 5 [] 0 0 37 [(0, .int p0), (1, .int p1), (2, .int q9.1), (3, .int q9.2)] []) (kk1 : ∀ q9 : Int32, b9 = .inr (q9) → post9 (some (.int q9)) []) : ∀ (nn : Nat) (i2_1 : Int32) (i3_2 : Int32), lp (b_X0_haveNoRound_4 p0 p1) nn (i2_1, i3_2) = some b9 → V K 5 [] 0 0 4 [(0, .int p0), (1, .int p1), (2, .int i2_1), (3, .int i3_2)] [] := by
  intro nn
  induction nn with
  | zero => intro i2_1 i3_2 h; exact absurd h (by simp [lp])
  | succ nn ih =>
    intro i2_1 i3_2 h
    replace h := lp_s h
    rw [eb_X0_haveNoRound_4] at h
    refine v_iload_n hk dX0_haveNoRound_4 rfl ?_
    refine v_iload_n hk dX0_haveNoRound_5 rfl ?_
    refine v_icmp_ge (tgt := 37) hk dX0_haveNoRound_6 (by decide) (fun hc => ?_) (fun hc => ?_)
    · replace h := it_t (g := (lpk (lp (b_X0_haveNoRound_4 p0 p1) nn))) h hc
      replace h : some (.inl ((i2_1, i3_2))) = some b9 := h
      replace h := Option.some.inj h
      subst h
      exact kk0 _ rfl
    · replace h := it_f (g := (lpk (lp (b_X0_haveNoRound_4 p0 p1) nn))) h hc
      refine v_iload_n hk dX0_haveNoRound_9 rfl ?_
      refine v_iload_n hk dX0_haveNoRound_10 rfl ?_
      refine v_iload_n hk dX0_haveNoRound_11 rfl ?_
      obtain ⟨r_3, er_3, h⟩ := bd_e (g := (lpk (lp (b_X0_haveNoRound_4 p0 p1) nn))) rfl h
      refine v_callS (n := 3) (st := []) hk dX0_haveNoRound_12 (c_X0_nextAfter (kl K) (kG K) p0 p1 i2_1 r_3 er_3) gd_X0_haveNoRound_X0_nextAfter rfl (by decide +kernel) (frok hR9 (Nat.le_of_ble_eq_true rfl) (Nat.le_of_ble_eq_true rfl)) (roomk hR9 (Nat.le_of_ble_eq_true rfl) (Nat.le_of_ble_eq_true rfl)) rfl rfl (Nat.le_of_ble_eq_true rfl) [] [] (wr := []) rfl rfl (by decide) (by decide) (by decide) ?_
      intro v9 w9 hp9
      obtain ⟨rfl, rfl⟩ := hp9
      show V K 5 [] 0 0 15 [(0, .int p0), (1, .int p1), (2, .int i2_1), (3, .int i3_2)] [.int r_3]
      refine v_istore hk dX0_haveNoRound_15 (by decide) [1, 2, 3, 4, 0] (lv' := [(0, .int p0), (1, .int p1), (2, .int i2_1), (3, .int i3_2), (4, .int r_3)]) rfl ?_
      refine v_iload hk dX0_haveNoRound_17 rfl ?_
      refine v_if_ge (tgt := 24) hk dX0_haveNoRound_19 (by decide) (fun hc => ?_) (fun hc => ?_)
      · replace h := it_t (g := (lpk (lp (b_X0_haveNoRound_4 p0 p1) nn))) h hc
        refine v_iload_n hk dX0_haveNoRound_24 rfl ?_
        refine v_iconst (v := 1) hk dX0_haveNoRound_25 (by decide) ?_
        refine v_iload hk dX0_haveNoRound_26 rfl ?_
        refine v_ishl hk dX0_haveNoRound_28 ?_
        refine v_ior hk dX0_haveNoRound_29 ?_
        obtain ⟨x2_4, ex2_4, h⟩ := lt_e (g := (lpk (lp (b_X0_haveNoRound_4 p0 p1) nn))) h
        refine v_topi ex2_4.symm ?_
        refine v_istore_n hk dX0_haveNoRound_30 rfl (by decide) [1, 2, 0, 3, 4] (lv' := [(0, .int p0), (1, .int p1), (2, .int x2_4), (3, .int i3_2), (4, .int r_3)]) rfl ?_
        obtain ⟨x3_5, ex3_5, h⟩ := lt_e (g := (lpk (lp (b_X0_haveNoRound_4 p0 p1) nn))) h
        refine v_iinc (v := x3_5) hk dX0_haveNoRound_31 rfl (by rw [ex3_5]; rfl) (by decide) [1, 2, 3, 0, 4] (lv' := [(0, .int p0), (1, .int p1), (2, .int x2_4), (3, .int x3_5), (4, .int r_3)]) rfl ?_
        refine v_goto (tgt := 4) hk dX0_haveNoRound_34 (by decide) ?_
        refine v_loc [0, 1, 2, 3] (lv' := [(0, .int p0), (1, .int p1), (2, .int x2_4), (3, .int x3_5)]) rfl ?_
        exact ih x2_4 x3_5 h
      · replace h := it_f (g := (lpk (lp (b_X0_haveNoRound_4 p0 p1) nn))) h hc
        refine v_iconst (v := 0) hk dX0_haveNoRound_22 (by decide) ?_
        replace h : some (.inr (0)) = some b9 := h
        replace h := Option.some.inj h
        subst h
        refine hrt (some (.int 0)) _ _ _ _ _ (kk1 _ rfl) (Nat.zero_le _) (Nat.zero_le _) (⟨dX0_haveNoRound_23, rfl⟩)
set_option maxHeartbeats 4000000 in
set_option maxRecDepth 100000 in
theorem c_X0_haveNoRound (l : Launch) (G : GG) (p0 : Int32) (p1 : Int32) (r : Int32) (h : m_X0_haveNoRound p0 p1 = some r) : Ctr l G yX0_haveNoRound w2_X0_haveNoRound rm_X0_haveNoRound [.int p0, .int p1] [] (fun v w => v = some (.int r) ∧ w = []) := by
  refine ctr_entry (cc := cX0_haveNoRound) (maxL := 5) (ret := some .boolean) (lv0 := [(0, .int p0), (1, .int p1)]) (by decide) rfl (Nat.le_of_ble_eq_true rfl) (rfl) ?_
  intro K hl9 hG9 hk hn9 hrt
  subst hl9
  subst hG9
  have hR9 : RoomGe rm_X0_haveNoRound rm_X0_haveNoRound := RoomGe.rf
  replace h := id_e h
  rw [em_X0_haveNoRound] at h
  refine v_iconst (v := 0) hk dX0_haveNoRound_0 (by decide) ?_
  refine v_istore_n hk dX0_haveNoRound_1 rfl (by decide) [1, 2, 0] (lv' := [(0, .int p0), (1, .int p1), (2, .int 0)]) rfl ?_
  refine v_iconst (v := 0) hk dX0_haveNoRound_2 (by decide) ?_
  refine v_istore_n hk dX0_haveNoRound_3 rfl (by decide) [1, 2, 3, 0] (lv' := [(0, .int p0), (1, .int p1), (2, .int 0), (3, .int 0)]) rfl ?_
  obtain ⟨b_7, eb_7, h⟩ := bd_e (g := id) rfl h
  refine L_X0_haveNoRound_4 hk hR9 hrt p0 p1 b_7 (fun q_6 eq_6 => ?_) (fun q_6 eq_6 => ?_) FU 0 0 eb_7
  · replace eq_6 := eq_6.symm
    subst eq_6
    refine v_iconst (v := 1) hk dX0_haveNoRound_37 (by decide) ?_
    replace h : some 1 = some r := h
    replace h := Option.some.inj h
    subst h
    refine hrt (some (.int 1)) _ _ _ _ _ (⟨rfl, rfl⟩) (Nat.zero_le _) (Nat.zero_le _) (⟨dX0_haveNoRound_38, rfl⟩)
  · replace eq_6 := eq_6.symm
    subst eq_6
    replace h : some q_6 = some r := h
    replace h := Option.some.inj h
    subst h
    exact ⟨rfl, rfl⟩
abbrev rm_X0_areGraph : Room := { frames := 3, cells := 0, slots := 0, locals := 70 }
set_option maxHeartbeats 4000000 in
set_option maxRecDepth 100000 in
theorem L_X0_areGraph_11 {K : Cx} {R9 : Room} (hk : Ok K cX0_areGraph 5 RX0 w2_X0_areGraph R9) (hR9 : RoomGe R9 rm_X0_areGraph) (p0 : Int32) (p1 : Int32) (x2_1 : Int32) (b9 : (Int32 × Int32)) (kk0 : ∀ q9 : (Int32 × Int32), b9 = q9 → V K 5 [] 0 0 39 [(0, .int p0), (1, .int p1), (2, .int x2_1), (3, .int q9.1), (4, .int q9.2)] []) : ∀ (nn : Nat) (i3_2 : Int32) (i4_3 : Int32), lp (b_X0_areGraph_11 p1 x2_1) nn (i3_2, i4_3) = some b9 → V K 5 [] 0 0 11 [(0, .int p0), (1, .int p1), (2, .int x2_1), (3, .int i3_2), (4, .int i4_3)] [] := by
  intro nn
  induction nn with
  | zero => intro i3_2 i4_3 h; exact absurd h (by simp [lp])
  | succ nn ih =>
    intro i3_2 i4_3 h
    replace h := lp_s h
    rw [eb_X0_areGraph_11] at h
    refine v_iload hk dX0_areGraph_11 rfl ?_
    refine v_iload_n hk dX0_areGraph_13 rfl ?_
    refine v_icmp_ge (tgt := 39) hk dX0_areGraph_14 (by decide) (fun hc => ?_) (fun hc => ?_)
    · replace h := it_t (g := (lpk (lp (b_X0_areGraph_11 p1 x2_1) nn))) h hc
      replace h : some (i3_2, i4_3) = some b9 := h
      replace h := Option.some.inj h
      subst h
      exact kk0 _ rfl
    · replace h := it_f (g := (lpk (lp (b_X0_areGraph_11 p1 x2_1) nn))) h hc
      refine v_iload_n hk dX0_areGraph_17 rfl ?_
      refine v_iload_n hk dX0_areGraph_18 rfl ?_
      refine v_iconst (v := 1) hk dX0_areGraph_19 (by decide) ?_
      refine v_iload hk dX0_areGraph_20 rfl ?_
      refine v_ishl hk dX0_areGraph_22 ?_
      refine v_iconst (v := (-1)) hk dX0_areGraph_23 (by decide) ?_
      refine v_ixor hk dX0_areGraph_24 ?_
      refine v_iand hk dX0_areGraph_25 ?_
      refine v_iload hk dX0_areGraph_26 rfl ?_
      obtain ⟨r_4, er_4, h⟩ := bd_e (g := (lpk (lp (b_X0_areGraph_11 p1 x2_1) nn))) rfl h
      refine v_callS (n := 2) (st := [.int i3_2]) hk dX0_areGraph_28 (c_X0_fromAll (kl K) (kG K) (x2_1 &&& ((1 <<< (i4_3 &&& 31)) ^^^ (-1))) i4_3 r_4 er_4) gd_X0_areGraph_X0_fromAll rfl (by decide +kernel) (frok hR9 (Nat.le_of_ble_eq_true rfl) (Nat.le_of_ble_eq_true rfl)) (roomk hR9 (Nat.le_of_ble_eq_true rfl) (Nat.le_of_ble_eq_true rfl)) rfl rfl (Nat.le_of_ble_eq_true rfl) [] [] (wr := []) rfl rfl (by decide) (by decide) (by decide) ?_
      intro v9 w9 hp9
      obtain ⟨rfl, rfl⟩ := hp9
      show V K 5 [] 0 0 31 [(0, .int p0), (1, .int p1), (2, .int x2_1), (3, .int i3_2), (4, .int i4_3)] [.int r_4, .int i3_2]
      refine v_ior hk dX0_areGraph_31 ?_
      obtain ⟨x3_5, ex3_5, h⟩ := lt_e (g := (lpk (lp (b_X0_areGraph_11 p1 x2_1) nn))) h
      refine v_topi ex3_5.symm ?_
      refine v_istore_n hk dX0_areGraph_32 rfl (by decide) [1, 2, 3, 0, 4] (lv' := [(0, .int p0), (1, .int p1), (2, .int x2_1), (3, .int x3_5), (4, .int i4_3)]) rfl ?_
      obtain ⟨x4_6, ex4_6, h⟩ := lt_e (g := (lpk (lp (b_X0_areGraph_11 p1 x2_1) nn))) h
      refine v_iinc (v := x4_6) hk dX0_areGraph_33 rfl (by rw [ex4_6]; rfl) (by decide) [1, 2, 3, 4, 0] (lv' := [(0, .int p0), (1, .int p1), (2, .int x2_1), (3, .int x3_5), (4, .int x4_6)]) rfl ?_
      refine v_goto (tgt := 11) hk dX0_areGraph_36 (by decide) ?_
      exact ih x3_5 x4_6 h
set_option maxHeartbeats 4000000 in
set_option maxRecDepth 100000 in
theorem c_X0_areGraph (l : Launch) (G : GG) (p0 : Int32) (p1 : Int32) (r : Int32) (h : m_X0_areGraph p0 p1 = some r) : Ctr l G yX0_areGraph w2_X0_areGraph rm_X0_areGraph [.int p0, .int p1] [] (fun v w => v = some (.int r) ∧ w = []) := by
  refine ctr_entry (cc := cX0_areGraph) (maxL := 5) (ret := some .boolean) (lv0 := [(0, .int p0), (1, .int p1)]) (by decide) rfl (Nat.le_of_ble_eq_true rfl) (rfl) ?_
  intro K hl9 hG9 hk hn9 hrt
  subst hl9
  subst hG9
  have hR9 : RoomGe rm_X0_areGraph rm_X0_areGraph := RoomGe.rf
  replace h := id_e h
  rw [em_X0_areGraph] at h
  refine v_iconst (v := 1) hk dX0_areGraph_0 (by decide) ?_
  refine v_iload_n hk dX0_areGraph_1 rfl ?_
  refine v_ishl hk dX0_areGraph_2 ?_
  refine v_iconst (v := 1) hk dX0_areGraph_3 (by decide) ?_
  refine v_isub hk dX0_areGraph_4 ?_
  obtain ⟨x2_1, ex2_1, h⟩ := lt_e (g := id) h
  refine v_topi ex2_1.symm ?_
  refine v_istore_n hk dX0_areGraph_5 rfl (by decide) [1, 2, 0] (lv' := [(0, .int p0), (1, .int p1), (2, .int x2_1)]) rfl ?_
  refine v_iconst (v := 0) hk dX0_areGraph_6 (by decide) ?_
  refine v_istore_n hk dX0_areGraph_7 rfl (by decide) [1, 2, 3, 0] (lv' := [(0, .int p0), (1, .int p1), (2, .int x2_1), (3, .int 0)]) rfl ?_
  refine v_iconst (v := 0) hk dX0_areGraph_8 (by decide) ?_
  refine v_istore hk dX0_areGraph_9 (by decide) [1, 2, 3, 4, 0] (lv' := [(0, .int p0), (1, .int p1), (2, .int x2_1), (3, .int 0), (4, .int 0)]) rfl ?_
  obtain ⟨b_10, eb_10, h⟩ := bd_e (g := id) rfl h
  refine L_X0_areGraph_11 hk hR9 p0 p1 x2_1 b_10 (fun q_7 eq_7 => ?_) FU 0 0 eb_10
  · replace eq_7 := eq_7.symm
    subst eq_7
    refine v_iload_n hk dX0_areGraph_39 rfl ?_
    refine v_iload_n hk dX0_areGraph_40 rfl ?_
    refine v_iconst (v := (-1)) hk dX0_areGraph_41 (by decide) ?_
    refine v_ixor hk dX0_areGraph_42 ?_
    refine v_iand hk dX0_areGraph_43 ?_
    refine v_if_ne (tgt := 59) hk dX0_areGraph_44 (by decide) (fun hc => ?_) (fun hc => ?_)
    · replace h := it_f (g := id) h hc
      refine v_iconst (v := 0) hk dX0_areGraph_59 (by decide) ?_
      replace h : some 0 = some r := h
      replace h := Option.some.inj h
      subst h
      refine hrt (some (.int 0)) _ _ _ _ _ (⟨rfl, rfl⟩) (Nat.zero_le _) (Nat.zero_le _) (⟨dX0_areGraph_60, rfl⟩)
    · replace h := it_t (g := id) h hc
      refine v_iload_n hk dX0_areGraph_47 rfl ?_
      refine v_iload_n hk dX0_areGraph_48 rfl ?_
      obtain ⟨r_8, er_8, h⟩ := bd_e (g := id) rfl h
      refine v_callS (n := 2) (st := []) hk dX0_areGraph_49 (c_X0_haveNoRound (kl K) (kG K) p0 p1 r_8 er_8) gd_X0_areGraph_X0_haveNoRound rfl (by decide +kernel) (frok hR9 (Nat.le_of_ble_eq_true rfl) (Nat.le_of_ble_eq_true rfl)) (roomk hR9 (Nat.le_of_ble_eq_true rfl) (Nat.le_of_ble_eq_true rfl)) rfl rfl (Nat.le_of_ble_eq_true rfl) [] [] (wr := []) rfl rfl (by decide) (by decide) (by decide) ?_
      intro v9 w9 hp9
      obtain ⟨rfl, rfl⟩ := hp9
      show V K 5 [] 0 0 52 [(0, .int p0), (1, .int p1), (2, .int x2_1), (3, .int q_7.1), (4, .int q_7.2)] [.int r_8]
      obtain ⟨z_9, ez_9, h⟩ := lt_e (g := id) h
      have Jz_9 : V K 5 [] 0 0 60 [(0, .int p0), (1, .int p1), (2, .int x2_1), (3, .int q_7.1), (4, .int q_7.2)] (.int z_9 :: []) := by
        obtain ⟨hbz, h⟩ := ok_e (g := id) rfl h
        replace h : some z_9 = some r := h
        replace h := Option.some.inj h
        subst h
        refine hrt (some (.int z_9)) _ _ _ _ _ (⟨rfl, rfl⟩) (Nat.zero_le _) (Nat.zero_le _) (⟨dX0_areGraph_60, nar_z _ (of_decide_eq_true hbz)⟩)
      refine v_if_eq (tgt := 59) hk dX0_areGraph_52 (by decide) (fun hc => ?_) (fun hc => ?_)
      · rw [if_pos hc] at ez_9
        subst ez_9
        refine v_iconst (v := 0) hk dX0_areGraph_59 (by decide) ?_
        exact Jz_9
      · rw [if_neg hc] at ez_9
        subst ez_9
        refine v_iconst (v := 1) hk dX0_areGraph_55 (by decide) ?_
        refine v_goto (tgt := 60) hk dX0_areGraph_56 (by decide) ?_
        exact Jz_9
abbrev rm_X0_areBounded : Room := { frames := 1, cells := 0, slots := 0, locals := 23 }
set_option maxHeartbeats 4000000 in
set_option maxRecDepth 100000 in
theorem L_X0_areBounded_2 {K : Cx} {R9 : Room} (hk : Ok K cX0_areBounded 3 RX0 w2_X0_areBounded R9) (hR9 : RoomGe R9 rm_X0_areBounded) {post9 : Option Value → va_W → Prop} (hrt : Rt K cX0_areBounded 3 (some .boolean) R9 post9) (p0 : Int32) (p1 : Int32) (b9 : Int32 ⊕ Int32) (kk0 : ∀ q9 : Int32, b9 = .inl (q9) → V K 3 [] 0 0 27 [(0, .int p0), (1, .int p1), (2, .int q9)] []) (kk1 : ∀ q9 : Int32, b9 = .inr (q9) → post9 (some (.int q9)) []) : ∀ (nn : Nat) (i2_1 : Int32), lp (b_X0_areBounded_2 p0 p1) nn i2_1 = some b9 → V K 3 [] 0 0 2 [(0, .int p0), (1, .int p1), (2, .int i2_1)] [] := by
  intro nn
  induction nn with
  | zero => intro i2_1 h; exact absurd h (by simp [lp])
  | succ nn ih =>
    intro i2_1 h
    replace h := lp_s h
    rw [eb_X0_areBounded_2] at h
    refine v_iload_n hk dX0_areBounded_2 rfl ?_
    refine v_iconst (v := 5) hk dX0_areBounded_3 (by decide) ?_
    refine v_icmp_ge (tgt := 27) hk dX0_areBounded_4 (by decide) (fun hc => ?_) (fun hc => ?_)
    · replace h := it_t (g := (lpk (lp (b_X0_areBounded_2 p0 p1) nn))) h hc
      replace h : some (.inl (i2_1)) = some b9 := h
      replace h := Option.some.inj h
      subst h
      exact kk0 _ rfl
    · replace h := it_f (g := (lpk (lp (b_X0_areBounded_2 p0 p1) nn))) h hc
      refine v_iload_n hk dX0_areBounded_7 rfl ?_
      refine v_iload_n hk dX0_areBounded_8 rfl ?_
      obtain ⟨r_2, er_2, h⟩ := bd_e (g := (lpk (lp (b_X0_areBounded_2 p0 p1) nn))) rfl h
      refine v_callS (n := 2) (st := []) hk dX0_areBounded_9 (c_X0_parentsIn (kl K) (kG K) p0 i2_1 r_2 er_2) gd_X0_areBounded_X0_parentsIn rfl (by decide +kernel) (frok hR9 (Nat.le_of_ble_eq_true rfl) (Nat.le_of_ble_eq_true rfl)) (roomk hR9 (Nat.le_of_ble_eq_true rfl) (Nat.le_of_ble_eq_true rfl)) rfl rfl (Nat.le_of_ble_eq_true rfl) [] [] (wr := []) rfl rfl (by decide) (by decide) (by decide) ?_
      intro v9 w9 hp9
      obtain ⟨rfl, rfl⟩ := hp9
      show V K 3 [] 0 0 12 [(0, .int p0), (1, .int p1), (2, .int i2_1)] [.int r_2]
      obtain ⟨r_3, er_3, h⟩ := bd_e (g := (lpk (lp (b_X0_areBounded_2 p0 p1) nn))) rfl h
      refine v_callS (n := 1) (st := []) hk dX0_areBounded_12 (c_J6_bitCount_0f7a4 (kl K) (kG K) r_2 r_3 er_3) gd_X0_areBounded_J6_bitCount_0f7a4 rfl (by decide +kernel) (frok hR9 (Nat.le_of_ble_eq_true rfl) (Nat.le_of_ble_eq_true rfl)) (roomk hR9 (Nat.le_of_ble_eq_true rfl) (Nat.le_of_ble_eq_true rfl)) rfl rfl (Nat.le_of_ble_eq_true rfl) [] [] (wr := []) rfl rfl (by decide) (by decide) (by decide) ?_
      intro v9 w9 hp9
      obtain ⟨rfl, rfl⟩ := hp9
      show V K 3 [] 0 0 15 [(0, .int p0), (1, .int p1), (2, .int i2_1)] [.int r_3]
      refine v_iload_n hk dX0_areBounded_15 rfl ?_
      refine v_icmp_le (tgt := 21) hk dX0_areBounded_16 (by decide) (fun hc => ?_) (fun hc => ?_)
      · replace h := it_t (g := (lpk (lp (b_X0_areBounded_2 p0 p1) nn))) h hc
        obtain ⟨x2_4, ex2_4, h⟩ := lt_e (g := (lpk (lp (b_X0_areBounded_2 p0 p1) nn))) h
        refine v_iinc (v := x2_4) hk dX0_areBounded_21 rfl (by rw [ex2_4]; rfl) (by decide) [1, 2, 0] (lv' := [(0, .int p0), (1, .int p1), (2, .int x2_4)]) rfl ?_
        refine v_goto (tgt := 2) hk dX0_areBounded_24 (by decide) ?_
        exact ih x2_4 h
      · replace h := it_f (g := (lpk (lp (b_X0_areBounded_2 p0 p1) nn))) h hc
        refine v_iconst (v := 0) hk dX0_areBounded_19 (by decide) ?_
        replace h : some (.inr (0)) = some b9 := h
        replace h := Option.some.inj h
        subst h
        refine hrt (some (.int 0)) _ _ _ _ _ (kk1 _ rfl) (Nat.zero_le _) (Nat.zero_le _) (⟨dX0_areBounded_20, rfl⟩)
set_option maxHeartbeats 4000000 in
set_option maxRecDepth 100000 in
theorem c_X0_areBounded (l : Launch) (G : GG) (p0 : Int32) (p1 : Int32) (r : Int32) (h : m_X0_areBounded p0 p1 = some r) : Ctr l G yX0_areBounded w2_X0_areBounded rm_X0_areBounded [.int p0, .int p1] [] (fun v w => v = some (.int r) ∧ w = []) := by
  refine ctr_entry (cc := cX0_areBounded) (maxL := 3) (ret := some .boolean) (lv0 := [(0, .int p0), (1, .int p1)]) (by decide) rfl (Nat.le_of_ble_eq_true rfl) (rfl) ?_
  intro K hl9 hG9 hk hn9 hrt
  subst hl9
  subst hG9
  have hR9 : RoomGe rm_X0_areBounded rm_X0_areBounded := RoomGe.rf
  replace h := id_e h
  rw [em_X0_areBounded] at h
  refine v_iconst (v := 0) hk dX0_areBounded_0 (by decide) ?_
  refine v_istore_n hk dX0_areBounded_1 rfl (by decide) [1, 2, 0] (lv' := [(0, .int p0), (1, .int p1), (2, .int 0)]) rfl ?_
  obtain ⟨b_6, eb_6, h⟩ := bd_e (g := id) rfl h
  refine L_X0_areBounded_2 hk hR9 hrt p0 p1 b_6 (fun q_5 eq_5 => ?_) (fun q_5 eq_5 => ?_) FU 0 eb_6
  · replace eq_5 := eq_5.symm
    subst eq_5
    refine v_iconst (v := 1) hk dX0_areBounded_27 (by decide) ?_
    replace h : some 1 = some r := h
    replace h := Option.some.inj h
    subst h
    refine hrt (some (.int 1)) _ _ _ _ _ (⟨rfl, rfl⟩) (Nat.zero_le _) (Nat.zero_le _) (⟨dX0_areBounded_28, rfl⟩)
  · replace eq_5 := eq_5.symm
    subst eq_5
    replace h : some q_5 = some r := h
    replace h := Option.some.inj h
    subst h
    exact ⟨rfl, rfl⟩
abbrev rm_X4_ties : Room := { frames := 2, cells := 0, slots := 0, locals := 43 }
set_option maxHeartbeats 4000000 in
set_option maxRecDepth 100000 in
theorem L_X4_ties_13 {K : Cx} {R9 : Room} (hk : Ok K cX4_ties 4 RX4 w2_X4_ties R9) (hR9 : RoomGe R9 rm_X4_ties) (p0 : Int32) (i2_2 : Int32) (b9 : (Int32 × Int32)) (kk0 : ∀ q9 : (Int32 × Int32), b9 = q9 → V K 4 [] 0 0 50 [(0, .int p0), (1, .int q9.1), (2, .int i2_2), (3, .int q9.2)] []) : ∀ (nn : Nat) (i1_4 : Int32) (i3_5 : Int32), lp (b_X4_ties_13 p0 i2_2) nn (i1_4, i3_5) = some b9 → V K 4 [] 0 0 13 [(0, .int p0), (1, .int i1_4), (2, .int i2_2), (3, .int i3_5)] [] := by
  intro nn
  induction nn with
  | zero => intro i1_4 i3_5 h; exact absurd h (by simp [lp])
  | succ nn ih =>
    intro i1_4 i3_5 h
    replace h := lp_s h
    rw [eb_X4_ties_13] at h
    refine v_iload_n hk dX4_ties_13 rfl ?_
    refine v_iconst (v := 5) hk dX4_ties_14 (by decide) ?_
    refine v_icmp_ge (tgt := 50) hk dX4_ties_15 (by decide) (fun hc => ?_) (fun hc => ?_)
    · replace h := it_t (g := (lpk (lp (b_X4_ties_13 p0 i2_2) nn))) h hc
      replace h : some (i1_4, i3_5) = some b9 := h
      replace h := Option.some.inj h
      subst h
      exact kk0 _ rfl
    · replace h := it_f (g := (lpk (lp (b_X4_ties_13 p0 i2_2) nn))) h hc
      refine v_iload_n hk dX4_ties_18 rfl ?_
      refine v_iload_n hk dX4_ties_19 rfl ?_
      refine v_iload_n hk dX4_ties_20 rfl ?_
      obtain ⟨r_6, er_6, h⟩ := bd_e (g := (lpk (lp (b_X4_ties_13 p0 i2_2) nn))) rfl h
      refine v_callS (n := 3) (st := []) hk dX4_ties_21 (c_X0_has (kl K) (kG K) p0 i2_2 i3_5 r_6 er_6) gd_X4_ties_X0_has rfl (by decide +kernel) (frok hR9 (Nat.le_of_ble_eq_true rfl) (Nat.le_of_ble_eq_true rfl)) (roomk hR9 (Nat.le_of_ble_eq_true rfl) (Nat.le_of_ble_eq_true rfl)) rfl rfl (Nat.le_of_ble_eq_true rfl) [] [] (wr := []) rfl rfl (by decide) (by decide) (by decide) ?_
      intro v9 w9 hp9
      obtain ⟨rfl, rfl⟩ := hp9
      show V K 4 [] 0 0 24 [(0, .int p0), (1, .int i1_4), (2, .int i2_2), (3, .int i3_5)] [.int r_6]
      refine v_if_ne (tgt := 36) hk dX4_ties_24 (by decide) (fun hc => ?_) (fun hc => ?_)
      · replace h := it_f (g := (lpk (lp (b_X4_ties_13 p0 i2_2) nn))) h hc
        refine v_iload_n hk dX4_ties_36 rfl ?_
        refine v_iload_n hk dX4_ties_37 rfl ?_
        refine v_iload_n hk dX4_ties_38 rfl ?_
        obtain ⟨r_7, er_7, h⟩ := bd_e (g := (lpk (lp (b_X4_ties_13 p0 i2_2) nn))) rfl h
        refine v_callS (n := 2) (st := [.int i1_4]) hk dX4_ties_39 (c_X0_arc (kl K) (kG K) i2_2 i3_5 r_7 er_7) gd_X4_ties_X0_arc rfl (by decide +kernel) (frok hR9 (Nat.le_of_ble_eq_true rfl) (Nat.le_of_ble_eq_true rfl)) (roomk hR9 (Nat.le_of_ble_eq_true rfl) (Nat.le_of_ble_eq_true rfl)) rfl rfl (Nat.le_of_ble_eq_true rfl) [] [] (wr := []) rfl rfl (by decide) (by decide) (by decide) ?_
        intro v9 w9 hp9
        obtain ⟨rfl, rfl⟩ := hp9
        show V K 4 [] 0 0 42 [(0, .int p0), (1, .int i1_4), (2, .int i2_2), (3, .int i3_5)] [.int r_7, .int i1_4]
        refine v_ior hk dX4_ties_42 ?_
        obtain ⟨x1_8, ex1_8, h⟩ := lt_e (g := (lpk (lp (b_X4_ties_13 p0 i2_2) nn))) h
        refine v_topi ex1_8.symm ?_
        refine v_istore_n hk dX4_ties_43 rfl (by decide) [1, 0, 2, 3] (lv' := [(0, .int p0), (1, .int x1_8), (2, .int i2_2), (3, .int i3_5)]) rfl ?_
        obtain ⟨x3_9, ex3_9, h⟩ := lt_e (g := (lpk (lp (b_X4_ties_13 p0 i2_2) nn))) h
        refine v_iinc (v := x3_9) hk dX4_ties_44 rfl (by rw [ex3_9]; rfl) (by decide) [1, 2, 3, 0] (lv' := [(0, .int p0), (1, .int x1_8), (2, .int i2_2), (3, .int x3_9)]) rfl ?_
        refine v_goto (tgt := 13) hk dX4_ties_47 (by decide) ?_
        exact ih x1_8 x3_9 h
      · replace h := it_t (g := (lpk (lp (b_X4_ties_13 p0 i2_2) nn))) h hc
        refine v_iload_n hk dX4_ties_27 rfl ?_
        refine v_iload_n hk dX4_ties_28 rfl ?_
        refine v_iload_n hk dX4_ties_29 rfl ?_
        obtain ⟨r_10, er_10, h⟩ := bd_e (g := (lpk (lp (b_X4_ties_13 p0 i2_2) nn))) rfl h
        refine v_callS (n := 3) (st := []) hk dX4_ties_30 (c_X0_has (kl K) (kG K) p0 i3_5 i2_2 r_10 er_10) gd_X4_ties_X0_has rfl (by decide +kernel) (frok hR9 (Nat.le_of_ble_eq_true rfl) (Nat.le_of_ble_eq_true rfl)) (roomk hR9 (Nat.le_of_ble_eq_true rfl) (Nat.le_of_ble_eq_true rfl)) rfl rfl (Nat.le_of_ble_eq_true rfl) [] [] (wr := []) rfl rfl (by decide) (by decide) (by decide) ?_
        intro v9 w9 hp9
        obtain ⟨rfl, rfl⟩ := hp9
        show V K 4 [] 0 0 33 [(0, .int p0), (1, .int i1_4), (2, .int i2_2), (3, .int i3_5)] [.int r_10]
        refine v_if_eq (tgt := 44) hk dX4_ties_33 (by decide) (fun hc => ?_) (fun hc => ?_)
        · replace h := it_t (g := (lpk (lp (b_X4_ties_13 p0 i2_2) nn))) h hc
          obtain ⟨x3_11, ex3_11, h⟩ := lt_e (g := (lpk (lp (b_X4_ties_13 p0 i2_2) nn))) h
          refine v_iinc (v := x3_11) hk dX4_ties_44 rfl (by rw [ex3_11]; rfl) (by decide) [1, 2, 3, 0] (lv' := [(0, .int p0), (1, .int i1_4), (2, .int i2_2), (3, .int x3_11)]) rfl ?_
          refine v_goto (tgt := 13) hk dX4_ties_47 (by decide) ?_
          exact ih i1_4 x3_11 h
        · replace h := it_f (g := (lpk (lp (b_X4_ties_13 p0 i2_2) nn))) h hc
          refine v_iload_n hk dX4_ties_36 rfl ?_
          refine v_iload_n hk dX4_ties_37 rfl ?_
          refine v_iload_n hk dX4_ties_38 rfl ?_
          obtain ⟨r_12, er_12, h⟩ := bd_e (g := (lpk (lp (b_X4_ties_13 p0 i2_2) nn))) rfl h
          refine v_callS (n := 2) (st := [.int i1_4]) hk dX4_ties_39 (c_X0_arc (kl K) (kG K) i2_2 i3_5 r_12 er_12) gd_X4_ties_X0_arc rfl (by decide +kernel) (frok hR9 (Nat.le_of_ble_eq_true rfl) (Nat.le_of_ble_eq_true rfl)) (roomk hR9 (Nat.le_of_ble_eq_true rfl) (Nat.le_of_ble_eq_true rfl)) rfl rfl (Nat.le_of_ble_eq_true rfl) [] [] (wr := []) rfl rfl (by decide) (by decide) (by decide) ?_
          intro v9 w9 hp9
          obtain ⟨rfl, rfl⟩ := hp9
          show V K 4 [] 0 0 42 [(0, .int p0), (1, .int i1_4), (2, .int i2_2), (3, .int i3_5)] [.int r_12, .int i1_4]
          refine v_ior hk dX4_ties_42 ?_
          obtain ⟨x1_13, ex1_13, h⟩ := lt_e (g := (lpk (lp (b_X4_ties_13 p0 i2_2) nn))) h
          refine v_topi ex1_13.symm ?_
          refine v_istore_n hk dX4_ties_43 rfl (by decide) [1, 0, 2, 3] (lv' := [(0, .int p0), (1, .int x1_13), (2, .int i2_2), (3, .int i3_5)]) rfl ?_
          obtain ⟨x3_14, ex3_14, h⟩ := lt_e (g := (lpk (lp (b_X4_ties_13 p0 i2_2) nn))) h
          refine v_iinc (v := x3_14) hk dX4_ties_44 rfl (by rw [ex3_14]; rfl) (by decide) [1, 2, 3, 0] (lv' := [(0, .int p0), (1, .int x1_13), (2, .int i2_2), (3, .int x3_14)]) rfl ?_
          refine v_goto (tgt := 13) hk dX4_ties_47 (by decide) ?_
          exact ih x1_13 x3_14 h
set_option maxHeartbeats 4000000 in
set_option maxRecDepth 100000 in
theorem L_X4_ties_4 {K : Cx} {R9 : Room} (hk : Ok K cX4_ties 4 RX4 w2_X4_ties R9) (hR9 : RoomGe R9 rm_X4_ties) (p0 : Int32) (b9 : (Int32 × Int32)) (kk0 : ∀ q9 : (Int32 × Int32), b9 = q9 → V K 4 [] 0 0 56 [(0, .int p0), (1, .int q9.1), (2, .int q9.2)] []) : ∀ (nn : Nat) (i1_1 : Int32) (i2_2 : Int32), lp (b_X4_ties_4 p0) nn (i1_1, i2_2) = some b9 → V K 4 [] 0 0 4 [(0, .int p0), (1, .int i1_1), (2, .int i2_2)] [] := by
  intro nn
  induction nn with
  | zero => intro i1_1 i2_2 h; exact absurd h (by simp [lp])
  | succ nn ih =>
    intro i1_1 i2_2 h
    replace h := lp_s h
    rw [eb_X4_ties_4] at h
    refine v_iload_n hk dX4_ties_4 rfl ?_
    refine v_iconst (v := 5) hk dX4_ties_5 (by decide) ?_
    refine v_icmp_ge (tgt := 56) hk dX4_ties_6 (by decide) (fun hc => ?_) (fun hc => ?_)
    · replace h := it_t (g := (lpk (lp (b_X4_ties_4 p0) nn))) h hc
      replace h : some (i1_1, i2_2) = some b9 := h
      replace h := Option.some.inj h
      subst h
      exact kk0 _ rfl
    · replace h := it_f (g := (lpk (lp (b_X4_ties_4 p0) nn))) h hc
      refine v_iload_n hk dX4_ties_9 rfl ?_
      refine v_iconst (v := 1) hk dX4_ties_10 (by decide) ?_
      refine v_iadd hk dX4_ties_11 ?_
      obtain ⟨x3_3, ex3_3, h⟩ := lt_e (g := (lpk (lp (b_X4_ties_4 p0) nn))) h
      refine v_topi ex3_3.symm ?_
      refine v_istore_n hk dX4_ties_12 rfl (by decide) [1, 2, 3, 0] (lv' := [(0, .int p0), (1, .int i1_1), (2, .int i2_2), (3, .int x3_3)]) rfl ?_
      obtain ⟨b_17, eb_17, h⟩ := bd_e (g := (lpk (lp (b_X4_ties_4 p0) nn))) rfl h
      refine L_X4_ties_13 hk hR9 p0 i2_2 b_17 (fun q_15 eq_15 => ?_) FU i1_1 x3_3 eb_17
      · replace eq_15 := eq_15.symm
        subst eq_15
        obtain ⟨x2_16, ex2_16, h⟩ := lt_e (g := (lpk (lp (b_X4_ties_4 p0) nn))) h
        refine v_iinc (v := x2_16) hk dX4_ties_50 rfl (by rw [ex2_16]; rfl) (by decide) [1, 2, 0, 3] (lv' := [(0, .int p0), (1, .int q_15.1), (2, .int x2_16), (3, .int q_15.2)]) rfl ?_
        refine v_goto (tgt := 4) hk dX4_ties_53 (by decide) ?_
        refine v_loc [0, 1, 2] (lv' := [(0, .int p0), (1, .int q_15.1), (2, .int x2_16)]) rfl ?_
        exact ih q_15.1 x2_16 h
set_option maxHeartbeats 4000000 in
set_option maxRecDepth 100000 in
theorem c_X4_ties (l : Launch) (G : GG) (p0 : Int32) (r : Int32) (h : m_X4_ties p0 = some r) : Ctr l G yX4_ties w2_X4_ties rm_X4_ties [.int p0] [] (fun v w => v = some (.int r) ∧ w = []) := by
  refine ctr_entry (cc := cX4_ties) (maxL := 4) (ret := some .int) (lv0 := [(0, .int p0)]) (by decide) rfl (Nat.le_of_ble_eq_true rfl) (rfl) ?_
  intro K hl9 hG9 hk hn9 hrt
  subst hl9
  subst hG9
  have hR9 : RoomGe rm_X4_ties rm_X4_ties := RoomGe.rf
  replace h := id_e h
  rw [em_X4_ties] at h
  refine v_iconst (v := 0) hk dX4_ties_0 (by decide) ?_
  refine v_istore_n hk dX4_ties_1 rfl (by decide) [1, 0] (lv' := [(0, .int p0), (1, .int 0)]) rfl ?_
  refine v_iconst (v := 0) hk dX4_ties_2 (by decide) ?_
  refine v_istore_n hk dX4_ties_3 rfl (by decide) [1, 2, 0] (lv' := [(0, .int p0), (1, .int 0), (2, .int 0)]) rfl ?_
  obtain ⟨b_19, eb_19, h⟩ := bd_e (g := id) rfl h
  refine L_X4_ties_4 hk hR9 p0 b_19 (fun q_18 eq_18 => ?_) FU 0 0 eb_19
  · replace eq_18 := eq_18.symm
    subst eq_18
    refine v_iload_n hk dX4_ties_56 rfl ?_
    replace h : some q_18.1 = some r := h
    replace h := Option.some.inj h
    subst h
    refine hrt (some (.int q_18.1)) _ _ _ _ _ (⟨rfl, rfl⟩) (Nat.zero_le _) (Nat.zero_le _) (dX4_ties_57)
abbrev rm_X4_meetings : Room := { frames := 3, cells := 0, slots := 0, locals := 66 }
set_option maxHeartbeats 4000000 in
set_option maxRecDepth 100000 in
theorem L_X4_meetings_42 {K : Cx} {R9 : Room} (hk : Ok K cX4_meetings 10 RX4 w2_X4_meetings R9) (hR9 : RoomGe R9 rm_X4_meetings) (p0 : Int32) (r_1 : Int32) (i5_4 : Int32) (r_5 : Int32) (i7_8 : Int32) (b9 : (Int64 × Int32 × Int32)) (kk0 : ∀ q9 : (Int64 × Int32 × Int32), b9 = q9 → V K 10 [] 0 0 107 [(0, .int p0), (1, .int r_1), (2, .long q9.1), (4, .int q9.2.1), (5, .int i5_4), (6, .int r_5), (7, .int i7_8), (8, .int q9.2.2)] []) : ∀ (nn : Nat) (i2_10 : Int64) (i4_11 : Int32) (i8_12 : Int32), lp (b_X4_meetings_42 r_1 r_5 i7_8) nn (i2_10, i4_11, i8_12) = some b9 → V K 10 [] 0 0 42 [(0, .int p0), (1, .int r_1), (2, .long i2_10), (4, .int i4_11), (5, .int i5_4), (6, .int r_5), (7, .int i7_8), (8, .int i8_12)] [] := by
  intro nn
  induction nn with
  | zero => intro i2_10 i4_11 i8_12 h; exact absurd h (by simp [lp])
  | succ nn ih =>
    intro i2_10 i4_11 i8_12 h
    replace h := lp_s h
    rw [eb_X4_meetings_42] at h
    refine v_iload hk dX4_meetings_42 rfl ?_
    refine v_iconst (v := 5) hk dX4_meetings_44 (by decide) ?_
    refine v_icmp_ge (tgt := 107) hk dX4_meetings_45 (by decide) (fun hc => ?_) (fun hc => ?_)
    · replace h := it_t (g := (lpk (lp (b_X4_meetings_42 r_1 r_5 i7_8) nn))) h hc
      replace h : some (i2_10, i4_11, i8_12) = some b9 := h
      replace h := Option.some.inj h
      subst h
      exact kk0 _ rfl
    · replace h := it_f (g := (lpk (lp (b_X4_meetings_42 r_1 r_5 i7_8) nn))) h hc
      refine v_iload hk dX4_meetings_48 rfl ?_
      refine v_iload hk dX4_meetings_50 rfl ?_
      obtain ⟨r_13, er_13, h⟩ := bd_e (g := (lpk (lp (b_X4_meetings_42 r_1 r_5 i7_8) nn))) rfl h
      refine v_callS (n := 2) (st := []) hk dX4_meetings_52 (c_X0_isIn (kl K) (kG K) r_5 i7_8 r_13 er_13) gd_X4_meetings_X0_isIn rfl (by decide +kernel) (frok hR9 (Nat.le_of_ble_eq_true rfl) (Nat.le_of_ble_eq_true rfl)) (roomk hR9 (Nat.le_of_ble_eq_true rfl) (Nat.le_of_ble_eq_true rfl)) rfl rfl (Nat.le_of_ble_eq_true rfl) [] [] (wr := []) rfl rfl (by decide) (by decide) (by decide) ?_
      intro v9 w9 hp9
      obtain ⟨rfl, rfl⟩ := hp9
      show V K 10 [] 0 0 55 [(0, .int p0), (1, .int r_1), (2, .long i2_10), (4, .int i4_11), (5, .int i5_4), (6, .int r_5), (7, .int i7_8), (8, .int i8_12)] [.int r_13]
      refine v_if_eq (tgt := 83) hk dX4_meetings_55 (by decide) (fun hc => ?_) (fun hc => ?_)
      · replace h := it_t (g := (lpk (lp (b_X4_meetings_42 r_1 r_5 i7_8) nn))) h hc
        refine v_iconst (v := 0) hk dX4_meetings_83 (by decide) ?_
        refine v_istore hk dX4_meetings_84 (by decide) [1, 2, 3, 4, 5, 6, 7, 8, 0] (lv' := [(0, .int p0), (1, .int r_1), (2, .long i2_10), (4, .int i4_11), (5, .int i5_4), (6, .int r_5), (7, .int i7_8), (8, .int i8_12), (9, .int 0)]) rfl ?_
        refine v_iload hk dX4_meetings_86 rfl ?_
        refine v_if_eq (tgt := 98) hk dX4_meetings_88 (by decide) (fun _ => ?_) (fun hc => absurd hc (by decide))
        obtain ⟨x4_14, ex4_14, h⟩ := lt_e (g := (lpk (lp (b_X4_meetings_42 r_1 r_5 i7_8) nn))) h
        refine v_iinc (v := x4_14) hk dX4_meetings_98 rfl (by rw [ex4_14]; rfl) (by decide) [1, 2, 3, 0, 4, 5, 6, 7, 8] (lv' := [(0, .int p0), (1, .int r_1), (2, .long i2_10), (4, .int x4_14), (5, .int i5_4), (6, .int r_5), (7, .int i7_8), (8, .int i8_12), (9, .int 0)]) rfl ?_
        obtain ⟨x8_15, ex8_15, h⟩ := lt_e (g := (lpk (lp (b_X4_meetings_42 r_1 r_5 i7_8) nn))) h
        refine v_iinc (v := x8_15) hk dX4_meetings_101 rfl (by rw [ex8_15]; rfl) (by decide) [1, 2, 3, 4, 5, 6, 7, 0, 8] (lv' := [(0, .int p0), (1, .int r_1), (2, .long i2_10), (4, .int x4_14), (5, .int i5_4), (6, .int r_5), (7, .int i7_8), (8, .int x8_15), (9, .int 0)]) rfl ?_
        refine v_goto (tgt := 42) hk dX4_meetings_104 (by decide) ?_
        refine v_loc [0, 1, 2, 3, 4, 5, 6, 7] (lv' := [(0, .int p0), (1, .int r_1), (2, .long i2_10), (4, .int x4_14), (5, .int i5_4), (6, .int r_5), (7, .int i7_8), (8, .int x8_15)]) rfl ?_
        exact ih i2_10 x4_14 x8_15 h
      · replace h := it_f (g := (lpk (lp (b_X4_meetings_42 r_1 r_5 i7_8) nn))) h hc
        refine v_iload hk dX4_meetings_58 rfl ?_
        refine v_iload hk dX4_meetings_60 rfl ?_
        obtain ⟨r_16, er_16, h⟩ := bd_e (g := (lpk (lp (b_X4_meetings_42 r_1 r_5 i7_8) nn))) rfl h
        refine v_callS (n := 2) (st := []) hk dX4_meetings_62 (c_X0_isIn (kl K) (kG K) r_5 i8_12 r_16 er_16) gd_X4_meetings_X0_isIn rfl (by decide +kernel) (frok hR9 (Nat.le_of_ble_eq_true rfl) (Nat.le_of_ble_eq_true rfl)) (roomk hR9 (Nat.le_of_ble_eq_true rfl) (Nat.le_of_ble_eq_true rfl)) rfl rfl (Nat.le_of_ble_eq_true rfl) [] [] (wr := []) rfl rfl (by decide) (by decide) (by decide) ?_
        intro v9 w9 hp9
        obtain ⟨rfl, rfl⟩ := hp9
        show V K 10 [] 0 0 65 [(0, .int p0), (1, .int r_1), (2, .long i2_10), (4, .int i4_11), (5, .int i5_4), (6, .int r_5), (7, .int i7_8), (8, .int i8_12)] [.int r_16]
        refine v_if_eq (tgt := 83) hk dX4_meetings_65 (by decide) (fun hc => ?_) (fun hc => ?_)
        · replace h := it_t (g := (lpk (lp (b_X4_meetings_42 r_1 r_5 i7_8) nn))) h hc
          refine v_iconst (v := 0) hk dX4_meetings_83 (by decide) ?_
          refine v_istore hk dX4_meetings_84 (by decide) [1, 2, 3, 4, 5, 6, 7, 8, 0] (lv' := [(0, .int p0), (1, .int r_1), (2, .long i2_10), (4, .int i4_11), (5, .int i5_4), (6, .int r_5), (7, .int i7_8), (8, .int i8_12), (9, .int 0)]) rfl ?_
          refine v_iload hk dX4_meetings_86 rfl ?_
          refine v_if_eq (tgt := 98) hk dX4_meetings_88 (by decide) (fun _ => ?_) (fun hc => absurd hc (by decide))
          obtain ⟨x4_17, ex4_17, h⟩ := lt_e (g := (lpk (lp (b_X4_meetings_42 r_1 r_5 i7_8) nn))) h
          refine v_iinc (v := x4_17) hk dX4_meetings_98 rfl (by rw [ex4_17]; rfl) (by decide) [1, 2, 3, 0, 4, 5, 6, 7, 8] (lv' := [(0, .int p0), (1, .int r_1), (2, .long i2_10), (4, .int x4_17), (5, .int i5_4), (6, .int r_5), (7, .int i7_8), (8, .int i8_12), (9, .int 0)]) rfl ?_
          obtain ⟨x8_18, ex8_18, h⟩ := lt_e (g := (lpk (lp (b_X4_meetings_42 r_1 r_5 i7_8) nn))) h
          refine v_iinc (v := x8_18) hk dX4_meetings_101 rfl (by rw [ex8_18]; rfl) (by decide) [1, 2, 3, 4, 5, 6, 7, 0, 8] (lv' := [(0, .int p0), (1, .int r_1), (2, .long i2_10), (4, .int x4_17), (5, .int i5_4), (6, .int r_5), (7, .int i7_8), (8, .int x8_18), (9, .int 0)]) rfl ?_
          refine v_goto (tgt := 42) hk dX4_meetings_104 (by decide) ?_
          refine v_loc [0, 1, 2, 3, 4, 5, 6, 7] (lv' := [(0, .int p0), (1, .int r_1), (2, .long i2_10), (4, .int x4_17), (5, .int i5_4), (6, .int r_5), (7, .int i7_8), (8, .int x8_18)]) rfl ?_
          exact ih i2_10 x4_17 x8_18 h
        · replace h := it_f (g := (lpk (lp (b_X4_meetings_42 r_1 r_5 i7_8) nn))) h hc
          refine v_iload_n hk dX4_meetings_68 rfl ?_
          refine v_iload hk dX4_meetings_69 rfl ?_
          refine v_iload hk dX4_meetings_71 rfl ?_
          obtain ⟨r_19, er_19, h⟩ := bd_e (g := (lpk (lp (b_X4_meetings_42 r_1 r_5 i7_8) nn))) rfl h
          refine v_callS (n := 3) (st := []) hk dX4_meetings_73 (c_X0_has (kl K) (kG K) r_1 i7_8 i8_12 r_19 er_19) gd_X4_meetings_X0_has rfl (by decide +kernel) (frok hR9 (Nat.le_of_ble_eq_true rfl) (Nat.le_of_ble_eq_true rfl)) (roomk hR9 (Nat.le_of_ble_eq_true rfl) (Nat.le_of_ble_eq_true rfl)) rfl rfl (Nat.le_of_ble_eq_true rfl) [] [] (wr := []) rfl rfl (by decide) (by decide) (by decide) ?_
          intro v9 w9 hp9
          obtain ⟨rfl, rfl⟩ := hp9
          show V K 10 [] 0 0 76 [(0, .int p0), (1, .int r_1), (2, .long i2_10), (4, .int i4_11), (5, .int i5_4), (6, .int r_5), (7, .int i7_8), (8, .int i8_12)] [.int r_19]
          obtain ⟨z_20, ez_20, h⟩ := lt_e (g := (lpk (lp (b_X4_meetings_42 r_1 r_5 i7_8) nn))) h
          have Jz_20 : V K 10 [] 0 0 84 [(0, .int p0), (1, .int r_1), (2, .long i2_10), (4, .int i4_11), (5, .int i5_4), (6, .int r_5), (7, .int i7_8), (8, .int i8_12)] (.int z_20 :: []) := by
            refine v_istore hk dX4_meetings_84 (by decide) [1, 2, 3, 4, 5, 6, 7, 8, 0] (lv' := [(0, .int p0), (1, .int r_1), (2, .long i2_10), (4, .int i4_11), (5, .int i5_4), (6, .int r_5), (7, .int i7_8), (8, .int i8_12), (9, .int z_20)]) rfl ?_
            refine v_iload hk dX4_meetings_86 rfl ?_
            obtain ⟨y_21, ey_21, h⟩ := bd_e (g := (lpk (lp (b_X4_meetings_42 r_1 r_5 i7_8) nn))) rfl h
            have Jy_21 : V K 10 [] 0 0 98 [(0, .int p0), (1, .int r_1), (2, .long y_21), (4, .int i4_11), (5, .int i5_4), (6, .int r_5), (7, .int i7_8), (8, .int i8_12), (9, .int z_20)] [] := by
              obtain ⟨x4_22, ex4_22, h⟩ := lt_e (g := (lpk (lp (b_X4_meetings_42 r_1 r_5 i7_8) nn))) h
              refine v_iinc (v := x4_22) hk dX4_meetings_98 rfl (by rw [ex4_22]; rfl) (by decide) [1, 2, 3, 0, 4, 5, 6, 7, 8] (lv' := [(0, .int p0), (1, .int r_1), (2, .long y_21), (4, .int x4_22), (5, .int i5_4), (6, .int r_5), (7, .int i7_8), (8, .int i8_12), (9, .int z_20)]) rfl ?_
              obtain ⟨x8_23, ex8_23, h⟩ := lt_e (g := (lpk (lp (b_X4_meetings_42 r_1 r_5 i7_8) nn))) h
              refine v_iinc (v := x8_23) hk dX4_meetings_101 rfl (by rw [ex8_23]; rfl) (by decide) [1, 2, 3, 4, 5, 6, 7, 0, 8] (lv' := [(0, .int p0), (1, .int r_1), (2, .long y_21), (4, .int x4_22), (5, .int i5_4), (6, .int r_5), (7, .int i7_8), (8, .int x8_23), (9, .int z_20)]) rfl ?_
              refine v_goto (tgt := 42) hk dX4_meetings_104 (by decide) ?_
              refine v_loc [0, 1, 2, 3, 4, 5, 6, 7] (lv' := [(0, .int p0), (1, .int r_1), (2, .long y_21), (4, .int x4_22), (5, .int i5_4), (6, .int r_5), (7, .int i7_8), (8, .int x8_23)]) rfl ?_
              exact ih y_21 x4_22 x8_23 h
            clear h
            have h := id_e ey_21
            clear ey_21
            refine v_if_eq (tgt := 98) hk dX4_meetings_88 (by decide) (fun hc => ?_) (fun hc => ?_)
            · replace h := it_t (g := id) h hc
              replace h : some (i2_10 : Int64) = some y_21 := h
              replace h := Option.some.inj h
              subst h
              exact Jy_21
            · replace h := it_f (g := id) h hc
              refine v_lload_n hk dX4_meetings_91 rfl ?_
              refine v_lconst (v := 1) hk dX4_meetings_92 (by decide) ?_
              refine v_iload hk dX4_meetings_93 rfl ?_
              refine v_lshl hk dX4_meetings_95 ?_
              refine v_lor hk dX4_meetings_96 ?_
              obtain ⟨x2_24, ex2_24, h⟩ := lt_e (g := id) h
              refine v_topl ex2_24.symm ?_
              refine v_lstore_n hk dX4_meetings_97 rfl (by decide) [1, 2, 0, 3, 4, 5, 6, 7, 8] (lv' := [(0, .int p0), (1, .int r_1), (2, .long x2_24), (4, .int i4_11), (5, .int i5_4), (6, .int r_5), (7, .int i7_8), (8, .int i8_12), (9, .int z_20)]) rfl ?_
              replace h : some (x2_24 : Int64) = some y_21 := h
              replace h := Option.some.inj h
              subst h
              exact Jy_21
          refine v_if_ne (tgt := 83) hk dX4_meetings_76 (by decide) (fun hc => ?_) (fun hc => ?_)
          · rw [if_neg hc] at ez_20
            subst ez_20
            refine v_iconst (v := 0) hk dX4_meetings_83 (by decide) ?_
            exact Jz_20
          · rw [if_pos hc] at ez_20
            subst ez_20
            refine v_iconst (v := 1) hk dX4_meetings_79 (by decide) ?_
            refine v_goto (tgt := 84) hk dX4_meetings_80 (by decide) ?_
            exact Jz_20
set_option maxHeartbeats 4000000 in
set_option maxRecDepth 100000 in
theorem L_X4_meetings_30 {K : Cx} {R9 : Room} (hk : Ok K cX4_meetings 10 RX4 w2_X4_meetings R9) (hR9 : RoomGe R9 rm_X4_meetings) (p0 : Int32) (r_1 : Int32) (i5_4 : Int32) (r_5 : Int32) (b9 : (Int64 × Int32 × Int32)) (kk0 : ∀ q9 : (Int64 × Int32 × Int32), b9 = q9 → V K 10 [] 0 0 113 [(0, .int p0), (1, .int r_1), (2, .long q9.1), (4, .int q9.2.1), (5, .int i5_4), (6, .int r_5), (7, .int q9.2.2)] []) : ∀ (nn : Nat) (i2_6 : Int64) (i4_7 : Int32) (i7_8 : Int32), lp (b_X4_meetings_30 r_1 r_5) nn (i2_6, i4_7, i7_8) = some b9 → V K 10 [] 0 0 30 [(0, .int p0), (1, .int r_1), (2, .long i2_6), (4, .int i4_7), (5, .int i5_4), (6, .int r_5), (7, .int i7_8)] [] := by
  intro nn
  induction nn with
  | zero => intro i2_6 i4_7 i7_8 h; exact absurd h (by simp [lp])
  | succ nn ih =>
    intro i2_6 i4_7 i7_8 h
    replace h := lp_s h
    rw [eb_X4_meetings_30] at h
    refine v_iload hk dX4_meetings_30 rfl ?_
    refine v_iconst (v := 5) hk dX4_meetings_32 (by decide) ?_
    refine v_icmp_ge (tgt := 113) hk dX4_meetings_33 (by decide) (fun hc => ?_) (fun hc => ?_)
    · replace h := it_t (g := (lpk (lp (b_X4_meetings_30 r_1 r_5) nn))) h hc
      replace h : some (i2_6, i4_7, i7_8) = some b9 := h
      replace h := Option.some.inj h
      subst h
      exact kk0 _ rfl
    · replace h := it_f (g := (lpk (lp (b_X4_meetings_30 r_1 r_5) nn))) h hc
      refine v_iload hk dX4_meetings_36 rfl ?_
      refine v_iconst (v := 1) hk dX4_meetings_38 (by decide) ?_
      refine v_iadd hk dX4_meetings_39 ?_
      obtain ⟨x8_9, ex8_9, h⟩ := lt_e (g := (lpk (lp (b_X4_meetings_30 r_1 r_5) nn))) h
      refine v_topi ex8_9.symm ?_
      refine v_istore hk dX4_meetings_40 (by decide) [1, 2, 3, 4, 5, 6, 7, 0] (lv' := [(0, .int p0), (1, .int r_1), (2, .long i2_6), (4, .int i4_7), (5, .int i5_4), (6, .int r_5), (7, .int i7_8), (8, .int x8_9)]) rfl ?_
      obtain ⟨b_27, eb_27, h⟩ := bd_e (g := (lpk (lp (b_X4_meetings_30 r_1 r_5) nn))) rfl h
      refine L_X4_meetings_42 hk hR9 p0 r_1 i5_4 r_5 i7_8 b_27 (fun q_25 eq_25 => ?_) FU i2_6 i4_7 x8_9 eb_27
      · replace eq_25 := eq_25.symm
        subst eq_25
        obtain ⟨x7_26, ex7_26, h⟩ := lt_e (g := (lpk (lp (b_X4_meetings_30 r_1 r_5) nn))) h
        refine v_iinc (v := x7_26) hk dX4_meetings_107 rfl (by rw [ex7_26]; rfl) (by decide) [1, 2, 3, 4, 5, 6, 0, 7] (lv' := [(0, .int p0), (1, .int r_1), (2, .long q_25.1), (4, .int q_25.2.1), (5, .int i5_4), (6, .int r_5), (7, .int x7_26), (8, .int q_25.2.2)]) rfl ?_
        refine v_goto (tgt := 30) hk dX4_meetings_110 (by decide) ?_
        refine v_loc [0, 1, 2, 3, 4, 5, 6] (lv' := [(0, .int p0), (1, .int r_1), (2, .long q_25.1), (4, .int q_25.2.1), (5, .int i5_4), (6, .int r_5), (7, .int x7_26)]) rfl ?_
        exact ih q_25.1 q_25.2.1 x7_26 h
set_option maxHeartbeats 4000000 in
set_option maxRecDepth 100000 in
theorem L_X4_meetings_13 {K : Cx} {R9 : Room} (hk : Ok K cX4_meetings 10 RX4 w2_X4_meetings R9) (hR9 : RoomGe R9 rm_X4_meetings) (p0 : Int32) (r_1 : Int32) (b9 : (Int64 × Int32 × Int32)) (kk0 : ∀ q9 : (Int64 × Int32 × Int32), b9 = q9 → V K 10 [] 0 0 119 [(0, .int p0), (1, .int r_1), (2, .long q9.1), (4, .int q9.2.1), (5, .int q9.2.2)] []) : ∀ (nn : Nat) (i2_2 : Int64) (i4_3 : Int32) (i5_4 : Int32), lp (b_X4_meetings_13 p0 r_1) nn (i2_2, i4_3, i5_4) = some b9 → V K 10 [] 0 0 13 [(0, .int p0), (1, .int r_1), (2, .long i2_2), (4, .int i4_3), (5, .int i5_4)] [] := by
  intro nn
  induction nn with
  | zero => intro i2_2 i4_3 i5_4 h; exact absurd h (by simp [lp])
  | succ nn ih =>
    intro i2_2 i4_3 i5_4 h
    replace h := lp_s h
    rw [eb_X4_meetings_13] at h
    refine v_iload hk dX4_meetings_13 rfl ?_
    refine v_iconst (v := 5) hk dX4_meetings_15 (by decide) ?_
    refine v_icmp_ge (tgt := 119) hk dX4_meetings_16 (by decide) (fun hc => ?_) (fun hc => ?_)
    · replace h := it_t (g := (lpk (lp (b_X4_meetings_13 p0 r_1) nn))) h hc
      replace h : some (i2_2, i4_3, i5_4) = some b9 := h
      replace h := Option.some.inj h
      subst h
      exact kk0 _ rfl
    · replace h := it_f (g := (lpk (lp (b_X4_meetings_13 p0 r_1) nn))) h hc
      refine v_iload_n hk dX4_meetings_19 rfl ?_
      refine v_iload hk dX4_meetings_20 rfl ?_
      obtain ⟨r_5, er_5, h⟩ := bd_e (g := (lpk (lp (b_X4_meetings_13 p0 r_1) nn))) rfl h
      refine v_callS (n := 2) (st := []) hk dX4_meetings_22 (c_X0_parentsIn (kl K) (kG K) p0 i5_4 r_5 er_5) gd_X4_meetings_X0_parentsIn rfl (by decide +kernel) (frok hR9 (Nat.le_of_ble_eq_true rfl) (Nat.le_of_ble_eq_true rfl)) (roomk hR9 (Nat.le_of_ble_eq_true rfl) (Nat.le_of_ble_eq_true rfl)) rfl rfl (Nat.le_of_ble_eq_true rfl) [] [] (wr := []) rfl rfl (by decide) (by decide) (by decide) ?_
      intro v9 w9 hp9
      obtain ⟨rfl, rfl⟩ := hp9
      show V K 10 [] 0 0 25 [(0, .int p0), (1, .int r_1), (2, .long i2_2), (4, .int i4_3), (5, .int i5_4)] [.int r_5]
      refine v_istore hk dX4_meetings_25 (by decide) [1, 2, 3, 4, 5, 0] (lv' := [(0, .int p0), (1, .int r_1), (2, .long i2_2), (4, .int i4_3), (5, .int i5_4), (6, .int r_5)]) rfl ?_
      refine v_iconst (v := 0) hk dX4_meetings_27 (by decide) ?_
      refine v_istore hk dX4_meetings_28 (by decide) [1, 2, 3, 4, 5, 6, 0] (lv' := [(0, .int p0), (1, .int r_1), (2, .long i2_2), (4, .int i4_3), (5, .int i5_4), (6, .int r_5), (7, .int 0)]) rfl ?_
      obtain ⟨b_30, eb_30, h⟩ := bd_e (g := (lpk (lp (b_X4_meetings_13 p0 r_1) nn))) rfl h
      refine L_X4_meetings_30 hk hR9 p0 r_1 i5_4 r_5 b_30 (fun q_28 eq_28 => ?_) FU i2_2 i4_3 0 eb_30
      · replace eq_28 := eq_28.symm
        subst eq_28
        obtain ⟨x5_29, ex5_29, h⟩ := lt_e (g := (lpk (lp (b_X4_meetings_13 p0 r_1) nn))) h
        refine v_iinc (v := x5_29) hk dX4_meetings_113 rfl (by rw [ex5_29]; rfl) (by decide) [1, 2, 3, 4, 0, 5, 6] (lv' := [(0, .int p0), (1, .int r_1), (2, .long q_28.1), (4, .int q_28.2.1), (5, .int x5_29), (6, .int r_5), (7, .int q_28.2.2)]) rfl ?_
        refine v_goto (tgt := 13) hk dX4_meetings_116 (by decide) ?_
        refine v_loc [0, 1, 2, 3, 4] (lv' := [(0, .int p0), (1, .int r_1), (2, .long q_28.1), (4, .int q_28.2.1), (5, .int x5_29)]) rfl ?_
        exact ih q_28.1 q_28.2.1 x5_29 h
set_option maxHeartbeats 4000000 in
set_option maxRecDepth 100000 in
theorem c_X4_meetings (l : Launch) (G : GG) (p0 : Int32) (r : Int64) (h : m_X4_meetings p0 = some r) : Ctr l G yX4_meetings w2_X4_meetings rm_X4_meetings [.int p0] [] (fun v w => v = some (.long r) ∧ w = []) := by
  refine ctr_entry (cc := cX4_meetings) (maxL := 10) (ret := some .long) (lv0 := [(0, .int p0)]) (by decide) rfl (Nat.le_of_ble_eq_true rfl) (rfl) ?_
  intro K hl9 hG9 hk hn9 hrt
  subst hl9
  subst hG9
  have hR9 : RoomGe rm_X4_meetings rm_X4_meetings := RoomGe.rf
  replace h := id_e h
  rw [em_X4_meetings] at h
  refine v_iload_n hk dX4_meetings_0 rfl ?_
  obtain ⟨r_1, er_1, h⟩ := bd_e (g := id) rfl h
  refine v_callS (n := 1) (st := []) hk dX4_meetings_1 (c_X4_ties (kl K) (kG K) p0 r_1 er_1) gd_X4_meetings_X4_ties rfl (by decide +kernel) (frok hR9 (Nat.le_of_ble_eq_true rfl) (Nat.le_of_ble_eq_true rfl)) (roomk hR9 (Nat.le_of_ble_eq_true rfl) (Nat.le_of_ble_eq_true rfl)) rfl rfl (Nat.le_of_ble_eq_true rfl) [] [] (wr := []) rfl rfl (by decide) (by decide) (by decide) ?_
  intro v9 w9 hp9
  obtain ⟨rfl, rfl⟩ := hp9
  show V K 10 [] 0 0 4 [(0, .int p0)] [.int r_1]
  refine v_istore_n hk dX4_meetings_4 rfl (by decide) [1, 0] (lv' := [(0, .int p0), (1, .int r_1)]) rfl ?_
  refine v_lconst (v := 0) hk dX4_meetings_5 (by decide) ?_
  refine v_lstore_n hk dX4_meetings_6 rfl (by decide) [1, 2, 0] (lv' := [(0, .int p0), (1, .int r_1), (2, .long 0)]) rfl ?_
  refine v_iconst (v := 0) hk dX4_meetings_7 (by decide) ?_
  refine v_istore hk dX4_meetings_8 (by decide) [1, 2, 3, 0] (lv' := [(0, .int p0), (1, .int r_1), (2, .long 0), (4, .int 0)]) rfl ?_
  refine v_iconst (v := 0) hk dX4_meetings_10 (by decide) ?_
  refine v_istore hk dX4_meetings_11 (by decide) [1, 2, 3, 4, 0] (lv' := [(0, .int p0), (1, .int r_1), (2, .long 0), (4, .int 0), (5, .int 0)]) rfl ?_
  obtain ⟨b_32, eb_32, h⟩ := bd_e (g := id) rfl h
  refine L_X4_meetings_13 hk hR9 p0 r_1 b_32 (fun q_31 eq_31 => ?_) FU 0 0 0 eb_32
  · replace eq_31 := eq_31.symm
    subst eq_31
    refine v_lload_n hk dX4_meetings_119 rfl ?_
    replace h : some q_31.1 = some r := h
    replace h := Option.some.inj h
    subst h
    refine hrt (some (.long q_31.1)) _ _ _ _ _ (⟨rfl, rfl⟩) (Nat.zero_le _) (Nat.zero_le _) (dX4_meetings_120)
abbrev rm_X4_directed : Room := { frames := 2, cells := 0, slots := 0, locals := 43 }
set_option maxHeartbeats 4000000 in
set_option maxRecDepth 100000 in
theorem L_X4_directed_19 {K : Cx} {R9 : Room} (hk : Ok K cX4_directed 6 RX4 w2_X4_directed R9) (hR9 : RoomGe R9 rm_X4_directed) (p0 : Int32) (p1 : Int32) (i4_3 : Int32) (b9 : (Int32 × Int32 × Int32)) (kk0 : ∀ q9 : (Int32 × Int32 × Int32), b9 = q9 → V K 6 [] 0 0 75 [(0, .int p0), (1, .int p1), (2, .int q9.1), (3, .int q9.2.1), (4, .int i4_3), (5, .int q9.2.2)] []) : ∀ (nn : Nat) (i2_5 : Int32) (i3_6 : Int32) (i5_7 : Int32), lp (b_X4_directed_19 p0 i4_3) nn (i2_5, i3_6, i5_7) = some b9 → V K 6 [] 0 0 19 [(0, .int p0), (1, .int p1), (2, .int i2_5), (3, .int i3_6), (4, .int i4_3), (5, .int i5_7)] [] := by
  intro nn
  induction nn with
  | zero => intro i2_5 i3_6 i5_7 h; exact absurd h (by simp [lp])
  | succ nn ih =>
    intro i2_5 i3_6 i5_7 h
    replace h := lp_s h
    rw [eb_X4_directed_19] at h
    refine v_iload hk dX4_directed_19 rfl ?_
    refine v_iconst (v := 5) hk dX4_directed_21 (by decide) ?_
    refine v_icmp_ge (tgt := 75) hk dX4_directed_22 (by decide) (fun hc => ?_) (fun hc => ?_)
    · replace h := it_t (g := (lpk (lp (b_X4_directed_19 p0 i4_3) nn))) h hc
      replace h : some (i2_5, i3_6, i5_7) = some b9 := h
      replace h := Option.some.inj h
      subst h
      exact kk0 _ rfl
    · replace h := it_f (g := (lpk (lp (b_X4_directed_19 p0 i4_3) nn))) h hc
      refine v_iload_n hk dX4_directed_25 rfl ?_
      refine v_iload hk dX4_directed_26 rfl ?_
      refine v_iload hk dX4_directed_28 rfl ?_
      obtain ⟨r_8, er_8, h⟩ := bd_e (g := (lpk (lp (b_X4_directed_19 p0 i4_3) nn))) rfl h
      refine v_callS (n := 3) (st := []) hk dX4_directed_30 (c_X0_has (kl K) (kG K) p0 i4_3 i5_7 r_8 er_8) gd_X4_directed_X0_has rfl (by decide +kernel) (frok hR9 (Nat.le_of_ble_eq_true rfl) (Nat.le_of_ble_eq_true rfl)) (roomk hR9 (Nat.le_of_ble_eq_true rfl) (Nat.le_of_ble_eq_true rfl)) rfl rfl (Nat.le_of_ble_eq_true rfl) [] [] (wr := []) rfl rfl (by decide) (by decide) (by decide) ?_
      intro v9 w9 hp9
      obtain ⟨rfl, rfl⟩ := hp9
      show V K 6 [] 0 0 33 [(0, .int p0), (1, .int p1), (2, .int i2_5), (3, .int i3_6), (4, .int i4_3), (5, .int i5_7)] [.int r_8]
      refine v_if_ne (tgt := 39) hk dX4_directed_33 (by decide) (fun hc => ?_) (fun hc => ?_)
      · replace h := it_f (g := (lpk (lp (b_X4_directed_19 p0 i4_3) nn))) h hc
        refine v_iload_n hk dX4_directed_39 rfl ?_
        refine v_iload_n hk dX4_directed_40 rfl ?_
        refine v_iconst (v := 1) hk dX4_directed_41 (by decide) ?_
        refine v_iand hk dX4_directed_42 ?_
        refine v_if_ne (tgt := 56) hk dX4_directed_43 (by decide) (fun hc => ?_) (fun hc => ?_)
        · replace h := it_f (g := (lpk (lp (b_X4_directed_19 p0 i4_3) nn))) h hc
          refine v_iload hk dX4_directed_56 rfl ?_
          refine v_iload hk dX4_directed_58 rfl ?_
          obtain ⟨r_9, er_9, h⟩ := bd_e (g := (lpk (lp (b_X4_directed_19 p0 i4_3) nn))) rfl h
          refine v_callS (n := 2) (st := [.int i2_5]) hk dX4_directed_60 (c_X0_arc (kl K) (kG K) i5_7 i4_3 r_9 er_9) gd_X4_directed_X0_arc rfl (by decide +kernel) (frok hR9 (Nat.le_of_ble_eq_true rfl) (Nat.le_of_ble_eq_true rfl)) (roomk hR9 (Nat.le_of_ble_eq_true rfl) (Nat.le_of_ble_eq_true rfl)) rfl rfl (Nat.le_of_ble_eq_true rfl) [] [] (wr := []) rfl rfl (by decide) (by decide) (by decide) ?_
          intro v9 w9 hp9
          obtain ⟨rfl, rfl⟩ := hp9
          show V K 6 [] 0 0 63 [(0, .int p0), (1, .int p1), (2, .int i2_5), (3, .int i3_6), (4, .int i4_3), (5, .int i5_7)] [.int r_9, .int i2_5]
          refine v_ior hk dX4_directed_63 ?_
          obtain ⟨x2_10, ex2_10, h⟩ := lt_e (g := (lpk (lp (b_X4_directed_19 p0 i4_3) nn))) h
          refine v_topi ex2_10.symm ?_
          refine v_istore_n hk dX4_directed_64 rfl (by decide) [1, 2, 0, 3, 4, 5] (lv' := [(0, .int p0), (1, .int p1), (2, .int x2_10), (3, .int i3_6), (4, .int i4_3), (5, .int i5_7)]) rfl ?_
          refine v_iload_n hk dX4_directed_65 rfl ?_
          refine v_iconst (v := 1) hk dX4_directed_66 (by decide) ?_
          refine v_ishr hk dX4_directed_67 ?_
          obtain ⟨x3_11, ex3_11, h⟩ := lt_e (g := (lpk (lp (b_X4_directed_19 p0 i4_3) nn))) h
          refine v_topi ex3_11.symm ?_
          refine v_istore_n hk dX4_directed_68 rfl (by decide) [1, 2, 3, 0, 4, 5] (lv' := [(0, .int p0), (1, .int p1), (2, .int x2_10), (3, .int x3_11), (4, .int i4_3), (5, .int i5_7)]) rfl ?_
          obtain ⟨x5_12, ex5_12, h⟩ := lt_e (g := (lpk (lp (b_X4_directed_19 p0 i4_3) nn))) h
          refine v_iinc (v := x5_12) hk dX4_directed_69 rfl (by rw [ex5_12]; rfl) (by decide) [1, 2, 3, 4, 5, 0] (lv' := [(0, .int p0), (1, .int p1), (2, .int x2_10), (3, .int x3_11), (4, .int i4_3), (5, .int x5_12)]) rfl ?_
          refine v_goto (tgt := 19) hk dX4_directed_72 (by decide) ?_
          exact ih x2_10 x3_11 x5_12 h
        · replace h := it_t (g := (lpk (lp (b_X4_directed_19 p0 i4_3) nn))) h hc
          refine v_iload hk dX4_directed_46 rfl ?_
          refine v_iload hk dX4_directed_48 rfl ?_
          obtain ⟨r_13, er_13, h⟩ := bd_e (g := (lpk (lp (b_X4_directed_19 p0 i4_3) nn))) rfl h
          refine v_callS (n := 2) (st := [.int i2_5]) hk dX4_directed_50 (c_X0_arc (kl K) (kG K) i4_3 i5_7 r_13 er_13) gd_X4_directed_X0_arc rfl (by decide +kernel) (frok hR9 (Nat.le_of_ble_eq_true rfl) (Nat.le_of_ble_eq_true rfl)) (roomk hR9 (Nat.le_of_ble_eq_true rfl) (Nat.le_of_ble_eq_true rfl)) rfl rfl (Nat.le_of_ble_eq_true rfl) [] [] (wr := []) rfl rfl (by decide) (by decide) (by decide) ?_
          intro v9 w9 hp9
          obtain ⟨rfl, rfl⟩ := hp9
          show V K 6 [] 0 0 53 [(0, .int p0), (1, .int p1), (2, .int i2_5), (3, .int i3_6), (4, .int i4_3), (5, .int i5_7)] [.int r_13, .int i2_5]
          refine v_goto (tgt := 63) hk dX4_directed_53 (by decide) ?_
          refine v_ior hk dX4_directed_63 ?_
          obtain ⟨x2_14, ex2_14, h⟩ := lt_e (g := (lpk (lp (b_X4_directed_19 p0 i4_3) nn))) h
          refine v_topi ex2_14.symm ?_
          refine v_istore_n hk dX4_directed_64 rfl (by decide) [1, 2, 0, 3, 4, 5] (lv' := [(0, .int p0), (1, .int p1), (2, .int x2_14), (3, .int i3_6), (4, .int i4_3), (5, .int i5_7)]) rfl ?_
          refine v_iload_n hk dX4_directed_65 rfl ?_
          refine v_iconst (v := 1) hk dX4_directed_66 (by decide) ?_
          refine v_ishr hk dX4_directed_67 ?_
          obtain ⟨x3_15, ex3_15, h⟩ := lt_e (g := (lpk (lp (b_X4_directed_19 p0 i4_3) nn))) h
          refine v_topi ex3_15.symm ?_
          refine v_istore_n hk dX4_directed_68 rfl (by decide) [1, 2, 3, 0, 4, 5] (lv' := [(0, .int p0), (1, .int p1), (2, .int x2_14), (3, .int x3_15), (4, .int i4_3), (5, .int i5_7)]) rfl ?_
          obtain ⟨x5_16, ex5_16, h⟩ := lt_e (g := (lpk (lp (b_X4_directed_19 p0 i4_3) nn))) h
          refine v_iinc (v := x5_16) hk dX4_directed_69 rfl (by rw [ex5_16]; rfl) (by decide) [1, 2, 3, 4, 5, 0] (lv' := [(0, .int p0), (1, .int p1), (2, .int x2_14), (3, .int x3_15), (4, .int i4_3), (5, .int x5_16)]) rfl ?_
          refine v_goto (tgt := 19) hk dX4_directed_72 (by decide) ?_
          exact ih x2_14 x3_15 x5_16 h
      · replace h := it_t (g := (lpk (lp (b_X4_directed_19 p0 i4_3) nn))) h hc
        refine v_goto (tgt := 69) hk dX4_directed_36 (by decide) ?_
        obtain ⟨x5_17, ex5_17, h⟩ := lt_e (g := (lpk (lp (b_X4_directed_19 p0 i4_3) nn))) h
        refine v_iinc (v := x5_17) hk dX4_directed_69 rfl (by rw [ex5_17]; rfl) (by decide) [1, 2, 3, 4, 5, 0] (lv' := [(0, .int p0), (1, .int p1), (2, .int i2_5), (3, .int i3_6), (4, .int i4_3), (5, .int x5_17)]) rfl ?_
        refine v_goto (tgt := 19) hk dX4_directed_72 (by decide) ?_
        exact ih i2_5 i3_6 x5_17 h
set_option maxHeartbeats 4000000 in
set_option maxRecDepth 100000 in
theorem L_X4_directed_7 {K : Cx} {R9 : Room} (hk : Ok K cX4_directed 6 RX4 w2_X4_directed R9) (hR9 : RoomGe R9 rm_X4_directed) (p0 : Int32) (p1 : Int32) (b9 : (Int32 × Int32 × Int32)) (kk0 : ∀ q9 : (Int32 × Int32 × Int32), b9 = q9 → V K 6 [] 0 0 81 [(0, .int p0), (1, .int p1), (2, .int q9.1), (3, .int q9.2.1), (4, .int q9.2.2)] []) : ∀ (nn : Nat) (i2_1 : Int32) (i3_2 : Int32) (i4_3 : Int32), lp (b_X4_directed_7 p0) nn (i2_1, i3_2, i4_3) = some b9 → V K 6 [] 0 0 7 [(0, .int p0), (1, .int p1), (2, .int i2_1), (3, .int i3_2), (4, .int i4_3)] [] := by
  intro nn
  induction nn with
  | zero => intro i2_1 i3_2 i4_3 h; exact absurd h (by simp [lp])
  | succ nn ih =>
    intro i2_1 i3_2 i4_3 h
    replace h := lp_s h
    rw [eb_X4_directed_7] at h
    refine v_iload hk dX4_directed_7 rfl ?_
    refine v_iconst (v := 5) hk dX4_directed_9 (by decide) ?_
    refine v_icmp_ge (tgt := 81) hk dX4_directed_10 (by decide) (fun hc => ?_) (fun hc => ?_)
    · replace h := it_t (g := (lpk (lp (b_X4_directed_7 p0) nn))) h hc
      replace h : some (i2_1, i3_2, i4_3) = some b9 := h
      replace h := Option.some.inj h
      subst h
      exact kk0 _ rfl
    · replace h := it_f (g := (lpk (lp (b_X4_directed_7 p0) nn))) h hc
      refine v_iload hk dX4_directed_13 rfl ?_
      refine v_iconst (v := 1) hk dX4_directed_15 (by decide) ?_
      refine v_iadd hk dX4_directed_16 ?_
      obtain ⟨x5_4, ex5_4, h⟩ := lt_e (g := (lpk (lp (b_X4_directed_7 p0) nn))) h
      refine v_topi ex5_4.symm ?_
      refine v_istore hk dX4_directed_17 (by decide) [1, 2, 3, 4, 5, 0] (lv' := [(0, .int p0), (1, .int p1), (2, .int i2_1), (3, .int i3_2), (4, .int i4_3), (5, .int x5_4)]) rfl ?_
      obtain ⟨b_20, eb_20, h⟩ := bd_e (g := (lpk (lp (b_X4_directed_7 p0) nn))) rfl h
      refine L_X4_directed_19 hk hR9 p0 p1 i4_3 b_20 (fun q_18 eq_18 => ?_) FU i2_1 i3_2 x5_4 eb_20
      · replace eq_18 := eq_18.symm
        subst eq_18
        obtain ⟨x4_19, ex4_19, h⟩ := lt_e (g := (lpk (lp (b_X4_directed_7 p0) nn))) h
        refine v_iinc (v := x4_19) hk dX4_directed_75 rfl (by rw [ex4_19]; rfl) (by decide) [1, 2, 3, 4, 0, 5] (lv' := [(0, .int p0), (1, .int p1), (2, .int q_18.1), (3, .int q_18.2.1), (4, .int x4_19), (5, .int q_18.2.2)]) rfl ?_
        refine v_goto (tgt := 7) hk dX4_directed_78 (by decide) ?_
        refine v_loc [0, 1, 2, 3, 4] (lv' := [(0, .int p0), (1, .int p1), (2, .int q_18.1), (3, .int q_18.2.1), (4, .int x4_19)]) rfl ?_
        exact ih q_18.1 q_18.2.1 x4_19 h
set_option maxHeartbeats 4000000 in
set_option maxRecDepth 100000 in
theorem c_X4_directed (l : Launch) (G : GG) (p0 : Int32) (p1 : Int32) (r : Int32) (h : m_X4_directed p0 p1 = some r) : Ctr l G yX4_directed w2_X4_directed rm_X4_directed [.int p0, .int p1] [] (fun v w => v = some (.int r) ∧ w = []) := by
  refine ctr_entry (cc := cX4_directed) (maxL := 6) (ret := some .int) (lv0 := [(0, .int p0), (1, .int p1)]) (by decide) rfl (Nat.le_of_ble_eq_true rfl) (rfl) ?_
  intro K hl9 hG9 hk hn9 hrt
  subst hl9
  subst hG9
  have hR9 : RoomGe rm_X4_directed rm_X4_directed := RoomGe.rf
  replace h := id_e h
  rw [em_X4_directed] at h
  refine v_iconst (v := 0) hk dX4_directed_0 (by decide) ?_
  refine v_istore_n hk dX4_directed_1 rfl (by decide) [1, 2, 0] (lv' := [(0, .int p0), (1, .int p1), (2, .int 0)]) rfl ?_
  refine v_iload_n hk dX4_directed_2 rfl ?_
  refine v_istore_n hk dX4_directed_3 rfl (by decide) [1, 2, 3, 0] (lv' := [(0, .int p0), (1, .int p1), (2, .int 0), (3, .int p1)]) rfl ?_
  refine v_iconst (v := 0) hk dX4_directed_4 (by decide) ?_
  refine v_istore hk dX4_directed_5 (by decide) [1, 2, 3, 4, 0] (lv' := [(0, .int p0), (1, .int p1), (2, .int 0), (3, .int p1), (4, .int 0)]) rfl ?_
  obtain ⟨b_22, eb_22, h⟩ := bd_e (g := id) rfl h
  refine L_X4_directed_7 hk hR9 p0 p1 b_22 (fun q_21 eq_21 => ?_) FU 0 p1 0 eb_22
  · replace eq_21 := eq_21.symm
    subst eq_21
    refine v_iload_n hk dX4_directed_81 rfl ?_
    replace h : some q_21.1 = some r := h
    replace h := Option.some.inj h
    subst h
    refine hrt (some (.int q_21.1)) _ _ _ _ _ (⟨rfl, rfl⟩) (Nat.zero_le _) (Nat.zero_le _) (dX4_directed_82)
abbrev rm_X9_factorial : Room := { frames := 0, cells := 0, slots := 0, locals := 0 }
set_option maxHeartbeats 4000000 in
set_option maxRecDepth 100000 in
theorem c_X9_factorial (l : Launch) (G : GG) (n : Int32) (r : Int64) (h : m_X9_factorial n = some r) : Ctr l G yX9_factorial w2_X9_factorial rm_X9_factorial [.int n] [] (fun v w => v = some (.long r) ∧ w = []) := by
  refine ctr_entry (cc := cX9_factorial) (maxL := 1) (ret := some .long) (lv0 := [(0, .int n)]) (by decide) rfl (Nat.le_of_ble_eq_true rfl) (rfl) ?_
  intro K hl9 hG9 hk hn9 hrt
  subst hl9
  subst hG9
  have hR9 : RoomGe rm_X9_factorial rm_X9_factorial := RoomGe.rf
  obtain ⟨t19, t29, hz19, hT19, hz29, hT29⟩ := hk.sta
  replace h := id_e h
  rw [em_X9_factorial] at h
  refine v_iload_n hk dX9_factorial_0 rfl ?_
  obtain ⟨y_1, ey_1, h⟩ := bd_e (g := id) rfl h
  have Jy_1 : V K 1 [] 0 0 21 [(0, .int n)] [.long y_1] := by
    replace h : some y_1 = some r := h
    replace h := Option.some.inj h
    subst h
    refine hrt (some (.long y_1)) _ _ _ _ _ (⟨rfl, rfl⟩) (Nat.zero_le _) (Nat.zero_le _) (dX9_factorial_21)
  clear h
  have h := id_e ey_1
  clear ey_1
  refine v_if_lt (tgt := 20) hk dX9_factorial_1 (by decide) (fun hc => ?_) (fun hc => ?_)
  · replace h := it_t (g := id) h hc
    refine v_lconst (v := 1) hk dX9_factorial_20 (by decide) ?_
    replace h : some (1 : Int64) = some y_1 := h
    replace h := Option.some.inj h
    subst h
    exact Jy_1
  · replace h := it_f (g := id) h hc
    refine v_iload_n hk dX9_factorial_4 rfl ?_
    refine v_gets hk dX9_factorial_5 hz29 (by decide +kernel) rfl ?_
    refine v_tlen hk dX9_factorial_8 hT29 rfl ?_
    obtain ⟨y_2, ey_2, h⟩ := bd_e (g := id) rfl h
    have Jy_2 : V K 1 [] 0 0 21 [(0, .int n)] [.long y_2] := by
      replace h : some (y_2 : Int64) = some y_1 := h
      replace h := Option.some.inj h
      subst h
      exact Jy_1
    clear h
    have h := id_e ey_2
    clear ey_2
    refine v_icmp_ge (tgt := 20) hk dX9_factorial_9 (by decide) (fun hc => ?_) (fun hc => ?_)
    · replace h := it_t (g := id) h hc
      refine v_lconst (v := 1) hk dX9_factorial_20 (by decide) ?_
      replace h : some (1 : Int64) = some y_2 := h
      replace h := Option.some.inj h
      subst h
      exact Jy_2
    · replace h := it_f (g := id) h hc
      refine v_gets hk dX9_factorial_12 hz29 (by decide +kernel) rfl ?_
      refine v_iload_n hk dX9_factorial_15 rfl ?_
      obtain ⟨hi, h⟩ := ok_e (g := id) rfl h
      refine v_tl hk dX9_factorial_16 hT29 (ix_in hi) rfl ?_
      refine v_goto (tgt := 21) hk dX9_factorial_17 (by decide) ?_
      replace h : some (lN (factAt n.toNatClampNeg) : Int64) = some y_2 := h
      replace h := Option.some.inj h
      subst h
      exact Jy_2
abbrev rm_X9_deals : Room := { frames := 1, cells := 0, slots := 0, locals := 20 }
set_option maxHeartbeats 4000000 in
set_option maxRecDepth 100000 in
theorem c_X9_deals (l : Launch) (G : GG) (p0 : Int32) (p1 : Int32) (p2 : Int32) (r : Int64) (h : m_X9_deals p0 p1 p2 = some r) : Ctr l G yX9_deals w2_X9_deals rm_X9_deals [.int p0, .int p1, .int p2] [] (fun v w => v = some (.long r) ∧ w = []) := by
  refine ctr_entry (cc := cX9_deals) (maxL := 5) (ret := some .long) (lv0 := [(0, .int p0), (1, .int p1), (2, .int p2)]) (by decide) rfl (Nat.le_of_ble_eq_true rfl) (rfl) ?_
  intro K hl9 hG9 hk hn9 hrt
  subst hl9
  subst hG9
  have hR9 : RoomGe rm_X9_deals rm_X9_deals := RoomGe.rf
  obtain ⟨t19, t29, hz19, hT19, hz29, hT29⟩ := hk.sta
  replace h := id_e h
  rw [em_X9_deals] at h
  refine v_iload_n hk dX9_deals_0 rfl ?_
  refine v_if_lt (tgt := 24) hk dX9_deals_1 (by decide) (fun hc => ?_) (fun hc => ?_)
  · replace h := it_t (g := id) h hc
    refine v_lconst (v := 0) hk dX9_deals_24 (by decide) ?_
    replace h : some 0 = some r := h
    replace h := Option.some.inj h
    subst h
    refine hrt (some (.long 0)) _ _ _ _ _ (⟨rfl, rfl⟩) (Nat.zero_le _) (Nat.zero_le _) (dX9_deals_25)
  · replace h := it_f (g := id) h hc
    refine v_iload_n hk dX9_deals_4 rfl ?_
    refine v_if_lt (tgt := 24) hk dX9_deals_5 (by decide) (fun hc => ?_) (fun hc => ?_)
    · replace h := it_t (g := id) h hc
      refine v_lconst (v := 0) hk dX9_deals_24 (by decide) ?_
      replace h : some 0 = some r := h
      replace h := Option.some.inj h
      subst h
      refine hrt (some (.long 0)) _ _ _ _ _ (⟨rfl, rfl⟩) (Nat.zero_le _) (Nat.zero_le _) (dX9_deals_25)
    · replace h := it_f (g := id) h hc
      refine v_iload_n hk dX9_deals_8 rfl ?_
      refine v_if_lt (tgt := 24) hk dX9_deals_9 (by decide) (fun hc => ?_) (fun hc => ?_)
      · replace h := it_t (g := id) h hc
        refine v_lconst (v := 0) hk dX9_deals_24 (by decide) ?_
        replace h : some 0 = some r := h
        replace h := Option.some.inj h
        subst h
        refine hrt (some (.long 0)) _ _ _ _ _ (⟨rfl, rfl⟩) (Nat.zero_le _) (Nat.zero_le _) (dX9_deals_25)
      · replace h := it_f (g := id) h hc
        refine v_iload_n hk dX9_deals_12 rfl ?_
        refine v_iload_n hk dX9_deals_13 rfl ?_
        refine v_iadd hk dX9_deals_14 ?_
        refine v_iload_n hk dX9_deals_15 rfl ?_
        refine v_iadd hk dX9_deals_16 ?_
        refine v_gets hk dX9_deals_17 hz29 (by decide +kernel) rfl ?_
        refine v_tlen hk dX9_deals_20 hT29 rfl ?_
        refine v_icmp_lt (tgt := 26) hk dX9_deals_21 (by decide) (fun hc => ?_) (fun hc => ?_)
        · replace h := it_t (g := id) h hc
          refine v_iload_n hk dX9_deals_26 rfl ?_
          obtain ⟨r_1, er_1, h⟩ := bd_e (g := id) rfl h
          refine v_callS (n := 1) (st := []) hk dX9_deals_27 (c_X9_factorial (kl K) (kG K) p0 r_1 er_1) gd_X9_deals_X9_factorial rfl (by decide +kernel) (frok hR9 (Nat.le_of_ble_eq_true rfl) (Nat.le_of_ble_eq_true rfl)) (roomk hR9 (Nat.le_of_ble_eq_true rfl) (Nat.le_of_ble_eq_true rfl)) rfl rfl (Nat.le_of_ble_eq_true rfl) [] [] (wr := []) rfl rfl (by decide) (by decide) (by decide) ?_
          intro v9 w9 hp9
          obtain ⟨rfl, rfl⟩ := hp9
          show V K 5 [] 0 0 30 [(0, .int p0), (1, .int p1), (2, .int p2)] [.long r_1]
          refine v_iload_n hk dX9_deals_30 rfl ?_
          obtain ⟨r_2, er_2, h⟩ := bd_e (g := id) rfl h
          refine v_callS (n := 1) (st := [.long r_1]) hk dX9_deals_31 (c_X9_factorial (kl K) (kG K) p1 r_2 er_2) gd_X9_deals_X9_factorial rfl (by decide +kernel) (frok hR9 (Nat.le_of_ble_eq_true rfl) (Nat.le_of_ble_eq_true rfl)) (roomk hR9 (Nat.le_of_ble_eq_true rfl) (Nat.le_of_ble_eq_true rfl)) rfl rfl (Nat.le_of_ble_eq_true rfl) [] [] (wr := []) rfl rfl (by decide) (by decide) (by decide) ?_
          intro v9 w9 hp9
          obtain ⟨rfl, rfl⟩ := hp9
          show V K 5 [] 0 0 34 [(0, .int p0), (1, .int p1), (2, .int p2)] [.long r_2, .long r_1]
          refine v_lmul hk dX9_deals_34 ?_
          refine v_iload_n hk dX9_deals_35 rfl ?_
          obtain ⟨r_3, er_3, h⟩ := bd_e (g := id) rfl h
          refine v_callS (n := 1) (st := [.long (r_1 * r_2)]) hk dX9_deals_36 (c_X9_factorial (kl K) (kG K) p2 r_3 er_3) gd_X9_deals_X9_factorial rfl (by decide +kernel) (frok hR9 (Nat.le_of_ble_eq_true rfl) (Nat.le_of_ble_eq_true rfl)) (roomk hR9 (Nat.le_of_ble_eq_true rfl) (Nat.le_of_ble_eq_true rfl)) rfl rfl (Nat.le_of_ble_eq_true rfl) [] [] (wr := []) rfl rfl (by decide) (by decide) (by decide) ?_
          intro v9 w9 hp9
          obtain ⟨rfl, rfl⟩ := hp9
          show V K 5 [] 0 0 39 [(0, .int p0), (1, .int p1), (2, .int p2)] [.long r_3, .long (r_1 * r_2)]
          refine v_lmul hk dX9_deals_39 ?_
          obtain ⟨x3_4, ex3_4, h⟩ := lt_e (g := id) h
          refine v_topl ex3_4.symm ?_
          refine v_lstore_n hk dX9_deals_40 rfl (by decide) [1, 2, 3, 0] (lv' := [(0, .int p0), (1, .int p1), (2, .int p2), (3, .long x3_4)]) rfl ?_
          refine v_lload_n hk dX9_deals_41 rfl ?_
          refine v_lconst (v := 0) hk dX9_deals_42 (by decide) ?_
          refine v_lcmp hk dX9_deals_43 ?_
          refine v_if_le (tgt := 60) hk dX9_deals_44 (by decide) (fun hc => ?_) (fun hc => ?_)
          · replace h := it_t (g := id) h hc
            refine v_lconst (v := 0) hk dX9_deals_60 (by decide) ?_
            replace h : some 0 = some r := h
            replace h := Option.some.inj h
            subst h
            refine hrt (some (.long 0)) _ _ _ _ _ (⟨rfl, rfl⟩) (Nat.zero_le _) (Nat.zero_le _) (dX9_deals_61)
          · replace h := it_f (g := id) h hc
            refine v_iload_n hk dX9_deals_47 rfl ?_
            refine v_iload_n hk dX9_deals_48 rfl ?_
            refine v_iadd hk dX9_deals_49 ?_
            refine v_iload_n hk dX9_deals_50 rfl ?_
            refine v_iadd hk dX9_deals_51 ?_
            obtain ⟨r_5, er_5, h⟩ := bd_e (g := id) rfl h
            refine v_callS (n := 1) (st := []) hk dX9_deals_52 (c_X9_factorial (kl K) (kG K) ((p0 + p1) + p2) r_5 er_5) gd_X9_deals_X9_factorial rfl (by decide +kernel) (frok hR9 (Nat.le_of_ble_eq_true rfl) (Nat.le_of_ble_eq_true rfl)) (roomk hR9 (Nat.le_of_ble_eq_true rfl) (Nat.le_of_ble_eq_true rfl)) rfl rfl (Nat.le_of_ble_eq_true rfl) [] [] (wr := []) rfl rfl (by decide) (by decide) (by decide) ?_
            intro v9 w9 hp9
            obtain ⟨rfl, rfl⟩ := hp9
            show V K 5 [] 0 0 55 [(0, .int p0), (1, .int p1), (2, .int p2), (3, .long x3_4)] [.long r_5]
            refine v_lload_n hk dX9_deals_55 rfl ?_
            obtain ⟨hz, h⟩ := nz_e (g := id) rfl h
            refine v_ldiv hk dX9_deals_56 hz ?_
            refine v_goto (tgt := 61) hk dX9_deals_57 (by decide) ?_
            replace h : some (r_5 / x3_4) = some r := h
            replace h := Option.some.inj h
            subst h
            refine hrt (some (.long (r_5 / x3_4))) _ _ _ _ _ (⟨rfl, rfl⟩) (Nat.zero_le _) (Nat.zero_le _) (dX9_deals_61)
        · replace h := it_f (g := id) h hc
          refine v_lconst (v := 0) hk dX9_deals_24 (by decide) ?_
          replace h : some 0 = some r := h
          replace h := Option.some.inj h
          subst h
          refine hrt (some (.long 0)) _ _ _ _ _ (⟨rfl, rfl⟩) (Nat.zero_le _) (Nat.zero_le _) (dX9_deals_25)
abbrev rm_X10_isPart : Room := { frames := 0, cells := 0, slots := 0, locals := 0 }
set_option maxHeartbeats 4000000 in
set_option maxRecDepth 100000 in
theorem c_X10_isPart (l : Launch) (G : GG) (part : Int32) (r : Int32) (h : m_X10_isPart part = some r) : Ctr l G yX10_isPart w2_X10_isPart rm_X10_isPart [.int part] [] (fun v w => v = some (.int r) ∧ w = []) := by
  refine ctr_entry (cc := cX10_isPart) (maxL := 1) (ret := some .boolean) (lv0 := [(0, .int part)]) (by decide) rfl (Nat.le_of_ble_eq_true rfl) (rfl) ?_
  intro K hl9 hG9 hk hn9 hrt
  subst hl9
  subst hG9
  have hR9 : RoomGe rm_X10_isPart rm_X10_isPart := RoomGe.rf
  replace h := id_e h
  rw [em_X10_isPart] at h
  refine v_iload_n hk dX10_isPart_0 rfl ?_
  obtain ⟨y_1, ey_1, h⟩ := bd_e (g := id) rfl h
  have Jy_1 : V K 1 [] 0 0 14 [(0, .int part)] [.int y_1] := by
    obtain ⟨hbz, h⟩ := ok_e (g := id) rfl h
    replace h : some y_1 = some r := h
    replace h := Option.some.inj h
    subst h
    refine hrt (some (.int y_1)) _ _ _ _ _ (⟨rfl, rfl⟩) (Nat.zero_le _) (Nat.zero_le _) (⟨dX10_isPart_14, nar_z _ (of_decide_eq_true hbz)⟩)
  clear h
  have h := id_e ey_1
  clear ey_1
  refine v_if_eq (tgt := 9) hk dX10_isPart_1 (by decide) (fun hc => ?_) (fun hc => ?_)
  · replace h := it_t (g := id) h hc
    refine v_iconst (v := 1) hk dX10_isPart_9 (by decide) ?_
    refine v_goto (tgt := 14) hk dX10_isPart_10 (by decide) ?_
    replace h : some (1 : Int32) = some y_1 := h
    replace h := Option.some.inj h
    subst h
    exact Jy_1
  · replace h := it_f (g := id) h hc
    refine v_iload_n hk dX10_isPart_4 rfl ?_
    refine v_iconst (v := 1) hk dX10_isPart_5 (by decide) ?_
    obtain ⟨z_2, ez_2, h⟩ := lt_e (g := id) h
    have Jz_2 : V K 1 [] 0 0 14 [(0, .int part)] (.int z_2 :: []) := by
      replace h : some (z_2 : Int32) = some y_1 := h
      replace h := Option.some.inj h
      subst h
      exact Jy_1
    refine v_icmp_ne (tgt := 13) hk dX10_isPart_6 (by decide) (fun hc => ?_) (fun hc => ?_)
    · rw [if_neg hc] at ez_2
      subst ez_2
      refine v_iconst (v := 0) hk dX10_isPart_13 (by decide) ?_
      exact Jz_2
    · rw [if_pos hc] at ez_2
      subst ez_2
      refine v_iconst (v := 1) hk dX10_isPart_9 (by decide) ?_
      refine v_goto (tgt := 14) hk dX10_isPart_10 (by decide) ?_
      exact Jz_2
