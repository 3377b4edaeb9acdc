abbrev rm_X1_length : Room := { frames := 0, cells := 0, slots := 0, locals := 0 }
set_option maxHeartbeats 4000000 in
set_option maxRecDepth 100000 in
theorem c_X1_length (l : Launch) (G : GG) (adb : Nat) (adw : Nat) (u : Int32) (nw : Nat) (fw : Nat → Int64) (r : Int32) (h : m_X1_length u nw fw = some r) : Ctr l G yX1_length w2_X1_length rm_X1_length [.ref adb] [(adb, .inr (0, [.ref adw, .int u])), (adw, .inl (gJ G, nw, .inr (.inl fw)))] (fun v w => v = some (.int r) ∧ w = [(adb, .inr (0, [.ref adw, .int u])), (adw, .inl (gJ G, nw, .inr (.inl fw)))]) := by
  refine ctr_entry (cc := cX1_length) (maxL := 1) (ret := some .int) (lv0 := [(0, .ref adb)]) (by decide) rfl (Nat.le_of_ble_eq_true rfl) (rfl) ?_
  intro K hl9 hG9 hk hn9 hrt
  subst hl9
  subst hG9
  have hR9 : RoomGe rm_X1_length rm_X1_length := RoomGe.rf
  replace h := id_e h
  rw [em_X1_length] at h
  refine v_aload_n hk dX1_length_0 rfl ?_
  refine v_get (C := RX1) (T := TX1) (N := 2) (ci := 0) (v := .int u) hk dX1_length_1 w2i_X1_length_X10 0 rfl rfl 1 (by decide) (by decide +kernel) rfl rfl ?_
  replace h : some u = some r := h
  replace h := Option.some.inj h
  subst h
  refine hrt (some (.int u)) _ _ _ _ _ (⟨rfl, rfl⟩) (Nat.zero_le _) (Nat.zero_le _) (dX1_length_4)
abbrev rm_X1_at : Room := { frames := 0, cells := 0, slots := 0, locals := 0 }
set_option maxHeartbeats 4000000 in
set_option maxRecDepth 100000 in
theorem c_X1_at (l : Launch) (G : GG) (adb : Nat) (adw : Nat) (u : Int32) (nw : Nat) (fw : Nat → Int64) (i : Int32) (r : Int64) (h : m_X1_at u nw fw i = some r) : Ctr l G yX1_at w2_X1_at rm_X1_at [.ref adb, .int i] [(adb, .inr (0, [.ref adw, .int u])), (adw, .inl (gJ G, nw, .inr (.inl fw)))] (fun v w => v = some (.long r) ∧ w = [(adb, .inr (0, [.ref adw, .int u])), (adw, .inl (gJ G, nw, .inr (.inl fw)))]) := by
  refine ctr_entry (cc := cX1_at) (maxL := 2) (ret := some .long) (lv0 := [(0, .ref adb), (1, .int i)]) (by decide) rfl (Nat.le_of_ble_eq_true rfl) (rfl) ?_
  intro K hl9 hG9 hk hn9 hrt
  subst hl9
  subst hG9
  have hR9 : RoomGe rm_X1_at rm_X1_at := RoomGe.rf
  replace h := id_e h
  rw [em_X1_at] at h
  refine v_iload_n hk dX1_at_0 rfl ?_
  obtain ⟨y_1, ey_1, h⟩ := bd_e (g := id) rfl h
  have Jy_1 : V K 2 [(adb, .inr (0, [.ref adw, .int u])), (adw, .inl (gJ (kG K), nw, .inr (.inl fw)))] 0 0 31 [(0, .ref adb), (1, .int i)] [.long y_1] := by
    replace h : some y_1 = some r := h
    replace h := Option.some.inj h
    subst h
    refine hrt (some (.long y_1)) _ _ _ _ _ (⟨rfl, rfl⟩) (Nat.zero_le _) (Nat.zero_le _) (dX1_at_31)
  clear h
  have h := id_e ey_1
  clear ey_1
  refine v_if_lt (tgt := 30) hk dX1_at_1 (by decide) (fun hc => ?_) (fun hc => ?_)
  · replace h := it_t (g := id) h hc
    refine v_lconst (v := 0) hk dX1_at_30 (by decide) ?_
    replace h : some (0 : Int64) = some y_1 := h
    replace h := Option.some.inj h
    subst h
    exact Jy_1
  · replace h := it_f (g := id) h hc
    refine v_iload_n hk dX1_at_4 rfl ?_
    refine v_aload_n hk dX1_at_5 rfl ?_
    refine v_get (C := RX1) (T := TX1) (N := 2) (ci := 0) (v := .int u) hk dX1_at_6 w2i_X1_at_X10 0 rfl rfl 1 (by decide) (by decide +kernel) rfl rfl ?_
    obtain ⟨y_2, ey_2, h⟩ := bd_e (g := id) rfl h
    have Jy_2 : V K 2 [(adb, .inr (0, [.ref adw, .int u])), (adw, .inl (gJ (kG K), nw, .inr (.inl fw)))] 0 0 31 [(0, .ref adb), (1, .int i)] [.long y_2] := by
      replace h : some (y_2 : Int64) = some y_1 := h
      replace h := Option.some.inj h
      subst h
      exact Jy_1
    clear h
    have h := id_e ey_2
    clear ey_2
    refine v_icmp_ge (tgt := 30) hk dX1_at_9 (by decide) (fun hc => ?_) (fun hc => ?_)
    · replace h := it_t (g := id) h hc
      refine v_lconst (v := 0) hk dX1_at_30 (by decide) ?_
      replace h : some (0 : Int64) = some y_2 := h
      replace h := Option.some.inj h
      subst h
      exact Jy_2
    · replace h := it_f (g := id) h hc
      refine v_iload_n hk dX1_at_12 rfl ?_
      refine v_aload_n hk dX1_at_13 rfl ?_
      refine v_get (C := RX1) (T := TX1) (N := 2) (ci := 0) (v := .ref adw) hk dX1_at_14 w2i_X1_at_X10 0 rfl rfl 0 (by decide) (by decide +kernel) rfl rfl ?_
      refine v_alenJ hk dX1_at_17 1 rfl rfl ?_
      obtain ⟨y_3, ey_3, h⟩ := bd_e (g := id) rfl h
      have Jy_3 : V K 2 [(adb, .inr (0, [.ref adw, .int u])), (adw, .inl (gJ (kG K), nw, .inr (.inl fw)))] 0 0 31 [(0, .ref adb), (1, .int i)] [.long y_3] := by
        replace h : some (y_3 : Int64) = some y_2 := h
        replace h := Option.some.inj h
        subst h
        exact Jy_2
      clear h
      have h := id_e ey_3
      clear ey_3
      refine v_icmp_ge (tgt := 30) hk dX1_at_18 (by decide) (fun hc => ?_) (fun hc => ?_)
      · replace h := it_t (g := id) h hc
        refine v_lconst (v := 0) hk dX1_at_30 (by decide) ?_
        replace h : some (0 : Int64) = some y_3 := h
        replace h := Option.some.inj h
        subst h
        exact Jy_3
      · replace h := it_f (g := id) h hc
        refine v_aload_n hk dX1_at_21 rfl ?_
        refine v_get (C := RX1) (T := TX1) (N := 2) (ci := 0) (v := .ref adw) hk dX1_at_22 w2i_X1_at_X10 0 rfl rfl 0 (by decide) (by decide +kernel) rfl rfl ?_
        refine v_iload_n hk dX1_at_25 rfl ?_
        obtain ⟨hi, h⟩ := ok_e (g := id) rfl h
        refine v_laldV hk dX1_at_26 1 rfl (ix_in hi) ?_
        refine v_goto (tgt := 31) hk dX1_at_27 (by decide) ?_
        replace h : some (fw i.toNatClampNeg : Int64) = some y_3 := h
        replace h := Option.some.inj h
        subst h
        exact Jy_3
abbrev rm_X1_become : Room := { frames := 0, cells := 0, slots := 0, locals := 0 }
set_option maxHeartbeats 4000000 in
set_option maxRecDepth 100000 in
theorem c_X1_become (l : Launch) (G : GG) (adb : Nat) (adw : Nat) (u : Int32) (nw : Nat) (fw : Nat → Int64) (s : Int32) (r : Int32 × (Nat → Int64)) (h : m_X1_become u nw fw s = some r) : Ctr l G yX1_become w2_X1_become rm_X1_become [.ref adb, .int s] [(adb, .inr (0, [.ref adw, .int u])), (adw, .inl (gJ G, nw, .inr (.inl fw)))] (fun v w => v = none ∧ w = [(adb, .inr (0, [.ref adw, .int r.1])), (adw, .inl (gJ G, nw, .inr (.inl r.2)))]) := by
  refine ctr_entry (cc := cX1_become) (maxL := 2) (ret := none) (lv0 := [(0, .ref adb), (1, .int s)]) (by decide) rfl (Nat.le_of_ble_eq_true rfl) (rfl) ?_
  intro K hl9 hG9 hk hn9 hrt
  subst hl9
  subst hG9
  have hR9 : RoomGe rm_X1_become rm_X1_become := RoomGe.rf
  replace h := id_e h
  rw [em_X1_become] at h
  refine v_aload_n hk dX1_become_0 rfl ?_
  refine v_iconst (v := 0) hk dX1_become_1 (by decide) ?_
  refine v_put (C := RX1) (T := TX1) (N := 2) (ci := 0) (v := .int 0) (ty := .int) hk dX1_become_2 w2i_X1_become_X10 tyX1 tyX1_ok nmX1 0 rfl rfl 1 (by decide) (by decide +kernel) rfl rfl (by decide +kernel) rfl rfl (Nat.le_of_ble_eq_true rfl) (ws' := [(adb, .inr (0, [.ref adw, .int 0])), (adw, .inl (gJ (kG K), nw, .inr (.inl fw)))]) rfl ?_
  refine v_iload_n hk dX1_become_5 rfl ?_
  refine v_if_le (tgt := 30) hk dX1_become_6 (by decide) (fun hc => ?_) (fun hc => ?_)
  · replace h := it_t (g := id) h hc
    replace h : some (0, fw) = some r := h
    replace h := Option.some.inj h
    subst h
    refine hrt (none) _ _ _ _ _ (⟨rfl, rfl⟩) (Nat.zero_le _) (Nat.zero_le _) (dX1_become_30)
  · replace h := it_f (g := id) h hc
    refine v_aload_n hk dX1_become_9 rfl ?_
    refine v_get (C := RX1) (T := TX1) (N := 2) (ci := 0) (v := .ref adw) hk dX1_become_10 w2i_X1_become_X10 0 rfl rfl 0 (by decide) (by decide +kernel) rfl rfl ?_
    refine v_alenJ hk dX1_become_13 1 rfl rfl ?_
    refine v_if_le (tgt := 30) hk dX1_become_14 (by decide) (fun hc => ?_) (fun hc => ?_)
    · replace h := it_t (g := id) h hc
      replace h : some (0, fw) = some r := h
      replace h := Option.some.inj h
      subst h
      refine hrt (none) _ _ _ _ _ (⟨rfl, rfl⟩) (Nat.zero_le _) (Nat.zero_le _) (dX1_become_30)
    · replace h := it_f (g := id) h hc
      refine v_aload_n hk dX1_become_17 rfl ?_
      refine v_get (C := RX1) (T := TX1) (N := 2) (ci := 0) (v := .ref adw) hk dX1_become_18 w2i_X1_become_X10 0 rfl rfl 0 (by decide) (by decide +kernel) rfl rfl ?_
      refine v_iconst (v := 0) hk dX1_become_21 (by decide) ?_
      refine v_iload_n hk dX1_become_22 rfl ?_
      refine v_i2l hk dX1_become_23 ?_
      obtain ⟨hi, h⟩ := ok_e (g := id) rfl h
      obtain ⟨fw_1, efw_1, h⟩ := lt_e (g := id) h
      refine v_lastV hk dX1_become_24 1 rfl (ix_in hi) (ws' := [(adb, .inr (0, [.ref adw, .int 0])), (adw, .inl (gJ (kG K), nw, .inr (.inl fw_1)))]) (by rw [efw_1]; rfl) ?_
      refine v_aload_n hk dX1_become_25 rfl ?_
      refine v_iconst (v := 1) hk dX1_become_26 (by decide) ?_
      refine v_put (C := RX1) (T := TX1) (N := 2) (ci := 0) (v := .int 1) (ty := .int) hk dX1_become_27 w2i_X1_become_X10 tyX1 tyX1_ok nmX1 0 rfl rfl 1 (by decide) (by decide +kernel) rfl rfl (by decide +kernel) rfl rfl (Nat.le_of_ble_eq_true rfl) (ws' := [(adb, .inr (0, [.ref adw, .int 1])), (adw, .inl (gJ (kG K), nw, .inr (.inl fw_1)))]) rfl ?_
      replace h : some (1, fw_1) = some r := h
      replace h := Option.some.inj h
      subst h
      refine hrt (none) _ _ _ _ _ (⟨rfl, rfl⟩) (Nat.zero_le _) (Nat.zero_le _) (dX1_become_30)
abbrev rm_X1_widen : Room := { frames := 1, cells := 0, slots := 0, locals := 21 }
set_option maxHeartbeats 4000000 in
set_option maxRecDepth 100000 in
theorem L_X1_widen_15 {K : Cx} {R9 : Room} (hk : Ok K cX1_widen 4 RX1 w2_X1_widen R9) (hR9 : RoomGe R9 rm_X1_widen) (adb : Nat) (adw : Nat) (u : Int32) (nw : Nat) (n : Int32) (x2_1 : Int32) (b9 : (Int32 × (Nat → Int64))) (kk0 : ∀ q9 : (Int32 × (Nat → Int64)), b9 = q9 → V K 4 [(adb, .inr (0, [.ref adw, .int u])), (adw, .inl (gJ (kG K), nw, .inr (.inl q9.2)))] 0 0 33 [(0, .ref adb), (1, .int n), (2, .int x2_1), (3, .int q9.1)] []) : ∀ (nn : Nat) (i3_2 : Int32) (fw_3 : Nat → Int64), lp (b_X1_widen_15 nw x2_1) nn (i3_2, fw_3) = some b9 → V K 4 [(adb, .inr (0, [.ref adw, .int u])), (adw, .inl (gJ (kG K), nw, .inr (.inl fw_3)))] 0 0 15 [(0, .ref adb), (1, .int n), (2, .int x2_1), (3, .int i3_2)] [] := by
  intro nn
  induction nn with
  | zero => intro i3_2 fw_3 h; exact absurd h (by simp [lp])
  | succ nn ih =>
    intro i3_2 fw_3 h
    replace h := lp_s h
    rw [eb_X1_widen_15] at h
    refine v_iload_n hk dX1_widen_15 rfl ?_
    refine v_iload_n hk dX1_widen_16 rfl ?_
    refine v_icmp_ge (tgt := 33) hk dX1_widen_17 (by decide) (fun hc => ?_) (fun hc => ?_)
    · replace h := it_t (g := (lpk (lp (b_X1_widen_15 nw x2_1) nn))) h hc
      replace h : some (i3_2, fw_3) = some b9 := h
      replace h := Option.some.inj h
      subst h
      exact kk0 _ rfl
    · replace h := it_f (g := (lpk (lp (b_X1_widen_15 nw x2_1) nn))) h hc
      refine v_aload_n hk dX1_widen_20 rfl ?_
      refine v_get (C := RX1) (T := TX1) (N := 2) (ci := 0) (v := .ref adw) hk dX1_widen_21 w2i_X1_widen_X10 0 rfl rfl 0 (by decide) (by decide +kernel) rfl rfl ?_
      refine v_iload_n hk dX1_widen_24 rfl ?_
      refine v_lconst (v := 0) hk dX1_widen_25 (by decide) ?_
      obtain ⟨hi, h⟩ := ok_e (g := (lpk (lp (b_X1_widen_15 nw x2_1) nn))) rfl h
      obtain ⟨fw_4, efw_4, h⟩ := lt_e (g := (lpk (lp (b_X1_widen_15 nw x2_1) nn))) h
      refine v_lastV hk dX1_widen_26 1 rfl (ix_in hi) (ws' := [(adb, .inr (0, [.ref adw, .int u])), (adw, .inl (gJ (kG K), nw, .inr (.inl fw_4)))]) (by rw [efw_4]; rfl) ?_
      obtain ⟨x3_5, ex3_5, h⟩ := lt_e (g := (lpk (lp (b_X1_widen_15 nw x2_1) nn))) h
      refine v_iinc (v := x3_5) hk dX1_widen_27 rfl (by rw [ex3_5]; rfl) (by decide) [1, 2, 3, 0] (lv' := [(0, .ref adb), (1, .int n), (2, .int x2_1), (3, .int x3_5)]) rfl ?_
      refine v_goto (tgt := 15) hk dX1_widen_30 (by decide) ?_
      exact ih x3_5 fw_4 h
set_option maxHeartbeats 4000000 in
set_option maxRecDepth 100000 in
theorem c_X1_widen (l : Launch) (G : GG) (adb : Nat) (adw : Nat) (u : Int32) (nw : Nat) (fw : Nat → Int64) (n : Int32) (r : Int32 × (Nat → Int64)) (h : m_X1_widen u nw fw n = some r) : Ctr l G yX1_widen w2_X1_widen rm_X1_widen [.ref adb, .int n] [(adb, .inr (0, [.ref adw, .int u])), (adw, .inl (gJ G, nw, .inr (.inl fw)))] (fun v w => v = none ∧ w = [(adb, .inr (0, [.ref adw, .int r.1])), (adw, .inl (gJ G, nw, .inr (.inl r.2)))]) := by
  refine ctr_entry (cc := cX1_widen) (maxL := 4) (ret := none) (lv0 := [(0, .ref adb), (1, .int n)]) (by decide) rfl (Nat.le_of_ble_eq_true rfl) (rfl) ?_
  intro K hl9 hG9 hk hn9 hrt
  subst hl9
  subst hG9
  have hR9 : RoomGe rm_X1_widen rm_X1_widen := RoomGe.rf
  replace h := id_e h
  rw [em_X1_widen] at h
  refine v_iload_n hk dX1_widen_0 rfl ?_
  refine v_aload_n hk dX1_widen_1 rfl ?_
  refine v_get (C := RX1) (T := TX1) (N := 2) (ci := 0) (v := .ref adw) hk dX1_widen_2 w2i_X1_widen_X10 0 rfl rfl 0 (by decide) (by decide +kernel) rfl rfl ?_
  refine v_alenJ hk dX1_widen_5 1 rfl rfl ?_
  refine v_mmin hk dX1_widen_6 (by decide +kernel) (by decide +kernel) (by decide +kernel) (by decide +kernel) (Nat.le_trans (by decide) hR9.1) (Nat.le_trans (Nat.le_of_ble_eq_true rfl) hR9.2.2.2) (Nat.zero_le _) (Nat.zero_le _) ?_
  obtain ⟨x2_1, ex2_1, h⟩ := lt_e (g := id) h
  refine v_topi ex2_1.symm ?_
  refine v_istore_n hk dX1_widen_9 rfl (by decide) [1, 2, 0] (lv' := [(0, .ref adb), (1, .int n), (2, .int x2_1)]) rfl ?_
  refine v_aload_n hk dX1_widen_10 rfl ?_
  refine v_get (C := RX1) (T := TX1) (N := 2) (ci := 0) (v := .int u) hk dX1_widen_11 w2i_X1_widen_X10 0 rfl rfl 1 (by decide) (by decide +kernel) rfl rfl ?_
  refine v_istore_n hk dX1_widen_14 rfl (by decide) [1, 2, 3, 0] (lv' := [(0, .ref adb), (1, .int n), (2, .int x2_1), (3, .int u)]) rfl ?_
  obtain ⟨b_8, eb_8, h⟩ := bd_e (g := id) rfl h
  refine L_X1_widen_15 hk hR9 adb adw u nw n x2_1 b_8 (fun q_6 eq_6 => ?_) FU u fw eb_8
  · replace eq_6 := eq_6.symm
    subst eq_6
    refine v_aload_n hk dX1_widen_33 rfl ?_
    refine v_aload_n hk dX1_widen_34 rfl ?_
    refine v_get (C := RX1) (T := TX1) (N := 2) (ci := 0) (v := .int u) hk dX1_widen_35 w2i_X1_widen_X10 0 rfl rfl 1 (by decide) (by decide +kernel) rfl rfl ?_
    refine v_iload_n hk dX1_widen_38 rfl ?_
    refine v_mmax hk dX1_widen_39 (by decide +kernel) (by decide +kernel) (by decide +kernel) (by decide +kernel) (Nat.le_trans (by decide) hR9.1) (Nat.le_trans (Nat.le_of_ble_eq_true rfl) hR9.2.2.2) (Nat.zero_le _) (Nat.zero_le _) ?_
    obtain ⟨vused_7, evused_7, h⟩ := lt_e (g := id) h
    refine v_topi evused_7.symm ?_
    refine v_put (C := RX1) (T := TX1) (N := 2) (ci := 0) (v := .int vused_7) (ty := .int) hk dX1_widen_42 w2i_X1_widen_X10 tyX1 tyX1_ok nmX1 0 rfl rfl 1 (by decide) (by decide +kernel) rfl rfl (by decide +kernel) rfl rfl (Nat.le_of_ble_eq_true rfl) (ws' := [(adb, .inr (0, [.ref adw, .int vused_7])), (adw, .inl (gJ (kG K), nw, .inr (.inl q_6.2)))]) rfl ?_
    replace h : some (vused_7, q_6.2) = some r := h
    replace h := Option.some.inj h
    subst h
    refine hrt (none) _ _ _ _ _ (⟨rfl, rfl⟩) (Nat.zero_le _) (Nat.zero_le _) (dX1_widen_45)
abbrev rm_X1_trim : Room := { frames := 1, cells := 0, slots := 0, locals := 21 }
set_option maxHeartbeats 4000000 in
set_option maxRecDepth 100000 in
theorem L_X1_trim_15 {K : Cx} {R9 : Room} (hk : Ok K cX1_trim 2 RX1 w2_X1_trim R9) (hR9 : RoomGe R9 rm_X1_trim) (adb : Nat) (adw : Nat) (nw : Nat) (fw : Nat → Int64) (b9 : (Int32 × Int32)) (kk0 : ∀ q9 : (Int32 × Int32), b9 = q9 → V K 2 [(adb, .inr (0, [.ref adw, .int q9.2])), (adw, .inl (gJ (kG K), nw, .inr (.inl fw)))] 0 0 41 [(0, .ref adb), (1, .int q9.1)] []) : ∀ (nn : Nat) (i1_2 : Int32) (pb_3 : Int32), lp (b_X1_trim_15 nw fw) nn (i1_2, pb_3) = some b9 → V K 2 [(adb, .inr (0, [.ref adw, .int pb_3])), (adw, .inl (gJ (kG K), nw, .inr (.inl fw)))] 0 0 15 [(0, .ref adb), (1, .int i1_2)] [] := by
  intro nn
  induction nn with
  | zero => intro i1_2 pb_3 h; exact absurd h (by simp [lp])
  | succ nn ih =>
    intro i1_2 pb_3 h
    replace h := lp_s h
    rw [eb_X1_trim_15] at h
    refine v_iload_n hk dX1_trim_15 rfl ?_
    refine v_if_lt (tgt := 41) hk dX1_trim_16 (by decide) (fun hc => ?_) (fun hc => ?_)
    · replace h := it_t (g := (lpk (lp (b_X1_trim_15 nw fw) nn))) h hc
      replace h : some (i1_2, pb_3) = some b9 := h
      replace h := Option.some.inj h
      subst h
      exact kk0 _ rfl
    · replace h := it_f (g := (lpk (lp (b_X1_trim_15 nw fw) nn))) h hc
      refine v_aload_n hk dX1_trim_19 rfl ?_
      refine v_get (C := RX1) (T := TX1) (N := 2) (ci := 0) (v := .ref adw) hk dX1_trim_20 w2i_X1_trim_X10 0 rfl rfl 0 (by decide) (by decide +kernel) rfl rfl ?_
      refine v_iload_n hk dX1_trim_23 rfl ?_
      obtain ⟨hi, h⟩ := ok_e (g := (lpk (lp (b_X1_trim_15 nw fw) nn))) rfl h
      refine v_laldV hk dX1_trim_24 1 rfl (ix_in hi) ?_
      refine v_lconst (v := 0) hk dX1_trim_25 (by decide) ?_
      refine v_lcmp hk dX1_trim_26 ?_
      refine v_if_ne (tgt := 41) hk dX1_trim_27 (by decide) (fun hc => ?_) (fun hc => ?_)
      · replace h := it_f (g := (lpk (lp (b_X1_trim_15 nw fw) nn))) h hc
        replace h : some (i1_2, pb_3) = some b9 := h
        replace h := Option.some.inj h
        subst h
        exact kk0 _ rfl
      · replace h := it_t (g := (lpk (lp (b_X1_trim_15 nw fw) nn))) h hc
        refine v_aload_n hk dX1_trim_30 rfl ?_
        refine v_iload_n hk dX1_trim_31 rfl ?_
        refine v_put (C := RX1) (T := TX1) (N := 2) (ci := 0) (v := .int i1_2) (ty := .int) hk dX1_trim_32 w2i_X1_trim_X10 tyX1 tyX1_ok nmX1 0 rfl rfl 1 (by decide) (by decide +kernel) rfl rfl (by decide +kernel) rfl rfl (Nat.le_of_ble_eq_true rfl) (ws' := [(adb, .inr (0, [.ref adw, .int i1_2])), (adw, .inl (gJ (kG K), nw, .inr (.inl fw)))]) rfl ?_
        obtain ⟨x1_4, ex1_4, h⟩ := lt_e (g := (lpk (lp (b_X1_trim_15 nw fw) nn))) h
        refine v_iinc (v := x1_4) hk dX1_trim_35 rfl (by rw [ex1_4]; rfl) (by decide) [1, 0] (lv' := [(0, .ref adb), (1, .int x1_4)]) rfl ?_
        refine v_goto (tgt := 15) hk dX1_trim_38 (by decide) ?_
        exact ih x1_4 i1_2 h
set_option maxHeartbeats 4000000 in
set_option maxRecDepth 100000 in
theorem c_X1_trim (l : Launch) (G : GG) (adb : Nat) (adw : Nat) (u : Int32) (nw : Nat) (fw : Nat → Int64) (r : Int32) (h : m_X1_trim u nw fw = some r) : Ctr l G yX1_trim w2_X1_trim rm_X1_trim [.ref adb] [(adb, .inr (0, [.ref adw, .int u])), (adw, .inl (gJ G, nw, .inr (.inl fw)))] (fun v w => v = none ∧ w = [(adb, .inr (0, [.ref adw, .int r])), (adw, .inl (gJ G, nw, .inr (.inl fw)))]) := by
  refine ctr_entry (cc := cX1_trim) (maxL := 2) (ret := none) (lv0 := [(0, .ref adb)]) (by decide) rfl (Nat.le_of_ble_eq_true rfl) (rfl) ?_
  intro K hl9 hG9 hk hn9 hrt
  subst hl9
  subst hG9
  have hR9 : RoomGe rm_X1_trim rm_X1_trim := RoomGe.rf
  replace h := id_e h
  rw [em_X1_trim] at h
  refine v_aload_n hk dX1_trim_0 rfl ?_
  refine v_get (C := RX1) (T := TX1) (N := 2) (ci := 0) (v := .int u) hk dX1_trim_1 w2i_X1_trim_X10 0 rfl rfl 1 (by decide) (by decide +kernel) rfl rfl ?_
  refine v_aload_n hk dX1_trim_4 rfl ?_
  refine v_get (C := RX1) (T := TX1) (N := 2) (ci := 0) (v := .ref adw) hk dX1_trim_5 w2i_X1_trim_X10 0 rfl rfl 0 (by decide) (by decide +kernel) rfl rfl ?_
  refine v_alenJ hk dX1_trim_8 1 rfl rfl ?_
  refine v_mmin hk dX1_trim_9 (by decide +kernel) (by decide +kernel) (by decide +kernel) (by decide +kernel) (Nat.le_trans (by decide) hR9.1) (Nat.le_trans (Nat.le_of_ble_eq_true rfl) hR9.2.2.2) (Nat.zero_le _) (Nat.zero_le _) ?_
  refine v_iconst (v := 1) hk dX1_trim_12 (by decide) ?_
  refine v_isub hk dX1_trim_13 ?_
  obtain ⟨x1_1, ex1_1, h⟩ := lt_e (g := id) h
  refine v_topi ex1_1.symm ?_
  refine v_istore_n hk dX1_trim_14 rfl (by decide) [1, 0] (lv' := [(0, .ref adb), (1, .int x1_1)]) rfl ?_
  obtain ⟨b_6, eb_6, h⟩ := bd_e (g := id) rfl h
  refine L_X1_trim_15 hk hR9 adb adw nw fw b_6 (fun q_5 eq_5 => ?_) FU x1_1 u eb_6
  · replace eq_5 := eq_5.symm
    subst eq_5
    replace h : some q_5.2 = some r := h
    replace h := Option.some.inj h
    subst h
    refine hrt (none) _ _ _ _ _ (⟨rfl, rfl⟩) (Nat.zero_le _) (Nat.zero_le _) (dX1_trim_41)
abbrev rm_X1_copy : Room := { frames := 1, cells := 0, slots := 0, locals := 40 }
set_option maxHeartbeats 4000000 in
set_option maxRecDepth 100000 in
theorem c_X1_copy (l : Launch) (G : GG) (adb : Nat) (adw : Nat) (adb2 : Nat) (adw2 : Nat) (u : Int32) (nw : Nat) (fw : Nat → Int64) (u2 : Int32) (nw2 : Nat) (fw2 : Nat → Int64) (r : Int32 × (Nat → Int64)) (h : m_X1_copy u nw fw u2 nw2 fw2 = some r) : Ctr l G yX1_copy w2_X1_copy rm_X1_copy [.ref adb, .ref adb2] [(adb, .inr (0, [.ref adw, .int u])), (adw, .inl (gJ G, nw, .inr (.inl fw))), (adb2, .inr (0, [.ref adw2, .int u2])), (adw2, .inl (gJ G, nw2, .inr (.inl fw2)))] (fun v w => v = none ∧ w = [(adb, .inr (0, [.ref adw, .int r.1])), (adw, .inl (gJ G, nw, .inr (.inl r.2))), (adb2, .inr (0, [.ref adw2, .int u2])), (adw2, .inl (gJ G, nw2, .inr (.inl fw2)))]) := by
  refine ctr_entry (cc := cX1_copy) (maxL := 2) (ret := none) (lv0 := [(0, .ref adb), (1, .ref adb2)]) (by decide) rfl (Nat.le_of_ble_eq_true rfl) (rfl) ?_
  intro K hl9 hG9 hk hn9 hrt
  subst hl9
  subst hG9
  have hR9 : RoomGe rm_X1_copy rm_X1_copy := RoomGe.rf
  replace h := id_e h
  rw [em_X1_copy] at h
  refine v_aload_n hk dX1_copy_0 rfl ?_
  refine v_aload_n hk dX1_copy_1 rfl ?_
  refine v_get (C := RX1) (T := TX1) (N := 2) (ci := 0) (v := .int u2) hk dX1_copy_2 w2i_X1_copy_X10 2 rfl rfl 1 (by decide) (by decide +kernel) rfl rfl ?_
  refine v_aload_n hk dX1_copy_5 rfl ?_
  refine v_get (C := RX1) (T := TX1) (N := 2) (ci := 0) (v := .ref adw) hk dX1_copy_6 w2i_X1_copy_X10 0 rfl rfl 0 (by decide) (by decide +kernel) rfl rfl ?_
  refine v_alenJ hk dX1_copy_9 1 rfl rfl ?_
  refine v_aload_n hk dX1_copy_10 rfl ?_
  refine v_get (C := RX1) (T := TX1) (N := 2) (ci := 0) (v := .ref adw2) hk dX1_copy_11 w2i_X1_copy_X10 2 rfl rfl 0 (by decide) (by decide +kernel) rfl rfl ?_
  refine v_alenJ hk dX1_copy_14 3 rfl rfl ?_
  refine v_mmin hk dX1_copy_15 (by decide +kernel) (by decide +kernel) (by decide +kernel) (by decide +kernel) (Nat.le_trans (by decide) hR9.1) (Nat.le_trans (Nat.le_of_ble_eq_true rfl) hR9.2.2.2) (Nat.zero_le _) (Nat.zero_le _) ?_
  refine v_mmin hk dX1_copy_18 (by decide +kernel) (by decide +kernel) (by decide +kernel) (by decide +kernel) (Nat.le_trans (by decide) hR9.1) (Nat.le_trans (Nat.le_of_ble_eq_true rfl) hR9.2.2.2) (Nat.zero_le _) (Nat.zero_le _) ?_
  obtain ⟨vused_1, evused_1, h⟩ := lt_e (g := id) h
  refine v_topi evused_1.symm ?_
  refine v_put (C := RX1) (T := TX1) (N := 2) (ci := 0) (v := .int vused_1) (ty := .int) hk dX1_copy_21 w2i_X1_copy_X10 tyX1 tyX1_ok nmX1 0 rfl rfl 1 (by decide) (by decide +kernel) rfl rfl (by decide +kernel) rfl rfl (Nat.le_of_ble_eq_true rfl) (ws' := [(adb, .inr (0, [.ref adw, .int vused_1])), (adw, .inl (gJ (kG K), nw, .inr (.inl fw))), (adb2, .inr (0, [.ref adw2, .int u2])), (adw2, .inl (gJ (kG K), nw2, .inr (.inl fw2)))]) rfl ?_
  refine v_aload_n hk dX1_copy_24 rfl ?_
  refine v_get (C := RX1) (T := TX1) (N := 2) (ci := 0) (v := .ref adw2) hk dX1_copy_25 w2i_X1_copy_X10 2 rfl rfl 0 (by decide) (by decide +kernel) rfl rfl ?_
  refine v_iconst (v := 0) hk dX1_copy_28 (by decide) ?_
  refine v_aload_n hk dX1_copy_29 rfl ?_
  refine v_get (C := RX1) (T := TX1) (N := 2) (ci := 0) (v := .ref adw) hk dX1_copy_30 w2i_X1_copy_X10 0 rfl rfl 0 (by decide) (by decide +kernel) rfl rfl ?_
  refine v_iconst (v := 0) hk dX1_copy_33 (by decide) ?_
  refine v_aload_n hk dX1_copy_34 rfl ?_
  refine v_get (C := RX1) (T := TX1) (N := 2) (ci := 0) (v := .int vused_1) hk dX1_copy_35 w2i_X1_copy_X10 0 rfl rfl 1 (by decide) (by decide +kernel) rfl rfl ?_
  obtain ⟨hi, h⟩ := ok_e (g := id) rfl h
  obtain ⟨fw_2, efw_2, h⟩ := lt_e (g := id) h
  obtain ⟨cp1, cp2, cp3, cp4, cp5⟩ := cpok_e hi
  refine v_copyl hk dX1_copy_38 (by decide +kernel) (by decide +kernel) (by decide +kernel) (by decide +kernel) 3 1 rfl rfl cp1 cp2 cp3 cp4 cp5 (Nat.le_trans (by decide) hR9.1) (Nat.le_trans (Nat.le_of_ble_eq_true rfl) hR9.2.2.2) (ws' := [(adb, .inr (0, [.ref adw, .int vused_1])), (adw, .inl (gJ (kG K), nw, .inr (.inl fw_2))), (adb2, .inr (0, [.ref adw2, .int u2])), (adw2, .inl (gJ (kG K), nw2, .inr (.inl fw2)))]) (by rw [efw_2]; rfl) ?_
  replace h : some (vused_1, fw_2) = some r := h
  replace h := Option.some.inj h
  subst h
  refine hrt (none) _ _ _ _ _ (⟨rfl, rfl⟩) (Nat.zero_le _) (Nat.zero_le _) (dX1_copy_41)
abbrev rm_X1_against : Room := { frames := 1, cells := 0, slots := 0, locals := 21 }
set_option maxHeartbeats 4000000 in
set_option maxRecDepth 100000 in
theorem L_X1_against_35 {K : Cx} {R9 : Room} (hk : Ok K cX1_against 3 RX1 w2_X1_against R9) (hR9 : RoomGe R9 rm_X1_against) {post9 : Option Value → va_W → Prop} (hrt : Rt K cX1_against 3 (some .int) R9 post9) (adb : Nat) (adw : Nat) (adb2 : Nat) (adw2 : Nat) (u : Int32) (nw : Nat) (fw : Nat → Int64) (u2 : Int32) (nw2 : Nat) (fw2 : Nat → Int64) (b9 : Int32 ⊕ Int32) (kk0 : ∀ q9 : Int32, b9 = .inl (q9) → V K 3 [(adb, .inr (0, [.ref adw, .int u])), (adw, .inl (gJ (kG K), nw, .inr (.inl fw))), (adb2, .inr (0, [.ref adw2, .int u2])), (adw2, .inl (gJ (kG K), nw2, .inr (.inl fw2)))] 0 0 79 [(0, .ref adb), (1, .ref adb2), (2, .int q9)] []) (kk1 : ∀ q9 : Int32, b9 = .inr (q9) → post9 (some (.int q9)) [(adb, .inr (0, [.ref adw, .int u])), (adw, .inl (gJ (kG K), nw, .inr (.inl fw))), (adb2, .inr (0, [.ref adw2, .int u2])), (adw2, .inl (gJ (kG K), nw2, .inr (.inl fw2)))]) : ∀ (nn : Nat) (i2_2 : Int32), lp (b_X1_against_35 u nw fw u2 nw2 fw2) nn i2_2 = some b9 → V K 3 [(adb, .inr (0, [.ref adw, .int u])), (adw, .inl (gJ (kG K), nw, .inr (.inl fw))), (adb2, .inr (0, [.ref adw2, .int u2])), (adw2, .inl (gJ (kG K), nw2, .inr (.inl fw2)))] 0 0 35 [(0, .ref adb), (1, .ref adb2), (2, .int i2_2)] [] := by
  intro nn
  induction nn with
  | zero => intro i2_2 h; exact absurd h (by simp [lp])
  | succ nn ih =>
    intro i2_2 h
    replace h := lp_s h
    rw [eb_X1_against_35] at h
    refine v_iload_n hk dX1_against_35 rfl ?_
    refine v_if_lt (tgt := 79) hk dX1_against_36 (by decide) (fun hc => ?_) (fun hc => ?_)
    · replace h := it_t (g := (lpk (lp (b_X1_against_35 u nw fw u2 nw2 fw2) nn))) h hc
      replace h : some (.inl (i2_2)) = some b9 := h
      replace h := Option.some.inj h
      subst h
      exact kk0 _ rfl
    · replace h := it_f (g := (lpk (lp (b_X1_against_35 u nw fw u2 nw2 fw2) nn))) h hc
      refine v_aload_n hk dX1_against_39 rfl ?_
      refine v_iload_n hk dX1_against_40 rfl ?_
      obtain ⟨r_3, er_3, h⟩ := bd_e (g := (lpk (lp (b_X1_against_35 u nw fw u2 nw2 fw2) nn))) rfl h
      refine v_callV (n := 1) (st := []) (b := adb) (T := TX1) (N := 2) hk dX1_against_41 (c_X1_at (kl K) (kG K) adb adw u nw fw i2_2 r_3 er_3) rfl gd_X1_against_X1_at rfl (by decide +kernel) (frok hR9 (Nat.le_of_ble_eq_true rfl) (Nat.le_of_ble_eq_true rfl)) (roomk hR9 (Nat.le_of_ble_eq_true rfl) (Nat.le_of_ble_eq_true rfl)) rfl rfl (Nat.le_of_ble_eq_true rfl) 0 rfl rfl [0, 1] [2, 3] (wr := [(adb2, .inr (0, [.ref adw2, .int u2])), (adw2, .inl (gJ (kG K), nw2, .inr (.inl fw2)))]) rfl rfl (by decide) (by decide) (by decide) ?_
      intro v9 w9 hp9
      obtain ⟨rfl, rfl⟩ := hp9
      show V K 3 [(adb2, .inr (0, [.ref adw2, .int u2])), (adw2, .inl (gJ (kG K), nw2, .inr (.inl fw2))), (adb, .inr (0, [.ref adw, .int u])), (adw, .inl (gJ (kG K), nw, .inr (.inl fw)))] 0 0 44 [(0, .ref adb), (1, .ref adb2), (2, .int i2_2)] [.long r_3]
      refine v_aload_n hk dX1_against_44 rfl ?_
      refine v_iload_n hk dX1_against_45 rfl ?_
      obtain ⟨r_4, er_4, h⟩ := bd_e (g := (lpk (lp (b_X1_against_35 u nw fw u2 nw2 fw2) nn))) rfl h
      refine v_callV (n := 1) (st := [.long r_3]) (b := adb2) (T := TX1) (N := 2) hk dX1_against_46 (c_X1_at (kl K) (kG K) adb2 adw2 u2 nw2 fw2 i2_2 r_4 er_4) rfl gd_X1_against_X1_at rfl (by decide +kernel) (frok hR9 (Nat.le_of_ble_eq_true rfl) (Nat.le_of_ble_eq_true rfl)) (roomk hR9 (Nat.le_of_ble_eq_true rfl) (Nat.le_of_ble_eq_true rfl)) rfl rfl (Nat.le_of_ble_eq_true rfl) 0 rfl rfl [0, 1] [2, 3] (wr := [(adb, .inr (0, [.ref adw, .int u])), (adw, .inl (gJ (kG K), nw, .inr (.inl fw)))]) rfl rfl (by decide) (by decide) (by decide) ?_
      intro v9 w9 hp9
      obtain ⟨rfl, rfl⟩ := hp9
      show V K 3 [(adb, .inr (0, [.ref adw, .int u])), (adw, .inl (gJ (kG K), nw, .inr (.inl fw))), (adb2, .inr (0, [.ref adw2, .int u2])), (adw2, .inl (gJ (kG K), nw2, .inr (.inl fw2)))] 0 0 49 [(0, .ref adb), (1, .ref adb2), (2, .int i2_2)] [.long r_4, .long r_3]
      refine v_lcmp hk dX1_against_49 ?_
      refine v_if_eq (tgt := 73) hk dX1_against_50 (by decide) (fun hc => ?_) (fun hc => ?_)
      · replace h := it_t (g := (lpk (lp (b_X1_against_35 u nw fw u2 nw2 fw2) nn))) h hc
        obtain ⟨x2_5, ex2_5, h⟩ := lt_e (g := (lpk (lp (b_X1_against_35 u nw fw u2 nw2 fw2) nn))) h
        refine v_iinc (v := x2_5) hk dX1_against_73 rfl (by rw [ex2_5]; rfl) (by decide) [1, 2, 0] (lv' := [(0, .ref adb), (1, .ref adb2), (2, .int x2_5)]) rfl ?_
        refine v_goto (tgt := 35) hk dX1_against_76 (by decide) ?_
        exact ih x2_5 h
      · replace h := it_f (g := (lpk (lp (b_X1_against_35 u nw fw u2 nw2 fw2) nn))) h hc
        refine v_aload_n hk dX1_against_53 rfl ?_
        refine v_iload_n hk dX1_against_54 rfl ?_
        obtain ⟨r_6, er_6, h⟩ := bd_e (g := (lpk (lp (b_X1_against_35 u nw fw u2 nw2 fw2) nn))) rfl h
        refine v_callV (n := 1) (st := []) (b := adb) (T := TX1) (N := 2) hk dX1_against_55 (c_X1_at (kl K) (kG K) adb adw u nw fw i2_2 r_6 er_6) rfl gd_X1_against_X1_at rfl (by decide +kernel) (frok hR9 (Nat.le_of_ble_eq_true rfl) (Nat.le_of_ble_eq_true rfl)) (roomk hR9 (Nat.le_of_ble_eq_true rfl) (Nat.le_of_ble_eq_true rfl)) rfl rfl (Nat.le_of_ble_eq_true rfl) 0 rfl rfl [0, 1] [2, 3] (wr := [(adb2, .inr (0, [.ref adw2, .int u2])), (adw2, .inl (gJ (kG K), nw2, .inr (.inl fw2)))]) rfl rfl (by decide) (by decide) (by decide) ?_
        intro v9 w9 hp9
        obtain ⟨rfl, rfl⟩ := hp9
        show V K 3 [(adb2, .inr (0, [.ref adw2, .int u2])), (adw2, .inl (gJ (kG K), nw2, .inr (.inl fw2))), (adb, .inr (0, [.ref adw, .int u])), (adw, .inl (gJ (kG K), nw, .inr (.inl fw)))] 0 0 58 [(0, .ref adb), (1, .ref adb2), (2, .int i2_2)] [.long r_6]
        refine v_aload_n hk dX1_against_58 rfl ?_
        refine v_iload_n hk dX1_against_59 rfl ?_
        obtain ⟨r_7, er_7, h⟩ := bd_e (g := (lpk (lp (b_X1_against_35 u nw fw u2 nw2 fw2) nn))) rfl h
        refine v_callV (n := 1) (st := [.long r_6]) (b := adb2) (T := TX1) (N := 2) hk dX1_against_60 (c_X1_at (kl K) (kG K) adb2 adw2 u2 nw2 fw2 i2_2 r_7 er_7) rfl gd_X1_against_X1_at rfl (by decide +kernel) (frok hR9 (Nat.le_of_ble_eq_true rfl) (Nat.le_of_ble_eq_true rfl)) (roomk hR9 (Nat.le_of_ble_eq_true rfl) (Nat.le_of_ble_eq_true rfl)) rfl rfl (Nat.le_of_ble_eq_true rfl) 0 rfl rfl [0, 1] [2, 3] (wr := [(adb, .inr (0, [.ref adw, .int u])), (adw, .inl (gJ (kG K), nw, .inr (.inl fw)))]) rfl rfl (by decide) (by decide) (by decide) ?_
        intro v9 w9 hp9
        obtain ⟨rfl, rfl⟩ := hp9
        show V K 3 [(adb, .inr (0, [.ref adw, .int u])), (adw, .inl (gJ (kG K), nw, .inr (.inl fw))), (adb2, .inr (0, [.ref adw2, .int u2])), (adw2, .inl (gJ (kG K), nw2, .inr (.inl fw2)))] 0 0 63 [(0, .ref adb), (1, .ref adb2), (2, .int i2_2)] [.long r_7, .long r_6]
        refine v_lcmp hk dX1_against_63 ?_
        obtain ⟨z_8, ez_8, h⟩ := lt_e (g := (lpk (lp (b_X1_against_35 u nw fw u2 nw2 fw2) nn))) h
        have Jz_8 : V K 3 [(adb, .inr (0, [.ref adw, .int u])), (adw, .inl (gJ (kG K), nw, .inr (.inl fw))), (adb2, .inr (0, [.ref adw2, .int u2])), (adw2, .inl (gJ (kG K), nw2, .inr (.inl fw2)))] 0 0 72 [(0, .ref adb), (1, .ref adb2), (2, .int i2_2)] (.int z_8 :: []) := by
          replace h : some (.inr (z_8)) = some b9 := h
          replace h := Option.some.inj h
          subst h
          refine hrt (some (.int z_8)) _ _ _ _ _ (kk1 _ rfl) (Nat.zero_le _) (Nat.zero_le _) (dX1_against_72)
        refine v_if_ge (tgt := 71) hk dX1_against_64 (by decide) (fun hc => ?_) (fun hc => ?_)
        · rw [if_pos hc] at ez_8
          subst ez_8
          refine v_iconst (v := 1) hk dX1_against_71 (by decide) ?_
          exact Jz_8
        · rw [if_neg hc] at ez_8
          subst ez_8
          refine v_iconst (v := (-1)) hk dX1_against_67 (by decide) ?_
          refine v_goto (tgt := 72) hk dX1_against_68 (by decide) ?_
          exact Jz_8
set_option maxHeartbeats 4000000 in
set_option maxRecDepth 100000 in
theorem c_X1_against (l : Launch) (G : GG) (adb : Nat) (adw : Nat) (adb2 : Nat) (adw2 : Nat) (u : Int32) (nw : Nat) (fw : Nat → Int64) (u2 : Int32) (nw2 : Nat) (fw2 : Nat → Int64) (r : Int32) (h : m_X1_against u nw fw u2 nw2 fw2 = some r) : Ctr l G yX1_against w2_X1_against rm_X1_against [.ref adb, .ref adb2] [(adb, .inr (0, [.ref adw, .int u])), (adw, .inl (gJ G, nw, .inr (.inl fw))), (adb2, .inr (0, [.ref adw2, .int u2])), (adw2, .inl (gJ G, nw2, .inr (.inl fw2)))] (fun v w => v = some (.int r) ∧ w = [(adb, .inr (0, [.ref adw, .int u])), (adw, .inl (gJ G, nw, .inr (.inl fw))), (adb2, .inr (0, [.ref adw2, .int u2])), (adw2, .inl (gJ G, nw2, .inr (.inl fw2)))]) := by
  refine ctr_entry (cc := cX1_against) (maxL := 3) (ret := some .int) (lv0 := [(0, .ref adb), (1, .ref adb2)]) (by decide) rfl (Nat.le_of_ble_eq_true rfl) (rfl) ?_
  intro K hl9 hG9 hk hn9 hrt
  subst hl9
  subst hG9
  have hR9 : RoomGe rm_X1_against rm_X1_against := RoomGe.rf
  replace h := id_e h
  rw [em_X1_against] at h
  refine v_aload_n hk dX1_against_0 rfl ?_
  refine v_get (C := RX1) (T := TX1) (N := 2) (ci := 0) (v := .int u) hk dX1_against_1 w2i_X1_against_X10 0 rfl rfl 1 (by decide) (by decide +kernel) rfl rfl ?_
  refine v_aload_n hk dX1_against_4 rfl ?_
  refine v_get (C := RX1) (T := TX1) (N := 2) (ci := 0) (v := .int u2) hk dX1_against_5 w2i_X1_against_X10 2 rfl rfl 1 (by decide) (by decide +kernel) rfl rfl ?_
  refine v_icmp_eq (tgt := 28) hk dX1_against_8 (by decide) (fun hc => ?_) (fun hc => ?_)
  · replace h := it_t (g := id) h hc
    refine v_aload_n hk dX1_against_28 rfl ?_
    refine v_get (C := RX1) (T := TX1) (N := 2) (ci := 0) (v := .int u) hk dX1_against_29 w2i_X1_against_X10 0 rfl rfl 1 (by decide) (by decide +kernel) rfl rfl ?_
    refine v_iconst (v := 1) hk dX1_against_32 (by decide) ?_
    refine v_isub hk dX1_against_33 ?_
    obtain ⟨x2_1, ex2_1, h⟩ := lt_e (g := id) h
    refine v_topi ex2_1.symm ?_
    refine v_istore_n hk dX1_against_34 rfl (by decide) [1, 2, 0] (lv' := [(0, .ref adb), (1, .ref adb2), (2, .int x2_1)]) rfl ?_
    obtain ⟨b_10, eb_10, h⟩ := bd_e (g := id) rfl h
    refine L_X1_against_35 hk hR9 hrt adb adw adb2 adw2 u nw fw u2 nw2 fw2 b_10 (fun q_9 eq_9 => ?_) (fun q_9 eq_9 => ?_) FU x2_1 eb_10
    · replace eq_9 := eq_9.symm
      subst eq_9
      refine v_iconst (v := 0) hk dX1_against_79 (by decide) ?_
      replace h : some 0 = some r := h
      replace h := Option.some.inj h
      subst h
      refine hrt (some (.int 0)) _ _ _ _ _ (⟨rfl, rfl⟩) (Nat.zero_le _) (Nat.zero_le _) (dX1_against_80)
    · replace eq_9 := eq_9.symm
      subst eq_9
      replace h : some q_9 = some r := h
      replace h := Option.some.inj h
      subst h
      exact ⟨rfl, rfl⟩
  · replace h := it_f (g := id) h hc
    refine v_aload_n hk dX1_against_11 rfl ?_
    refine v_get (C := RX1) (T := TX1) (N := 2) (ci := 0) (v := .int u) hk dX1_against_12 w2i_X1_against_X10 0 rfl rfl 1 (by decide) (by decide +kernel) rfl rfl ?_
    refine v_aload_n hk dX1_against_15 rfl ?_
    refine v_get (C := RX1) (T := TX1) (N := 2) (ci := 0) (v := .int u2) hk dX1_against_16 w2i_X1_against_X10 2 rfl rfl 1 (by decide) (by decide +kernel) rfl rfl ?_
    obtain ⟨z_11, ez_11, h⟩ := lt_e (g := id) h
    have Jz_11 : V K 3 [(adb, .inr (0, [.ref adw, .int u])), (adw, .inl (gJ (kG K), nw, .inr (.inl fw))), (adb2, .inr (0, [.ref adw2, .int u2])), (adw2, .inl (gJ (kG K), nw2, .inr (.inl fw2)))] 0 0 27 [(0, .ref adb), (1, .ref adb2)] (.int z_11 :: []) := by
      replace h : some z_11 = some r := h
      replace h := Option.some.inj h
      subst h
      refine hrt (some (.int z_11)) _ _ _ _ _ (⟨rfl, rfl⟩) (Nat.zero_le _) (Nat.zero_le _) (dX1_against_27)
    refine v_icmp_ge (tgt := 26) hk dX1_against_19 (by decide) (fun hc => ?_) (fun hc => ?_)
    · rw [if_pos hc] at ez_11
      subst ez_11
      refine v_iconst (v := 1) hk dX1_against_26 (by decide) ?_
      exact Jz_11
    · rw [if_neg hc] at ez_11
      subst ez_11
      refine v_iconst (v := (-1)) hk dX1_against_22 (by decide) ?_
      refine v_goto (tgt := 27) hk dX1_against_23 (by decide) ?_
      exact Jz_11
abbrev rm_X1_timesSmall : Room := { frames := 0, cells := 0, slots := 0, locals := 0 }
set_option maxHeartbeats 4000000 in
set_option maxRecDepth 100000 in
theorem L_X1_timesSmall_5 {K : Cx} {R9 : Room} (hk : Ok K cX1_timesSmall 8 RX1 w2_X1_timesSmall R9) (hR9 : RoomGe R9 rm_X1_timesSmall) (adb : Nat) (adw : Nat) (u : Int32) (nw : Nat) (fac : Int64) (b9 : (Int64 × Int32 × (Nat → Int64))) (kk0 : ∀ q9 : (Int64 × Int32 × (Nat → Int64)), b9 = q9 → V K 8 [(adb, .inr (0, [.ref adw, .int u])), (adw, .inl (gJ (kG K), nw, .inr (.inl q9.2.2)))] 0 0 62 [(0, .ref adb), (1, .long fac), (3, .long q9.1), (5, .int q9.2.1)] []) : ∀ (nn : Nat) (i3_1 : Int64) (i5_2 : Int32) (fw_3 : Nat → Int64), lp (b_X1_timesSmall_5 u nw fac) nn (i3_1, i5_2, fw_3) = some b9 → V K 8 [(adb, .inr (0, [.ref adw, .int u])), (adw, .inl (gJ (kG K), nw, .inr (.inl fw_3)))] 0 0 5 [(0, .ref adb), (1, .long fac), (3, .long i3_1), (5, .int i5_2)] [] := by
  intro nn
  induction nn with
  | zero => intro i3_1 i5_2 fw_3 h; exact absurd h (by simp [lp])
  | succ nn ih =>
    intro i3_1 i5_2 fw_3 h
    replace h := lp_s h
    rw [eb_X1_timesSmall_5] at h
    refine v_iload hk dX1_timesSmall_5 rfl ?_
    refine v_aload_n hk dX1_timesSmall_7 rfl ?_
    refine v_get (C := RX1) (T := TX1) (N := 2) (ci := 0) (v := .int u) hk dX1_timesSmall_8 w2i_X1_timesSmall_X10 0 rfl rfl 1 (by decide) (by decide +kernel) rfl rfl ?_
    refine v_icmp_ge (tgt := 62) hk dX1_timesSmall_11 (by decide) (fun hc => ?_) (fun hc => ?_)
    · replace h := it_t (g := (lpk (lp (b_X1_timesSmall_5 u nw fac) nn))) h hc
      replace h : some (i3_1, i5_2, fw_3) = some b9 := h
      replace h := Option.some.inj h
      subst h
      exact kk0 _ rfl
    · replace h := it_f (g := (lpk (lp (b_X1_timesSmall_5 u nw fac) nn))) h hc
      refine v_iload hk dX1_timesSmall_14 rfl ?_
      refine v_aload_n hk dX1_timesSmall_16 rfl ?_
      refine v_get (C := RX1) (T := TX1) (N := 2) (ci := 0) (v := .ref adw) hk dX1_timesSmall_17 w2i_X1_timesSmall_X10 0 rfl rfl 0 (by decide) (by decide +kernel) rfl rfl ?_
      refine v_alenJ hk dX1_timesSmall_20 1 rfl rfl ?_
      refine v_icmp_ge (tgt := 62) hk dX1_timesSmall_21 (by decide) (fun hc => ?_) (fun hc => ?_)
      · replace h := it_t (g := (lpk (lp (b_X1_timesSmall_5 u nw fac) nn))) h hc
        replace h : some (i3_1, i5_2, fw_3) = some b9 := h
        replace h := Option.some.inj h
        subst h
        exact kk0 _ rfl
      · replace h := it_f (g := (lpk (lp (b_X1_timesSmall_5 u nw fac) nn))) h hc
        refine v_aload_n hk dX1_timesSmall_24 rfl ?_
        refine v_get (C := RX1) (T := TX1) (N := 2) (ci := 0) (v := .ref adw) hk dX1_timesSmall_25 w2i_X1_timesSmall_X10 0 rfl rfl 0 (by decide) (by decide +kernel) rfl rfl ?_
        refine v_iload hk dX1_timesSmall_28 rfl ?_
        obtain ⟨hi, h⟩ := ok_e (g := (lpk (lp (b_X1_timesSmall_5 u nw fac) nn))) rfl h
        refine v_laldV hk dX1_timesSmall_30 1 rfl (ix_in hi) ?_
        refine v_lload_n hk dX1_timesSmall_31 rfl ?_
        refine v_lmul hk dX1_timesSmall_32 ?_
        refine v_lload_n hk dX1_timesSmall_33 rfl ?_
        refine v_ladd hk dX1_timesSmall_34 ?_
        obtain ⟨x6_4, ex6_4, h⟩ := lt_e (g := (lpk (lp (b_X1_timesSmall_5 u nw fac) nn))) h
        refine v_topl ex6_4.symm ?_
        refine v_lstore hk dX1_timesSmall_35 (by decide) [1, 2, 3, 4, 0] (lv' := [(0, .ref adb), (1, .long fac), (3, .long i3_1), (5, .int i5_2), (6, .long x6_4)]) rfl ?_
        refine v_aload_n hk dX1_timesSmall_37 rfl ?_
        refine v_get (C := RX1) (T := TX1) (N := 2) (ci := 0) (v := .ref adw) hk dX1_timesSmall_38 w2i_X1_timesSmall_X10 0 rfl rfl 0 (by decide) (by decide +kernel) rfl rfl ?_
        refine v_iload hk dX1_timesSmall_41 rfl ?_
        refine v_lload hk dX1_timesSmall_43 rfl ?_
        refine v_ldc2 (v := 4294967295) hk dX1_timesSmall_45 (by decide +kernel) ?_
        refine v_land hk dX1_timesSmall_48 ?_
        obtain ⟨hi, h⟩ := ok_e (g := (lpk (lp (b_X1_timesSmall_5 u nw fac) nn))) rfl h
        obtain ⟨fw_5, efw_5, h⟩ := lt_e (g := (lpk (lp (b_X1_timesSmall_5 u nw fac) nn))) h
        refine v_lastV hk dX1_timesSmall_49 1 rfl (ix_in hi) (ws' := [(adb, .inr (0, [.ref adw, .int u])), (adw, .inl (gJ (kG K), nw, .inr (.inl fw_5)))]) (by rw [efw_5]; rfl) ?_
        refine v_lload hk dX1_timesSmall_50 rfl ?_
        refine v_bipush (v := 32) hk dX1_timesSmall_52 (by decide) ?_
        refine v_lushr hk dX1_timesSmall_54 ?_
        obtain ⟨x3_6, ex3_6, h⟩ := lt_e (g := (lpk (lp (b_X1_timesSmall_5 u nw fac) nn))) h
        refine v_topl ex3_6.symm ?_
        refine v_lstore_n hk dX1_timesSmall_55 rfl (by decide) [1, 2, 0, 3, 4] (lv' := [(0, .ref adb), (1, .long fac), (3, .long x3_6), (5, .int i5_2), (6, .long x6_4)]) rfl ?_
        obtain ⟨x5_7, ex5_7, h⟩ := lt_e (g := (lpk (lp (b_X1_timesSmall_5 u nw fac) nn))) h
        refine v_iinc (v := x5_7) hk dX1_timesSmall_56 rfl (by rw [ex5_7]; rfl) (by decide) [1, 2, 3, 0, 4] (lv' := [(0, .ref adb), (1, .long fac), (3, .long x3_6), (5, .int x5_7), (6, .long x6_4)]) rfl ?_
        refine v_goto (tgt := 5) hk dX1_timesSmall_59 (by decide) ?_
        refine v_loc [0, 1, 2, 3] (lv' := [(0, .ref adb), (1, .long fac), (3, .long x3_6), (5, .int x5_7)]) rfl ?_
        exact ih x3_6 x5_7 fw_5 h
set_option maxHeartbeats 4000000 in
set_option maxRecDepth 100000 in
theorem c_X1_timesSmall (l : Launch) (G : GG) (adb : Nat) (adw : Nat) (u : Int32) (nw : Nat) (fw : Nat → Int64) (fac : Int64) (r : Int32 × (Nat → Int64)) (h : m_X1_timesSmall u nw fw fac = some r) : Ctr l G yX1_timesSmall w2_X1_timesSmall rm_X1_timesSmall [.ref adb, .long fac] [(adb, .inr (0, [.ref adw, .int u])), (adw, .inl (gJ G, nw, .inr (.inl fw)))] (fun v w => v = none ∧ w = [(adb, .inr (0, [.ref adw, .int r.1])), (adw, .inl (gJ G, nw, .inr (.inl r.2)))]) := by
  refine ctr_entry (cc := cX1_timesSmall) (maxL := 8) (ret := none) (lv0 := [(0, .ref adb), (1, .long fac)]) (by decide) rfl (Nat.le_of_ble_eq_true rfl) (by simp [lv_args, Value.category]) ?_
  intro K hl9 hG9 hk hn9 hrt
  subst hl9
  subst hG9
  have hR9 : RoomGe rm_X1_timesSmall rm_X1_timesSmall := RoomGe.rf
  replace h := id_e h
  rw [em_X1_timesSmall] at h
  refine v_lconst (v := 0) hk dX1_timesSmall_0 (by decide) ?_
  refine v_lstore_n hk dX1_timesSmall_1 rfl (by decide) [1, 2, 0] (lv' := [(0, .ref adb), (1, .long fac), (3, .long 0)]) rfl ?_
  refine v_iconst (v := 0) hk dX1_timesSmall_2 (by decide) ?_
  refine v_istore hk dX1_timesSmall_3 (by decide) [1, 2, 3, 0] (lv' := [(0, .ref adb), (1, .long fac), (3, .long 0), (5, .int 0)]) rfl ?_
  obtain ⟨b_11, eb_11, h⟩ := bd_e (g := id) rfl h
  refine L_X1_timesSmall_5 hk hR9 adb adw u nw fac b_11 (fun q_8 eq_8 => ?_) FU 0 0 fw eb_11
  · replace eq_8 := eq_8.symm
    subst eq_8
    refine v_lload_n hk dX1_timesSmall_62 rfl ?_
    refine v_lconst (v := 0) hk dX1_timesSmall_63 (by decide) ?_
    refine v_lcmp hk dX1_timesSmall_64 ?_
    refine v_if_eq (tgt := 107) hk dX1_timesSmall_65 (by decide) (fun hc => ?_) (fun hc => ?_)
    · replace h := it_t (g := id) h hc
      replace h : some (u, q_8.2.2) = some r := h
      replace h := Option.some.inj h
      subst h
      refine hrt (none) _ _ _ _ _ (⟨rfl, rfl⟩) (Nat.zero_le _) (Nat.zero_le _) (dX1_timesSmall_107)
    · replace h := it_f (g := id) h hc
      refine v_aload_n hk dX1_timesSmall_68 rfl ?_
      refine v_get (C := RX1) (T := TX1) (N := 2) (ci := 0) (v := .int u) hk dX1_timesSmall_69 w2i_X1_timesSmall_X10 0 rfl rfl 1 (by decide) (by decide +kernel) rfl rfl ?_
      refine v_if_lt (tgt := 107) hk dX1_timesSmall_72 (by decide) (fun hc => ?_) (fun hc => ?_)
      · replace h := it_t (g := id) h hc
        replace h : some (u, q_8.2.2) = some r := h
        replace h := Option.some.inj h
        subst h
        refine hrt (none) _ _ _ _ _ (⟨rfl, rfl⟩) (Nat.zero_le _) (Nat.zero_le _) (dX1_timesSmall_107)
      · replace h := it_f (g := id) h hc
        refine v_aload_n hk dX1_timesSmall_75 rfl ?_
        refine v_get (C := RX1) (T := TX1) (N := 2) (ci := 0) (v := .int u) hk dX1_timesSmall_76 w2i_X1_timesSmall_X10 0 rfl rfl 1 (by decide) (by decide +kernel) rfl rfl ?_
        refine v_aload_n hk dX1_timesSmall_79 rfl ?_
        refine v_get (C := RX1) (T := TX1) (N := 2) (ci := 0) (v := .ref adw) hk dX1_timesSmall_80 w2i_X1_timesSmall_X10 0 rfl rfl 0 (by decide) (by decide +kernel) rfl rfl ?_
        refine v_alenJ hk dX1_timesSmall_83 1 rfl rfl ?_
        refine v_icmp_ge (tgt := 107) hk dX1_timesSmall_84 (by decide) (fun hc => ?_) (fun hc => ?_)
        · replace h := it_t (g := id) h hc
          replace h : some (u, q_8.2.2) = some r := h
          replace h := Option.some.inj h
          subst h
          refine hrt (none) _ _ _ _ _ (⟨rfl, rfl⟩) (Nat.zero_le _) (Nat.zero_le _) (dX1_timesSmall_107)
        · replace h := it_f (g := id) h hc
          refine v_aload_n hk dX1_timesSmall_87 rfl ?_
          refine v_get (C := RX1) (T := TX1) (N := 2) (ci := 0) (v := .ref adw) hk dX1_timesSmall_88 w2i_X1_timesSmall_X10 0 rfl rfl 0 (by decide) (by decide +kernel) rfl rfl ?_
          refine v_aload_n hk dX1_timesSmall_91 rfl ?_
          refine v_get (C := RX1) (T := TX1) (N := 2) (ci := 0) (v := .int u) hk dX1_timesSmall_92 w2i_X1_timesSmall_X10 0 rfl rfl 1 (by decide) (by decide +kernel) rfl rfl ?_
          refine v_lload_n hk dX1_timesSmall_95 rfl ?_
          obtain ⟨hi, h⟩ := ok_e (g := id) rfl h
          obtain ⟨fw_9, efw_9, h⟩ := lt_e (g := id) h
          refine v_lastV hk dX1_timesSmall_96 1 rfl (ix_in hi) (ws' := [(adb, .inr (0, [.ref adw, .int u])), (adw, .inl (gJ (kG K), nw, .inr (.inl fw_9)))]) (by rw [efw_9]; rfl) ?_
          refine v_aload_n hk dX1_timesSmall_97 rfl ?_
          refine v_dup hk dX1_timesSmall_98 rfl ?_
          refine v_get (C := RX1) (T := TX1) (N := 2) (ci := 0) (v := .int u) hk dX1_timesSmall_99 w2i_X1_timesSmall_X10 0 rfl rfl 1 (by decide) (by decide +kernel) rfl rfl ?_
          refine v_iconst (v := 1) hk dX1_timesSmall_102 (by decide) ?_
          refine v_iadd hk dX1_timesSmall_103 ?_
          obtain ⟨vused_10, evused_10, h⟩ := lt_e (g := id) h
          refine v_topi evused_10.symm ?_
          refine v_put (C := RX1) (T := TX1) (N := 2) (ci := 0) (v := .int vused_10) (ty := .int) hk dX1_timesSmall_104 w2i_X1_timesSmall_X10 tyX1 tyX1_ok nmX1 0 rfl rfl 1 (by decide) (by decide +kernel) rfl rfl (by decide +kernel) rfl rfl (Nat.le_of_ble_eq_true rfl) (ws' := [(adb, .inr (0, [.ref adw, .int vused_10])), (adw, .inl (gJ (kG K), nw, .inr (.inl fw_9)))]) rfl ?_
          replace h : some (vused_10, fw_9) = some r := h
          replace h := Option.some.inj h
          subst h
          refine hrt (none) _ _ _ _ _ (⟨rfl, rfl⟩) (Nat.zero_le _) (Nat.zero_le _) (dX1_timesSmall_107)
abbrev rm_X1_addMultiple : Room := { frames := 1, cells := 0, slots := 0, locals := 21 }
set_option maxHeartbeats 4000000 in
set_option maxRecDepth 100000 in
theorem L_X1_addMultiple_38 {K : Cx} {R9 : Room} (hk : Ok K cX1_addMultiple 12 RX1 w2_X1_addMultiple R9) (hR9 : RoomGe R9 rm_X1_addMultiple) (adb : Nat) (adw : Nat) (adb2 : Nat) (adw2 : Nat) (u : Int32) (nw : Nat) (u2 : Int32) (nw2 : Nat) (fw2 : Nat → Int64) (dg : Int64) (pl : Int32) (x7_1 : Int32) (x8_2 : Int32) (b9 : (Int64 × Int32 × (Nat → Int64))) (kk0 : ∀ q9 : (Int64 × Int32 × (Nat → Int64)), b9 = q9 → V K 12 [(adb, .inr (0, [.ref adw, .int u])), (adw, .inl (gJ (kG K), nw, .inr (.inl q9.2.2))), (adb2, .inr (0, [.ref adw2, .int u2])), (adw2, .inl (gJ (kG K), nw2, .inr (.inl fw2)))] 0 0 126 [(0, .ref adb), (1, .long dg), (3, .ref adb2), (4, .int pl), (5, .long q9.1), (7, .int x7_1), (8, .int x8_2), (9, .int q9.2.1)] []) : ∀ (nn : Nat) (i5_3 : Int64) (i9_4 : Int32) (fw_5 : Nat → Int64), lp (b_X1_addMultiple_38 nw nw2 fw2 dg pl x7_1 x8_2) nn (i5_3, i9_4, fw_5) = some b9 → V K 12 [(adb, .inr (0, [.ref adw, .int u])), (adw, .inl (gJ (kG K), nw, .inr (.inl fw_5))), (adb2, .inr (0, [.ref adw2, .int u2])), (adw2, .inl (gJ (kG K), nw2, .inr (.inl fw2)))] 0 0 38 [(0, .ref adb), (1, .long dg), (3, .ref adb2), (4, .int pl), (5, .long i5_3), (7, .int x7_1), (8, .int x8_2), (9, .int i9_4)] [] := by
  intro nn
  induction nn with
  | zero => intro i5_3 i9_4 fw_5 h; exact absurd h (by simp [lp])
  | succ nn ih =>
    intro i5_3 i9_4 fw_5 h
    replace h := lp_s h
    rw [eb_X1_addMultiple_38] at h
    refine v_iload hk dX1_addMultiple_38 rfl ?_
    obtain ⟨y_6, ey_6, h⟩ := bd_e (g := (lpk (lp (b_X1_addMultiple_38 nw nw2 fw2 dg pl x7_1 x8_2) nn))) rfl h
    have Jay_6 : y_6 = true → V K 12 [(adb, .inr (0, [.ref adw, .int u])), (adw, .inl (gJ (kG K), nw, .inr (.inl fw_5))), (adb2, .inr (0, [.ref adw2, .int u2])), (adw2, .inl (gJ (kG K), nw2, .inr (.inl fw2)))] 0 0 126 [(0, .ref adb), (1, .long dg), (3, .ref adb2), (4, .int pl), (5, .long i5_3), (7, .int x7_1), (8, .int x8_2), (9, .int i9_4)] [] := by
      intro hz9
      replace h := it_t (g := (lpk (lp (b_X1_addMultiple_38 nw nw2 fw2 dg pl x7_1 x8_2) nn))) h hz9
      replace h : some (i5_3, i9_4, fw_5) = some b9 := h
      replace h := Option.some.inj h
      subst h
      exact kk0 _ rfl
    have Jby_6 : y_6 = false → V K 12 [(adb, .inr (0, [.ref adw, .int u])), (adw, .inl (gJ (kG K), nw, .inr (.inl fw_5))), (adb2, .inr (0, [.ref adw2, .int u2])), (adw2, .inl (gJ (kG K), nw2, .inr (.inl fw2)))] 0 0 64 [(0, .ref adb), (1, .long dg), (3, .ref adb2), (4, .int pl), (5, .long i5_3), (7, .int x7_1), (8, .int x8_2), (9, .int i9_4)] [] := by
      intro hz9
      replace h := it_f (g := (lpk (lp (b_X1_addMultiple_38 nw nw2 fw2 dg pl x7_1 x8_2) nn))) h (by rw [hz9]; decide)
      refine v_aload_n hk dX1_addMultiple_64 rfl ?_
      refine v_get (C := RX1) (T := TX1) (N := 2) (ci := 0) (v := .ref adw) hk dX1_addMultiple_65 w2i_X1_addMultiple_X10 0 rfl rfl 0 (by decide) (by decide +kernel) rfl rfl ?_
      refine v_iload hk dX1_addMultiple_68 rfl ?_
      obtain ⟨hi, h⟩ := ok_e (g := (lpk (lp (b_X1_addMultiple_38 nw nw2 fw2 dg pl x7_1 x8_2) nn))) rfl h
      refine v_laldV hk dX1_addMultiple_70 1 rfl (ix_in hi) ?_
      refine v_lload hk dX1_addMultiple_71 rfl ?_
      refine v_ladd hk dX1_addMultiple_73 ?_
      obtain ⟨x10_7, ex10_7, h⟩ := lt_e (g := (lpk (lp (b_X1_addMultiple_38 nw nw2 fw2 dg pl x7_1 x8_2) nn))) h
      refine v_topl ex10_7.symm ?_
      refine v_lstore hk dX1_addMultiple_74 (by decide) [1, 2, 3, 4, 5, 6, 7, 8, 0] (lv' := [(0, .ref adb), (1, .long dg), (3, .ref adb2), (4, .int pl), (5, .long i5_3), (7, .int x7_1), (8, .int x8_2), (9, .int i9_4), (10, .long x10_7)]) rfl ?_
      refine v_iload hk dX1_addMultiple_76 rfl ?_
      refine v_iload hk dX1_addMultiple_78 rfl ?_
      obtain ⟨y_8, ey_8, h⟩ := bd_e (g := (lpk (lp (b_X1_addMultiple_38 nw nw2 fw2 dg pl x7_1 x8_2) nn))) rfl h
      have Jy_8 : V K 12 [(adb, .inr (0, [.ref adw, .int u])), (adw, .inl (gJ (kG K), nw, .inr (.inl fw_5))), (adb2, .inr (0, [.ref adw2, .int u2])), (adw2, .inl (gJ (kG K), nw2, .inr (.inl fw2)))] 0 0 100 [(0, .ref adb), (1, .long dg), (3, .ref adb2), (4, .int pl), (5, .long i5_3), (7, .int x7_1), (8, .int x8_2), (9, .int i9_4), (10, .long y_8)] [] := by
        refine v_aload_n hk dX1_addMultiple_100 rfl ?_
        refine v_get (C := RX1) (T := TX1) (N := 2) (ci := 0) (v := .ref adw) hk dX1_addMultiple_101 w2i_X1_addMultiple_X10 0 rfl rfl 0 (by decide) (by decide +kernel) rfl rfl ?_
        refine v_iload hk dX1_addMultiple_104 rfl ?_
        refine v_lload hk dX1_addMultiple_106 rfl ?_
        refine v_ldc2 (v := 4294967295) hk dX1_addMultiple_108 (by decide +kernel) ?_
        refine v_land hk dX1_addMultiple_111 ?_
        obtain ⟨hi, h⟩ := ok_e (g := (lpk (lp (b_X1_addMultiple_38 nw nw2 fw2 dg pl x7_1 x8_2) nn))) rfl h
        obtain ⟨fw_9, efw_9, h⟩ := lt_e (g := (lpk (lp (b_X1_addMultiple_38 nw nw2 fw2 dg pl x7_1 x8_2) nn))) h
        refine v_lastV hk dX1_addMultiple_112 1 rfl (ix_in hi) (ws' := [(adb, .inr (0, [.ref adw, .int u])), (adw, .inl (gJ (kG K), nw, .inr (.inl fw_9))), (adb2, .inr (0, [.ref adw2, .int u2])), (adw2, .inl (gJ (kG K), nw2, .inr (.inl fw2)))]) (by rw [efw_9]; rfl) ?_
        refine v_lload hk dX1_addMultiple_113 rfl ?_
        refine v_bipush (v := 32) hk dX1_addMultiple_115 (by decide) ?_
        refine v_lushr hk dX1_addMultiple_117 ?_
        obtain ⟨x5_10, ex5_10, h⟩ := lt_e (g := (lpk (lp (b_X1_addMultiple_38 nw nw2 fw2 dg pl x7_1 x8_2) nn))) h
        refine v_topl ex5_10.symm ?_
        refine v_lstore hk dX1_addMultiple_118 (by decide) [1, 2, 3, 4, 0, 5, 6, 7, 8] (lv' := [(0, .ref adb), (1, .long dg), (3, .ref adb2), (4, .int pl), (5, .long x5_10), (7, .int x7_1), (8, .int x8_2), (9, .int i9_4), (10, .long y_8)]) rfl ?_
        obtain ⟨x9_11, ex9_11, h⟩ := lt_e (g := (lpk (lp (b_X1_addMultiple_38 nw nw2 fw2 dg pl x7_1 x8_2) nn))) h
        refine v_iinc (v := x9_11) hk dX1_addMultiple_120 rfl (by rw [ex9_11]; rfl) (by decide) [1, 2, 3, 4, 5, 6, 7, 0, 8] (lv' := [(0, .ref adb), (1, .long dg), (3, .ref adb2), (4, .int pl), (5, .long x5_10), (7, .int x7_1), (8, .int x8_2), (9, .int x9_11), (10, .long y_8)]) rfl ?_
        refine v_goto (tgt := 38) hk dX1_addMultiple_123 (by decide) ?_
        refine v_loc [0, 1, 2, 3, 4, 5, 6, 7] (lv' := [(0, .ref adb), (1, .long dg), (3, .ref adb2), (4, .int pl), (5, .long x5_10), (7, .int x7_1), (8, .int x8_2), (9, .int x9_11)]) rfl ?_
        exact ih x5_10 x9_11 fw_9 h
      clear h
      have h := id_e ey_8
      clear ey_8
      refine v_icmp_ge (tgt := 100) hk dX1_addMultiple_80 (by decide) (fun hc => ?_) (fun hc => ?_)
      · replace h := it_t (g := id) h hc
        replace h : some (x10_7 : Int64) = some y_8 := h
        replace h := Option.some.inj h
        subst h
        exact Jy_8
      · replace h := it_f (g := id) h hc
        refine v_lload hk dX1_addMultiple_83 rfl ?_
        refine v_lload_n hk dX1_addMultiple_85 rfl ?_
        refine v_aload_n hk dX1_addMultiple_86 rfl ?_
        refine v_get (C := RX1) (T := TX1) (N := 2) (ci := 0) (v := .ref adw2) hk dX1_addMultiple_87 w2i_X1_addMultiple_X10 2 rfl rfl 0 (by decide) (by decide +kernel) rfl rfl ?_
        refine v_iload hk dX1_addMultiple_90 rfl ?_
        refine v_iload hk dX1_addMultiple_92 rfl ?_
        refine v_isub hk dX1_addMultiple_94 ?_
        obtain ⟨hi, h⟩ := ok_e (g := id) rfl h
        refine v_laldV hk dX1_addMultiple_95 3 rfl (ix_in hi) ?_
        refine v_lmul hk dX1_addMultiple_96 ?_
        refine v_ladd hk dX1_addMultiple_97 ?_
        obtain ⟨x10_12, ex10_12, h⟩ := lt_e (g := id) h
        refine v_topl ex10_12.symm ?_
        refine v_lstore hk dX1_addMultiple_98 (by decide) [1, 2, 3, 4, 5, 6, 7, 8, 0] (lv' := [(0, .ref adb), (1, .long dg), (3, .ref adb2), (4, .int pl), (5, .long i5_3), (7, .int x7_1), (8, .int x8_2), (9, .int i9_4), (10, .long x10_12)]) rfl ?_
        replace h : some (x10_12 : Int64) = some y_8 := h
        replace h := Option.some.inj h
        subst h
        exact Jy_8
    clear h
    have h := id_e ey_6
    clear ey_6
    refine v_if_lt (tgt := 126) hk dX1_addMultiple_40 (by decide) (fun hc => ?_) (fun hc => ?_)
    · replace h := it_t (g := id) h hc
      replace h : some true = some y_6 := h
      replace h := Option.some.inj h
      subst h
      exact Jay_6 rfl
    · replace h := it_f (g := id) h hc
      refine v_iload hk dX1_addMultiple_43 rfl ?_
      refine v_iload hk dX1_addMultiple_45 rfl ?_
      obtain ⟨y_13, ey_13, h⟩ := bd_e (g := id) rfl h
      have Jay_13 : y_13 = true → V K 12 [(adb, .inr (0, [.ref adw, .int u])), (adw, .inl (gJ (kG K), nw, .inr (.inl fw_5))), (adb2, .inr (0, [.ref adw2, .int u2])), (adw2, .inl (gJ (kG K), nw2, .inr (.inl fw2)))] 0 0 126 [(0, .ref adb), (1, .long dg), (3, .ref adb2), (4, .int pl), (5, .long i5_3), (7, .int x7_1), (8, .int x8_2), (9, .int i9_4)] [] := by
        intro hz9
        replace h := it_t (g := id) h hz9
        replace h : some true = some y_6 := h
        replace h := Option.some.inj h
        subst h
        exact Jay_6 rfl
      have Jby_13 : y_13 = false → V K 12 [(adb, .inr (0, [.ref adw, .int u])), (adw, .inl (gJ (kG K), nw, .inr (.inl fw_5))), (adb2, .inr (0, [.ref adw2, .int u2])), (adw2, .inl (gJ (kG K), nw2, .inr (.inl fw2)))] 0 0 64 [(0, .ref adb), (1, .long dg), (3, .ref adb2), (4, .int pl), (5, .long i5_3), (7, .int x7_1), (8, .int x8_2), (9, .int i9_4)] [] := by
        intro hz9
        replace h := it_f (g := id) h (by rw [hz9]; decide)
        replace h : some false = some y_6 := h
        replace h := Option.some.inj h
        subst h
        exact Jby_6 rfl
      clear h
      have h := id_e ey_13
      clear ey_13
      refine v_icmp_ge (tgt := 126) hk dX1_addMultiple_47 (by decide) (fun hc => ?_) (fun hc => ?_)
      · replace h := it_t (g := id) h hc
        replace h : some true = some y_13 := h
        replace h := Option.some.inj h
        subst h
        exact Jay_13 rfl
      · replace h := it_f (g := id) h hc
        refine v_iload hk dX1_addMultiple_50 rfl ?_
        refine v_iload hk dX1_addMultiple_52 rfl ?_
        obtain ⟨y_14, ey_14, h⟩ := bd_e (g := id) rfl h
        have Jay_14 : y_14 = true → V K 12 [(adb, .inr (0, [.ref adw, .int u])), (adw, .inl (gJ (kG K), nw, .inr (.inl fw_5))), (adb2, .inr (0, [.ref adw2, .int u2])), (adw2, .inl (gJ (kG K), nw2, .inr (.inl fw2)))] 0 0 64 [(0, .ref adb), (1, .long dg), (3, .ref adb2), (4, .int pl), (5, .long i5_3), (7, .int x7_1), (8, .int x8_2), (9, .int i9_4)] [] := by
          intro hz9
          replace h := it_t (g := id) h hz9
          replace h : some false = some y_13 := h
          replace h := Option.some.inj h
          subst h
          exact Jby_13 rfl
        have Jby_14 : y_14 = false → V K 12 [(adb, .inr (0, [.ref adw, .int u])), (adw, .inl (gJ (kG K), nw, .inr (.inl fw_5))), (adb2, .inr (0, [.ref adw2, .int u2])), (adw2, .inl (gJ (kG K), nw2, .inr (.inl fw2)))] 0 0 126 [(0, .ref adb), (1, .long dg), (3, .ref adb2), (4, .int pl), (5, .long i5_3), (7, .int x7_1), (8, .int x8_2), (9, .int i9_4)] [] := by
          intro hz9
          replace h := it_f (g := id) h (by rw [hz9]; decide)
          replace h : some true = some y_13 := h
          replace h := Option.some.inj h
          subst h
          exact Jay_13 rfl
        clear h
        have h := id_e ey_14
        clear ey_14
        refine v_icmp_lt (tgt := 64) hk dX1_addMultiple_54 (by decide) (fun hc => ?_) (fun hc => ?_)
        · replace h := it_t (g := id) h hc
          replace h : some true = some y_14 := h
          replace h := Option.some.inj h
          subst h
          exact Jay_14 rfl
        · replace h := it_f (g := id) h hc
          refine v_lload hk dX1_addMultiple_57 rfl ?_
          refine v_lconst (v := 0) hk dX1_addMultiple_59 (by decide) ?_
          refine v_lcmp hk dX1_addMultiple_60 ?_
          refine v_if_eq (tgt := 126) hk dX1_addMultiple_61 (by decide) (fun hc => ?_) (fun hc => ?_)
          · replace h := it_t (g := id) h hc
            replace h : some false = some y_14 := h
            replace h := Option.some.inj h
            subst h
            exact Jby_14 rfl
          · replace h := it_f (g := id) h hc
            replace h : some true = some y_14 := h
            replace h := Option.some.inj h
            subst h
            exact Jay_14 rfl
set_option maxHeartbeats 4000000 in
set_option maxRecDepth 100000 in
theorem c_X1_addMultiple (l : Launch) (G : GG) (adb : Nat) (adw : Nat) (adb2 : Nat) (adw2 : Nat) (u : Int32) (nw : Nat) (fw : Nat → Int64) (u2 : Int32) (nw2 : Nat) (fw2 : Nat → Int64) (dg : Int64) (pl : Int32) (r : (Nat → Int64)) (h : m_X1_addMultiple u nw fw u2 nw2 fw2 dg pl = some r) : Ctr l G yX1_addMultiple w2_X1_addMultiple rm_X1_addMultiple [.ref adb, .long dg, .ref adb2, .int pl] [(adb, .inr (0, [.ref adw, .int u])), (adw, .inl (gJ G, nw, .inr (.inl fw))), (adb2, .inr (0, [.ref adw2, .int u2])), (adw2, .inl (gJ G, nw2, .inr (.inl fw2)))] (fun v w => v = none ∧ w = [(adb, .inr (0, [.ref adw, .int u])), (adw, .inl (gJ G, nw, .inr (.inl r))), (adb2, .inr (0, [.ref adw2, .int u2])), (adw2, .inl (gJ G, nw2, .inr (.inl fw2)))]) := by
  refine ctr_entry (cc := cX1_addMultiple) (maxL := 12) (ret := none) (lv0 := [(0, .ref adb), (1, .long dg), (3, .ref adb2), (4, .int pl)]) (by decide) rfl (Nat.le_of_ble_eq_true rfl) (by simp [lv_args, Value.category]) ?_
  intro K hl9 hG9 hk hn9 hrt
  subst hl9
  subst hG9
  have hR9 : RoomGe rm_X1_addMultiple rm_X1_addMultiple := RoomGe.rf
  replace h := id_e h
  rw [em_X1_addMultiple] at h
  refine v_lconst (v := 0) hk dX1_addMultiple_0 (by decide) ?_
  refine v_lstore hk dX1_addMultiple_1 (by decide) [1, 2, 3, 4, 0] (lv' := [(0, .ref adb), (1, .long dg), (3, .ref adb2), (4, .int pl), (5, .long 0)]) rfl ?_
  refine v_aload_n hk dX1_addMultiple_3 rfl ?_
  refine v_get (C := RX1) (T := TX1) (N := 2) (ci := 0) (v := .int u) hk dX1_addMultiple_4 w2i_X1_addMultiple_X10 0 rfl rfl 1 (by decide) (by decide +kernel) rfl rfl ?_
  refine v_aload_n hk dX1_addMultiple_7 rfl ?_
  refine v_get (C := RX1) (T := TX1) (N := 2) (ci := 0) (v := .ref adw) hk dX1_addMultiple_8 w2i_X1_addMultiple_X10 0 rfl rfl 0 (by decide) (by decide +kernel) rfl rfl ?_
  refine v_alenJ hk dX1_addMultiple_11 1 rfl rfl ?_
  refine v_mmin hk dX1_addMultiple_12 (by decide +kernel) (by decide +kernel) (by decide +kernel) (by decide +kernel) (Nat.le_trans (by decide) hR9.1) (Nat.le_trans (Nat.le_of_ble_eq_true rfl) hR9.2.2.2) (Nat.zero_le _) (Nat.zero_le _) ?_
  obtain ⟨x7_1, ex7_1, h⟩ := lt_e (g := id) h
  refine v_topi ex7_1.symm ?_
  refine v_istore hk dX1_addMultiple_15 (by decide) [1, 2, 3, 4, 5, 0] (lv' := [(0, .ref adb), (1, .long dg), (3, .ref adb2), (4, .int pl), (5, .long 0), (7, .int x7_1)]) rfl ?_
  refine v_iload hk dX1_addMultiple_17 rfl ?_
  refine v_aload_n hk dX1_addMultiple_19 rfl ?_
  refine v_get (C := RX1) (T := TX1) (N := 2) (ci := 0) (v := .int u2) hk dX1_addMultiple_20 w2i_X1_addMultiple_X10 2 rfl rfl 1 (by decide) (by decide +kernel) rfl rfl ?_
  refine v_aload_n hk dX1_addMultiple_23 rfl ?_
  refine v_get (C := RX1) (T := TX1) (N := 2) (ci := 0) (v := .ref adw2) hk dX1_addMultiple_24 w2i_X1_addMultiple_X10 2 rfl rfl 0 (by decide) (by decide +kernel) rfl rfl ?_
  refine v_alenJ hk dX1_addMultiple_27 3 rfl rfl ?_
  refine v_mmin hk dX1_addMultiple_28 (by decide +kernel) (by decide +kernel) (by decide +kernel) (by decide +kernel) (Nat.le_trans (by decide) hR9.1) (Nat.le_trans (Nat.le_of_ble_eq_true rfl) hR9.2.2.2) (Nat.zero_le _) (Nat.zero_le _) ?_
  refine v_iadd hk dX1_addMultiple_31 ?_
  obtain ⟨x8_2, ex8_2, h⟩ := lt_e (g := id) h
  refine v_topi ex8_2.symm ?_
  refine v_istore hk dX1_addMultiple_32 (by decide) [1, 2, 3, 4, 5, 6, 0] (lv' := [(0, .ref adb), (1, .long dg), (3, .ref adb2), (4, .int pl), (5, .long 0), (7, .int x7_1), (8, .int x8_2)]) rfl ?_
  refine v_iload hk dX1_addMultiple_34 rfl ?_
  refine v_istore hk dX1_addMultiple_36 (by decide) [1, 2, 3, 4, 5, 6, 7, 0] (lv' := [(0, .ref adb), (1, .long dg), (3, .ref adb2), (4, .int pl), (5, .long 0), (7, .int x7_1), (8, .int x8_2), (9, .int pl)]) rfl ?_
  obtain ⟨b_16, eb_16, h⟩ := bd_e (g := id) rfl h
  refine L_X1_addMultiple_38 hk hR9 adb adw adb2 adw2 u nw u2 nw2 fw2 dg pl x7_1 x8_2 b_16 (fun q_15 eq_15 => ?_) FU 0 pl fw eb_16
  · replace eq_15 := eq_15.symm
    subst eq_15
    replace h : some q_15.2.2 = some r := h
    replace h := Option.some.inj h
    subst h
    refine hrt (none) _ _ _ _ _ (⟨rfl, rfl⟩) (Nat.zero_le _) (Nat.zero_le _) (dX1_addMultiple_126)
abbrev rm_X1_subtractMultiple : Room := { frames := 2, cells := 0, slots := 0, locals := 42 }
set_option maxHeartbeats 4000000 in
set_option maxRecDepth 100000 in
theorem L_X1_subtractMultiple_38 {K : Cx} {R9 : Room} (hk : Ok K cX1_subtractMultiple 14 RX1 w2_X1_subtractMultiple R9) (hR9 : RoomGe R9 rm_X1_subtractMultiple) (adb : Nat) (adw : Nat) (adb2 : Nat) (adw2 : Nat) (u : Int32) (nw : Nat) (u2 : Int32) (nw2 : Nat) (fw2 : Nat → Int64) (dg : Int64) (pl : Int32) (x7_1 : Int32) (x8_2 : Int32) (b9 : (Int64 × Int32 × (Nat → Int64))) (kk0 : ∀ q9 : (Int64 × Int32 × (Nat → Int64)), b9 = q9 → V K 14 [(adb, .inr (0, [.ref adw, .int u])), (adw, .inl (gJ (kG K), nw, .inr (.inl q9.2.2))), (adb2, .inr (0, [.ref adw2, .int u2])), (adw2, .inl (gJ (kG K), nw2, .inr (.inl fw2)))] 0 0 148 [(0, .ref adb), (1, .long dg), (3, .ref adb2), (4, .int pl), (5, .long q9.1), (7, .int x7_1), (8, .int x8_2), (9, .int q9.2.1)] []) : ∀ (nn : Nat) (i5_3 : Int64) (i9_4 : Int32) (fw_5 : Nat → Int64), lp (b_X1_subtractMultiple_38 nw nw2 fw2 dg pl x7_1 x8_2) nn (i5_3, i9_4, fw_5) = some b9 → V K 14 [(adb, .inr (0, [.ref adw, .int u])), (adw, .inl (gJ (kG K), nw, .inr (.inl fw_5))), (adb2, .inr (0, [.ref adw2, .int u2])), (adw2, .inl (gJ (kG K), nw2, .inr (.inl fw2)))] 0 0 38 [(0, .ref adb), (1, .long dg), (3, .ref adb2), (4, .int pl), (5, .long i5_3), (7, .int x7_1), (8, .int x8_2), (9, .int i9_4)] [] := by
  intro nn
  induction nn with
  | zero => intro i5_3 i9_4 fw_5 h; exact absurd h (by simp [lp])
  | succ nn ih =>
    intro i5_3 i9_4 fw_5 h
    replace h := lp_s h
    rw [eb_X1_subtractMultiple_38] at h
    refine v_iload hk dX1_subtractMultiple_38 rfl ?_
    obtain ⟨y_6, ey_6, h⟩ := bd_e (g := (lpk (lp (b_X1_subtractMultiple_38 nw nw2 fw2 dg pl x7_1 x8_2) nn))) rfl h
    have Jay_6 : y_6 = true → V K 14 [(adb, .inr (0, [.ref adw, .int u])), (adw, .inl (gJ (kG K), nw, .inr (.inl fw_5))), (adb2, .inr (0, [.ref adw2, .int u2])), (adw2, .inl (gJ (kG K), nw2, .inr (.inl fw2)))] 0 0 148 [(0, .ref adb), (1, .long dg), (3, .ref adb2), (4, .int pl), (5, .long i5_3), (7, .int x7_1), (8, .int x8_2), (9, .int i9_4)] [] := by
      intro hz9
      replace h := it_t (g := (lpk (lp (b_X1_subtractMultiple_38 nw nw2 fw2 dg pl x7_1 x8_2) nn))) h hz9
      replace h : some (i5_3, i9_4, fw_5) = some b9 := h
      replace h := Option.some.inj h
      subst h
      exact kk0 _ rfl
    have Jby_6 : y_6 = false → V K 14 [(adb, .inr (0, [.ref adw, .int u])), (adw, .inl (gJ (kG K), nw, .inr (.inl fw_5))), (adb2, .inr (0, [.ref adw2, .int u2])), (adw2, .inl (gJ (kG K), nw2, .inr (.inl fw2)))] 0 0 64 [(0, .ref adb), (1, .long dg), (3, .ref adb2), (4, .int pl), (5, .long i5_3), (7, .int x7_1), (8, .int x8_2), (9, .int i9_4)] [] := by
      intro hz9
      replace h := it_f (g := (lpk (lp (b_X1_subtractMultiple_38 nw nw2 fw2 dg pl x7_1 x8_2) nn))) h (by rw [hz9]; decide)
      refine v_lload hk dX1_subtractMultiple_64 rfl ?_
      refine v_lstore hk dX1_subtractMultiple_66 (by decide) [1, 2, 3, 4, 5, 6, 7, 8, 0] (lv' := [(0, .ref adb), (1, .long dg), (3, .ref adb2), (4, .int pl), (5, .long i5_3), (7, .int x7_1), (8, .int x8_2), (9, .int i9_4), (10, .long i5_3)]) rfl ?_
      refine v_iload hk dX1_subtractMultiple_68 rfl ?_
      refine v_iload hk dX1_subtractMultiple_70 rfl ?_
      obtain ⟨y_7, ey_7, h⟩ := bd_e (g := (lpk (lp (b_X1_subtractMultiple_38 nw nw2 fw2 dg pl x7_1 x8_2) nn))) rfl h
      have Jy_7 : V K 14 [(adb, .inr (0, [.ref adw, .int u])), (adw, .inl (gJ (kG K), nw, .inr (.inl fw_5))), (adb2, .inr (0, [.ref adw2, .int u2])), (adw2, .inl (gJ (kG K), nw2, .inr (.inl fw2)))] 0 0 92 [(0, .ref adb), (1, .long dg), (3, .ref adb2), (4, .int pl), (5, .long i5_3), (7, .int x7_1), (8, .int x8_2), (9, .int i9_4), (10, .long y_7)] [] := by
        refine v_aload_n hk dX1_subtractMultiple_92 rfl ?_
        refine v_get (C := RX1) (T := TX1) (N := 2) (ci := 0) (v := .ref adw) hk dX1_subtractMultiple_93 w2i_X1_subtractMultiple_X10 0 rfl rfl 0 (by decide) (by decide +kernel) rfl rfl ?_
        refine v_iload hk dX1_subtractMultiple_96 rfl ?_
        obtain ⟨hi, h⟩ := ok_e (g := (lpk (lp (b_X1_subtractMultiple_38 nw nw2 fw2 dg pl x7_1 x8_2) nn))) rfl h
        refine v_laldV hk dX1_subtractMultiple_98 1 rfl (ix_in hi) ?_
        refine v_lload hk dX1_subtractMultiple_99 rfl ?_
        refine v_ldc2 (v := 4294967295) hk dX1_subtractMultiple_101 (by decide +kernel) ?_
        refine v_land hk dX1_subtractMultiple_104 ?_
        refine v_lsub hk dX1_subtractMultiple_105 ?_
        obtain ⟨x12_8, ex12_8, h⟩ := lt_e (g := (lpk (lp (b_X1_subtractMultiple_38 nw nw2 fw2 dg pl x7_1 x8_2) nn))) h
        refine v_topl ex12_8.symm ?_
        refine v_lstore hk dX1_subtractMultiple_106 (by decide) [1, 2, 3, 4, 5, 6, 7, 8, 9, 0] (lv' := [(0, .ref adb), (1, .long dg), (3, .ref adb2), (4, .int pl), (5, .long i5_3), (7, .int x7_1), (8, .int x8_2), (9, .int i9_4), (10, .long y_7), (12, .long x12_8)]) rfl ?_
        refine v_aload_n hk dX1_subtractMultiple_108 rfl ?_
        refine v_get (C := RX1) (T := TX1) (N := 2) (ci := 0) (v := .ref adw) hk dX1_subtractMultiple_109 w2i_X1_subtractMultiple_X10 0 rfl rfl 0 (by decide) (by decide +kernel) rfl rfl ?_
        refine v_iload hk dX1_subtractMultiple_112 rfl ?_
        refine v_lload hk dX1_subtractMultiple_114 rfl ?_
        refine v_ldc2 (v := 4294967295) hk dX1_subtractMultiple_116 (by decide +kernel) ?_
        refine v_land hk dX1_subtractMultiple_119 ?_
        obtain ⟨hi, h⟩ := ok_e (g := (lpk (lp (b_X1_subtractMultiple_38 nw nw2 fw2 dg pl x7_1 x8_2) nn))) rfl h
        obtain ⟨fw_9, efw_9, h⟩ := lt_e (g := (lpk (lp (b_X1_subtractMultiple_38 nw nw2 fw2 dg pl x7_1 x8_2) nn))) h
        refine v_lastV hk dX1_subtractMultiple_120 1 rfl (ix_in hi) (ws' := [(adb, .inr (0, [.ref adw, .int u])), (adw, .inl (gJ (kG K), nw, .inr (.inl fw_9))), (adb2, .inr (0, [.ref adw2, .int u2])), (adw2, .inl (gJ (kG K), nw2, .inr (.inl fw2)))]) (by rw [efw_9]; rfl) ?_
        refine v_lload hk dX1_subtractMultiple_121 rfl ?_
        refine v_bipush (v := 32) hk dX1_subtractMultiple_123 (by decide) ?_
        refine v_lushr hk dX1_subtractMultiple_125 ?_
        refine v_lload hk dX1_subtractMultiple_126 rfl ?_
        refine v_lconst (v := 0) hk dX1_subtractMultiple_128 (by decide) ?_
        refine v_lcmp hk dX1_subtractMultiple_129 ?_
        obtain ⟨z_10, ez_10, h⟩ := lt_e (g := (lpk (lp (b_X1_subtractMultiple_38 nw nw2 fw2 dg pl x7_1 x8_2) nn))) h
        have Jz_10 : V K 14 [(adb, .inr (0, [.ref adw, .int u])), (adw, .inl (gJ (kG K), nw, .inr (.inl fw_9))), (adb2, .inr (0, [.ref adw2, .int u2])), (adw2, .inl (gJ (kG K), nw2, .inr (.inl fw2)))] 0 0 138 [(0, .ref adb), (1, .long dg), (3, .ref adb2), (4, .int pl), (5, .long i5_3), (7, .int x7_1), (8, .int x8_2), (9, .int i9_4), (10, .long y_7), (12, .long x12_8)] (.int z_10 :: [.long ((y_7.toUInt64 >>> ((32 : Int32).toInt64.toUInt64 &&& Int64.toUInt64 63)).toInt64)]) := by
          refine v_i2l hk dX1_subtractMultiple_138 ?_
          refine v_ladd hk dX1_subtractMultiple_139 ?_
          obtain ⟨x5_11, ex5_11, h⟩ := lt_e (g := (lpk (lp (b_X1_subtractMultiple_38 nw nw2 fw2 dg pl x7_1 x8_2) nn))) h
          refine v_topl ex5_11.symm ?_
          refine v_lstore hk dX1_subtractMultiple_140 (by decide) [1, 2, 3, 4, 0, 5, 6, 7, 8, 9] (lv' := [(0, .ref adb), (1, .long dg), (3, .ref adb2), (4, .int pl), (5, .long x5_11), (7, .int x7_1), (8, .int x8_2), (9, .int i9_4), (10, .long y_7), (12, .long x12_8)]) rfl ?_
          obtain ⟨x9_12, ex9_12, h⟩ := lt_e (g := (lpk (lp (b_X1_subtractMultiple_38 nw nw2 fw2 dg pl x7_1 x8_2) nn))) h
          refine v_iinc (v := x9_12) hk dX1_subtractMultiple_142 rfl (by rw [ex9_12]; rfl) (by decide) [1, 2, 3, 4, 5, 6, 7, 0, 8, 9] (lv' := [(0, .ref adb), (1, .long dg), (3, .ref adb2), (4, .int pl), (5, .long x5_11), (7, .int x7_1), (8, .int x8_2), (9, .int x9_12), (10, .long y_7), (12, .long x12_8)]) rfl ?_
          refine v_goto (tgt := 38) hk dX1_subtractMultiple_145 (by decide) ?_
          refine v_loc [0, 1, 2, 3, 4, 5, 6, 7] (lv' := [(0, .ref adb), (1, .long dg), (3, .ref adb2), (4, .int pl), (5, .long x5_11), (7, .int x7_1), (8, .int x8_2), (9, .int x9_12)]) rfl ?_
          exact ih x5_11 x9_12 fw_9 h
        refine v_if_ge (tgt := 137) hk dX1_subtractMultiple_130 (by decide) (fun hc => ?_) (fun hc => ?_)
        · rw [if_pos hc] at ez_10
          subst ez_10
          refine v_iconst (v := 0) hk dX1_subtractMultiple_137 (by decide) ?_
          exact Jz_10
        · rw [if_neg hc] at ez_10
          subst ez_10
          refine v_iconst (v := 1) hk dX1_subtractMultiple_133 (by decide) ?_
          refine v_goto (tgt := 138) hk dX1_subtractMultiple_134 (by decide) ?_
          exact Jz_10
      clear h
      have h := id_e ey_7
      clear ey_7
      refine v_icmp_ge (tgt := 92) hk dX1_subtractMultiple_72 (by decide) (fun hc => ?_) (fun hc => ?_)
      · replace h := it_t (g := id) h hc
        replace h : some (i5_3 : Int64) = some y_7 := h
        replace h := Option.some.inj h
        subst h
        exact Jy_7
      · replace h := it_f (g := id) h hc
        refine v_lload hk dX1_subtractMultiple_75 rfl ?_
        refine v_lload_n hk dX1_subtractMultiple_77 rfl ?_
        refine v_aload_n hk dX1_subtractMultiple_78 rfl ?_
        refine v_get (C := RX1) (T := TX1) (N := 2) (ci := 0) (v := .ref adw2) hk dX1_subtractMultiple_79 w2i_X1_subtractMultiple_X10 2 rfl rfl 0 (by decide) (by decide +kernel) rfl rfl ?_
        refine v_iload hk dX1_subtractMultiple_82 rfl ?_
        refine v_iload hk dX1_subtractMultiple_84 rfl ?_
        refine v_isub hk dX1_subtractMultiple_86 ?_
        obtain ⟨hi, h⟩ := ok_e (g := id) rfl h
        refine v_laldV hk dX1_subtractMultiple_87 3 rfl (ix_in hi) ?_
        refine v_lmul hk dX1_subtractMultiple_88 ?_
        refine v_ladd hk dX1_subtractMultiple_89 ?_
        obtain ⟨x10_13, ex10_13, h⟩ := lt_e (g := id) h
        refine v_topl ex10_13.symm ?_
        refine v_lstore hk dX1_subtractMultiple_90 (by decide) [1, 2, 3, 4, 5, 6, 7, 8, 0] (lv' := [(0, .ref adb), (1, .long dg), (3, .ref adb2), (4, .int pl), (5, .long i5_3), (7, .int x7_1), (8, .int x8_2), (9, .int i9_4), (10, .long x10_13)]) rfl ?_
        replace h : some (x10_13 : Int64) = some y_7 := h
        replace h := Option.some.inj h
        subst h
        exact Jy_7
    clear h
    have h := id_e ey_6
    clear ey_6
    refine v_if_lt (tgt := 148) hk dX1_subtractMultiple_40 (by decide) (fun hc => ?_) (fun hc => ?_)
    · replace h := it_t (g := id) h hc
      replace h : some true = some y_6 := h
      replace h := Option.some.inj h
      subst h
      exact Jay_6 rfl
    · replace h := it_f (g := id) h hc
      refine v_iload hk dX1_subtractMultiple_43 rfl ?_
      refine v_iload hk dX1_subtractMultiple_45 rfl ?_
      obtain ⟨y_14, ey_14, h⟩ := bd_e (g := id) rfl h
      have Jay_14 : y_14 = true → V K 14 [(adb, .inr (0, [.ref adw, .int u])), (adw, .inl (gJ (kG K), nw, .inr (.inl fw_5))), (adb2, .inr (0, [.ref adw2, .int u2])), (adw2, .inl (gJ (kG K), nw2, .inr (.inl fw2)))] 0 0 148 [(0, .ref adb), (1, .long dg), (3, .ref adb2), (4, .int pl), (5, .long i5_3), (7, .int x7_1), (8, .int x8_2), (9, .int i9_4)] [] := by
        intro hz9
        replace h := it_t (g := id) h hz9
        replace h : some true = some y_6 := h
        replace h := Option.some.inj h
        subst h
        exact Jay_6 rfl
      have Jby_14 : y_14 = false → V K 14 [(adb, .inr (0, [.ref adw, .int u])), (adw, .inl (gJ (kG K), nw, .inr (.inl fw_5))), (adb2, .inr (0, [.ref adw2, .int u2])), (adw2, .inl (gJ (kG K), nw2, .inr (.inl fw2)))] 0 0 64 [(0, .ref adb), (1, .long dg), (3, .ref adb2), (4, .int pl), (5, .long i5_3), (7, .int x7_1), (8, .int x8_2), (9, .int i9_4)] [] := by
        intro hz9
        replace h := it_f (g := id) h (by rw [hz9]; decide)
        replace h : some false = some y_6 := h
        replace h := Option.some.inj h
        subst h
        exact Jby_6 rfl
      clear h
      have h := id_e ey_14
      clear ey_14
      refine v_icmp_ge (tgt := 148) hk dX1_subtractMultiple_47 (by decide) (fun hc => ?_) (fun hc => ?_)
      · replace h := it_t (g := id) h hc
        replace h : some true = some y_14 := h
        replace h := Option.some.inj h
        subst h
        exact Jay_14 rfl
      · replace h := it_f (g := id) h hc
        refine v_iload hk dX1_subtractMultiple_50 rfl ?_
        refine v_iload hk dX1_subtractMultiple_52 rfl ?_
        obtain ⟨y_15, ey_15, h⟩ := bd_e (g := id) rfl h
        have Jay_15 : y_15 = true → V K 14 [(adb, .inr (0, [.ref adw, .int u])), (adw, .inl (gJ (kG K), nw, .inr (.inl fw_5))), (adb2, .inr (0, [.ref adw2, .int u2])), (adw2, .inl (gJ (kG K), nw2, .inr (.inl fw2)))] 0 0 64 [(0, .ref adb), (1, .long dg), (3, .ref adb2), (4, .int pl), (5, .long i5_3), (7, .int x7_1), (8, .int x8_2), (9, .int i9_4)] [] := by
          intro hz9
          replace h := it_t (g := id) h hz9
          replace h : some false = some y_14 := h
          replace h := Option.some.inj h
          subst h
          exact Jby_14 rfl
        have Jby_15 : y_15 = false → V K 14 [(adb, .inr (0, [.ref adw, .int u])), (adw, .inl (gJ (kG K), nw, .inr (.inl fw_5))), (adb2, .inr (0, [.ref adw2, .int u2])), (adw2, .inl (gJ (kG K), nw2, .inr (.inl fw2)))] 0 0 148 [(0, .ref adb), (1, .long dg), (3, .ref adb2), (4, .int pl), (5, .long i5_3), (7, .int x7_1), (8, .int x8_2), (9, .int i9_4)] [] := by
          intro hz9
          replace h := it_f (g := id) h (by rw [hz9]; decide)
          replace h : some true = some y_14 := h
          replace h := Option.some.inj h
          subst h
          exact Jay_14 rfl
        clear h
        have h := id_e ey_15
        clear ey_15
        refine v_icmp_lt (tgt := 64) hk dX1_subtractMultiple_54 (by decide) (fun hc => ?_) (fun hc => ?_)
        · replace h := it_t (g := id) h hc
          replace h : some true = some y_15 := h
          replace h := Option.some.inj h
          subst h
          exact Jay_15 rfl
        · replace h := it_f (g := id) h hc
          refine v_lload hk dX1_subtractMultiple_57 rfl ?_
          refine v_lconst (v := 0) hk dX1_subtractMultiple_59 (by decide) ?_
          refine v_lcmp hk dX1_subtractMultiple_60 ?_
          refine v_if_eq (tgt := 148) hk dX1_subtractMultiple_61 (by decide) (fun hc => ?_) (fun hc => ?_)
          · replace h := it_t (g := id) h hc
            replace h : some false = some y_15 := h
            replace h := Option.some.inj h
            subst h
            exact Jby_15 rfl
          · replace h := it_f (g := id) h hc
            replace h : some true = some y_15 := h
            replace h := Option.some.inj h
            subst h
            exact Jay_15 rfl
set_option maxHeartbeats 4000000 in
set_option maxRecDepth 100000 in
theorem c_X1_subtractMultiple (l : Launch) (G : GG) (adb : Nat) (adw : Nat) (adb2 : Nat) (adw2 : Nat) (u : Int32) (nw : Nat) (fw : Nat → Int64) (u2 : Int32) (nw2 : Nat) (fw2 : Nat → Int64) (dg : Int64) (pl : Int32) (r : Int32 × (Nat → Int64)) (h : m_X1_subtractMultiple u nw fw u2 nw2 fw2 dg pl = some r) : Ctr l G yX1_subtractMultiple w2_X1_subtractMultiple rm_X1_subtractMultiple [.ref adb, .long dg, .ref adb2, .int pl] [(adb, .inr (0, [.ref adw, .int u])), (adw, .inl (gJ G, nw, .inr (.inl fw))), (adb2, .inr (0, [.ref adw2, .int u2])), (adw2, .inl (gJ G, nw2, .inr (.inl fw2)))] (fun v w => v = none ∧ w = [(adb, .inr (0, [.ref adw, .int r.1])), (adw, .inl (gJ G, nw, .inr (.inl r.2))), (adb2, .inr (0, [.ref adw2, .int u2])), (adw2, .inl (gJ G, nw2, .inr (.inl fw2)))]) := by
  refine ctr_entry (cc := cX1_subtractMultiple) (maxL := 14) (ret := none) (lv0 := [(0, .ref adb), (1, .long dg), (3, .ref adb2), (4, .int pl)]) (by decide) rfl (Nat.le_of_ble_eq_true rfl) (by simp [lv_args, Value.category]) ?_
  intro K hl9 hG9 hk hn9 hrt
  subst hl9
  subst hG9
  have hR9 : RoomGe rm_X1_subtractMultiple rm_X1_subtractMultiple := RoomGe.rf
  replace h := id_e h
  rw [em_X1_subtractMultiple] at h
  refine v_lconst (v := 0) hk dX1_subtractMultiple_0 (by decide) ?_
  refine v_lstore hk dX1_subtractMultiple_1 (by decide) [1, 2, 3, 4, 0] (lv' := [(0, .ref adb), (1, .long dg), (3, .ref adb2), (4, .int pl), (5, .long 0)]) rfl ?_
  refine v_aload_n hk dX1_subtractMultiple_3 rfl ?_
  refine v_get (C := RX1) (T := TX1) (N := 2) (ci := 0) (v := .int u) hk dX1_subtractMultiple_4 w2i_X1_subtractMultiple_X10 0 rfl rfl 1 (by decide) (by decide +kernel) rfl rfl ?_
  refine v_aload_n hk dX1_subtractMultiple_7 rfl ?_
  refine v_get (C := RX1) (T := TX1) (N := 2) (ci := 0) (v := .ref adw) hk dX1_subtractMultiple_8 w2i_X1_subtractMultiple_X10 0 rfl rfl 0 (by decide) (by decide +kernel) rfl rfl ?_
  refine v_alenJ hk dX1_subtractMultiple_11 1 rfl rfl ?_
  refine v_mmin hk dX1_subtractMultiple_12 (by decide +kernel) (by decide +kernel) (by decide +kernel) (by decide +kernel) (Nat.le_trans (by decide) hR9.1) (Nat.le_trans (Nat.le_of_ble_eq_true rfl) hR9.2.2.2) (Nat.zero_le _) (Nat.zero_le _) ?_
  obtain ⟨x7_1, ex7_1, h⟩ := lt_e (g := id) h
  refine v_topi ex7_1.symm ?_
  refine v_istore hk dX1_subtractMultiple_15 (by decide) [1, 2, 3, 4, 5, 0] (lv' := [(0, .ref adb), (1, .long dg), (3, .ref adb2), (4, .int pl), (5, .long 0), (7, .int x7_1)]) rfl ?_
  refine v_iload hk dX1_subtractMultiple_17 rfl ?_
  refine v_aload_n hk dX1_subtractMultiple_19 rfl ?_
  refine v_get (C := RX1) (T := TX1) (N := 2) (ci := 0) (v := .int u2) hk dX1_subtractMultiple_20 w2i_X1_subtractMultiple_X10 2 rfl rfl 1 (by decide) (by decide +kernel) rfl rfl ?_
  refine v_aload_n hk dX1_subtractMultiple_23 rfl ?_
  refine v_get (C := RX1) (T := TX1) (N := 2) (ci := 0) (v := .ref adw2) hk dX1_subtractMultiple_24 w2i_X1_subtractMultiple_X10 2 rfl rfl 0 (by decide) (by decide +kernel) rfl rfl ?_
  refine v_alenJ hk dX1_subtractMultiple_27 3 rfl rfl ?_
  refine v_mmin hk dX1_subtractMultiple_28 (by decide +kernel) (by decide +kernel) (by decide +kernel) (by decide +kernel) (Nat.le_trans (by decide) hR9.1) (Nat.le_trans (Nat.le_of_ble_eq_true rfl) hR9.2.2.2) (Nat.zero_le _) (Nat.zero_le _) ?_
  refine v_iadd hk dX1_subtractMultiple_31 ?_
  obtain ⟨x8_2, ex8_2, h⟩ := lt_e (g := id) h
  refine v_topi ex8_2.symm ?_
  refine v_istore hk dX1_subtractMultiple_32 (by decide) [1, 2, 3, 4, 5, 6, 0] (lv' := [(0, .ref adb), (1, .long dg), (3, .ref adb2), (4, .int pl), (5, .long 0), (7, .int x7_1), (8, .int x8_2)]) rfl ?_
  refine v_iload hk dX1_subtractMultiple_34 rfl ?_
  refine v_istore hk dX1_subtractMultiple_36 (by decide) [1, 2, 3, 4, 5, 6, 7, 0] (lv' := [(0, .ref adb), (1, .long dg), (3, .ref adb2), (4, .int pl), (5, .long 0), (7, .int x7_1), (8, .int x8_2), (9, .int pl)]) rfl ?_
  obtain ⟨b_18, eb_18, h⟩ := bd_e (g := id) rfl h
  refine L_X1_subtractMultiple_38 hk hR9 adb adw adb2 adw2 u nw u2 nw2 fw2 dg pl x7_1 x8_2 b_18 (fun q_16 eq_16 => ?_) FU 0 pl fw eb_18
  · replace eq_16 := eq_16.symm
    subst eq_16
    refine v_aload_n hk dX1_subtractMultiple_148 rfl ?_
    obtain ⟨r_17, er_17, h⟩ := bd_e (g := id) rfl h
    refine v_callV (n := 0) (st := []) (b := adb) (T := TX1) (N := 2) hk dX1_subtractMultiple_149 (c_X1_trim (kl K) (kG K) adb adw u nw q_16.2.2 r_17 er_17) rfl gd_X1_subtractMultiple_X1_trim rfl (by decide +kernel) (frok hR9 (Nat.le_of_ble_eq_true rfl) (Nat.le_of_ble_eq_true rfl)) (roomk hR9 (Nat.le_of_ble_eq_true rfl) (Nat.le_of_ble_eq_true rfl)) rfl rfl (Nat.le_of_ble_eq_true rfl) 0 rfl rfl [0, 1] [2, 3] (wr := [(adb2, .inr (0, [.ref adw2, .int u2])), (adw2, .inl (gJ (kG K), nw2, .inr (.inl fw2)))]) rfl rfl (by decide) (by decide) (by decide) ?_
    intro v9 w9 hp9
    obtain ⟨rfl, rfl⟩ := hp9
    show V K 14 [(adb2, .inr (0, [.ref adw2, .int u2])), (adw2, .inl (gJ (kG K), nw2, .inr (.inl fw2))), (adb, .inr (0, [.ref adw, .int r_17])), (adw, .inl (gJ (kG K), nw, .inr (.inl q_16.2.2)))] 0 0 152 [(0, .ref adb), (1, .long dg), (3, .ref adb2), (4, .int pl), (5, .long q_16.1), (7, .int x7_1), (8, .int x8_2), (9, .int q_16.2.1)] []
    replace h : some (r_17, q_16.2.2) = some r := h
    replace h := Option.some.inj h
    subst h
    refine v_perm [2, 3, 0, 1] (ws' := [(adb, .inr (0, [.ref adw, .int r_17])), (adw, .inl (gJ (kG K), nw, .inr (.inl q_16.2.2))), (adb2, .inr (0, [.ref adw2, .int u2])), (adw2, .inl (gJ (kG K), nw2, .inr (.inl fw2)))]) rfl rfl (by decide) ?_
    refine hrt (none) _ _ _ _ _ (⟨rfl, rfl⟩) (Nat.zero_le _) (Nat.zero_le _) (dX1_subtractMultiple_152)
abbrev rm_X1_times : Room := { frames := 2, cells := 0, slots := 0, locals := 52 }
set_option maxHeartbeats 4000000 in
set_option maxRecDepth 100000 in
theorem L_X1_times_27 {K : Cx} {R9 : Room} (hk : Ok K cX1_times 6 RX1 w2_X1_times R9) (hR9 : RoomGe R9 rm_X1_times) (adb : Nat) (adw : Nat) (adb2 : Nat) (adw2 : Nat) (nw : Nat) (u2 : Int32) (nw2 : Nat) (fw2 : Nat → Int64) (x2_1 : Int32) (r_2 : Int32 × (Nat → Int64)) (b9 : (Int32 × (Nat → Int64))) (kk0 : ∀ q9 : (Int32 × (Nat → Int64)), b9 = q9 → V K 6 [(adb2, .inr (0, [.ref adw2, .int u2])), (adw2, .inl (gJ (kG K), nw2, .inr (.inl fw2))), (adb, .inr (0, [.ref adw, .int r_2.1])), (adw, .inl (gJ (kG K), nw, .inr (.inl q9.2)))] 0 0 60 [(0, .ref adb), (1, .ref adb2), (2, .int x2_1), (3, .int q9.1)] []) : ∀ (nn : Nat) (i3_4 : Int32) (fw_5 : Nat → Int64), lp (b_X1_times_27 nw u2 nw2 fw2 r_2) nn (i3_4, fw_5) = some b9 → V K 6 [(adb2, .inr (0, [.ref adw2, .int u2])), (adw2, .inl (gJ (kG K), nw2, .inr (.inl fw2))), (adb, .inr (0, [.ref adw, .int r_2.1])), (adw, .inl (gJ (kG K), nw, .inr (.inl fw_5)))] 0 0 27 [(0, .ref adb), (1, .ref adb2), (2, .int x2_1), (3, .int i3_4)] [] := by
  intro nn
  induction nn with
  | zero => intro i3_4 fw_5 h; exact absurd h (by simp [lp])
  | succ nn ih =>
    intro i3_4 fw_5 h
    replace h := lp_s h
    rw [eb_X1_times_27] at h
    refine v_iload_n hk dX1_times_27 rfl ?_
    refine v_if_lt (tgt := 60) hk dX1_times_28 (by decide) (fun hc => ?_) (fun hc => ?_)
    · replace h := it_t (g := (lpk (lp (b_X1_times_27 nw u2 nw2 fw2 r_2) nn))) h hc
      replace h : some (i3_4, fw_5) = some b9 := h
      replace h := Option.some.inj h
      subst h
      exact kk0 _ rfl
    · replace h := it_f (g := (lpk (lp (b_X1_times_27 nw u2 nw2 fw2 r_2) nn))) h hc
      refine v_aload_n hk dX1_times_31 rfl ?_
      refine v_get (C := RX1) (T := TX1) (N := 2) (ci := 0) (v := .ref adw) hk dX1_times_32 w2i_X1_times_X10 2 rfl rfl 0 (by decide) (by decide +kernel) rfl rfl ?_
      refine v_iload_n hk dX1_times_35 rfl ?_
      obtain ⟨hi, h⟩ := ok_e (g := (lpk (lp (b_X1_times_27 nw u2 nw2 fw2 r_2) nn))) rfl h
      refine v_laldV hk dX1_times_36 3 rfl (ix_in hi) ?_
      obtain ⟨x4_6, ex4_6, h⟩ := lt_e (g := (lpk (lp (b_X1_times_27 nw u2 nw2 fw2 r_2) nn))) h
      refine v_topl ex4_6.symm ?_
      refine v_lstore hk dX1_times_37 (by decide) [1, 2, 3, 4, 0] (lv' := [(0, .ref adb), (1, .ref adb2), (2, .int x2_1), (3, .int i3_4), (4, .long x4_6)]) rfl ?_
      refine v_aload_n hk dX1_times_39 rfl ?_
      refine v_get (C := RX1) (T := TX1) (N := 2) (ci := 0) (v := .ref adw) hk dX1_times_40 w2i_X1_times_X10 2 rfl rfl 0 (by decide) (by decide +kernel) rfl rfl ?_
      refine v_iload_n hk dX1_times_43 rfl ?_
      refine v_lconst (v := 0) hk dX1_times_44 (by decide) ?_
      obtain ⟨hi, h⟩ := ok_e (g := (lpk (lp (b_X1_times_27 nw u2 nw2 fw2 r_2) nn))) rfl h
      obtain ⟨fw_7, efw_7, h⟩ := lt_e (g := (lpk (lp (b_X1_times_27 nw u2 nw2 fw2 r_2) nn))) h
      refine v_lastV hk dX1_times_45 3 rfl (ix_in hi) (ws' := [(adb2, .inr (0, [.ref adw2, .int u2])), (adw2, .inl (gJ (kG K), nw2, .inr (.inl fw2))), (adb, .inr (0, [.ref adw, .int r_2.1])), (adw, .inl (gJ (kG K), nw, .inr (.inl fw_7)))]) (by rw [efw_7]; rfl) ?_
      refine v_aload_n hk dX1_times_46 rfl ?_
      refine v_lload hk dX1_times_47 rfl ?_
      refine v_aload_n hk dX1_times_49 rfl ?_
      refine v_iload_n hk dX1_times_50 rfl ?_
      obtain ⟨r_8, er_8, h⟩ := bd_e (g := (lpk (lp (b_X1_times_27 nw u2 nw2 fw2 r_2) nn))) rfl h
      refine v_callV (n := 3) (st := []) (b := adb) (T := TX1) (N := 2) hk dX1_times_51 (c_X1_addMultiple (kl K) (kG K) adb adw adb2 adw2 r_2.1 nw fw_7 u2 nw2 fw2 x4_6 i3_4 r_8 er_8) rfl gd_X1_times_X1_addMultiple rfl (by decide +kernel) (frok hR9 (Nat.le_of_ble_eq_true rfl) (Nat.le_of_ble_eq_true rfl)) (roomk hR9 (Nat.le_of_ble_eq_true rfl) (Nat.le_of_ble_eq_true rfl)) rfl rfl (Nat.le_of_ble_eq_true rfl) 2 rfl rfl [2, 3, 0, 1] [] (wr := []) rfl rfl (by decide) (by decide) (by decide) ?_
      intro v9 w9 hp9
      obtain ⟨rfl, rfl⟩ := hp9
      show V K 6 [(adb, .inr (0, [.ref adw, .int r_2.1])), (adw, .inl (gJ (kG K), nw, .inr (.inl r_8))), (adb2, .inr (0, [.ref adw2, .int u2])), (adw2, .inl (gJ (kG K), nw2, .inr (.inl fw2)))] 0 0 54 [(0, .ref adb), (1, .ref adb2), (2, .int x2_1), (3, .int i3_4), (4, .long x4_6)] []
      obtain ⟨x3_9, ex3_9, h⟩ := lt_e (g := (lpk (lp (b_X1_times_27 nw u2 nw2 fw2 r_2) nn))) h
      refine v_iinc (v := x3_9) hk dX1_times_54 rfl (by rw [ex3_9]; rfl) (by decide) [1, 2, 3, 0, 4] (lv' := [(0, .ref adb), (1, .ref adb2), (2, .int x2_1), (3, .int x3_9), (4, .long x4_6)]) rfl ?_
      refine v_goto (tgt := 27) hk dX1_times_57 (by decide) ?_
      refine v_loc [0, 1, 2, 3] (lv' := [(0, .ref adb), (1, .ref adb2), (2, .int x2_1), (3, .int x3_9)]) rfl ?_
      refine v_perm [2, 3, 0, 1] (ws' := [(adb2, .inr (0, [.ref adw2, .int u2])), (adw2, .inl (gJ (kG K), nw2, .inr (.inl fw2))), (adb, .inr (0, [.ref adw, .int r_2.1])), (adw, .inl (gJ (kG K), nw, .inr (.inl r_8)))]) rfl rfl (by decide) ?_
      exact ih x3_9 r_8 h
set_option maxHeartbeats 4000000 in
set_option maxRecDepth 100000 in
theorem c_X1_times (l : Launch) (G : GG) (adb : Nat) (adw : Nat) (adb2 : Nat) (adw2 : Nat) (u : Int32) (nw : Nat) (fw : Nat → Int64) (u2 : Int32) (nw2 : Nat) (fw2 : Nat → Int64) (r : Int32 × (Nat → Int64)) (h : m_X1_times u nw fw u2 nw2 fw2 = some r) : Ctr l G yX1_times w2_X1_times rm_X1_times [.ref adb, .ref adb2] [(adb, .inr (0, [.ref adw, .int u])), (adw, .inl (gJ G, nw, .inr (.inl fw))), (adb2, .inr (0, [.ref adw2, .int u2])), (adw2, .inl (gJ G, nw2, .inr (.inl fw2)))] (fun v w => v = none ∧ w = [(adb, .inr (0, [.ref adw, .int r.1])), (adw, .inl (gJ G, nw, .inr (.inl r.2))), (adb2, .inr (0, [.ref adw2, .int u2])), (adw2, .inl (gJ G, nw2, .inr (.inl fw2)))]) := by
  refine ctr_entry (cc := cX1_times) (maxL := 6) (ret := none) (lv0 := [(0, .ref adb), (1, .ref adb2)]) (by decide) rfl (Nat.le_of_ble_eq_true rfl) (rfl) ?_
  intro K hl9 hG9 hk hn9 hrt
  subst hl9
  subst hG9
  have hR9 : RoomGe rm_X1_times rm_X1_times := RoomGe.rf
  replace h := id_e h
  rw [em_X1_times] at h
  refine v_aload_n hk dX1_times_0 rfl ?_
  refine v_get (C := RX1) (T := TX1) (N := 2) (ci := 0) (v := .int u) hk dX1_times_1 w2i_X1_times_X10 0 rfl rfl 1 (by decide) (by decide +kernel) rfl rfl ?_
  refine v_aload_n hk dX1_times_4 rfl ?_
  refine v_get (C := RX1) (T := TX1) (N := 2) (ci := 0) (v := .ref adw) hk dX1_times_5 w2i_X1_times_X10 0 rfl rfl 0 (by decide) (by decide +kernel) rfl rfl ?_
  refine v_alenJ hk dX1_times_8 1 rfl rfl ?_
  refine v_mmin hk dX1_times_9 (by decide +kernel) (by decide +kernel) (by decide +kernel) (by decide +kernel) (Nat.le_trans (by decide) hR9.1) (Nat.le_trans (Nat.le_of_ble_eq_true rfl) hR9.2.2.2) (Nat.zero_le _) (Nat.zero_le _) ?_
  obtain ⟨x2_1, ex2_1, h⟩ := lt_e (g := id) h
  refine v_topi ex2_1.symm ?_
  refine v_istore_n hk dX1_times_12 rfl (by decide) [1, 2, 0] (lv' := [(0, .ref adb), (1, .ref adb2), (2, .int x2_1)]) rfl ?_
  refine v_aload_n hk dX1_times_13 rfl ?_
  refine v_iload_n hk dX1_times_14 rfl ?_
  refine v_aload_n hk dX1_times_15 rfl ?_
  refine v_get (C := RX1) (T := TX1) (N := 2) (ci := 0) (v := .int u2) hk dX1_times_16 w2i_X1_times_X10 2 rfl rfl 1 (by decide) (by decide +kernel) rfl rfl ?_
  refine v_iadd hk dX1_times_19 ?_
  obtain ⟨r_2, er_2, h⟩ := bd_e (g := id) rfl h
  refine v_callV (n := 1) (st := []) (b := adb) (T := TX1) (N := 2) hk dX1_times_20 (c_X1_widen (kl K) (kG K) adb adw u nw fw (x2_1 + u2) r_2 er_2) rfl gd_X1_times_X1_widen rfl (by decide +kernel) (frok hR9 (Nat.le_of_ble_eq_true rfl) (Nat.le_of_ble_eq_true rfl)) (roomk hR9 (Nat.le_of_ble_eq_true rfl) (Nat.le_of_ble_eq_true rfl)) rfl rfl (Nat.le_of_ble_eq_true rfl) 0 rfl rfl [0, 1] [2, 3] (wr := [(adb2, .inr (0, [.ref adw2, .int u2])), (adw2, .inl (gJ (kG K), nw2, .inr (.inl fw2)))]) rfl rfl (by decide) (by decide) (by decide) ?_
  intro v9 w9 hp9
  obtain ⟨rfl, rfl⟩ := hp9
  show V K 6 [(adb2, .inr (0, [.ref adw2, .int u2])), (adw2, .inl (gJ (kG K), nw2, .inr (.inl fw2))), (adb, .inr (0, [.ref adw, .int r_2.1])), (adw, .inl (gJ (kG K), nw, .inr (.inl r_2.2)))] 0 0 23 [(0, .ref adb), (1, .ref adb2), (2, .int x2_1)] []
  refine v_iload_n hk dX1_times_23 rfl ?_
  refine v_iconst (v := 1) hk dX1_times_24 (by decide) ?_
  refine v_isub hk dX1_times_25 ?_
  obtain ⟨x3_3, ex3_3, h⟩ := lt_e (g := id) h
  refine v_topi ex3_3.symm ?_
  refine v_istore_n hk dX1_times_26 rfl (by decide) [1, 2, 3, 0] (lv' := [(0, .ref adb), (1, .ref adb2), (2, .int x2_1), (3, .int x3_3)]) rfl ?_
  obtain ⟨b_12, eb_12, h⟩ := bd_e (g := id) rfl h
  refine L_X1_times_27 hk hR9 adb adw adb2 adw2 nw u2 nw2 fw2 x2_1 r_2 b_12 (fun q_10 eq_10 => ?_) FU x3_3 r_2.2 eb_12
  · replace eq_10 := eq_10.symm
    subst eq_10
    refine v_aload_n hk dX1_times_60 rfl ?_
    obtain ⟨r_11, er_11, h⟩ := bd_e (g := id) rfl h
    refine v_callV (n := 0) (st := []) (b := adb) (T := TX1) (N := 2) hk dX1_times_61 (c_X1_trim (kl K) (kG K) adb adw r_2.1 nw q_10.2 r_11 er_11) rfl gd_X1_times_X1_trim rfl (by decide +kernel) (frok hR9 (Nat.le_of_ble_eq_true rfl) (Nat.le_of_ble_eq_true rfl)) (roomk hR9 (Nat.le_of_ble_eq_true rfl) (Nat.le_of_ble_eq_true rfl)) rfl rfl (Nat.le_of_ble_eq_true rfl) 2 rfl rfl [2, 3] [0, 1] (wr := [(adb2, .inr (0, [.ref adw2, .int u2])), (adw2, .inl (gJ (kG K), nw2, .inr (.inl fw2)))]) rfl rfl (by decide) (by decide) (by decide) ?_
    intro v9 w9 hp9
    obtain ⟨rfl, rfl⟩ := hp9
    show V K 6 [(adb2, .inr (0, [.ref adw2, .int u2])), (adw2, .inl (gJ (kG K), nw2, .inr (.inl fw2))), (adb, .inr (0, [.ref adw, .int r_11])), (adw, .inl (gJ (kG K), nw, .inr (.inl q_10.2)))] 0 0 64 [(0, .ref adb), (1, .ref adb2), (2, .int x2_1), (3, .int q_10.1)] []
    replace h : some (r_11, q_10.2) = some r := h
    replace h := Option.some.inj h
    subst h
    refine v_perm [2, 3, 0, 1] (ws' := [(adb, .inr (0, [.ref adw, .int r_11])), (adw, .inl (gJ (kG K), nw, .inr (.inl q_10.2))), (adb2, .inr (0, [.ref adw2, .int u2])), (adw2, .inl (gJ (kG K), nw2, .inr (.inl fw2)))]) rfl rfl (by decide) ?_
    refine hrt (none) _ _ _ _ _ (⟨rfl, rfl⟩) (Nat.zero_le _) (Nat.zero_le _) (dX1_times_64)
abbrev rm_X1_plus : Room := { frames := 2, cells := 0, slots := 0, locals := 52 }
set_option maxHeartbeats 4000000 in
set_option maxRecDepth 100000 in
theorem c_X1_plus (l : Launch) (G : GG) (adb : Nat) (adw : Nat) (adb2 : Nat) (adw2 : Nat) (u : Int32) (nw : Nat) (fw : Nat → Int64) (u2 : Int32) (nw2 : Nat) (fw2 : Nat → Int64) (r : Int32 × (Nat → Int64)) (h : m_X1_plus u nw fw u2 nw2 fw2 = some r) : Ctr l G yX1_plus w2_X1_plus rm_X1_plus [.ref adb, .ref adb2] [(adb, .inr (0, [.ref adw, .int u])), (adw, .inl (gJ G, nw, .inr (.inl fw))), (adb2, .inr (0, [.ref adw2, .int u2])), (adw2, .inl (gJ G, nw2, .inr (.inl fw2)))] (fun v w => v = none ∧ w = [(adb, .inr (0, [.ref adw, .int r.1])), (adw, .inl (gJ G, nw, .inr (.inl r.2))), (adb2, .inr (0, [.ref adw2, .int u2])), (adw2, .inl (gJ G, nw2, .inr (.inl fw2)))]) := by
  refine ctr_entry (cc := cX1_plus) (maxL := 2) (ret := none) (lv0 := [(0, .ref adb), (1, .ref adb2)]) (by decide) rfl (Nat.le_of_ble_eq_true rfl) (rfl) ?_
  intro K hl9 hG9 hk hn9 hrt
  subst hl9
  subst hG9
  have hR9 : RoomGe rm_X1_plus rm_X1_plus := RoomGe.rf
  replace h := id_e h
  rw [em_X1_plus] at h
  refine v_aload_n hk dX1_plus_0 rfl ?_
  refine v_aload_n hk dX1_plus_1 rfl ?_
  refine v_get (C := RX1) (T := TX1) (N := 2) (ci := 0) (v := .int u) hk dX1_plus_2 w2i_X1_plus_X10 0 rfl rfl 1 (by decide) (by decide +kernel) rfl rfl ?_
  refine v_aload_n hk dX1_plus_5 rfl ?_
  refine v_get (C := RX1) (T := TX1) (N := 2) (ci := 0) (v := .int u2) hk dX1_plus_6 w2i_X1_plus_X10 2 rfl rfl 1 (by decide) (by decide +kernel) rfl rfl ?_
  refine v_mmax hk dX1_plus_9 (by decide +kernel) (by decide +kernel) (by decide +kernel) (by decide +kernel) (Nat.le_trans (by decide) hR9.1) (Nat.le_trans (Nat.le_of_ble_eq_true rfl) hR9.2.2.2) (Nat.zero_le _) (Nat.zero_le _) ?_
  refine v_iconst (v := 1) hk dX1_plus_12 (by decide) ?_
  refine v_iadd hk dX1_plus_13 ?_
  obtain ⟨r_1, er_1, h⟩ := bd_e (g := id) rfl h
  refine v_callV (n := 1) (st := []) (b := adb) (T := TX1) (N := 2) hk dX1_plus_14 (c_X1_widen (kl K) (kG K) adb adw u nw fw ((if u < u2 then u2 else u) + 1) r_1 er_1) rfl gd_X1_plus_X1_widen rfl (by decide +kernel) (frok hR9 (Nat.le_of_ble_eq_true rfl) (Nat.le_of_ble_eq_true rfl)) (roomk hR9 (Nat.le_of_ble_eq_true rfl) (Nat.le_of_ble_eq_true rfl)) rfl rfl (Nat.le_of_ble_eq_true rfl) 0 rfl rfl [0, 1] [2, 3] (wr := [(adb2, .inr (0, [.ref adw2, .int u2])), (adw2, .inl (gJ (kG K), nw2, .inr (.inl fw2)))]) rfl rfl (by decide) (by decide) (by decide) ?_
  intro v9 w9 hp9
  obtain ⟨rfl, rfl⟩ := hp9
  show V K 2 [(adb2, .inr (0, [.ref adw2, .int u2])), (adw2, .inl (gJ (kG K), nw2, .inr (.inl fw2))), (adb, .inr (0, [.ref adw, .int r_1.1])), (adw, .inl (gJ (kG K), nw, .inr (.inl r_1.2)))] 0 0 17 [(0, .ref adb), (1, .ref adb2)] []
  refine v_aload_n hk dX1_plus_17 rfl ?_
  refine v_lconst (v := 1) hk dX1_plus_18 (by decide) ?_
  refine v_aload_n hk dX1_plus_19 rfl ?_
  refine v_iconst (v := 0) hk dX1_plus_20 (by decide) ?_
  obtain ⟨r_2, er_2, h⟩ := bd_e (g := id) rfl h
  refine v_callV (n := 3) (st := []) (b := adb) (T := TX1) (N := 2) hk dX1_plus_21 (c_X1_addMultiple (kl K) (kG K) adb adw adb2 adw2 r_1.1 nw r_1.2 u2 nw2 fw2 1 0 r_2 er_2) rfl gd_X1_plus_X1_addMultiple rfl (by decide +kernel) (frok hR9 (Nat.le_of_ble_eq_true rfl) (Nat.le_of_ble_eq_true rfl)) (roomk hR9 (Nat.le_of_ble_eq_true rfl) (Nat.le_of_ble_eq_true rfl)) rfl rfl (Nat.le_of_ble_eq_true rfl) 2 rfl rfl [2, 3, 0, 1] [] (wr := []) rfl rfl (by decide) (by decide) (by decide) ?_
  intro v9 w9 hp9
  obtain ⟨rfl, rfl⟩ := hp9
  show V K 2 [(adb, .inr (0, [.ref adw, .int r_1.1])), (adw, .inl (gJ (kG K), nw, .inr (.inl r_2))), (adb2, .inr (0, [.ref adw2, .int u2])), (adw2, .inl (gJ (kG K), nw2, .inr (.inl fw2)))] 0 0 24 [(0, .ref adb), (1, .ref adb2)] []
  refine v_aload_n hk dX1_plus_24 rfl ?_
  obtain ⟨r_3, er_3, h⟩ := bd_e (g := id) rfl h
  refine v_callV (n := 0) (st := []) (b := adb) (T := TX1) (N := 2) hk dX1_plus_25 (c_X1_trim (kl K) (kG K) adb adw r_1.1 nw r_2 r_3 er_3) rfl gd_X1_plus_X1_trim rfl (by decide +kernel) (frok hR9 (Nat.le_of_ble_eq_true rfl) (Nat.le_of_ble_eq_true rfl)) (roomk hR9 (Nat.le_of_ble_eq_true rfl) (Nat.le_of_ble_eq_true rfl)) rfl rfl (Nat.le_of_ble_eq_true rfl) 0 rfl rfl [0, 1] [2, 3] (wr := [(adb2, .inr (0, [.ref adw2, .int u2])), (adw2, .inl (gJ (kG K), nw2, .inr (.inl fw2)))]) rfl rfl (by decide) (by decide) (by decide) ?_
  intro v9 w9 hp9
  obtain ⟨rfl, rfl⟩ := hp9
  show V K 2 [(adb2, .inr (0, [.ref adw2, .int u2])), (adw2, .inl (gJ (kG K), nw2, .inr (.inl fw2))), (adb, .inr (0, [.ref adw, .int r_3])), (adw, .inl (gJ (kG K), nw, .inr (.inl r_2)))] 0 0 28 [(0, .ref adb), (1, .ref adb2)] []
  replace h : some (r_3, r_2) = some r := h
  replace h := Option.some.inj h
  subst h
  refine v_perm [2, 3, 0, 1] (ws' := [(adb, .inr (0, [.ref adw, .int r_3])), (adw, .inl (gJ (kG K), nw, .inr (.inl r_2))), (adb2, .inr (0, [.ref adw2, .int u2])), (adw2, .inl (gJ (kG K), nw2, .inr (.inl fw2)))]) rfl rfl (by decide) ?_
  refine hrt (none) _ _ _ _ _ (⟨rfl, rfl⟩) (Nat.zero_le _) (Nat.zero_le _) (dX1_plus_28)
abbrev rm_X1_minus : Room := { frames := 3, cells := 0, slots := 0, locals := 75 }
set_option maxHeartbeats 4000000 in
set_option maxRecDepth 100000 in
theorem c_X1_minus (l : Launch) (G : GG) (adb : Nat) (adw : Nat) (adb2 : Nat) (adw2 : Nat) (u : Int32) (nw : Nat) (fw : Nat → Int64) (u2 : Int32) (nw2 : Nat) (fw2 : Nat → Int64) (r : Int32 × (Nat → Int64)) (h : m_X1_minus u nw fw u2 nw2 fw2 = some r) : Ctr l G yX1_minus w2_X1_minus rm_X1_minus [.ref adb, .ref adb2] [(adb, .inr (0, [.ref adw, .int u])), (adw, .inl (gJ G, nw, .inr (.inl fw))), (adb2, .inr (0, [.ref adw2, .int u2])), (adw2, .inl (gJ G, nw2, .inr (.inl fw2)))] (fun v w => v = none ∧ w = [(adb, .inr (0, [.ref adw, .int r.1])), (adw, .inl (gJ G, nw, .inr (.inl r.2))), (adb2, .inr (0, [.ref adw2, .int u2])), (adw2, .inl (gJ G, nw2, .inr (.inl fw2)))]) := by
  refine ctr_entry (cc := cX1_minus) (maxL := 2) (ret := none) (lv0 := [(0, .ref adb), (1, .ref adb2)]) (by decide) rfl (Nat.le_of_ble_eq_true rfl) (rfl) ?_
  intro K hl9 hG9 hk hn9 hrt
  subst hl9
  subst hG9
  have hR9 : RoomGe rm_X1_minus rm_X1_minus := RoomGe.rf
  replace h := id_e h
  rw [em_X1_minus] at h
  refine v_aload_n hk dX1_minus_0 rfl ?_
  refine v_lconst (v := 1) hk dX1_minus_1 (by decide) ?_
  refine v_aload_n hk dX1_minus_2 rfl ?_
  refine v_iconst (v := 0) hk dX1_minus_3 (by decide) ?_
  obtain ⟨r_1, er_1, h⟩ := bd_e (g := id) rfl h
  refine v_callV (n := 3) (st := []) (b := adb) (T := TX1) (N := 2) hk dX1_minus_4 (c_X1_subtractMultiple (kl K) (kG K) adb adw adb2 adw2 u nw fw u2 nw2 fw2 1 0 r_1 er_1) rfl gd_X1_minus_X1_subtractMultiple rfl (by decide +kernel) (frok hR9 (Nat.le_of_ble_eq_true rfl) (Nat.le_of_ble_eq_true rfl)) (roomk hR9 (Nat.le_of_ble_eq_true rfl) (Nat.le_of_ble_eq_true rfl)) rfl rfl (Nat.le_of_ble_eq_true rfl) 0 rfl rfl [0, 1, 2, 3] [] (wr := []) rfl rfl (by decide) (by decide) (by decide) ?_
  intro v9 w9 hp9
  obtain ⟨rfl, rfl⟩ := hp9
  show V K 2 [(adb, .inr (0, [.ref adw, .int r_1.1])), (adw, .inl (gJ (kG K), nw, .inr (.inl r_1.2))), (adb2, .inr (0, [.ref adw2, .int u2])), (adw2, .inl (gJ (kG K), nw2, .inr (.inl fw2)))] 0 0 7 [(0, .ref adb), (1, .ref adb2)] []
  replace h : some (r_1.1, r_1.2) = some r := h
  replace h := Option.some.inj h
  subst h
  refine hrt (none) _ _ _ _ _ (⟨rfl, rfl⟩) (Nat.zero_le _) (Nat.zero_le _) (dX1_minus_7)
abbrev rm_X1_bits : Room := { frames := 1, cells := 0, slots := 0, locals := 21 }
set_option maxHeartbeats 4000000 in
set_option maxRecDepth 100000 in
theorem L_X1_bits_13 {K : Cx} {R9 : Room} (hk : Ok K cX1_bits 4 RX1 w2_X1_bits R9) (hR9 : RoomGe R9 rm_X1_bits) (adb : Nat) (adw : Nat) (u : Int32) (nw : Nat) (fw : Nat → Int64) (b9 : (Int64 × Int32)) (kk0 : ∀ q9 : (Int64 × Int32), b9 = q9 → V K 4 [(adb, .inr (0, [.ref adw, .int u])), (adw, .inl (gJ (kG K), nw, .inr (.inl fw)))] 0 0 32 [(0, .ref adb), (1, .long q9.1), (3, .int q9.2)] []) : ∀ (nn : Nat) (i1_2 : Int64) (i3_3 : Int32), lp (b_X1_bits_13) nn (i1_2, i3_3) = some b9 → V K 4 [(adb, .inr (0, [.ref adw, .int u])), (adw, .inl (gJ (kG K), nw, .inr (.inl fw)))] 0 0 13 [(0, .ref adb), (1, .long i1_2), (3, .int i3_3)] [] := by
  intro nn
  induction nn with
  | zero => intro i1_2 i3_3 h; exact absurd h (by simp [lp])
  | succ nn ih =>
    intro i1_2 i3_3 h
    replace h := lp_s h
    rw [eb_X1_bits_13] at h
    refine v_iload_n hk dX1_bits_13 rfl ?_
    refine v_bipush (v := 32) hk dX1_bits_14 (by decide) ?_
    refine v_icmp_ge (tgt := 32) hk dX1_bits_16 (by decide) (fun hc => ?_) (fun hc => ?_)
    · replace h := it_t (g := (lpk (lp (b_X1_bits_13) nn))) h hc
      replace h : some (i1_2, i3_3) = some b9 := h
      replace h := Option.some.inj h
      subst h
      exact kk0 _ rfl
    · replace h := it_f (g := (lpk (lp (b_X1_bits_13) nn))) h hc
      refine v_lload_n hk dX1_bits_19 rfl ?_
      refine v_lload_n hk dX1_bits_20 rfl ?_
      refine v_iload_n hk dX1_bits_21 rfl ?_
      refine v_lushr hk dX1_bits_22 ?_
      refine v_lor hk dX1_bits_23 ?_
      obtain ⟨x1_4, ex1_4, h⟩ := lt_e (g := (lpk (lp (b_X1_bits_13) nn))) h
      refine v_topl ex1_4.symm ?_
      refine v_lstore_n hk dX1_bits_24 rfl (by decide) [1, 0, 2] (lv' := [(0, .ref adb), (1, .long x1_4), (3, .int i3_3)]) rfl ?_
      refine v_iload_n hk dX1_bits_25 rfl ?_
      refine v_iconst (v := 2) hk dX1_bits_26 (by decide) ?_
      refine v_imul hk dX1_bits_27 ?_
      obtain ⟨x3_5, ex3_5, h⟩ := lt_e (g := (lpk (lp (b_X1_bits_13) nn))) h
      refine v_topi ex3_5.symm ?_
      refine v_istore_n hk dX1_bits_28 rfl (by decide) [1, 2, 0] (lv' := [(0, .ref adb), (1, .long x1_4), (3, .int x3_5)]) rfl ?_
      refine v_goto (tgt := 13) hk dX1_bits_29 (by decide) ?_
      exact ih x1_4 x3_5 h
set_option maxHeartbeats 4000000 in
set_option maxRecDepth 100000 in
theorem c_X1_bits (l : Launch) (G : GG) (adb : Nat) (adw : Nat) (u : Int32) (nw : Nat) (fw : Nat → Int64) (r : Int32) (h : m_X1_bits u nw fw = some r) : Ctr l G yX1_bits w2_X1_bits rm_X1_bits [.ref adb] [(adb, .inr (0, [.ref adw, .int u])), (adw, .inl (gJ G, nw, .inr (.inl fw)))] (fun v w => v = some (.int r) ∧ w = [(adb, .inr (0, [.ref adw, .int u])), (adw, .inl (gJ G, nw, .inr (.inl fw)))]) := by
  refine ctr_entry (cc := cX1_bits) (maxL := 4) (ret := some .int) (lv0 := [(0, .ref adb)]) (by decide) rfl (Nat.le_of_ble_eq_true rfl) (rfl) ?_
  intro K hl9 hG9 hk hn9 hrt
  subst hl9
  subst hG9
  have hR9 : RoomGe rm_X1_bits rm_X1_bits := RoomGe.rf
  replace h := id_e h
  rw [em_X1_bits] at h
  refine v_aload_n hk dX1_bits_0 rfl ?_
  refine v_aload_n hk dX1_bits_1 rfl ?_
  refine v_get (C := RX1) (T := TX1) (N := 2) (ci := 0) (v := .int u) hk dX1_bits_2 w2i_X1_bits_X10 0 rfl rfl 1 (by decide) (by decide +kernel) rfl rfl ?_
  refine v_iconst (v := 1) hk dX1_bits_5 (by decide) ?_
  refine v_isub hk dX1_bits_6 ?_
  obtain ⟨r_1, er_1, h⟩ := bd_e (g := id) rfl h
  refine v_callV (n := 1) (st := []) (b := adb) (T := TX1) (N := 2) hk dX1_bits_7 (c_X1_at (kl K) (kG K) adb adw u nw fw (u - 1) r_1 er_1) rfl gd_X1_bits_X1_at rfl (by decide +kernel) (frok hR9 (Nat.le_of_ble_eq_true rfl) (Nat.le_of_ble_eq_true rfl)) (roomk hR9 (Nat.le_of_ble_eq_true rfl) (Nat.le_of_ble_eq_true rfl)) rfl rfl (Nat.le_of_ble_eq_true rfl) 0 rfl rfl [0, 1] [] (wr := []) rfl rfl (by decide) (by decide) (by decide) ?_
  intro v9 w9 hp9
  obtain ⟨rfl, rfl⟩ := hp9
  show V K 4 [(adb, .inr (0, [.ref adw, .int u])), (adw, .inl (gJ (kG K), nw, .inr (.inl fw)))] 0 0 10 [(0, .ref adb)] [.long r_1]
  refine v_lstore_n hk dX1_bits_10 rfl (by decide) [1, 0] (lv' := [(0, .ref adb), (1, .long r_1)]) rfl ?_
  refine v_iconst (v := 1) hk dX1_bits_11 (by decide) ?_
  refine v_istore_n hk dX1_bits_12 rfl (by decide) [1, 2, 0] (lv' := [(0, .ref adb), (1, .long r_1), (3, .int 1)]) rfl ?_
  obtain ⟨b_8, eb_8, h⟩ := bd_e (g := id) rfl h
  refine L_X1_bits_13 hk hR9 adb adw u nw fw b_8 (fun q_6 eq_6 => ?_) FU r_1 1 eb_8
  · replace eq_6 := eq_6.symm
    subst eq_6
    refine v_aload_n hk dX1_bits_32 rfl ?_
    refine v_get (C := RX1) (T := TX1) (N := 2) (ci := 0) (v := .int u) hk dX1_bits_33 w2i_X1_bits_X10 0 rfl rfl 1 (by decide) (by decide +kernel) rfl rfl ?_
    refine v_if_ne (tgt := 43) hk dX1_bits_36 (by decide) (fun hc => ?_) (fun hc => ?_)
    · replace h := it_f (g := id) h hc
      refine v_bipush (v := 32) hk dX1_bits_43 (by decide) ?_
      refine v_aload_n hk dX1_bits_45 rfl ?_
      refine v_get (C := RX1) (T := TX1) (N := 2) (ci := 0) (v := .int u) hk dX1_bits_46 w2i_X1_bits_X10 0 rfl rfl 1 (by decide) (by decide +kernel) rfl rfl ?_
      refine v_iconst (v := 1) hk dX1_bits_49 (by decide) ?_
      refine v_isub hk dX1_bits_50 ?_
      refine v_imul hk dX1_bits_51 ?_
      refine v_lload_n hk dX1_bits_52 rfl ?_
      obtain ⟨r_7, er_7, h⟩ := bd_e (g := id) rfl h
      refine v_callS (n := 1) (st := [.int (32 * (u - 1))]) hk dX1_bits_53 (c_J13_bitCount_95d88 (kl K) (kG K) q_6.1 r_7 er_7) gd_X1_bits_J13_bitCount_95d88 rfl (by decide +kernel) (frok hR9 (Nat.le_of_ble_eq_true rfl) (Nat.le_of_ble_eq_true rfl)) (roomk hR9 (Nat.le_of_ble_eq_true rfl) (Nat.le_of_ble_eq_true rfl)) rfl rfl (Nat.le_of_ble_eq_true rfl) [] [0, 1] (wr := [(adb, .inr (0, [.ref adw, .int u])), (adw, .inl (gJ (kG K), nw, .inr (.inl fw)))]) rfl rfl (by decide) (by decide) (by decide) ?_
      intro v9 w9 hp9
      obtain ⟨rfl, rfl⟩ := hp9
      show V K 4 [(adb, .inr (0, [.ref adw, .int u])), (adw, .inl (gJ (kG K), nw, .inr (.inl fw)))] 0 0 56 [(0, .ref adb), (1, .long q_6.1), (3, .int q_6.2)] [.int r_7, .int (32 * (u - 1))]
      refine v_iadd hk dX1_bits_56 ?_
      replace h : some ((32 * (u - 1)) + r_7) = some r := h
      replace h := Option.some.inj h
      subst h
      refine hrt (some (.int ((32 * (u - 1)) + r_7))) _ _ _ _ _ (⟨rfl, rfl⟩) (Nat.zero_le _) (Nat.zero_le _) (dX1_bits_57)
    · replace h := it_t (g := id) h hc
      refine v_iconst (v := 0) hk dX1_bits_39 (by decide) ?_
      refine v_goto (tgt := 57) hk dX1_bits_40 (by decide) ?_
      replace h : some 0 = some r := h
      replace h := Option.some.inj h
      subst h
      refine hrt (some (.int 0)) _ _ _ _ _ (⟨rfl, rfl⟩) (Nat.zero_le _) (Nat.zero_le _) (dX1_bits_57)
abbrev rm_X1_from : Room := { frames := 1, cells := 0, slots := 0, locals := 21 }
set_option maxHeartbeats 4000000 in
set_option maxRecDepth 100000 in
theorem c_X1_from (l : Launch) (G : GG) (adb : Nat) (adw : Nat) (u : Int32) (nw : Nat) (fw : Nat → Int64) (bit : Int32) (r : Int64) (h : m_X1_from u nw fw bit = some r) : Ctr l G yX1_from w2_X1_from rm_X1_from [.ref adb, .int bit] [(adb, .inr (0, [.ref adw, .int u])), (adw, .inl (gJ G, nw, .inr (.inl fw)))] (fun v w => v = some (.long r) ∧ w = [(adb, .inr (0, [.ref adw, .int u])), (adw, .inl (gJ G, nw, .inr (.inl fw)))]) := by
  refine ctr_entry (cc := cX1_from) (maxL := 6) (ret := some .long) (lv0 := [(0, .ref adb), (1, .int bit)]) (by decide) rfl (Nat.le_of_ble_eq_true rfl) (rfl) ?_
  intro K hl9 hG9 hk hn9 hrt
  subst hl9
  subst hG9
  have hR9 : RoomGe rm_X1_from rm_X1_from := RoomGe.rf
  replace h := id_e h
  rw [em_X1_from] at h
  refine v_iload_n hk dX1_from_0 rfl ?_
  refine v_iconst (v := 5) hk dX1_from_1 (by decide) ?_
  refine v_ishr hk dX1_from_2 ?_
  obtain ⟨x2_1, ex2_1, h⟩ := lt_e (g := id) h
  refine v_topi ex2_1.symm ?_
  refine v_istore_n hk dX1_from_3 rfl (by decide) [1, 2, 0] (lv' := [(0, .ref adb), (1, .int bit), (2, .int x2_1)]) rfl ?_
  refine v_iload_n hk dX1_from_4 rfl ?_
  refine v_bipush (v := 31) hk dX1_from_5 (by decide) ?_
  refine v_iand hk dX1_from_7 ?_
  obtain ⟨x3_2, ex3_2, h⟩ := lt_e (g := id) h
  refine v_topi ex3_2.symm ?_
  refine v_istore_n hk dX1_from_8 rfl (by decide) [1, 2, 3, 0] (lv' := [(0, .ref adb), (1, .int bit), (2, .int x2_1), (3, .int x3_2)]) rfl ?_
  refine v_aload_n hk dX1_from_9 rfl ?_
  refine v_iload_n hk dX1_from_10 rfl ?_
  obtain ⟨r_3, er_3, h⟩ := bd_e (g := id) rfl h
  refine v_callV (n := 1) (st := []) (b := adb) (T := TX1) (N := 2) hk dX1_from_11 (c_X1_at (kl K) (kG K) adb adw u nw fw x2_1 r_3 er_3) rfl gd_X1_from_X1_at rfl (by decide +kernel) (frok hR9 (Nat.le_of_ble_eq_true rfl) (Nat.le_of_ble_eq_true rfl)) (roomk hR9 (Nat.le_of_ble_eq_true rfl) (Nat.le_of_ble_eq_true rfl)) rfl rfl (Nat.le_of_ble_eq_true rfl) 0 rfl rfl [0, 1] [] (wr := []) rfl rfl (by decide) (by decide) (by decide) ?_
  intro v9 w9 hp9
  obtain ⟨rfl, rfl⟩ := hp9
  show V K 6 [(adb, .inr (0, [.ref adw, .int u])), (adw, .inl (gJ (kG K), nw, .inr (.inl fw)))] 0 0 14 [(0, .ref adb), (1, .int bit), (2, .int x2_1), (3, .int x3_2)] [.long r_3]
  refine v_aload_n hk dX1_from_14 rfl ?_
  refine v_iload_n hk dX1_from_15 rfl ?_
  refine v_iconst (v := 1) hk dX1_from_16 (by decide) ?_
  refine v_iadd hk dX1_from_17 ?_
  obtain ⟨r_4, er_4, h⟩ := bd_e (g := id) rfl h
  refine v_callV (n := 1) (st := [.long r_3]) (b := adb) (T := TX1) (N := 2) hk dX1_from_18 (c_X1_at (kl K) (kG K) adb adw u nw fw (x2_1 + 1) r_4 er_4) rfl gd_X1_from_X1_at rfl (by decide +kernel) (frok hR9 (Nat.le_of_ble_eq_true rfl) (Nat.le_of_ble_eq_true rfl)) (roomk hR9 (Nat.le_of_ble_eq_true rfl) (Nat.le_of_ble_eq_true rfl)) rfl rfl (Nat.le_of_ble_eq_true rfl) 0 rfl rfl [0, 1] [] (wr := []) rfl rfl (by decide) (by decide) (by decide) ?_
  intro v9 w9 hp9
  obtain ⟨rfl, rfl⟩ := hp9
  show V K 6 [(adb, .inr (0, [.ref adw, .int u])), (adw, .inl (gJ (kG K), nw, .inr (.inl fw)))] 0 0 21 [(0, .ref adb), (1, .int bit), (2, .int x2_1), (3, .int x3_2)] [.long r_4, .long r_3]
  refine v_bipush (v := 32) hk dX1_from_21 (by decide) ?_
  refine v_lshl hk dX1_from_23 ?_
  refine v_lor hk dX1_from_24 ?_
  obtain ⟨x4_5, ex4_5, h⟩ := lt_e (g := id) h
  refine v_topl ex4_5.symm ?_
  refine v_lstore hk dX1_from_25 (by decide) [1, 2, 3, 4, 0] (lv' := [(0, .ref adb), (1, .int bit), (2, .int x2_1), (3, .int x3_2), (4, .long x4_5)]) rfl ?_
  refine v_iload_n hk dX1_from_27 rfl ?_
  refine v_if_ne (tgt := 36) hk dX1_from_28 (by decide) (fun hc => ?_) (fun hc => ?_)
  · replace h := it_f (g := id) h hc
    refine v_lload hk dX1_from_36 rfl ?_
    refine v_iload_n hk dX1_from_38 rfl ?_
    refine v_lushr hk dX1_from_39 ?_
    refine v_aload_n hk dX1_from_40 rfl ?_
    refine v_iload_n hk dX1_from_41 rfl ?_
    refine v_iconst (v := 2) hk dX1_from_42 (by decide) ?_
    refine v_iadd hk dX1_from_43 ?_
    obtain ⟨r_6, er_6, h⟩ := bd_e (g := id) rfl h
    refine v_callV (n := 1) (st := [.long ((x4_5.toUInt64 >>> (x3_2.toInt64.toUInt64 &&& Int64.toUInt64 63)).toInt64)]) (b := adb) (T := TX1) (N := 2) hk dX1_from_44 (c_X1_at (kl K) (kG K) adb adw u nw fw (x2_1 + 2) r_6 er_6) rfl gd_X1_from_X1_at rfl (by decide +kernel) (frok hR9 (Nat.le_of_ble_eq_true rfl) (Nat.le_of_ble_eq_true rfl)) (roomk hR9 (Nat.le_of_ble_eq_true rfl) (Nat.le_of_ble_eq_true rfl)) rfl rfl (Nat.le_of_ble_eq_true rfl) 0 rfl rfl [0, 1] [] (wr := []) rfl rfl (by decide) (by decide) (by decide) ?_
    intro v9 w9 hp9
    obtain ⟨rfl, rfl⟩ := hp9
    show V K 6 [(adb, .inr (0, [.ref adw, .int u])), (adw, .inl (gJ (kG K), nw, .inr (.inl fw)))] 0 0 47 [(0, .ref adb), (1, .int bit), (2, .int x2_1), (3, .int x3_2), (4, .long x4_5)] [.long r_6, .long ((x4_5.toUInt64 >>> (x3_2.toInt64.toUInt64 &&& Int64.toUInt64 63)).toInt64)]
    refine v_bipush (v := 64) hk dX1_from_47 (by decide) ?_
    refine v_iload_n hk dX1_from_49 rfl ?_
    refine v_isub hk dX1_from_50 ?_
    refine v_lshl hk dX1_from_51 ?_
    refine v_lor hk dX1_from_52 ?_
    replace h : some (((x4_5.toUInt64 >>> (x3_2.toInt64.toUInt64 &&& Int64.toUInt64 63)).toInt64) ||| (r_6 <<< ((64 - x3_2).toInt64 &&& 63))) = some r := h
    replace h := Option.some.inj h
    subst h
    refine hrt (some (.long (((x4_5.toUInt64 >>> (x3_2.toInt64.toUInt64 &&& Int64.toUInt64 63)).toInt64) ||| (r_6 <<< ((64 - x3_2).toInt64 &&& 63))))) _ _ _ _ _ (⟨rfl, rfl⟩) (Nat.zero_le _) (Nat.zero_le _) (dX1_from_53)
  · replace h := it_t (g := id) h hc
    refine v_lload hk dX1_from_31 rfl ?_
    refine v_goto (tgt := 53) hk dX1_from_33 (by decide) ?_
    replace h : some x4_5 = some r := h
    replace h := Option.some.inj h
    subst h
    refine hrt (some (.long x4_5)) _ _ _ _ _ (⟨rfl, rfl⟩) (Nat.zero_le _) (Nat.zero_le _) (dX1_from_53)
abbrev rm_X1_addDigit : Room := { frames := 2, cells := 0, slots := 0, locals := 44 }
set_option maxHeartbeats 4000000 in
set_option maxRecDepth 100000 in
theorem L_X1_addDigit_36 {K : Cx} {R9 : Room} (hk : Ok K cX1_addDigit 10 RX1 w2_X1_addDigit R9) (hR9 : RoomGe R9 rm_X1_addDigit) (adb : Nat) (adw : Nat) (nw : Nat) (dg : Int64) (pl : Int32) (r_1 : Int32 × (Nat → Int64)) (x6_2 : Int32) (b9 : (Int64 × Int32 × (Nat → Int64))) (kk0 : ∀ q9 : (Int64 × Int32 × (Nat → Int64)), b9 = q9 → V K 10 [(adb, .inr (0, [.ref adw, .int r_1.1])), (adw, .inl (gJ (kG K), nw, .inr (.inl q9.2.2)))] 0 0 93 [(0, .ref adb), (1, .long dg), (3, .int pl), (4, .long q9.1), (6, .int x6_2), (7, .int q9.2.1)] []) : ∀ (nn : Nat) (i4_3 : Int64) (i7_4 : Int32) (fw_5 : Nat → Int64), lp (b_X1_addDigit_36 nw x6_2) nn (i4_3, i7_4, fw_5) = some b9 → V K 10 [(adb, .inr (0, [.ref adw, .int r_1.1])), (adw, .inl (gJ (kG K), nw, .inr (.inl fw_5)))] 0 0 36 [(0, .ref adb), (1, .long dg), (3, .int pl), (4, .long i4_3), (6, .int x6_2), (7, .int i7_4)] [] := by
  intro nn
  induction nn with
  | zero => intro i4_3 i7_4 fw_5 h; exact absurd h (by simp [lp])
  | succ nn ih =>
    intro i4_3 i7_4 fw_5 h
    replace h := lp_s h
    rw [eb_X1_addDigit_36] at h
    refine v_iload hk dX1_addDigit_36 rfl ?_
    refine v_if_lt (tgt := 93) hk dX1_addDigit_38 (by decide) (fun hc => ?_) (fun hc => ?_)
    · replace h := it_t (g := (lpk (lp (b_X1_addDigit_36 nw x6_2) nn))) h hc
      replace h : some (i4_3, i7_4, fw_5) = some b9 := h
      replace h := Option.some.inj h
      subst h
      exact kk0 _ rfl
    · replace h := it_f (g := (lpk (lp (b_X1_addDigit_36 nw x6_2) nn))) h hc
      refine v_iload hk dX1_addDigit_41 rfl ?_
      refine v_iload hk dX1_addDigit_43 rfl ?_
      refine v_icmp_ge (tgt := 93) hk dX1_addDigit_45 (by decide) (fun hc => ?_) (fun hc => ?_)
      · replace h := it_t (g := (lpk (lp (b_X1_addDigit_36 nw x6_2) nn))) h hc
        replace h : some (i4_3, i7_4, fw_5) = some b9 := h
        replace h := Option.some.inj h
        subst h
        exact kk0 _ rfl
      · replace h := it_f (g := (lpk (lp (b_X1_addDigit_36 nw x6_2) nn))) h hc
        refine v_lload hk dX1_addDigit_48 rfl ?_
        refine v_lconst (v := 0) hk dX1_addDigit_50 (by decide) ?_
        refine v_lcmp hk dX1_addDigit_51 ?_
        refine v_if_eq (tgt := 93) hk dX1_addDigit_52 (by decide) (fun hc => ?_) (fun hc => ?_)
        · replace h := it_t (g := (lpk (lp (b_X1_addDigit_36 nw x6_2) nn))) h hc
          replace h : some (i4_3, i7_4, fw_5) = some b9 := h
          replace h := Option.some.inj h
          subst h
          exact kk0 _ rfl
        · replace h := it_f (g := (lpk (lp (b_X1_addDigit_36 nw x6_2) nn))) h hc
          refine v_aload_n hk dX1_addDigit_55 rfl ?_
          refine v_get (C := RX1) (T := TX1) (N := 2) (ci := 0) (v := .ref adw) hk dX1_addDigit_56 w2i_X1_addDigit_X10 0 rfl rfl 0 (by decide) (by decide +kernel) rfl rfl ?_
          refine v_iload hk dX1_addDigit_59 rfl ?_
          obtain ⟨hi, h⟩ := ok_e (g := (lpk (lp (b_X1_addDigit_36 nw x6_2) nn))) rfl h
          refine v_laldV hk dX1_addDigit_61 1 rfl (ix_in hi) ?_
          refine v_lload hk dX1_addDigit_62 rfl ?_
          refine v_ladd hk dX1_addDigit_64 ?_
          obtain ⟨x8_6, ex8_6, h⟩ := lt_e (g := (lpk (lp (b_X1_addDigit_36 nw x6_2) nn))) h
          refine v_topl ex8_6.symm ?_
          refine v_lstore hk dX1_addDigit_65 (by decide) [1, 2, 3, 4, 5, 6, 0] (lv' := [(0, .ref adb), (1, .long dg), (3, .int pl), (4, .long i4_3), (6, .int x6_2), (7, .int i7_4), (8, .long x8_6)]) rfl ?_
          refine v_aload_n hk dX1_addDigit_67 rfl ?_
          refine v_get (C := RX1) (T := TX1) (N := 2) (ci := 0) (v := .ref adw) hk dX1_addDigit_68 w2i_X1_addDigit_X10 0 rfl rfl 0 (by decide) (by decide +kernel) rfl rfl ?_
          refine v_iload hk dX1_addDigit_71 rfl ?_
          refine v_lload hk dX1_addDigit_73 rfl ?_
          refine v_ldc2 (v := 4294967295) hk dX1_addDigit_75 (by decide +kernel) ?_
          refine v_land hk dX1_addDigit_78 ?_
          obtain ⟨hi, h⟩ := ok_e (g := (lpk (lp (b_X1_addDigit_36 nw x6_2) nn))) rfl h
          obtain ⟨fw_7, efw_7, h⟩ := lt_e (g := (lpk (lp (b_X1_addDigit_36 nw x6_2) nn))) h
          refine v_lastV hk dX1_addDigit_79 1 rfl (ix_in hi) (ws' := [(adb, .inr (0, [.ref adw, .int r_1.1])), (adw, .inl (gJ (kG K), nw, .inr (.inl fw_7)))]) (by rw [efw_7]; rfl) ?_
          refine v_lload hk dX1_addDigit_80 rfl ?_
          refine v_bipush (v := 32) hk dX1_addDigit_82 (by decide) ?_
          refine v_lushr hk dX1_addDigit_84 ?_
          obtain ⟨x4_8, ex4_8, h⟩ := lt_e (g := (lpk (lp (b_X1_addDigit_36 nw x6_2) nn))) h
          refine v_topl ex4_8.symm ?_
          refine v_lstore hk dX1_addDigit_85 (by decide) [1, 2, 3, 0, 4, 5, 6] (lv' := [(0, .ref adb), (1, .long dg), (3, .int pl), (4, .long x4_8), (6, .int x6_2), (7, .int i7_4), (8, .long x8_6)]) rfl ?_
          obtain ⟨x7_9, ex7_9, h⟩ := lt_e (g := (lpk (lp (b_X1_addDigit_36 nw x6_2) nn))) h
          refine v_iinc (v := x7_9) hk dX1_addDigit_87 rfl (by rw [ex7_9]; rfl) (by decide) [1, 2, 3, 4, 5, 0, 6] (lv' := [(0, .ref adb), (1, .long dg), (3, .int pl), (4, .long x4_8), (6, .int x6_2), (7, .int x7_9), (8, .long x8_6)]) rfl ?_
          refine v_goto (tgt := 36) hk dX1_addDigit_90 (by decide) ?_
          refine v_loc [0, 1, 2, 3, 4, 5] (lv' := [(0, .ref adb), (1, .long dg), (3, .int pl), (4, .long x4_8), (6, .int x6_2), (7, .int x7_9)]) rfl ?_
          exact ih x4_8 x7_9 fw_7 h
set_option maxHeartbeats 4000000 in
set_option maxRecDepth 100000 in
theorem c_X1_addDigit (l : Launch) (G : GG) (adb : Nat) (adw : Nat) (u : Int32) (nw : Nat) (fw : Nat → Int64) (dg : Int64) (pl : Int32) (r : Int32 × (Nat → Int64)) (h : m_X1_addDigit u nw fw dg pl = some r) : Ctr l G yX1_addDigit w2_X1_addDigit rm_X1_addDigit [.ref adb, .long dg, .int pl] [(adb, .inr (0, [.ref adw, .int u])), (adw, .inl (gJ G, nw, .inr (.inl fw)))] (fun v w => v = none ∧ w = [(adb, .inr (0, [.ref adw, .int r.1])), (adw, .inl (gJ G, nw, .inr (.inl r.2)))]) := by
  refine ctr_entry (cc := cX1_addDigit) (maxL := 10) (ret := none) (lv0 := [(0, .ref adb), (1, .long dg), (3, .int pl)]) (by decide) rfl (Nat.le_of_ble_eq_true rfl) (by simp [lv_args, Value.category]) ?_
  intro K hl9 hG9 hk hn9 hrt
  subst hl9
  subst hG9
  have hR9 : RoomGe rm_X1_addDigit rm_X1_addDigit := RoomGe.rf
  replace h := id_e h
  rw [em_X1_addDigit] at h
  refine v_aload_n hk dX1_addDigit_0 rfl ?_
  refine v_aload_n hk dX1_addDigit_1 rfl ?_
  refine v_get (C := RX1) (T := TX1) (N := 2) (ci := 0) (v := .int u) hk dX1_addDigit_2 w2i_X1_addDigit_X10 0 rfl rfl 1 (by decide) (by decide +kernel) rfl rfl ?_
  refine v_iload_n hk dX1_addDigit_5 rfl ?_
  refine v_iconst (v := 1) hk dX1_addDigit_6 (by decide) ?_
  refine v_iadd hk dX1_addDigit_7 ?_
  refine v_mmax hk dX1_addDigit_8 (by decide +kernel) (by decide +kernel) (by decide +kernel) (by decide +kernel) (Nat.le_trans (by decide) hR9.1) (Nat.le_trans (Nat.le_of_ble_eq_true rfl) hR9.2.2.2) (Nat.zero_le _) (Nat.zero_le _) ?_
  refine v_iconst (v := 1) hk dX1_addDigit_11 (by decide) ?_
  refine v_iadd hk dX1_addDigit_12 ?_
  obtain ⟨r_1, er_1, h⟩ := bd_e (g := id) rfl h
  refine v_callV (n := 1) (st := []) (b := adb) (T := TX1) (N := 2) hk dX1_addDigit_13 (c_X1_widen (kl K) (kG K) adb adw u nw fw ((if u < (pl + 1) then (pl + 1) else u) + 1) r_1 er_1) rfl gd_X1_addDigit_X1_widen rfl (by decide +kernel) (frok hR9 (Nat.le_of_ble_eq_true rfl) (Nat.le_of_ble_eq_true rfl)) (roomk hR9 (Nat.le_of_ble_eq_true rfl) (Nat.le_of_ble_eq_true rfl)) rfl rfl (Nat.le_of_ble_eq_true rfl) 0 rfl rfl [0, 1] [] (wr := []) rfl rfl (by decide) (by decide) (by decide) ?_
  intro v9 w9 hp9
  obtain ⟨rfl, rfl⟩ := hp9
  show V K 10 [(adb, .inr (0, [.ref adw, .int r_1.1])), (adw, .inl (gJ (kG K), nw, .inr (.inl r_1.2)))] 0 0 16 [(0, .ref adb), (1, .long dg), (3, .int pl)] []
  refine v_lload_n hk dX1_addDigit_16 rfl ?_
  refine v_lstore hk dX1_addDigit_17 (by decide) [1, 2, 3, 0] (lv' := [(0, .ref adb), (1, .long dg), (3, .int pl), (4, .long dg)]) rfl ?_
  refine v_aload_n hk dX1_addDigit_19 rfl ?_
  refine v_get (C := RX1) (T := TX1) (N := 2) (ci := 0) (v := .int r_1.1) hk dX1_addDigit_20 w2i_X1_addDigit_X10 0 rfl rfl 1 (by decide) (by decide +kernel) rfl rfl ?_
  refine v_aload_n hk dX1_addDigit_23 rfl ?_
  refine v_get (C := RX1) (T := TX1) (N := 2) (ci := 0) (v := .ref adw) hk dX1_addDigit_24 w2i_X1_addDigit_X10 0 rfl rfl 0 (by decide) (by decide +kernel) rfl rfl ?_
  refine v_alenJ hk dX1_addDigit_27 1 rfl rfl ?_
  refine v_mmin hk dX1_addDigit_28 (by decide +kernel) (by decide +kernel) (by decide +kernel) (by decide +kernel) (Nat.le_trans (by decide) hR9.1) (Nat.le_trans (Nat.le_of_ble_eq_true rfl) hR9.2.2.2) (Nat.zero_le _) (Nat.zero_le _) ?_
  obtain ⟨x6_2, ex6_2, h⟩ := lt_e (g := id) h
  refine v_topi ex6_2.symm ?_
  refine v_istore hk dX1_addDigit_31 (by decide) [1, 2, 3, 4, 0] (lv' := [(0, .ref adb), (1, .long dg), (3, .int pl), (4, .long dg), (6, .int x6_2)]) rfl ?_
  refine v_iload_n hk dX1_addDigit_33 rfl ?_
  refine v_istore hk dX1_addDigit_34 (by decide) [1, 2, 3, 4, 5, 0] (lv' := [(0, .ref adb), (1, .long dg), (3, .int pl), (4, .long dg), (6, .int x6_2), (7, .int pl)]) rfl ?_
  obtain ⟨b_12, eb_12, h⟩ := bd_e (g := id) rfl h
  refine L_X1_addDigit_36 hk hR9 adb adw nw dg pl r_1 x6_2 b_12 (fun q_10 eq_10 => ?_) FU dg pl r_1.2 eb_12
  · replace eq_10 := eq_10.symm
    subst eq_10
    refine v_aload_n hk dX1_addDigit_93 rfl ?_
    obtain ⟨r_11, er_11, h⟩ := bd_e (g := id) rfl h
    refine v_callV (n := 0) (st := []) (b := adb) (T := TX1) (N := 2) hk dX1_addDigit_94 (c_X1_trim (kl K) (kG K) adb adw r_1.1 nw q_10.2.2 r_11 er_11) rfl gd_X1_addDigit_X1_trim rfl (by decide +kernel) (frok hR9 (Nat.le_of_ble_eq_true rfl) (Nat.le_of_ble_eq_true rfl)) (roomk hR9 (Nat.le_of_ble_eq_true rfl) (Nat.le_of_ble_eq_true rfl)) rfl rfl (Nat.le_of_ble_eq_true rfl) 0 rfl rfl [0, 1] [] (wr := []) rfl rfl (by decide) (by decide) (by decide) ?_
    intro v9 w9 hp9
    obtain ⟨rfl, rfl⟩ := hp9
    show V K 10 [(adb, .inr (0, [.ref adw, .int r_11])), (adw, .inl (gJ (kG K), nw, .inr (.inl q_10.2.2)))] 0 0 97 [(0, .ref adb), (1, .long dg), (3, .int pl), (4, .long q_10.1), (6, .int x6_2), (7, .int q_10.2.1)] []
    replace h : some (r_11, q_10.2.2) = some r := h
    replace h := Option.some.inj h
    subst h
    refine hrt (none) _ _ _ _ _ (⟨rfl, rfl⟩) (Nat.zero_le _) (Nat.zero_le _) (dX1_addDigit_97)
