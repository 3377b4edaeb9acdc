/-! StructureSearch: refused calls of size, word, kin, shareSize, shareWord -/
noncomputable def m_X10_size (nm : Int32) (rw : Int32) (sg : Int32) (ms : Int32) (gr : Int32) (part : Int32) : Option Int32 := (m_X10_isGraph nm rw sg ms gr).bind (fun r_1 : Int32 => if r_1 = 0 then some (-1) else (m_X10_isPart part).bind (fun r_2 : Int32 => if r_2 = 0 then some (-1) else none))
theorem em_X10_size (nm : Int32) (rw : Int32) (sg : Int32) (ms : Int32) (gr : Int32) (part : Int32) : m_X10_size nm rw sg ms gr part = (m_X10_isGraph nm rw sg ms gr).bind (fun r_1 : Int32 => if r_1 = 0 then some (-1) else (m_X10_isPart part).bind (fun r_2 : Int32 => if r_2 = 0 then some (-1) else none)) := rfl
noncomputable def m_X10_word (nm : Int32) (rw : Int32) (sg : Int32) (ms : Int32) (gr : Int32) (part : Int32) (i : Int32) : Option Int64 := (m_X10_isGraph nm rw sg ms gr).bind (fun r_1 : Int32 => if r_1 = 0 then some (-1) else (m_X10_isPart part).bind (fun r_2 : Int32 => if r_2 = 0 then some (-1) else none))
theorem em_X10_word (nm : Int32) (rw : Int32) (sg : Int32) (ms : Int32) (gr : Int32) (part : Int32) (i : Int32) : m_X10_word nm rw sg ms gr part i = (m_X10_isGraph nm rw sg ms gr).bind (fun r_1 : Int32 => if r_1 = 0 then some (-1) else (m_X10_isPart part).bind (fun r_2 : Int32 => if r_2 = 0 then some (-1) else none)) := rfl
noncomputable def m_X10_shareSize (nm : Int32) (rw : Int32) (sg : Int32) (ms : Int32) (fr : Int32) (to0 : Int32) (part : Int32) : Option Int32 := (m_X10_isPair nm rw sg ms fr to0).bind (fun r_1 : Int32 => if r_1 = 0 then some (-1) else (m_X10_isPart part).bind (fun r_2 : Int32 => if r_2 = 0 then some (-1) else if nm ≤ (4 : Int32) then none else some (-2)))
theorem em_X10_shareSize (nm : Int32) (rw : Int32) (sg : Int32) (ms : Int32) (fr : Int32) (to0 : Int32) (part : Int32) : m_X10_shareSize nm rw sg ms fr to0 part = (m_X10_isPair nm rw sg ms fr to0).bind (fun r_1 : Int32 => if r_1 = 0 then some (-1) else (m_X10_isPart part).bind (fun r_2 : Int32 => if r_2 = 0 then some (-1) else if nm ≤ (4 : Int32) then none else some (-2))) := rfl
noncomputable def m_X10_shareWord (nm : Int32) (rw : Int32) (sg : Int32) (ms : Int32) (fr : Int32) (to0 : Int32) (part : Int32) (i : Int32) : Option Int64 := (m_X10_isPair nm rw sg ms fr to0).bind (fun r_1 : Int32 => if r_1 = 0 then some (-1) else (m_X10_isPart part).bind (fun r_2 : Int32 => if r_2 = 0 then some (-1) else if nm ≤ (4 : Int32) then none else some (-2)))
theorem em_X10_shareWord (nm : Int32) (rw : Int32) (sg : Int32) (ms : Int32) (fr : Int32) (to0 : Int32) (part : Int32) (i : Int32) : m_X10_shareWord nm rw sg ms fr to0 part i = (m_X10_isPair nm rw sg ms fr to0).bind (fun r_1 : Int32 => if r_1 = 0 then some (-1) else (m_X10_isPart part).bind (fun r_2 : Int32 => if r_2 = 0 then some (-1) else if nm ≤ (4 : Int32) then none else some (-2))) := rfl
noncomputable def m_X10_kin (nm : Int32) (rw : Int32) (sg : Int32) (ms : Int32) (gr : Int32) (what : Int32) : Option Int32 := (m_X10_isGraph nm rw sg ms gr).bind (fun r_1 : Int32 => if r_1 = 0 then some (-1) else if what < 0 then some (-1) else if what ≤ (3 : Int32) then none else some (-1))
theorem em_X10_kin (nm : Int32) (rw : Int32) (sg : Int32) (ms : Int32) (gr : Int32) (what : Int32) : m_X10_kin nm rw sg ms gr what = (m_X10_isGraph nm rw sg ms gr).bind (fun r_1 : Int32 => if r_1 = 0 then some (-1) else if what < 0 then some (-1) else if what ≤ (3 : Int32) then none else some (-1)) := rfl
abbrev rm_X10_size : Room := { frames := 5, cells := 0, slots := 0, locals := 115 }
set_option maxHeartbeats 4000000 in
set_option maxRecDepth 100000 in
theorem c_X10_size (l : Launch) (G : GG) (ado : Nat) (vs_h : Value) (ads : Nat) (adp : Nat) (adx : Nat) (ady : Nat) (adt : Nat) (adsv : Nat) (adsc : Nat) (nm : Int32) (rw : Int32) (sg : Int32) (ms : Int32) (gr : Int32) (part : Int32) (r : Int32) (h : m_X10_size nm rw sg ms gr part = some r) : Ctr l G yX10_size w2_X10_size rm_X10_size [.ref ado, .int gr, .int part] [(ado, .inr (9, [.ref ads, .ref adp, .ref adx, .ref ady, .ref adt, vs_h])), (ads, .inr (7, [.int nm, .int rw, .int sg, .int ms, .ref adsv, .ref adsc]))] (fun v w => v = some (.int r) ∧ w = [(ado, .inr (9, [.ref ads, .ref adp, .ref adx, .ref ady, .ref adt, vs_h])), (ads, .inr (7, [.int nm, .int rw, .int sg, .int ms, .ref adsv, .ref adsc]))]) := by
  refine ctr_entry (cc := cX10_size) (maxL := 3) (ret := some .int) (lv0 := [(0, .ref ado), (1, .int gr), (2, .int part)]) (by decide) rfl (Nat.le_of_ble_eq_true rfl) (rfl) ?_
  intro K hl9 hG9 hk hn9 hrt
  subst hl9
  subst hG9
  have hR9 : RoomGe rm_X10_size rm_X10_size := RoomGe.rf
  replace h := id_e h
  rw [em_X10_size] at h
  refine v_aload_n hk dX10_size_0 rfl ?_
  refine v_iload_n hk dX10_size_1 rfl ?_
  obtain ⟨r_1, er_1, h⟩ := bd_e (g := id) rfl h
  refine v_callV (n := 1) (st := []) (b := ado) (T := TX10) (N := 6) hk dX10_size_2 (c_X10_isGraph (kl K) (kG K) ado vs_h ads adp adx ady adt adsv adsc nm rw sg ms gr r_1 er_1) rfl gd_X10_size_X10_isGraph rfl (by decide +kernel) (frok hR9 (Nat.le_of_ble_eq_true rfl) (Nat.le_of_ble_eq_true rfl)) (roomk hR9 (Nat.le_of_ble_eq_true rfl) (Nat.le_of_ble_eq_true rfl)) rfl rfl (Nat.le_of_ble_eq_true rfl) 0 rfl rfl [0, 1] [] (wr := []) rfl rfl (by decide) (by decide) (by decide) ?_
  intro v9 w9 hp9
  obtain ⟨rfl, rfl⟩ := hp9
  show V K 3 [(ado, .inr (9, [.ref ads, .ref adp, .ref adx, .ref ady, .ref adt, vs_h])), (ads, .inr (7, [.int nm, .int rw, .int sg, .int ms, .ref adsv, .ref adsc]))] 0 0 5 [(0, .ref ado), (1, .int gr), (2, .int part)] [.int r_1]
  refine v_if_eq (tgt := 15) hk dX10_size_5 (by decide) (fun hc => ?_) (fun hc => ?_)
  · replace h := it_t (g := id) h hc
    refine v_iconst (v := (-1)) hk dX10_size_15 (by decide) ?_
    replace h : some (-1) = some r := h
    replace h := Option.some.inj h
    subst h
    refine hrt (some (.int (-1))) _ _ _ _ _ (⟨rfl, rfl⟩) (Nat.zero_le _) (Nat.zero_le _) (dX10_size_16)
  · replace h := it_f (g := id) h hc
    refine v_iload_n hk dX10_size_8 rfl ?_
    obtain ⟨r_2, er_2, h⟩ := bd_e (g := id) rfl h
    refine v_callS (n := 1) (st := []) hk dX10_size_9 (c_X10_isPart (kl K) (kG K) part r_2 er_2) gd_X10_size_X10_isPart rfl (by decide +kernel) (frok hR9 (Nat.le_of_ble_eq_true rfl) (Nat.le_of_ble_eq_true rfl)) (roomk hR9 (Nat.le_of_ble_eq_true rfl) (Nat.le_of_ble_eq_true rfl)) rfl rfl (Nat.le_of_ble_eq_true rfl) [] [0, 1] (wr := [(ado, .inr (9, [.ref ads, .ref adp, .ref adx, .ref ady, .ref adt, vs_h])), (ads, .inr (7, [.int nm, .int rw, .int sg, .int ms, .ref adsv, .ref adsc]))]) rfl rfl (by decide) (by decide) (by decide) ?_
    intro v9 w9 hp9
    obtain ⟨rfl, rfl⟩ := hp9
    show V K 3 [(ado, .inr (9, [.ref ads, .ref adp, .ref adx, .ref ady, .ref adt, vs_h])), (ads, .inr (7, [.int nm, .int rw, .int sg, .int ms, .ref adsv, .ref adsc]))] 0 0 12 [(0, .ref ado), (1, .int gr), (2, .int part)] [.int r_2]
    refine v_if_ne (tgt := 17) hk dX10_size_12 (by decide) (fun hc => ?_) (fun hc => ?_)
    · replace h := it_f (g := id) h hc
      refine v_aload_n hk dX10_size_17 rfl ?_
      refine v_get (C := RX10) (T := TX10) (N := 6) (ci := 9) (v := .ref adx) hk dX10_size_18 w2i_X10_size_X100 0 rfl rfl 2 (by decide) (by decide +kernel) rfl rfl ?_
      refine v_iload_n hk dX10_size_21 rfl ?_
      exact nn_e (g := id) rfl h
    · replace h := it_t (g := id) h hc
      refine v_iconst (v := (-1)) hk dX10_size_15 (by decide) ?_
      replace h : some (-1) = some r := h
      replace h := Option.some.inj h
      subst h
      refine hrt (some (.int (-1))) _ _ _ _ _ (⟨rfl, rfl⟩) (Nat.zero_le _) (Nat.zero_le _) (dX10_size_16)
abbrev rm_X10_word : Room := { frames := 5, cells := 0, slots := 0, locals := 115 }
set_option maxHeartbeats 4000000 in
set_option maxRecDepth 100000 in
theorem c_X10_word (l : Launch) (G : GG) (ado : Nat) (vs_h : Value) (ads : Nat) (adp : Nat) (adx : Nat) (ady : Nat) (adt : Nat) (adsv : Nat) (adsc : Nat) (nm : Int32) (rw : Int32) (sg : Int32) (ms : Int32) (gr : Int32) (part : Int32) (i : Int32) (r : Int64) (h : m_X10_word nm rw sg ms gr part i = some r) : Ctr l G yX10_word w2_X10_word rm_X10_word [.ref ado, .int gr, .int part, .int i] [(ado, .inr (9, [.ref ads, .ref adp, .ref adx, .ref ady, .ref adt, vs_h])), (ads, .inr (7, [.int nm, .int rw, .int sg, .int ms, .ref adsv, .ref adsc]))] (fun v w => v = some (.long r) ∧ w = [(ado, .inr (9, [.ref ads, .ref adp, .ref adx, .ref ady, .ref adt, vs_h])), (ads, .inr (7, [.int nm, .int rw, .int sg, .int ms, .ref adsv, .ref adsc]))]) := by
  refine ctr_entry (cc := cX10_word) (maxL := 4) (ret := some .long) (lv0 := [(0, .ref ado), (1, .int gr), (2, .int part), (3, .int i)]) (by decide) rfl (Nat.le_of_ble_eq_true rfl) (rfl) ?_
  intro K hl9 hG9 hk hn9 hrt
  subst hl9
  subst hG9
  have hR9 : RoomGe rm_X10_word rm_X10_word := RoomGe.rf
  replace h := id_e h
  rw [em_X10_word] at h
  refine v_aload_n hk dX10_word_0 rfl ?_
  refine v_iload_n hk dX10_word_1 rfl ?_
  obtain ⟨r_1, er_1, h⟩ := bd_e (g := id) rfl h
  refine v_callV (n := 1) (st := []) (b := ado) (T := TX10) (N := 6) hk dX10_word_2 (c_X10_isGraph (kl K) (kG K) ado vs_h ads adp adx ady adt adsv adsc nm rw sg ms gr r_1 er_1) rfl gd_X10_word_X10_isGraph rfl (by decide +kernel) (frok hR9 (Nat.le_of_ble_eq_true rfl) (Nat.le_of_ble_eq_true rfl)) (roomk hR9 (Nat.le_of_ble_eq_true rfl) (Nat.le_of_ble_eq_true rfl)) rfl rfl (Nat.le_of_ble_eq_true rfl) 0 rfl rfl [0, 1] [] (wr := []) rfl rfl (by decide) (by decide) (by decide) ?_
  intro v9 w9 hp9
  obtain ⟨rfl, rfl⟩ := hp9
  show V K 4 [(ado, .inr (9, [.ref ads, .ref adp, .ref adx, .ref ady, .ref adt, vs_h])), (ads, .inr (7, [.int nm, .int rw, .int sg, .int ms, .ref adsv, .ref adsc]))] 0 0 5 [(0, .ref ado), (1, .int gr), (2, .int part), (3, .int i)] [.int r_1]
  refine v_if_eq (tgt := 15) hk dX10_word_5 (by decide) (fun hc => ?_) (fun hc => ?_)
  · replace h := it_t (g := id) h hc
    refine v_ldc2 (v := (-1)) hk dX10_word_15 (by decide +kernel) ?_
    replace h : some (-1) = some r := h
    replace h := Option.some.inj h
    subst h
    refine hrt (some (.long (-1))) _ _ _ _ _ (⟨rfl, rfl⟩) (Nat.zero_le _) (Nat.zero_le _) (dX10_word_18)
  · replace h := it_f (g := id) h hc
    refine v_iload_n hk dX10_word_8 rfl ?_
    obtain ⟨r_2, er_2, h⟩ := bd_e (g := id) rfl h
    refine v_callS (n := 1) (st := []) hk dX10_word_9 (c_X10_isPart (kl K) (kG K) part r_2 er_2) gd_X10_word_X10_isPart rfl (by decide +kernel) (frok hR9 (Nat.le_of_ble_eq_true rfl) (Nat.le_of_ble_eq_true rfl)) (roomk hR9 (Nat.le_of_ble_eq_true rfl) (Nat.le_of_ble_eq_true rfl)) rfl rfl (Nat.le_of_ble_eq_true rfl) [] [0, 1] (wr := [(ado, .inr (9, [.ref ads, .ref adp, .ref adx, .ref ady, .ref adt, vs_h])), (ads, .inr (7, [.int nm, .int rw, .int sg, .int ms, .ref adsv, .ref adsc]))]) rfl rfl (by decide) (by decide) (by decide) ?_
    intro v9 w9 hp9
    obtain ⟨rfl, rfl⟩ := hp9
    show V K 4 [(ado, .inr (9, [.ref ads, .ref adp, .ref adx, .ref ady, .ref adt, vs_h])), (ads, .inr (7, [.int nm, .int rw, .int sg, .int ms, .ref adsv, .ref adsc]))] 0 0 12 [(0, .ref ado), (1, .int gr), (2, .int part), (3, .int i)] [.int r_2]
    refine v_if_ne (tgt := 19) hk dX10_word_12 (by decide) (fun hc => ?_) (fun hc => ?_)
    · replace h := it_f (g := id) h hc
      refine v_aload_n hk dX10_word_19 rfl ?_
      refine v_get (C := RX10) (T := TX10) (N := 6) (ci := 9) (v := .ref adx) hk dX10_word_20 w2i_X10_word_X100 0 rfl rfl 2 (by decide) (by decide +kernel) rfl rfl ?_
      refine v_iload_n hk dX10_word_23 rfl ?_
      exact nn_e (g := id) rfl h
    · replace h := it_t (g := id) h hc
      refine v_ldc2 (v := (-1)) hk dX10_word_15 (by decide +kernel) ?_
      replace h : some (-1) = some r := h
      replace h := Option.some.inj h
      subst h
      refine hrt (some (.long (-1))) _ _ _ _ _ (⟨rfl, rfl⟩) (Nat.zero_le _) (Nat.zero_le _) (dX10_word_18)
abbrev rm_X10_shareSize : Room := { frames := 2, cells := 0, slots := 0, locals := 43 }
set_option maxHeartbeats 4000000 in
set_option maxRecDepth 100000 in
theorem c_X10_shareSize (l : Launch) (G : GG) (ado : Nat) (vs_h : Value) (ads : Nat) (adp : Nat) (adx : Nat) (ady : Nat) (adt : Nat) (adsv : Nat) (adsc : Nat) (nm : Int32) (rw : Int32) (sg : Int32) (ms : Int32) (fr : Int32) (to0 : Int32) (part : Int32) (r : Int32) (h : m_X10_shareSize nm rw sg ms fr to0 part = some r) : Ctr l G yX10_shareSize w2_X10_shareSize rm_X10_shareSize [.ref ado, .int fr, .int to0, .int part] [(ado, .inr (9, [.ref ads, .ref adp, .ref adx, .ref ady, .ref adt, vs_h])), (ads, .inr (7, [.int nm, .int rw, .int sg, .int ms, .ref adsv, .ref adsc]))] (fun v w => v = some (.int r) ∧ w = [(ado, .inr (9, [.ref ads, .ref adp, .ref adx, .ref ady, .ref adt, vs_h])), (ads, .inr (7, [.int nm, .int rw, .int sg, .int ms, .ref adsv, .ref adsc]))]) := by
  refine ctr_entry (cc := cX10_shareSize) (maxL := 4) (ret := some .int) (lv0 := [(0, .ref ado), (1, .int fr), (2, .int to0), (3, .int part)]) (by decide) rfl (Nat.le_of_ble_eq_true rfl) (rfl) ?_
  intro K hl9 hG9 hk hn9 hrt
  subst hl9
  subst hG9
  have hR9 : RoomGe rm_X10_shareSize rm_X10_shareSize := RoomGe.rf
  replace h := id_e h
  rw [em_X10_shareSize] at h
  refine v_aload_n hk dX10_shareSize_0 rfl ?_
  refine v_iload_n hk dX10_shareSize_1 rfl ?_
  refine v_iload_n hk dX10_shareSize_2 rfl ?_
  obtain ⟨r_1, er_1, h⟩ := bd_e (g := id) rfl h
  refine v_callV (n := 2) (st := []) (b := ado) (T := TX10) (N := 6) hk dX10_shareSize_3 (c_X10_isPair (kl K) (kG K) ado vs_h ads adp adx ady adt adsv adsc nm rw sg ms fr to0 r_1 er_1) rfl gd_X10_shareSize_X10_isPair rfl (by decide +kernel) (frok hR9 (Nat.le_of_ble_eq_true rfl) (Nat.le_of_ble_eq_true rfl)) (roomk hR9 (Nat.le_of_ble_eq_true rfl) (Nat.le_of_ble_eq_true rfl)) rfl rfl (Nat.le_of_ble_eq_true rfl) 0 rfl rfl [0, 1] [] (wr := []) rfl rfl (by decide) (by decide) (by decide) ?_
  intro v9 w9 hp9
  obtain ⟨rfl, rfl⟩ := hp9
  show V K 4 [(ado, .inr (9, [.ref ads, .ref adp, .ref adx, .ref ady, .ref adt, vs_h])), (ads, .inr (7, [.int nm, .int rw, .int sg, .int ms, .ref adsv, .ref adsc]))] 0 0 6 [(0, .ref ado), (1, .int fr), (2, .int to0), (3, .int part)] [.int r_1]
  refine v_if_eq (tgt := 16) hk dX10_shareSize_6 (by decide) (fun hc => ?_) (fun hc => ?_)
  · replace h := it_t (g := id) h hc
    refine v_iconst (v := (-1)) hk dX10_shareSize_16 (by decide) ?_
    replace h : some (-1) = some r := h
    replace h := Option.some.inj h
    subst h
    refine hrt (some (.int (-1))) _ _ _ _ _ (⟨rfl, rfl⟩) (Nat.zero_le _) (Nat.zero_le _) (dX10_shareSize_17)
  · replace h := it_f (g := id) h hc
    refine v_iload_n hk dX10_shareSize_9 rfl ?_
    obtain ⟨r_2, er_2, h⟩ := bd_e (g := id) rfl h
    refine v_callS (n := 1) (st := []) hk dX10_shareSize_10 (c_X10_isPart (kl K) (kG K) part r_2 er_2) gd_X10_shareSize_X10_isPart rfl (by decide +kernel) (frok hR9 (Nat.le_of_ble_eq_true rfl) (Nat.le_of_ble_eq_true rfl)) (roomk hR9 (Nat.le_of_ble_eq_true rfl) (Nat.le_of_ble_eq_true rfl)) rfl rfl (Nat.le_of_ble_eq_true rfl) [] [0, 1] (wr := [(ado, .inr (9, [.ref ads, .ref adp, .ref adx, .ref ady, .ref adt, vs_h])), (ads, .inr (7, [.int nm, .int rw, .int sg, .int ms, .ref adsv, .ref adsc]))]) rfl rfl (by decide) (by decide) (by decide) ?_
    intro v9 w9 hp9
    obtain ⟨rfl, rfl⟩ := hp9
    show V K 4 [(ado, .inr (9, [.ref ads, .ref adp, .ref adx, .ref ady, .ref adt, vs_h])), (ads, .inr (7, [.int nm, .int rw, .int sg, .int ms, .ref adsv, .ref adsc]))] 0 0 13 [(0, .ref ado), (1, .int fr), (2, .int to0), (3, .int part)] [.int r_2]
    refine v_if_ne (tgt := 18) hk dX10_shareSize_13 (by decide) (fun hc => ?_) (fun hc => ?_)
    · replace h := it_f (g := id) h hc
      refine v_aload_n hk dX10_shareSize_18 rfl ?_
      refine v_get (C := RX10) (T := TX10) (N := 6) (ci := 9) (v := .ref ads) hk dX10_shareSize_19 w2i_X10_shareSize_X100 0 rfl rfl 0 (by decide) (by decide +kernel) rfl rfl ?_
      refine v_get (C := RX8) (T := TX8) (N := 6) (ci := 7) (v := .int nm) hk dX10_shareSize_22 w2i_X10_shareSize_X80 1 rfl rfl 0 (by decide) (by decide +kernel) rfl rfl ?_
      refine v_iconst (v := 4) hk dX10_shareSize_25 (by decide) ?_
      refine v_icmp_le (tgt := 32) hk dX10_shareSize_26 (by decide) (fun hc => ?_) (fun hc => ?_)
      · replace h := it_t (g := id) h hc
        refine v_aload_n hk dX10_shareSize_32 rfl ?_
        exact nn_e (g := id) rfl h
      · replace h := it_f (g := id) h hc
        refine v_bipush (v := (-2)) hk dX10_shareSize_29 (by decide) ?_
        replace h : some (-2) = some r := h
        replace h := Option.some.inj h
        subst h
        refine hrt (some (.int (-2))) _ _ _ _ _ (⟨rfl, rfl⟩) (Nat.zero_le _) (Nat.zero_le _) (dX10_shareSize_31)
    · replace h := it_t (g := id) h hc
      refine v_iconst (v := (-1)) hk dX10_shareSize_16 (by decide) ?_
      replace h : some (-1) = some r := h
      replace h := Option.some.inj h
      subst h
      refine hrt (some (.int (-1))) _ _ _ _ _ (⟨rfl, rfl⟩) (Nat.zero_le _) (Nat.zero_le _) (dX10_shareSize_17)
abbrev rm_X10_shareWord : Room := { frames := 2, cells := 0, slots := 0, locals := 43 }
set_option maxHeartbeats 4000000 in
set_option maxRecDepth 100000 in
theorem c_X10_shareWord (l : Launch) (G : GG) (ado : Nat) (vs_h : Value) (ads : Nat) (adp : Nat) (adx : Nat) (ady : Nat) (adt : Nat) (adsv : Nat) (adsc : Nat) (nm : Int32) (rw : Int32) (sg : Int32) (ms : Int32) (fr : Int32) (to0 : Int32) (part : Int32) (i : Int32) (r : Int64) (h : m_X10_shareWord nm rw sg ms fr to0 part i = some r) : Ctr l G yX10_shareWord w2_X10_shareWord rm_X10_shareWord [.ref ado, .int fr, .int to0, .int part, .int i] [(ado, .inr (9, [.ref ads, .ref adp, .ref adx, .ref ady, .ref adt, vs_h])), (ads, .inr (7, [.int nm, .int rw, .int sg, .int ms, .ref adsv, .ref adsc]))] (fun v w => v = some (.long r) ∧ w = [(ado, .inr (9, [.ref ads, .ref adp, .ref adx, .ref ady, .ref adt, vs_h])), (ads, .inr (7, [.int nm, .int rw, .int sg, .int ms, .ref adsv, .ref adsc]))]) := by
  refine ctr_entry (cc := cX10_shareWord) (maxL := 5) (ret := some .long) (lv0 := [(0, .ref ado), (1, .int fr), (2, .int to0), (3, .int part), (4, .int i)]) (by decide) rfl (Nat.le_of_ble_eq_true rfl) (rfl) ?_
  intro K hl9 hG9 hk hn9 hrt
  subst hl9
  subst hG9
  have hR9 : RoomGe rm_X10_shareWord rm_X10_shareWord := RoomGe.rf
  replace h := id_e h
  rw [em_X10_shareWord] at h
  refine v_aload_n hk dX10_shareWord_0 rfl ?_
  refine v_iload_n hk dX10_shareWord_1 rfl ?_
  refine v_iload_n hk dX10_shareWord_2 rfl ?_
  obtain ⟨r_1, er_1, h⟩ := bd_e (g := id) rfl h
  refine v_callV (n := 2) (st := []) (b := ado) (T := TX10) (N := 6) hk dX10_shareWord_3 (c_X10_isPair (kl K) (kG K) ado vs_h ads adp adx ady adt adsv adsc nm rw sg ms fr to0 r_1 er_1) rfl gd_X10_shareWord_X10_isPair rfl (by decide +kernel) (frok hR9 (Nat.le_of_ble_eq_true rfl) (Nat.le_of_ble_eq_true rfl)) (roomk hR9 (Nat.le_of_ble_eq_true rfl) (Nat.le_of_ble_eq_true rfl)) rfl rfl (Nat.le_of_ble_eq_true rfl) 0 rfl rfl [0, 1] [] (wr := []) rfl rfl (by decide) (by decide) (by decide) ?_
  intro v9 w9 hp9
  obtain ⟨rfl, rfl⟩ := hp9
  show V K 5 [(ado, .inr (9, [.ref ads, .ref adp, .ref adx, .ref ady, .ref adt, vs_h])), (ads, .inr (7, [.int nm, .int rw, .int sg, .int ms, .ref adsv, .ref adsc]))] 0 0 6 [(0, .ref ado), (1, .int fr), (2, .int to0), (3, .int part), (4, .int i)] [.int r_1]
  refine v_if_eq (tgt := 16) hk dX10_shareWord_6 (by decide) (fun hc => ?_) (fun hc => ?_)
  · replace h := it_t (g := id) h hc
    refine v_ldc2 (v := (-1)) hk dX10_shareWord_16 (by decide +kernel) ?_
    replace h : some (-1) = some r := h
    replace h := Option.some.inj h
    subst h
    refine hrt (some (.long (-1))) _ _ _ _ _ (⟨rfl, rfl⟩) (Nat.zero_le _) (Nat.zero_le _) (dX10_shareWord_19)
  · replace h := it_f (g := id) h hc
    refine v_iload_n hk dX10_shareWord_9 rfl ?_
    obtain ⟨r_2, er_2, h⟩ := bd_e (g := id) rfl h
    refine v_callS (n := 1) (st := []) hk dX10_shareWord_10 (c_X10_isPart (kl K) (kG K) part r_2 er_2) gd_X10_shareWord_X10_isPart rfl (by decide +kernel) (frok hR9 (Nat.le_of_ble_eq_true rfl) (Nat.le_of_ble_eq_true rfl)) (roomk hR9 (Nat.le_of_ble_eq_true rfl) (Nat.le_of_ble_eq_true rfl)) rfl rfl (Nat.le_of_ble_eq_true rfl) [] [0, 1] (wr := [(ado, .inr (9, [.ref ads, .ref adp, .ref adx, .ref ady, .ref adt, vs_h])), (ads, .inr (7, [.int nm, .int rw, .int sg, .int ms, .ref adsv, .ref adsc]))]) rfl rfl (by decide) (by decide) (by decide) ?_
    intro v9 w9 hp9
    obtain ⟨rfl, rfl⟩ := hp9
    show V K 5 [(ado, .inr (9, [.ref ads, .ref adp, .ref adx, .ref ady, .ref adt, vs_h])), (ads, .inr (7, [.int nm, .int rw, .int sg, .int ms, .ref adsv, .ref adsc]))] 0 0 13 [(0, .ref ado), (1, .int fr), (2, .int to0), (3, .int part), (4, .int i)] [.int r_2]
    refine v_if_ne (tgt := 20) hk dX10_shareWord_13 (by decide) (fun hc => ?_) (fun hc => ?_)
    · replace h := it_f (g := id) h hc
      refine v_aload_n hk dX10_shareWord_20 rfl ?_
      refine v_get (C := RX10) (T := TX10) (N := 6) (ci := 9) (v := .ref ads) hk dX10_shareWord_21 w2i_X10_shareWord_X100 0 rfl rfl 0 (by decide) (by decide +kernel) rfl rfl ?_
      refine v_get (C := RX8) (T := TX8) (N := 6) (ci := 7) (v := .int nm) hk dX10_shareWord_24 w2i_X10_shareWord_X80 1 rfl rfl 0 (by decide) (by decide +kernel) rfl rfl ?_
      refine v_iconst (v := 4) hk dX10_shareWord_27 (by decide) ?_
      refine v_icmp_le (tgt := 35) hk dX10_shareWord_28 (by decide) (fun hc => ?_) (fun hc => ?_)
      · replace h := it_t (g := id) h hc
        refine v_aload_n hk dX10_shareWord_35 rfl ?_
        exact nn_e (g := id) rfl h
      · replace h := it_f (g := id) h hc
        refine v_ldc2 (v := (-2)) hk dX10_shareWord_31 (by decide +kernel) ?_
        replace h : some (-2) = some r := h
        replace h := Option.some.inj h
        subst h
        refine hrt (some (.long (-2))) _ _ _ _ _ (⟨rfl, rfl⟩) (Nat.zero_le _) (Nat.zero_le _) (dX10_shareWord_34)
    · replace h := it_t (g := id) h hc
      refine v_ldc2 (v := (-1)) hk dX10_shareWord_16 (by decide +kernel) ?_
      replace h : some (-1) = some r := h
      replace h := Option.some.inj h
      subst h
      refine hrt (some (.long (-1))) _ _ _ _ _ (⟨rfl, rfl⟩) (Nat.zero_le _) (Nat.zero_le _) (dX10_shareWord_19)
abbrev rm_X10_kin : Room := { frames := 5, cells := 0, slots := 0, locals := 115 }
set_option maxHeartbeats 4000000 in
set_option maxRecDepth 100000 in
theorem c_X10_kin (l : Launch) (G : GG) (ado : Nat) (vs_h : Value) (ads : Nat) (adp : Nat) (adx : Nat) (ady : Nat) (adt : Nat) (adsv : Nat) (adsc : Nat) (nm : Int32) (rw : Int32) (sg : Int32) (ms : Int32) (gr : Int32) (what : Int32) (r : Int32) (h : m_X10_kin nm rw sg ms gr what = some r) : Ctr l G yX10_kin w2_X10_kin rm_X10_kin [.ref ado, .int gr, .int what] [(ado, .inr (9, [.ref ads, .ref adp, .ref adx, .ref ady, .ref adt, vs_h])), (ads, .inr (7, [.int nm, .int rw, .int sg, .int ms, .ref adsv, .ref adsc]))] (fun v w => v = some (.int r) ∧ w = [(ado, .inr (9, [.ref ads, .ref adp, .ref adx, .ref ady, .ref adt, vs_h])), (ads, .inr (7, [.int nm, .int rw, .int sg, .int ms, .ref adsv, .ref adsc]))]) := by
  refine ctr_entry (cc := cX10_kin) (maxL := 4) (ret := some .int) (lv0 := [(0, .ref ado), (1, .int gr), (2, .int what)]) (by decide) rfl (Nat.le_of_ble_eq_true rfl) (rfl) ?_
  intro K hl9 hG9 hk hn9 hrt
  subst hl9
  subst hG9
  have hR9 : RoomGe rm_X10_kin rm_X10_kin := RoomGe.rf
  replace h := id_e h
  rw [em_X10_kin] at h
  refine v_aload_n hk dX10_kin_0 rfl ?_
  refine v_iload_n hk dX10_kin_1 rfl ?_
  obtain ⟨r_1, er_1, h⟩ := bd_e (g := id) rfl h
  refine v_callV (n := 1) (st := []) (b := ado) (T := TX10) (N := 6) hk dX10_kin_2 (c_X10_isGraph (kl K) (kG K) ado vs_h ads adp adx ady adt adsv adsc nm rw sg ms gr r_1 er_1) rfl gd_X10_kin_X10_isGraph rfl (by decide +kernel) (frok hR9 (Nat.le_of_ble_eq_true rfl) (Nat.le_of_ble_eq_true rfl)) (roomk hR9 (Nat.le_of_ble_eq_true rfl) (Nat.le_of_ble_eq_true rfl)) rfl rfl (Nat.le_of_ble_eq_true rfl) 0 rfl rfl [0, 1] [] (wr := []) rfl rfl (by decide) (by decide) (by decide) ?_
  intro v9 w9 hp9
  obtain ⟨rfl, rfl⟩ := hp9
  show V K 4 [(ado, .inr (9, [.ref ads, .ref adp, .ref adx, .ref ady, .ref adt, vs_h])), (ads, .inr (7, [.int nm, .int rw, .int sg, .int ms, .ref adsv, .ref adsc]))] 0 0 5 [(0, .ref ado), (1, .int gr), (2, .int what)] [.int r_1]
  refine v_if_eq (tgt := 17) hk dX10_kin_5 (by decide) (fun hc => ?_) (fun hc => ?_)
  · replace h := it_t (g := id) h hc
    refine v_iconst (v := (-1)) hk dX10_kin_17 (by decide) ?_
    replace h : some (-1) = some r := h
    replace h := Option.some.inj h
    subst h
    refine hrt (some (.int (-1))) _ _ _ _ _ (⟨rfl, rfl⟩) (Nat.zero_le _) (Nat.zero_le _) (dX10_kin_18)
  · replace h := it_f (g := id) h hc
    refine v_iload_n hk dX10_kin_8 rfl ?_
    refine v_if_lt (tgt := 17) hk dX10_kin_9 (by decide) (fun hc => ?_) (fun hc => ?_)
    · replace h := it_t (g := id) h hc
      refine v_iconst (v := (-1)) hk dX10_kin_17 (by decide) ?_
      replace h : some (-1) = some r := h
      replace h := Option.some.inj h
      subst h
      refine hrt (some (.int (-1))) _ _ _ _ _ (⟨rfl, rfl⟩) (Nat.zero_le _) (Nat.zero_le _) (dX10_kin_18)
    · replace h := it_f (g := id) h hc
      refine v_iload_n hk dX10_kin_12 rfl ?_
      refine v_iconst (v := 3) hk dX10_kin_13 (by decide) ?_
      refine v_icmp_le (tgt := 19) hk dX10_kin_14 (by decide) (fun hc => ?_) (fun hc => ?_)
      · replace h := it_t (g := id) h hc
        exact nn_e (g := id) rfl h
      · replace h := it_f (g := id) h hc
        refine v_iconst (v := (-1)) hk dX10_kin_17 (by decide) ?_
        replace h : some (-1) = some r := h
        replace h := Option.some.inj h
        subst h
        refine hrt (some (.int (-1))) _ _ _ _ _ (⟨rfl, rfl⟩) (Nat.zero_le _) (Nat.zero_le _) (dX10_kin_18)
