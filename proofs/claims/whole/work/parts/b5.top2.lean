/-! StructureSearch beside the block of Fits -/
noncomputable def m_X10_compare (cell : Nat → Nat → Nat) (vals : Nat → Nat) (N : Nat) (R : Nat) (w : Nat) (ms : Int32) (gr : Int32) (ot : Int32) : Option Int32 := (m_X10_isGraph (nI N) (nI R) (nI w) ms gr).bind (fun r_1 : Int32 => if r_1 = 0 then some (-1) else (m_X10_isGraph (nI N) (nI R) (nI w) ms ot).bind (fun r_2 : Int32 => if r_2 = 0 then some (-1) else (wgh cell vals N R w gr ot).bind (fun r_3 : Int32 => some (r_3 + 1))))
theorem em_X10_compare (cell : Nat → Nat → Nat) (vals : Nat → Nat) (N : Nat) (R : Nat) (w : Nat) (ms : Int32) (gr : Int32) (ot : Int32) : m_X10_compare cell vals N R w ms gr ot = (m_X10_isGraph (nI N) (nI R) (nI w) ms gr).bind (fun r_1 : Int32 => if r_1 = 0 then some (-1) else (m_X10_isGraph (nI N) (nI R) (nI w) ms ot).bind (fun r_2 : Int32 => if r_2 = 0 then some (-1) else (wgh cell vals N R w gr ot).bind (fun r_3 : Int32 => some (r_3 + 1)))) := rfl
noncomputable def m_X10_parents (cell : Nat → Nat → Nat) (vals : Nat → Nat) (N : Nat) (R : Nat) (w : Nat) (ms : Int32) (nam : Int32) (of0 : Int32) : Option Int32 := (m_X10_isName (nI N) (nI R) (nI w) ms nam).bind (fun r_1 : Int32 => if r_1 = 0 then some (-1) else if of0 < 0 then some (-1) else if (1 <<< ((nI N) &&& 31)) ≤ of0 then some (-1) else (m_X0_isIn of0 nam).bind (fun r_2 : Int32 => if r_2 = 0 then (m_X6_bestParents cell vals N R w ms nam of0).bind (fun r_3 : Int32 => some r_3) else some (-1)))
theorem em_X10_parents (cell : Nat → Nat → Nat) (vals : Nat → Nat) (N : Nat) (R : Nat) (w : Nat) (ms : Int32) (nam : Int32) (of0 : Int32) : m_X10_parents cell vals N R w ms nam of0 = (m_X10_isName (nI N) (nI R) (nI w) ms nam).bind (fun r_1 : Int32 => if r_1 = 0 then some (-1) else if of0 < 0 then some (-1) else if (1 <<< ((nI N) &&& 31)) ≤ of0 then some (-1) else (m_X0_isIn of0 nam).bind (fun r_2 : Int32 => if r_2 = 0 then (m_X6_bestParents cell vals N R w ms nam of0).bind (fun r_3 : Int32 => some r_3) else some (-1))) := rfl
noncomputable def m_X10_best (cell : Nat → Nat → Nat) (vals : Nat → Nat) (N : Nat) (R : Nat) (w : Nat) (ms : Int32) (nbo : Nat) (fbo : Nat → Int32) : Option (Int32 × (Nat → Int32)) := (m_X6_bestGraph cell vals N R w ms nbo fbo).bind (fun r_1 : Int32 × (Nat → Int32) => some (r_1.1, r_1.2))
theorem em_X10_best (cell : Nat → Nat → Nat) (vals : Nat → Nat) (N : Nat) (R : Nat) (w : Nat) (ms : Int32) (nbo : Nat) (fbo : Nat → Int32) : m_X10_best cell vals N R w ms nbo fbo = (m_X6_bestGraph cell vals N R w ms nbo fbo).bind (fun r_1 : Int32 × (Nat → Int32) => some (r_1.1, r_1.2)) := rfl
noncomputable def m_X10_climb (cell : Nat → Nat → Nat) (vals : Nat → Nat) (N : Nat) (R : Nat) (w : Nat) (ms : Int32) (gr : Int32) (steps : Int32) : Option Int32 := (m_X10_isGraph (nI N) (nI R) (nI w) ms gr).bind (fun r_1 : Int32 => if r_1 = 0 then some (-1) else (m_X0_areBounded gr ms).bind (fun r_2 : Int32 => if r_2 = 0 then some (-1) else if steps < 0 then some (-1) else if steps ≤ (30 : Int32) then (m_X6_climbFrom cell vals N R w ms gr steps).bind (fun r_3 : Int32 => some r_3) else some (-1)))
theorem em_X10_climb (cell : Nat → Nat → Nat) (vals : Nat → Nat) (N : Nat) (R : Nat) (w : Nat) (ms : Int32) (gr : Int32) (steps : Int32) : m_X10_climb cell vals N R w ms gr steps = (m_X10_isGraph (nI N) (nI R) (nI w) ms gr).bind (fun r_1 : Int32 => if r_1 = 0 then some (-1) else (m_X0_areBounded gr ms).bind (fun r_2 : Int32 => if r_2 = 0 then some (-1) else if steps < 0 then some (-1) else if steps ≤ (30 : Int32) then (m_X6_climbFrom cell vals N R w ms gr steps).bind (fun r_3 : Int32 => some r_3) else some (-1))) := rfl
abbrev rm_X10_compare : Room := { frames := 5, cells := 1610, slots := 6140, locals := 227 }
set_option maxHeartbeats 4000000 in
set_option maxRecDepth 100000 in
theorem c_X10_compare (l : Launch) (G : GG) (A : Nat → Nat) {fsv : Nat → Int32} {fsc : Nat → Int32} {cell : Nat → Nat → Nat} {vals : Nat → Nat} {N : Nat} {R : Nat} {w : Nat} {ms : Int32} (hCS : CS N R w vals cell fsv fsc) (ado : Nat) (vs_h : Value) (ady : Nat) (adt : Nat) (gr : Int32) (ot : Int32) (r : Int32) (h : m_X10_compare cell vals N R w ms gr ot = some r) : CtrB l G (FBk G A cell vals N R w) yX10_compare w2_X10_compare rm_X10_compare [.ref ado, .int gr, .int ot] [(ado, .inr (9, [.ref (A 14), .ref (A 1), .ref (A 0), .ref ady, .ref adt, vs_h])), ((A 14), .inr (7, [.int (nI N), .int (nI R), .int (nI w), .int ms, .ref (A 15), .ref (A 16)])), ((A 15), .inl (gI G, 5, .inl fsv)), ((A 16), .inl (gI G, 16, .inl fsc))] (fun v w9 => v = some (.int r) ∧ w9 = [(ado, .inr (9, [.ref (A 14), .ref (A 1), .ref (A 0), .ref ady, .ref adt, vs_h])), ((A 14), .inr (7, [.int (nI N), .int (nI R), .int (nI w), .int ms, .ref (A 15), .ref (A 16)])), ((A 15), .inl (gI G, 5, .inl fsv)), ((A 16), .inl (gI G, 16, .inl fsc))]) := by
  refine ctrB_entry FBk.le (Nat.le_of_ble_eq_true rfl) (Nat.le_of_ble_eq_true rfl) (cc := cX10_compare) (maxL := 3) (ret := some .int) (lv0 := [(0, .ref ado), (1, .int gr), (2, .int ot)]) (by decide) rfl (Nat.le_of_ble_eq_true rfl) rfl ?_
  intro K n0 hl9 hG9 hk hn9 hrt
  subst hl9
  subst hG9
  have hR9 : RoomGe rm_X10_compare rm_X10_compare := RoomGe.rf
  replace h := id_e h
  rw [em_X10_compare] at h
  refine vx_aload_n hk dX10_compare_0 rfl ?_
  refine vx_iload_n hk dX10_compare_1 rfl ?_
  obtain ⟨r_1, er_1, h⟩ := bd_e (g := id) rfl h
  refine vx_callV (n := 1) (st := []) (b := ado) (T := TX10) (N := 6) hk dX10_compare_2 (c_X10_isGraph (kl K) (kG K) ado vs_h (A 14) (A 1) (A 0) ady adt (A 15) (A 16) (nI N) (nI R) (nI w) ms gr r_1 er_1) rfl gd_X10_compare_X10_isGraph rfl (by decide +kernel) (frok hR9 (Nat.le_of_ble_eq_true rfl) (Nat.le_of_ble_eq_true rfl)) ⟨⟨rfl, rfl⟩, roomk hR9 (Nat.le_of_ble_eq_true rfl) (Nat.le_of_ble_eq_true rfl)⟩ FBk.le rfl rfl (Nat.le_of_ble_eq_true rfl) 0 rfl rfl (wr := [((A 15), .inl (gI (kG K), 5, .inl fsv)), ((A 16), .inl (gI (kG K), 16, .inl fsc))]) [2, 3] [0, 1] 4 rfl (by decide) rfl rfl ?_
  intro v9 w9 hp9
  obtain ⟨rfl, rfl⟩ := hp9
  show VB K (FBk (kG K) A cell vals N R w) n0 3 [((A 15), .inl (gI (kG K), 5, .inl fsv)), ((A 16), .inl (gI (kG K), 16, .inl fsc)), (ado, .inr (9, [.ref (A 14), .ref (A 1), .ref (A 0), .ref ady, .ref adt, vs_h])), ((A 14), .inr (7, [.int (nI N), .int (nI R), .int (nI w), .int ms, .ref (A 15), .ref (A 16)]))] 5 [(0, .ref ado), (1, .int gr), (2, .int ot)] [.int r_1]
  refine vx_if_eq (tgt := 16) hk dX10_compare_5 (by decide) (fun hc => ?_) (fun hc => ?_)
  · replace h := it_t (g := id) h hc
    refine vx_iconst (v := (-1)) hk dX10_compare_16 (by decide) ?_
    replace h : some (-1) = some r := h
    replace h := Option.some.inj h
    subst h
    refine vx_perm [2, 3, 0, 1] 4 rfl (by decide) (ws' := [(ado, .inr (9, [.ref (A 14), .ref (A 1), .ref (A 0), .ref ady, .ref adt, vs_h])), ((A 14), .inr (7, [.int (nI N), .int (nI R), .int (nI w), .int ms, .ref (A 15), .ref (A 16)])), ((A 15), .inl (gI (kG K), 5, .inl fsv)), ((A 16), .inl (gI (kG K), 16, .inl fsc))]) rfl ?_
    refine hrt (some (.int (-1))) _ _ _ (⟨rfl, rfl⟩) (dX10_compare_17)
  · replace h := it_f (g := id) h hc
    refine vx_aload_n hk dX10_compare_8 rfl ?_
    refine vx_iload_n hk dX10_compare_9 rfl ?_
    obtain ⟨r_2, er_2, h⟩ := bd_e (g := id) rfl h
    refine vx_callV (n := 1) (st := []) (b := ado) (T := TX10) (N := 6) hk dX10_compare_10 (c_X10_isGraph (kl K) (kG K) ado vs_h (A 14) (A 1) (A 0) ady adt (A 15) (A 16) (nI N) (nI R) (nI w) ms ot r_2 er_2) rfl gd_X10_compare_X10_isGraph rfl (by decide +kernel) (frok hR9 (Nat.le_of_ble_eq_true rfl) (Nat.le_of_ble_eq_true rfl)) ⟨⟨rfl, rfl⟩, roomk hR9 (Nat.le_of_ble_eq_true rfl) (Nat.le_of_ble_eq_true rfl)⟩ FBk.le rfl rfl (Nat.le_of_ble_eq_true rfl) 2 rfl rfl (wr := [((A 15), .inl (gI (kG K), 5, .inl fsv)), ((A 16), .inl (gI (kG K), 16, .inl fsc))]) [0, 1] [2, 3] 4 rfl (by decide) rfl rfl ?_
    intro v9 w9 hp9
    obtain ⟨rfl, rfl⟩ := hp9
    show VB K (FBk (kG K) A cell vals N R w) n0 3 [((A 15), .inl (gI (kG K), 5, .inl fsv)), ((A 16), .inl (gI (kG K), 16, .inl fsc)), (ado, .inr (9, [.ref (A 14), .ref (A 1), .ref (A 0), .ref ady, .ref adt, vs_h])), ((A 14), .inr (7, [.int (nI N), .int (nI R), .int (nI w), .int ms, .ref (A 15), .ref (A 16)]))] 13 [(0, .ref ado), (1, .int gr), (2, .int ot)] [.int r_2]
    refine vx_if_ne (tgt := 18) hk dX10_compare_13 (by decide) (fun hc => ?_) (fun hc => ?_)
    · replace h := it_f (g := id) h hc
      refine vx_aload_n hk dX10_compare_18 rfl ?_
      refine vx_get (C := RX10) (T := TX10) (N := 6) (ci := 9) (v := .ref (A 0)) hk dX10_compare_19 w2i_X10_compare_X100 2 rfl rfl 2 (by decide) (by decide +kernel) rfl rfl ?_
      refine vx_iload_n hk dX10_compare_22 rfl ?_
      refine vx_iload_n hk dX10_compare_23 rfl ?_
      obtain ⟨r_3, er_3, h⟩ := bd_e (g := id) rfl h
      refine vx_callB (n := 2) (st := []) (b := (A 0)) (T := TX2) (N := 8) (ci := 1) hk dX10_compare_24 (c_wgh (kl K) (kG K) A ms hCS er_3) rfl gd_X10_compare_X2_weigh rfl (by decide +kernel) (frok hR9 (Nat.le_of_ble_eq_true rfl) (Nat.le_of_ble_eq_true rfl)) (roomk hR9 (Nat.le_of_ble_eq_true rfl) (Nat.le_of_ble_eq_true rfl)) FBk.le rfl rfl (Nat.le_of_ble_eq_true rfl) FBk.recv rfl (wr := [(ado, .inr (9, [.ref (A 14), .ref (A 1), .ref (A 0), .ref ady, .ref adt, vs_h]))]) [2] [3, 0, 1] 4 rfl (by decide) rfl rfl ?_
      intro v9 w9 hp9
      obtain ⟨rfl, rfl⟩ := hp9
      show VB K (FBk (kG K) A cell vals N R w) n0 3 [(ado, .inr (9, [.ref (A 14), .ref (A 1), .ref (A 0), .ref ady, .ref adt, vs_h])), ((A 14), .inr (7, [.int (nI N), .int (nI R), .int (nI w), .int ms, .ref (A 15), .ref (A 16)])), ((A 15), .inl (gI (kG K), 5, .inl fsv)), ((A 16), .inl (gI (kG K), 16, .inl fsc))] 27 [(0, .ref ado), (1, .int gr), (2, .int ot)] [.int r_3]
      refine vx_iconst (v := 1) hk dX10_compare_27 (by decide) ?_
      refine vx_iadd hk dX10_compare_28 ?_
      replace h : some (r_3 + 1) = some r := h
      replace h := Option.some.inj h
      subst h
      refine hrt (some (.int (r_3 + 1))) _ _ _ (⟨rfl, rfl⟩) (dX10_compare_29)
    · replace h := it_t (g := id) h hc
      refine vx_iconst (v := (-1)) hk dX10_compare_16 (by decide) ?_
      replace h : some (-1) = some r := h
      replace h := Option.some.inj h
      subst h
      refine vx_perm [2, 3, 0, 1] 4 rfl (by decide) (ws' := [(ado, .inr (9, [.ref (A 14), .ref (A 1), .ref (A 0), .ref ady, .ref adt, vs_h])), ((A 14), .inr (7, [.int (nI N), .int (nI R), .int (nI w), .int ms, .ref (A 15), .ref (A 16)])), ((A 15), .inl (gI (kG K), 5, .inl fsv)), ((A 16), .inl (gI (kG K), 16, .inl fsc))]) rfl ?_
      refine hrt (some (.int (-1))) _ _ _ (⟨rfl, rfl⟩) (dX10_compare_17)
abbrev rm_X10_parents : Room := { frames := 6, cells := 2410, slots := 9180, locals := 251 }
set_option maxHeartbeats 4000000 in
set_option maxRecDepth 100000 in
theorem c_X10_parents (l : Launch) (G : GG) (A : Nat → Nat) {fsv : Nat → Int32} {fsc : Nat → Int32} {cell : Nat → Nat → Nat} {vals : Nat → Nat} {N : Nat} {R : Nat} {w : Nat} {ms : Int32} (hCS : CS N R w vals cell fsv fsc) (ado : Nat) (vs_h : Value) (ady : Nat) (adt : Nat) (adbo : Nat) (nam : Int32) (of0 : Int32) (r : Int32) (h : m_X10_parents cell vals N R w ms nam of0 = some r) : CtrB l G (FBk G A cell vals N R w) yX10_parents w2_X10_parents rm_X10_parents [.ref ado, .int nam, .int of0] [(ado, .inr (9, [.ref (A 14), .ref (A 1), .ref (A 0), .ref ady, .ref adt, vs_h])), (ady, .inr (5, [.ref (A 14), .ref (A 0), .ref adbo])), ((A 14), .inr (7, [.int (nI N), .int (nI R), .int (nI w), .int ms, .ref (A 15), .ref (A 16)])), ((A 15), .inl (gI G, 5, .inl fsv)), ((A 16), .inl (gI G, 16, .inl fsc))] (fun v w9 => v = some (.int r) ∧ w9 = [(ado, .inr (9, [.ref (A 14), .ref (A 1), .ref (A 0), .ref ady, .ref adt, vs_h])), (ady, .inr (5, [.ref (A 14), .ref (A 0), .ref adbo])), ((A 14), .inr (7, [.int (nI N), .int (nI R), .int (nI w), .int ms, .ref (A 15), .ref (A 16)])), ((A 15), .inl (gI G, 5, .inl fsv)), ((A 16), .inl (gI G, 16, .inl fsc))]) := by
  refine ctrB_entry FBk.le (Nat.le_of_ble_eq_true rfl) (Nat.le_of_ble_eq_true rfl) (cc := cX10_parents) (maxL := 3) (ret := some .int) (lv0 := [(0, .ref ado), (1, .int nam), (2, .int of0)]) (by decide) rfl (Nat.le_of_ble_eq_true rfl) rfl ?_
  intro K n0 hl9 hG9 hk hn9 hrt
  subst hl9
  subst hG9
  have hR9 : RoomGe rm_X10_parents rm_X10_parents := RoomGe.rf
  replace h := id_e h
  rw [em_X10_parents] at h
  refine vx_aload_n hk dX10_parents_0 rfl ?_
  refine vx_iload_n hk dX10_parents_1 rfl ?_
  obtain ⟨r_1, er_1, h⟩ := bd_e (g := id) rfl h
  refine vx_callV (n := 1) (st := []) (b := ado) (T := TX10) (N := 6) hk dX10_parents_2 (c_X10_isName (kl K) (kG K) ado vs_h (A 14) (A 1) (A 0) ady adt (A 15) (A 16) (nI N) (nI R) (nI w) ms nam r_1 er_1) rfl gd_X10_parents_X10_isName rfl (by decide +kernel) (frok hR9 (Nat.le_of_ble_eq_true rfl) (Nat.le_of_ble_eq_true rfl)) ⟨⟨rfl, rfl⟩, roomk hR9 (Nat.le_of_ble_eq_true rfl) (Nat.le_of_ble_eq_true rfl)⟩ FBk.le rfl rfl (Nat.le_of_ble_eq_true rfl) 0 rfl rfl (wr := [(ady, .inr (5, [.ref (A 14), .ref (A 0), .ref adbo])), ((A 15), .inl (gI (kG K), 5, .inl fsv)), ((A 16), .inl (gI (kG K), 16, .inl fsc))]) [1, 3, 4] [0, 2] 5 rfl (by decide) rfl rfl ?_
  intro v9 w9 hp9
  obtain ⟨rfl, rfl⟩ := hp9
  show VB K (FBk (kG K) A cell vals N R w) n0 3 [(ady, .inr (5, [.ref (A 14), .ref (A 0), .ref adbo])), ((A 15), .inl (gI (kG K), 5, .inl fsv)), ((A 16), .inl (gI (kG K), 16, .inl fsc)), (ado, .inr (9, [.ref (A 14), .ref (A 1), .ref (A 0), .ref ady, .ref adt, vs_h])), ((A 14), .inr (7, [.int (nI N), .int (nI R), .int (nI w), .int ms, .ref (A 15), .ref (A 16)]))] 5 [(0, .ref ado), (1, .int nam), (2, .int of0)] [.int r_1]
  refine vx_if_eq (tgt := 33) hk dX10_parents_5 (by decide) (fun hc => ?_) (fun hc => ?_)
  · replace h := it_t (g := id) h hc
    refine vx_iconst (v := (-1)) hk dX10_parents_33 (by decide) ?_
    replace h : some (-1) = some r := h
    replace h := Option.some.inj h
    subst h
    refine vx_perm [3, 0, 4, 1, 2] 5 rfl (by decide) (ws' := [(ado, .inr (9, [.ref (A 14), .ref (A 1), .ref (A 0), .ref ady, .ref adt, vs_h])), (ady, .inr (5, [.ref (A 14), .ref (A 0), .ref adbo])), ((A 14), .inr (7, [.int (nI N), .int (nI R), .int (nI w), .int ms, .ref (A 15), .ref (A 16)])), ((A 15), .inl (gI (kG K), 5, .inl fsv)), ((A 16), .inl (gI (kG K), 16, .inl fsc))]) rfl ?_
    refine hrt (some (.int (-1))) _ _ _ (⟨rfl, rfl⟩) (dX10_parents_34)
  · replace h := it_f (g := id) h hc
    refine vx_iload_n hk dX10_parents_8 rfl ?_
    refine vx_if_lt (tgt := 33) hk dX10_parents_9 (by decide) (fun hc => ?_) (fun hc => ?_)
    · replace h := it_t (g := id) h hc
      refine vx_iconst (v := (-1)) hk dX10_parents_33 (by decide) ?_
      replace h : some (-1) = some r := h
      replace h := Option.some.inj h
      subst h
      refine vx_perm [3, 0, 4, 1, 2] 5 rfl (by decide) (ws' := [(ado, .inr (9, [.ref (A 14), .ref (A 1), .ref (A 0), .ref ady, .ref adt, vs_h])), (ady, .inr (5, [.ref (A 14), .ref (A 0), .ref adbo])), ((A 14), .inr (7, [.int (nI N), .int (nI R), .int (nI w), .int ms, .ref (A 15), .ref (A 16)])), ((A 15), .inl (gI (kG K), 5, .inl fsv)), ((A 16), .inl (gI (kG K), 16, .inl fsc))]) rfl ?_
      refine hrt (some (.int (-1))) _ _ _ (⟨rfl, rfl⟩) (dX10_parents_34)
    · replace h := it_f (g := id) h hc
      refine vx_iload_n hk dX10_parents_12 rfl ?_
      refine vx_iconst (v := 1) hk dX10_parents_13 (by decide) ?_
      refine vx_aload_n hk dX10_parents_14 rfl ?_
      refine vx_get (C := RX10) (T := TX10) (N := 6) (ci := 9) (v := .ref (A 14)) hk dX10_parents_15 w2i_X10_parents_X100 3 rfl rfl 0 (by decide) (by decide +kernel) rfl rfl ?_
      refine vx_get (C := RX8) (T := TX8) (N := 6) (ci := 7) (v := .int (nI N)) hk dX10_parents_18 w2i_X10_parents_X80 4 rfl rfl 0 (by decide) (by decide +kernel) rfl rfl ?_
      refine vx_ishl hk dX10_parents_21 ?_
      refine vx_icmp_ge (tgt := 33) hk dX10_parents_22 (by decide) (fun hc => ?_) (fun hc => ?_)
      · replace h := it_t (g := id) h hc
        refine vx_iconst (v := (-1)) hk dX10_parents_33 (by decide) ?_
        replace h : some (-1) = some r := h
        replace h := Option.some.inj h
        subst h
        refine vx_perm [3, 0, 4, 1, 2] 5 rfl (by decide) (ws' := [(ado, .inr (9, [.ref (A 14), .ref (A 1), .ref (A 0), .ref ady, .ref adt, vs_h])), (ady, .inr (5, [.ref (A 14), .ref (A 0), .ref adbo])), ((A 14), .inr (7, [.int (nI N), .int (nI R), .int (nI w), .int ms, .ref (A 15), .ref (A 16)])), ((A 15), .inl (gI (kG K), 5, .inl fsv)), ((A 16), .inl (gI (kG K), 16, .inl fsc))]) rfl ?_
        refine hrt (some (.int (-1))) _ _ _ (⟨rfl, rfl⟩) (dX10_parents_34)
      · replace h := it_f (g := id) h hc
        refine vx_iload_n hk dX10_parents_25 rfl ?_
        refine vx_iload_n hk dX10_parents_26 rfl ?_
        obtain ⟨r_2, er_2, h⟩ := bd_e (g := id) rfl h
        refine vx_callS (n := 2) (st := []) hk dX10_parents_27 (c_X0_isIn (kl K) (kG K) of0 nam r_2 er_2) gd_X10_parents_X0_isIn rfl (by decide +kernel) (frok hR9 (Nat.le_of_ble_eq_true rfl) (Nat.le_of_ble_eq_true rfl)) ⟨⟨rfl, rfl⟩, roomk hR9 (Nat.le_of_ble_eq_true rfl) (Nat.le_of_ble_eq_true rfl)⟩ FBk.le rfl rfl (Nat.le_of_ble_eq_true rfl) (wr := [(ady, .inr (5, [.ref (A 14), .ref (A 0), .ref adbo])), ((A 15), .inl (gI (kG K), 5, .inl fsv)), ((A 16), .inl (gI (kG K), 16, .inl fsc)), (ado, .inr (9, [.ref (A 14), .ref (A 1), .ref (A 0), .ref ady, .ref adt, vs_h])), ((A 14), .inr (7, [.int (nI N), .int (nI R), .int (nI w), .int ms, .ref (A 15), .ref (A 16)]))]) [0, 1, 2, 3, 4] [] 5 rfl (by decide) rfl rfl ?_
        intro v9 w9 hp9
        obtain ⟨rfl, rfl⟩ := hp9
        show VB K (FBk (kG K) A cell vals N R w) n0 3 [(ady, .inr (5, [.ref (A 14), .ref (A 0), .ref adbo])), ((A 15), .inl (gI (kG K), 5, .inl fsv)), ((A 16), .inl (gI (kG K), 16, .inl fsc)), (ado, .inr (9, [.ref (A 14), .ref (A 1), .ref (A 0), .ref ady, .ref adt, vs_h])), ((A 14), .inr (7, [.int (nI N), .int (nI R), .int (nI w), .int ms, .ref (A 15), .ref (A 16)]))] 30 [(0, .ref ado), (1, .int nam), (2, .int of0)] [.int r_2]
        refine vx_if_eq (tgt := 35) hk dX10_parents_30 (by decide) (fun hc => ?_) (fun hc => ?_)
        · replace h := it_t (g := id) h hc
          refine vx_aload_n hk dX10_parents_35 rfl ?_
          refine vx_get (C := RX10) (T := TX10) (N := 6) (ci := 9) (v := .ref ady) hk dX10_parents_36 w2i_X10_parents_X100 3 rfl rfl 3 (by decide) (by decide +kernel) rfl rfl ?_
          refine vx_iload_n hk dX10_parents_39 rfl ?_
          refine vx_iload_n hk dX10_parents_40 rfl ?_
          obtain ⟨r_3, er_3, h⟩ := bd_e (g := id) rfl h
          refine vx_callB (n := 2) (st := []) (b := ady) (T := TX6) (N := 3) (ci := 5) hk dX10_parents_41 (c_X6_bestParents (kl K) (kG K) A hCS ady adbo nam of0 r_3 er_3) rfl gd_X10_parents_X6_bestParents rfl (by decide +kernel) (frok hR9 (Nat.le_of_ble_eq_true rfl) (Nat.le_of_ble_eq_true rfl)) (roomk hR9 (Nat.le_of_ble_eq_true rfl) (Nat.le_of_ble_eq_true rfl)) FBk.le rfl rfl (Nat.le_of_ble_eq_true rfl) (fun _ _ _ => ⟨_, List.mem_append_left _ (List.mem_of_getElem? (i := 0) rfl)⟩) rfl (wr := [(ado, .inr (9, [.ref (A 14), .ref (A 1), .ref (A 0), .ref ady, .ref adt, vs_h]))]) [3] [0, 4, 1, 2] 5 rfl (by decide) rfl rfl ?_
          intro v9 w9 hp9
          obtain ⟨rfl, rfl⟩ := hp9
          show VB K (FBk (kG K) A cell vals N R w) n0 3 [(ado, .inr (9, [.ref (A 14), .ref (A 1), .ref (A 0), .ref ady, .ref adt, vs_h])), (ady, .inr (5, [.ref (A 14), .ref (A 0), .ref adbo])), ((A 14), .inr (7, [.int (nI N), .int (nI R), .int (nI w), .int ms, .ref (A 15), .ref (A 16)])), ((A 15), .inl (gI (kG K), 5, .inl fsv)), ((A 16), .inl (gI (kG K), 16, .inl fsc))] 44 [(0, .ref ado), (1, .int nam), (2, .int of0)] [.int r_3]
          replace h : some r_3 = some r := h
          replace h := Option.some.inj h
          subst h
          refine hrt (some (.int r_3)) _ _ _ (⟨rfl, rfl⟩) (dX10_parents_44)
        · replace h := it_f (g := id) h hc
          refine vx_iconst (v := (-1)) hk dX10_parents_33 (by decide) ?_
          replace h : some (-1) = some r := h
          replace h := Option.some.inj h
          subst h
          refine vx_perm [3, 0, 4, 1, 2] 5 rfl (by decide) (ws' := [(ado, .inr (9, [.ref (A 14), .ref (A 1), .ref (A 0), .ref ady, .ref adt, vs_h])), (ady, .inr (5, [.ref (A 14), .ref (A 0), .ref adbo])), ((A 14), .inr (7, [.int (nI N), .int (nI R), .int (nI w), .int ms, .ref (A 15), .ref (A 16)])), ((A 15), .inl (gI (kG K), 5, .inl fsv)), ((A 16), .inl (gI (kG K), 16, .inl fsc))]) rfl ?_
          refine hrt (some (.int (-1))) _ _ _ (⟨rfl, rfl⟩) (dX10_parents_34)
abbrev rm_X10_best : Room := { frames := 7, cells := 3210, slots := 12220, locals := 275 }
set_option maxHeartbeats 4000000 in
set_option maxRecDepth 100000 in
theorem c_X10_best (l : Launch) (G : GG) (A : Nat → Nat) {fsv : Nat → Int32} {fsc : Nat → Int32} {cell : Nat → Nat → Nat} {vals : Nat → Nat} {N : Nat} {R : Nat} {w : Nat} {ms : Int32} (hCS : CS N R w vals cell fsv fsc) (ado : Nat) (vs_h : Value) (ady : Nat) (adbo : Nat) (adt : Nat) (nbo : Nat) (fbo : Nat → Int32) (r : Int32 × (Nat → Int32)) (h : m_X10_best cell vals N R w ms nbo fbo = some r) : CtrB l G (FBk G A cell vals N R w) yX10_best w2_X10_best rm_X10_best [.ref ado] [(ado, .inr (9, [.ref (A 14), .ref (A 1), .ref (A 0), .ref ady, .ref adt, vs_h])), (ady, .inr (5, [.ref (A 14), .ref (A 0), .ref adbo])), ((A 14), .inr (7, [.int (nI N), .int (nI R), .int (nI w), .int ms, .ref (A 15), .ref (A 16)])), ((A 15), .inl (gI G, 5, .inl fsv)), ((A 16), .inl (gI G, 16, .inl fsc)), (adbo, .inl (gI G, nbo, .inl fbo))] (fun v w9 => v = some (.int r.1) ∧ w9 = [(ado, .inr (9, [.ref (A 14), .ref (A 1), .ref (A 0), .ref ady, .ref adt, vs_h])), (ady, .inr (5, [.ref (A 14), .ref (A 0), .ref adbo])), ((A 14), .inr (7, [.int (nI N), .int (nI R), .int (nI w), .int ms, .ref (A 15), .ref (A 16)])), ((A 15), .inl (gI G, 5, .inl fsv)), ((A 16), .inl (gI G, 16, .inl fsc)), (adbo, .inl (gI G, nbo, .inl r.2))]) := by
  refine ctrB_entry FBk.le (Nat.le_of_ble_eq_true rfl) (Nat.le_of_ble_eq_true rfl) (cc := cX10_best) (maxL := 1) (ret := some .int) (lv0 := [(0, .ref ado)]) (by decide) rfl (Nat.le_of_ble_eq_true rfl) rfl ?_
  intro K n0 hl9 hG9 hk hn9 hrt
  subst hl9
  subst hG9
  have hR9 : RoomGe rm_X10_best rm_X10_best := RoomGe.rf
  replace h := id_e h
  rw [em_X10_best] at h
  refine vx_aload_n hk dX10_best_0 rfl ?_
  refine vx_get (C := RX10) (T := TX10) (N := 6) (ci := 9) (v := .ref ady) hk dX10_best_1 w2i_X10_best_X100 0 rfl rfl 3 (by decide) (by decide +kernel) rfl rfl ?_
  obtain ⟨r_1, er_1, h⟩ := bd_e (g := id) rfl h
  refine vx_callB (n := 0) (st := []) (b := ady) (T := TX6) (N := 3) (ci := 5) hk dX10_best_4 (c_X6_bestGraph (kl K) (kG K) A hCS ady adbo nbo fbo r_1 er_1) rfl gd_X10_best_X6_bestGraph rfl (by decide +kernel) (frok hR9 (Nat.le_of_ble_eq_true rfl) (Nat.le_of_ble_eq_true rfl)) (roomk hR9 (Nat.le_of_ble_eq_true rfl) (Nat.le_of_ble_eq_true rfl)) FBk.le rfl rfl (Nat.le_of_ble_eq_true rfl) (fun _ _ _ => ⟨_, List.mem_append_left _ (List.mem_of_getElem? (i := 1) rfl)⟩) rfl (wr := [(ado, .inr (9, [.ref (A 14), .ref (A 1), .ref (A 0), .ref ady, .ref adt, vs_h]))]) [0] [1, 2, 3, 4, 5] 6 rfl (by decide) rfl rfl ?_
  intro v9 w9 hp9
  obtain ⟨rfl, rfl⟩ := hp9
  show VB K (FBk (kG K) A cell vals N R w) n0 1 [(ado, .inr (9, [.ref (A 14), .ref (A 1), .ref (A 0), .ref ady, .ref adt, vs_h])), (ady, .inr (5, [.ref (A 14), .ref (A 0), .ref adbo])), ((A 14), .inr (7, [.int (nI N), .int (nI R), .int (nI w), .int ms, .ref (A 15), .ref (A 16)])), ((A 15), .inl (gI (kG K), 5, .inl fsv)), ((A 16), .inl (gI (kG K), 16, .inl fsc)), (adbo, .inl (gI (kG K), nbo, .inl r_1.2))] 7 [(0, .ref ado)] [.int r_1.1]
  replace h : some (r_1.1, r_1.2) = some r := h
  replace h := Option.some.inj h
  subst h
  refine hrt (some (.int r_1.1)) _ _ _ (⟨rfl, rfl⟩) (dX10_best_7)
abbrev rm_X10_climb : Room := { frames := 8, cells := 4010, slots := 15260, locals := 300 }
set_option maxHeartbeats 4000000 in
set_option maxRecDepth 100000 in
theorem c_X10_climb (l : Launch) (G : GG) (A : Nat → Nat) {fsv : Nat → Int32} {fsc : Nat → Int32} {cell : Nat → Nat → Nat} {vals : Nat → Nat} {N : Nat} {R : Nat} {w : Nat} {ms : Int32} (hCS : CS N R w vals cell fsv fsc) (ado : Nat) (vs_h : Value) (ady : Nat) (adt : Nat) (adbo : Nat) (gr : Int32) (steps : Int32) (r : Int32) (h : m_X10_climb cell vals N R w ms gr steps = some r) : CtrB l G (FBk G A cell vals N R w) yX10_climb w2_X10_climb rm_X10_climb [.ref ado, .int gr, .int steps] [(ado, .inr (9, [.ref (A 14), .ref (A 1), .ref (A 0), .ref ady, .ref adt, vs_h])), (ady, .inr (5, [.ref (A 14), .ref (A 0), .ref adbo])), ((A 14), .inr (7, [.int (nI N), .int (nI R), .int (nI w), .int ms, .ref (A 15), .ref (A 16)])), ((A 15), .inl (gI G, 5, .inl fsv)), ((A 16), .inl (gI G, 16, .inl fsc))] (fun v w9 => v = some (.int r) ∧ w9 = [(ado, .inr (9, [.ref (A 14), .ref (A 1), .ref (A 0), .ref ady, .ref adt, vs_h])), (ady, .inr (5, [.ref (A 14), .ref (A 0), .ref adbo])), ((A 14), .inr (7, [.int (nI N), .int (nI R), .int (nI w), .int ms, .ref (A 15), .ref (A 16)])), ((A 15), .inl (gI G, 5, .inl fsv)), ((A 16), .inl (gI G, 16, .inl fsc))]) := by
  refine ctrB_entry FBk.le (Nat.le_of_ble_eq_true rfl) (Nat.le_of_ble_eq_true rfl) (cc := cX10_climb) (maxL := 3) (ret := some .int) (lv0 := [(0, .ref ado), (1, .int gr), (2, .int steps)]) (by decide) rfl (Nat.le_of_ble_eq_true rfl) rfl ?_
  intro K n0 hl9 hG9 hk hn9 hrt
  subst hl9
  subst hG9
  have hR9 : RoomGe rm_X10_climb rm_X10_climb := RoomGe.rf
  replace h := id_e h
  rw [em_X10_climb] at h
  refine vx_aload_n hk dX10_climb_0 rfl ?_
  refine vx_iload_n hk dX10_climb_1 rfl ?_
  obtain ⟨r_1, er_1, h⟩ := bd_e (g := id) rfl h
  refine vx_callV (n := 1) (st := []) (b := ado) (T := TX10) (N := 6) hk dX10_climb_2 (c_X10_isGraph (kl K) (kG K) ado vs_h (A 14) (A 1) (A 0) ady adt (A 15) (A 16) (nI N) (nI R) (nI w) ms gr r_1 er_1) rfl gd_X10_climb_X10_isGraph rfl (by decide +kernel) (frok hR9 (Nat.le_of_ble_eq_true rfl) (Nat.le_of_ble_eq_true rfl)) ⟨⟨rfl, rfl⟩, roomk hR9 (Nat.le_of_ble_eq_true rfl) (Nat.le_of_ble_eq_true rfl)⟩ FBk.le rfl rfl (Nat.le_of_ble_eq_true rfl) 0 rfl rfl (wr := [(ady, .inr (5, [.ref (A 14), .ref (A 0), .ref adbo])), ((A 15), .inl (gI (kG K), 5, .inl fsv)), ((A 16), .inl (gI (kG K), 16, .inl fsc))]) [1, 3, 4] [0, 2] 5 rfl (by decide) rfl rfl ?_
  intro v9 w9 hp9
  obtain ⟨rfl, rfl⟩ := hp9
  show VB K (FBk (kG K) A cell vals N R w) n0 3 [(ady, .inr (5, [.ref (A 14), .ref (A 0), .ref adbo])), ((A 15), .inl (gI (kG K), 5, .inl fsv)), ((A 16), .inl (gI (kG K), 16, .inl fsc)), (ado, .inr (9, [.ref (A 14), .ref (A 1), .ref (A 0), .ref ady, .ref adt, vs_h])), ((A 14), .inr (7, [.int (nI N), .int (nI R), .int (nI w), .int ms, .ref (A 15), .ref (A 16)]))] 5 [(0, .ref ado), (1, .int gr), (2, .int steps)] [.int r_1]
  refine vx_if_eq (tgt := 32) hk dX10_climb_5 (by decide) (fun hc => ?_) (fun hc => ?_)
  · replace h := it_t (g := id) h hc
    refine vx_iconst (v := (-1)) hk dX10_climb_32 (by decide) ?_
    replace h : some (-1) = some r := h
    replace h := Option.some.inj h
    subst h
    refine vx_perm [3, 0, 4, 1, 2] 5 rfl (by decide) (ws' := [(ado, .inr (9, [.ref (A 14), .ref (A 1), .ref (A 0), .ref ady, .ref adt, vs_h])), (ady, .inr (5, [.ref (A 14), .ref (A 0), .ref adbo])), ((A 14), .inr (7, [.int (nI N), .int (nI R), .int (nI w), .int ms, .ref (A 15), .ref (A 16)])), ((A 15), .inl (gI (kG K), 5, .inl fsv)), ((A 16), .inl (gI (kG K), 16, .inl fsc))]) rfl ?_
    refine hrt (some (.int (-1))) _ _ _ (⟨rfl, rfl⟩) (dX10_climb_33)
  · replace h := it_f (g := id) h hc
    refine vx_iload_n hk dX10_climb_8 rfl ?_
    refine vx_aload_n hk dX10_climb_9 rfl ?_
    refine vx_get (C := RX10) (T := TX10) (N := 6) (ci := 9) (v := .ref (A 14)) hk dX10_climb_10 w2i_X10_climb_X100 3 rfl rfl 0 (by decide) (by decide +kernel) rfl rfl ?_
    refine vx_get (C := RX8) (T := TX8) (N := 6) (ci := 7) (v := .int ms) hk dX10_climb_13 w2i_X10_climb_X80 4 rfl rfl 3 (by decide) (by decide +kernel) rfl rfl ?_
    obtain ⟨r_2, er_2, h⟩ := bd_e (g := id) rfl h
    refine vx_callS (n := 2) (st := []) hk dX10_climb_16 (c_X0_areBounded (kl K) (kG K) gr ms r_2 er_2) gd_X10_climb_X0_areBounded rfl (by decide +kernel) (frok hR9 (Nat.le_of_ble_eq_true rfl) (Nat.le_of_ble_eq_true rfl)) ⟨⟨rfl, rfl⟩, roomk hR9 (Nat.le_of_ble_eq_true rfl) (Nat.le_of_ble_eq_true rfl)⟩ FBk.le rfl rfl (Nat.le_of_ble_eq_true rfl) (wr := [(ady, .inr (5, [.ref (A 14), .ref (A 0), .ref adbo])), ((A 15), .inl (gI (kG K), 5, .inl fsv)), ((A 16), .inl (gI (kG K), 16, .inl fsc)), (ado, .inr (9, [.ref (A 14), .ref (A 1), .ref (A 0), .ref ady, .ref adt, vs_h])), ((A 14), .inr (7, [.int (nI N), .int (nI R), .int (nI w), .int ms, .ref (A 15), .ref (A 16)]))]) [0, 1, 2, 3, 4] [] 5 rfl (by decide) rfl rfl ?_
    intro v9 w9 hp9
    obtain ⟨rfl, rfl⟩ := hp9
    show VB K (FBk (kG K) A cell vals N R w) n0 3 [(ady, .inr (5, [.ref (A 14), .ref (A 0), .ref adbo])), ((A 15), .inl (gI (kG K), 5, .inl fsv)), ((A 16), .inl (gI (kG K), 16, .inl fsc)), (ado, .inr (9, [.ref (A 14), .ref (A 1), .ref (A 0), .ref ady, .ref adt, vs_h])), ((A 14), .inr (7, [.int (nI N), .int (nI R), .int (nI w), .int ms, .ref (A 15), .ref (A 16)]))] 19 [(0, .ref ado), (1, .int gr), (2, .int steps)] [.int r_2]
    refine vx_if_eq (tgt := 32) hk dX10_climb_19 (by decide) (fun hc => ?_) (fun hc => ?_)
    · replace h := it_t (g := id) h hc
      refine vx_iconst (v := (-1)) hk dX10_climb_32 (by decide) ?_
      replace h : some (-1) = some r := h
      replace h := Option.some.inj h
      subst h
      refine vx_perm [3, 0, 4, 1, 2] 5 rfl (by decide) (ws' := [(ado, .inr (9, [.ref (A 14), .ref (A 1), .ref (A 0), .ref ady, .ref adt, vs_h])), (ady, .inr (5, [.ref (A 14), .ref (A 0), .ref adbo])), ((A 14), .inr (7, [.int (nI N), .int (nI R), .int (nI w), .int ms, .ref (A 15), .ref (A 16)])), ((A 15), .inl (gI (kG K), 5, .inl fsv)), ((A 16), .inl (gI (kG K), 16, .inl fsc))]) rfl ?_
      refine hrt (some (.int (-1))) _ _ _ (⟨rfl, rfl⟩) (dX10_climb_33)
    · replace h := it_f (g := id) h hc
      refine vx_iload_n hk dX10_climb_22 rfl ?_
      refine vx_if_lt (tgt := 32) hk dX10_climb_23 (by decide) (fun hc => ?_) (fun hc => ?_)
      · replace h := it_t (g := id) h hc
        refine vx_iconst (v := (-1)) hk dX10_climb_32 (by decide) ?_
        replace h : some (-1) = some r := h
        replace h := Option.some.inj h
        subst h
        refine vx_perm [3, 0, 4, 1, 2] 5 rfl (by decide) (ws' := [(ado, .inr (9, [.ref (A 14), .ref (A 1), .ref (A 0), .ref ady, .ref adt, vs_h])), (ady, .inr (5, [.ref (A 14), .ref (A 0), .ref adbo])), ((A 14), .inr (7, [.int (nI N), .int (nI R), .int (nI w), .int ms, .ref (A 15), .ref (A 16)])), ((A 15), .inl (gI (kG K), 5, .inl fsv)), ((A 16), .inl (gI (kG K), 16, .inl fsc))]) rfl ?_
        refine hrt (some (.int (-1))) _ _ _ (⟨rfl, rfl⟩) (dX10_climb_33)
      · replace h := it_f (g := id) h hc
        refine vx_iload_n hk dX10_climb_26 rfl ?_
        refine vx_bipush (v := 30) hk dX10_climb_27 (by decide) ?_
        refine vx_icmp_le (tgt := 34) hk dX10_climb_29 (by decide) (fun hc => ?_) (fun hc => ?_)
        · replace h := it_t (g := id) h hc
          refine vx_aload_n hk dX10_climb_34 rfl ?_
          refine vx_get (C := RX10) (T := TX10) (N := 6) (ci := 9) (v := .ref ady) hk dX10_climb_35 w2i_X10_climb_X100 3 rfl rfl 3 (by decide) (by decide +kernel) rfl rfl ?_
          refine vx_iload_n hk dX10_climb_38 rfl ?_
          refine vx_iload_n hk dX10_climb_39 rfl ?_
          obtain ⟨r_3, er_3, h⟩ := bd_e (g := id) rfl h
          refine vx_callB (n := 2) (st := []) (b := ady) (T := TX6) (N := 3) (ci := 5) hk dX10_climb_40 (c_X6_climbFrom (kl K) (kG K) A hCS ady adbo gr steps r_3 er_3) rfl gd_X10_climb_X6_climbFrom rfl (by decide +kernel) (frok hR9 (Nat.le_of_ble_eq_true rfl) (Nat.le_of_ble_eq_true rfl)) (roomk hR9 (Nat.le_of_ble_eq_true rfl) (Nat.le_of_ble_eq_true rfl)) FBk.le rfl rfl (Nat.le_of_ble_eq_true rfl) (fun _ _ _ => ⟨_, List.mem_append_left _ (List.mem_of_getElem? (i := 0) rfl)⟩) rfl (wr := [(ado, .inr (9, [.ref (A 14), .ref (A 1), .ref (A 0), .ref ady, .ref adt, vs_h]))]) [3] [0, 4, 1, 2] 5 rfl (by decide) rfl rfl ?_
          intro v9 w9 hp9
          obtain ⟨rfl, rfl⟩ := hp9
          show VB K (FBk (kG K) A cell vals N R w) n0 3 [(ado, .inr (9, [.ref (A 14), .ref (A 1), .ref (A 0), .ref ady, .ref adt, vs_h])), (ady, .inr (5, [.ref (A 14), .ref (A 0), .ref adbo])), ((A 14), .inr (7, [.int (nI N), .int (nI R), .int (nI w), .int ms, .ref (A 15), .ref (A 16)])), ((A 15), .inl (gI (kG K), 5, .inl fsv)), ((A 16), .inl (gI (kG K), 16, .inl fsc))] 43 [(0, .ref ado), (1, .int gr), (2, .int steps)] [.int r_3]
          replace h : some r_3 = some r := h
          replace h := Option.some.inj h
          subst h
          refine hrt (some (.int r_3)) _ _ _ (⟨rfl, rfl⟩) (dX10_climb_43)
        · replace h := it_f (g := id) h hc
          refine vx_iconst (v := (-1)) hk dX10_climb_32 (by decide) ?_
          replace h : some (-1) = some r := h
          replace h := Option.some.inj h
          subst h
          refine vx_perm [3, 0, 4, 1, 2] 5 rfl (by decide) (ws' := [(ado, .inr (9, [.ref (A 14), .ref (A 1), .ref (A 0), .ref ady, .ref adt, vs_h])), (ady, .inr (5, [.ref (A 14), .ref (A 0), .ref adbo])), ((A 14), .inr (7, [.int (nI N), .int (nI R), .int (nI w), .int ms, .ref (A 15), .ref (A 16)])), ((A 15), .inl (gI (kG K), 5, .inl fsv)), ((A 16), .inl (gI (kG K), 16, .inl fsc))]) rfl ?_
          refine hrt (some (.int (-1))) _ _ _ (⟨rfl, rfl⟩) (dX10_climb_33)
