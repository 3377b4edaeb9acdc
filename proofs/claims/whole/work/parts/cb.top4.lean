/-! StructureSearch: clear, and name, row, drop, set where they are accepted -/
set_option maxRecDepth 100000 in
theorem k_clear (l : Launch) (G : GG) (A : Nat → Nat) {cell : Nat → Nat → Nat} {vals : Nat → Nat} {N R w : Nat} {Q : Int32 → Int32 → Int32 → (Nat → Nat) → Prop} {vs : Value} {wxF wxS : va_W} {n : Nat} {ms : Int32} {fsv fsc : Nat → Int32} (hF : FBk G A cell vals N R w wxF n) (hS : SHR G A Q vs wxS) : Ctr l G yX10_clear w2_X10_clear rm_X10_chg [.ref (A 17)] ([((A 17), .inr (9, [.ref (A 14), .ref (A 1), .ref (A 0), .ref (A 18), .ref (A 20), vs])), ((A 14), .inr (7, [.int (nI N), .int (nI R), .int (nI w), .int ms, .ref (A 15), .ref (A 16)])), ((A 15), .inl (gI G, 5, .inl fsv)), ((A 16), .inl (gI G, 16, .inl fsc))] ++ (wxF ++ wxS)) (fun v w1 => v = some (.int (nI R)) ∧ ∃ wxF' wxS', w1 = [((A 17), .inr (9, [.ref (A 14), .ref (A 1), .ref (A 0), .ref (A 18), .ref (A 20), vs])), ((A 14), .inr (7, [.int 0, .int 0, .int 1, .int 4, .ref (A 15), .ref (A 16)])), ((A 15), .inl (gI G, 5, .inl fsv)), ((A 16), .inl (gI G, 16, .inl fsc))] ++ (wxF' ++ wxS') ∧ FBz G A wxF' n ∧ SHR G A Q0 vs wxS') := by
  refine ctr_entry (cc := cX10_clear) (maxL := 2) (ret := some .int) (lv0 := [(0, .ref (A 17))]) (by decide) rfl (Nat.le_of_ble_eq_true rfl) rfl ?_
  intro K hl9 hG9 hk hn9 hrt
  subst hl9
  subst hG9
  refine v_aload_n hk dX10_clear_0 rfl ?_
  refine v_get (C := RX10) (T := TX10) (N := 6) (ci := 9) (v := .ref (A 14)) hk dX10_clear_1 w2i_X10_clear_X100 0 rfl rfl 0 (by decide) (by decide +kernel) rfl rfl ?_
  refine v_get (C := RX8) (T := TX8) (N := 6) (ci := 7) (v := .int (nI R)) hk dX10_clear_4 w2i_X10_clear_X80 1 rfl rfl 1 (by decide) (by decide +kernel) rfl rfl ?_
  refine v_istore_n hk dX10_clear_7 rfl (by decide) [1, 0] (lv' := [(0, .ref (A 17)), (1, .int (nI R))]) rfl ?_
  refine v_aload_n hk dX10_clear_8 rfl ?_
  refine v_get (C := RX10) (T := TX10) (N := 6) (ci := 9) (v := .ref (A 14)) hk dX10_clear_9 w2i_X10_clear_X100 0 rfl rfl 0 (by decide) (by decide +kernel) rfl rfl ?_
  refine v_callVGT (L := [((A 17), .inr (9, [.ref (A 14), .ref (A 1), .ref (A 0), .ref (A 18), .ref (A 20), vs])), ((A 14), .inr (7, [.int (nI N), .int (nI R), .int (nI w), .int ms, .ref (A 15), .ref (A 16)])), ((A 15), .inl (gI (kG K), 5, .inl fsv)), ((A 16), .inl (gI (kG K), 16, .inl fsc))]) (wx := (wxF ++ wxS)) (n := 0) (st := []) (b := (A 14)) (T := TX8) (N := 6) hk dX10_clear_12 (c_X8_startAnew (kl K) (kG K) (A 14) (A 15) (A 16) (nI N) (nI R) (nI w) ms (0, 0, 1, 4) rfl) rfl gd_X10_clear_X8_startAnew rfl (by decide +kernel) ⟨Nat.le_of_ble_eq_true rfl, Nat.le_of_ble_eq_true rfl⟩ ⟨show 0 + 0 ≤ 0 by omega, show 0 + 0 ≤ 0 by omega⟩ rfl rfl (Nat.le_of_ble_eq_true rfl) 1 rfl rfl (wr := [((A 17), .inr (9, [.ref (A 14), .ref (A 1), .ref (A 0), .ref (A 18), .ref (A 20), vs])), ((A 15), .inl (gI (kG K), 5, .inl fsv)), ((A 16), .inl (gI (kG K), 16, .inl fsc))]) [0, 2, 3] [1] 4 rfl (by decide) rfl rfl ?_
  intro v9 w9 hp9
  obtain ⟨rfl, rfl⟩ := hp9
  show V K 2 ([((A 17), .inr (9, [.ref (A 14), .ref (A 1), .ref (A 0), .ref (A 18), .ref (A 20), vs])), ((A 15), .inl (gI (kG K), 5, .inl fsv)), ((A 16), .inl (gI (kG K), 16, .inl fsc)), ((A 14), .inr (7, [.int 0, .int 0, .int 1, .int 4, .ref (A 15), .ref (A 16)]))] ++ (wxF ++ wxS)) 0 0 15 [(0, .ref (A 17)), (1, .int (nI R))] []
  refine v_aload_n hk dX10_clear_15 rfl ?_
  refine v_callVG (n := 0) (st := []) (b := (A 17)) (T := TX10) (N := 6) (wr := [((A 15), .inl (gI (kG K), 5, .inl fsv)), ((A 16), .inl (gI (kG K), 16, .inl fsc)), ((A 14), .inr (7, [.int 0, .int 0, .int 1, .int 4, .ref (A 15), .ref (A 16)]))]) hk dX10_clear_16 (c_forgetFits (kl K) (kG K) A hF hS) rfl gd_X10_clear_X10_forgetFits rfl (by decide +kernel) ⟨Nat.le_of_ble_eq_true rfl, Nat.le_of_ble_eq_true rfl⟩ ⟨Nat.zero_le _, Nat.zero_le _⟩ rfl rfl (Nat.le_of_ble_eq_true rfl) (List.mem_append_left _ (List.mem_of_getElem? (i := 0) rfl)) rfl (pm_front (perm_ixn [1, 2, 3, 0] 4 rfl (by decide) rfl)) ?_
  intro v9 w9 hp9
  obtain ⟨rfl, wxF', wxS', rfl, hZ, hS'⟩ := hp9
  show V K 2 ([((A 15), .inl (gI (kG K), 5, .inl fsv)), ((A 16), .inl (gI (kG K), 16, .inl fsc)), ((A 14), .inr (7, [.int 0, .int 0, .int 1, .int 4, .ref (A 15), .ref (A 16)])), ((A 17), .inr (9, [.ref (A 14), .ref (A 1), .ref (A 0), .ref (A 18), .ref (A 20), vs]))] ++ (wxF' ++ wxS')) 0 0 19 [(0, .ref (A 17)), (1, .int (nI R))] []
  refine v_iload_n hk dX10_clear_19 rfl ?_
  refine v_lperm (ws' := [((A 17), .inr (9, [.ref (A 14), .ref (A 1), .ref (A 0), .ref (A 18), .ref (A 20), vs])), ((A 14), .inr (7, [.int 0, .int 0, .int 1, .int 4, .ref (A 15), .ref (A 16)])), ((A 15), .inl (gI (kG K), 5, .inl fsv)), ((A 16), .inl (gI (kG K), 16, .inl fsc))] ++ (wxF' ++ wxS')) (List.Perm.append_right _ (perm_ixn [3, 2, 0, 1] 4 rfl (by decide) rfl)) ?_
  exact hrt (some (.int (nI R))) _ _ _ _ _ ⟨rfl, wxF', wxS', rfl, hZ, hS'⟩ (Nat.zero_le _) (Nat.zero_le _) dX10_clear_20
set_option maxRecDepth 100000 in
theorem k_name (l : Launch) (G : GG) (A : Nat → Nat) {cell : Nat → Nat → Nat} {vals : Nat → Nat} {N R w : Nat} {Q : Int32 → Int32 → Int32 → (Nat → Nat) → Prop} {vs : Value} {wxF wxS : va_W} {n : Nat} {ms : Int32} {fsv fsc : Nat → Int32} (hF : FBk G A cell vals N R w wxF n) (hS : SHR G A Q vs wxS) {x r0 r1 : Int32} {f1 : Nat → Int32} (hx : x = 2 ∨ x = 3) (hR : R = 0) (hN : N < 5) (hadd : m_X8_addName (nI N) (nI R) (nI w) ms 5 fsv x = some (r0, r1, f1)) : Ctr l G yX10_name w2_X10_name rm_X10_chg [.ref (A 17), .int x] ([((A 17), .inr (9, [.ref (A 14), .ref (A 1), .ref (A 0), .ref (A 18), .ref (A 20), vs])), ((A 14), .inr (7, [.int (nI N), .int (nI R), .int (nI w), .int ms, .ref (A 15), .ref (A 16)])), ((A 15), .inl (gI G, 5, .inl fsv)), ((A 16), .inl (gI G, 16, .inl fsc))] ++ (wxF ++ wxS)) (fun v w1 => v = some (.int r0) ∧ ∃ wxF' wxS', w1 = [((A 17), .inr (9, [.ref (A 14), .ref (A 1), .ref (A 0), .ref (A 18), .ref (A 20), vs])), ((A 14), .inr (7, [.int r1, .int (nI R), .int (nI w), .int ms, .ref (A 15), .ref (A 16)])), ((A 15), .inl (gI G, 5, .inl f1)), ((A 16), .inl (gI G, 16, .inl fsc))] ++ (wxF' ++ wxS') ∧ FBz G A wxF' n ∧ SHR G A Q0 vs wxS') := by
  refine ctr_entry (cc := cX10_name) (maxL := 2) (ret := some .int) (lv0 := [(0, .ref (A 17)), (1, .int x)]) (by decide) rfl (Nat.le_of_ble_eq_true rfl) rfl ?_
  intro K hl9 hG9 hk hn9 hrt
  subst hl9
  subst hG9
  refine v_iload_n hk dX10_name_0 rfl ?_
  refine v_iconst (v := 2) hk dX10_name_1 (by decide) ?_
  refine v_icmp_eq (tgt := 12) hk dX10_name_2 (by decide) (fun hc => ?_) (fun hc => ?_)
  · refine v_aload_n hk dX10_name_12 rfl ?_
    refine v_get (C := RX10) (T := TX10) (N := 6) (ci := 9) (v := .ref (A 14)) hk dX10_name_13 w2i_X10_name_X100 0 rfl rfl 0 (by decide) (by decide +kernel) rfl rfl ?_
    refine v_get (C := RX8) (T := TX8) (N := 6) (ci := 7) (v := .int (nI R)) hk dX10_name_16 w2i_X10_name_X80 1 rfl rfl 1 (by decide) (by decide +kernel) rfl rfl ?_
    refine v_if_le (tgt := 25) hk dX10_name_19 (by decide) (fun _ => ?_) (fun hc => absurd (show nI R ≤ 0 from (nle (b := 0) (by omega) (by omega)).mpr (by omega)) hc)
    refine v_aload_n hk dX10_name_25 rfl ?_
    refine v_get (C := RX10) (T := TX10) (N := 6) (ci := 9) (v := .ref (A 14)) hk dX10_name_26 w2i_X10_name_X100 0 rfl rfl 0 (by decide) (by decide +kernel) rfl rfl ?_
    refine v_get (C := RX8) (T := TX8) (N := 6) (ci := 7) (v := .int (nI N)) hk dX10_name_29 w2i_X10_name_X80 1 rfl rfl 0 (by decide) (by decide +kernel) rfl rfl ?_
    refine v_iconst (v := 5) hk dX10_name_32 (by decide) ?_
    refine v_icmp_lt (tgt := 39) hk dX10_name_33 (by decide) (fun _ => ?_) (fun hc => absurd (show nI N < 5 from (nlt (b := 5) (by omega) (by omega)).mpr (by omega)) hc)
    refine v_aload_n hk dX10_name_39 rfl ?_
    refine v_callVG (n := 0) (st := []) (b := (A 17)) (T := TX10) (N := 6) (wr := [((A 14), .inr (7, [.int (nI N), .int (nI R), .int (nI w), .int ms, .ref (A 15), .ref (A 16)])), ((A 15), .inl (gI (kG K), 5, .inl fsv)), ((A 16), .inl (gI (kG K), 16, .inl fsc))]) hk dX10_name_40 (c_forgetFits (kl K) (kG K) A hF hS) rfl gd_X10_name_X10_forgetFits rfl (by decide +kernel) ⟨Nat.le_of_ble_eq_true rfl, Nat.le_of_ble_eq_true rfl⟩ ⟨Nat.zero_le _, Nat.zero_le _⟩ rfl rfl (Nat.le_of_ble_eq_true rfl) (List.mem_append_left _ (List.mem_of_getElem? (i := 0) rfl)) rfl (pm_front (perm_ixn [1, 2, 3, 0] 4 rfl (by decide) rfl)) ?_
    intro v9 w9 hp9
    obtain ⟨rfl, wxF', wxS', rfl, hZ, hS'⟩ := hp9
    show V K 2 ([((A 14), .inr (7, [.int (nI N), .int (nI R), .int (nI w), .int ms, .ref (A 15), .ref (A 16)])), ((A 15), .inl (gI (kG K), 5, .inl fsv)), ((A 16), .inl (gI (kG K), 16, .inl fsc)), ((A 17), .inr (9, [.ref (A 14), .ref (A 1), .ref (A 0), .ref (A 18), .ref (A 20), vs]))] ++ (wxF' ++ wxS')) 0 0 43 [(0, .ref (A 17)), (1, .int x)] []
    refine v_aload_n hk dX10_name_43 rfl ?_
    refine v_get (C := RX10) (T := TX10) (N := 6) (ci := 9) (v := .ref (A 14)) hk dX10_name_44 w2i_X10_name_X100 3 rfl rfl 0 (by decide) (by decide +kernel) rfl rfl ?_
    refine v_iload_n hk dX10_name_47 rfl ?_
    refine v_callVGT (L := [((A 14), .inr (7, [.int (nI N), .int (nI R), .int (nI w), .int ms, .ref (A 15), .ref (A 16)])), ((A 15), .inl (gI (kG K), 5, .inl fsv)), ((A 16), .inl (gI (kG K), 16, .inl fsc)), ((A 17), .inr (9, [.ref (A 14), .ref (A 1), .ref (A 0), .ref (A 18), .ref (A 20), vs]))]) (wx := (wxF' ++ wxS')) (n := 1) (st := []) (b := (A 14)) (T := TX8) (N := 6) hk dX10_name_48 (c_X8_addName (kl K) (kG K) (A 14) (A 15) (A 16) (nI N) (nI R) (nI w) ms 5 fsv x _ hadd) rfl gd_X10_name_X8_addName rfl (by decide +kernel) ⟨Nat.le_of_ble_eq_true rfl, Nat.le_of_ble_eq_true rfl⟩ ⟨show 0 + 0 ≤ 0 by omega, show 0 + 0 ≤ 0 by omega⟩ rfl rfl (Nat.le_of_ble_eq_true rfl) 0 rfl rfl (wr := [((A 16), .inl (gI (kG K), 16, .inl fsc)), ((A 17), .inr (9, [.ref (A 14), .ref (A 1), .ref (A 0), .ref (A 18), .ref (A 20), vs]))]) [2, 3] [0, 1] 4 rfl (by decide) rfl rfl ?_
    intro v9 w9 hp9
    obtain ⟨rfl, rfl⟩ := hp9
    show V K 2 ([((A 16), .inl (gI (kG K), 16, .inl fsc)), ((A 17), .inr (9, [.ref (A 14), .ref (A 1), .ref (A 0), .ref (A 18), .ref (A 20), vs])), ((A 14), .inr (7, [.int r1, .int (nI R), .int (nI w), .int ms, .ref (A 15), .ref (A 16)])), ((A 15), .inl (gI (kG K), 5, .inl f1))] ++ (wxF' ++ wxS')) 0 0 51 [(0, .ref (A 17)), (1, .int x)] [.int r0]
    refine v_lperm (ws' := [((A 17), .inr (9, [.ref (A 14), .ref (A 1), .ref (A 0), .ref (A 18), .ref (A 20), vs])), ((A 14), .inr (7, [.int r1, .int (nI R), .int (nI w), .int ms, .ref (A 15), .ref (A 16)])), ((A 15), .inl (gI (kG K), 5, .inl f1)), ((A 16), .inl (gI (kG K), 16, .inl fsc))] ++ (wxF' ++ wxS')) (List.Perm.append_right _ (perm_ixn [1, 2, 3, 0] 4 rfl (by decide) rfl)) ?_
    exact hrt (some (.int r0)) _ _ _ _ _ ⟨rfl, wxF', wxS', rfl, hZ, hS'⟩ (Nat.zero_le _) (Nat.zero_le _) dX10_name_51
  · have hc2 := hc
    refine v_iload_n hk dX10_name_5 rfl ?_
    refine v_iconst (v := 3) hk dX10_name_6 (by decide) ?_
    refine v_icmp_eq (tgt := 12) hk dX10_name_7 (by decide) (fun _ => ?_) (fun hc => absurd (hx.resolve_left hc2) hc)
    refine v_aload_n hk dX10_name_12 rfl ?_
    refine v_get (C := RX10) (T := TX10) (N := 6) (ci := 9) (v := .ref (A 14)) hk dX10_name_13 w2i_X10_name_X100 0 rfl rfl 0 (by decide) (by decide +kernel) rfl rfl ?_
    refine v_get (C := RX8) (T := TX8) (N := 6) (ci := 7) (v := .int (nI R)) hk dX10_name_16 w2i_X10_name_X80 1 rfl rfl 1 (by decide) (by decide +kernel) rfl rfl ?_
    refine v_if_le (tgt := 25) hk dX10_name_19 (by decide) (fun _ => ?_) (fun hc => absurd (show nI R ≤ 0 from (nle (b := 0) (by omega) (by omega)).mpr (by omega)) hc)
    refine v_aload_n hk dX10_name_25 rfl ?_
    refine v_get (C := RX10) (T := TX10) (N := 6) (ci := 9) (v := .ref (A 14)) hk dX10_name_26 w2i_X10_name_X100 0 rfl rfl 0 (by decide) (by decide +kernel) rfl rfl ?_
    refine v_get (C := RX8) (T := TX8) (N := 6) (ci := 7) (v := .int (nI N)) hk dX10_name_29 w2i_X10_name_X80 1 rfl rfl 0 (by decide) (by decide +kernel) rfl rfl ?_
    refine v_iconst (v := 5) hk dX10_name_32 (by decide) ?_
    refine v_icmp_lt (tgt := 39) hk dX10_name_33 (by decide) (fun _ => ?_) (fun hc => absurd (show nI N < 5 from (nlt (b := 5) (by omega) (by omega)).mpr (by omega)) hc)
    refine v_aload_n hk dX10_name_39 rfl ?_
    refine v_callVG (n := 0) (st := []) (b := (A 17)) (T := TX10) (N := 6) (wr := [((A 14), .inr (7, [.int (nI N), .int (nI R), .int (nI w), .int ms, .ref (A 15), .ref (A 16)])), ((A 15), .inl (gI (kG K), 5, .inl fsv)), ((A 16), .inl (gI (kG K), 16, .inl fsc))]) hk dX10_name_40 (c_forgetFits (kl K) (kG K) A hF hS) rfl gd_X10_name_X10_forgetFits rfl (by decide +kernel) ⟨Nat.le_of_ble_eq_true rfl, Nat.le_of_ble_eq_true rfl⟩ ⟨Nat.zero_le _, Nat.zero_le _⟩ rfl rfl (Nat.le_of_ble_eq_true rfl) (List.mem_append_left _ (List.mem_of_getElem? (i := 0) rfl)) rfl (pm_front (perm_ixn [1, 2, 3, 0] 4 rfl (by decide) rfl)) ?_
    intro v9 w9 hp9
    obtain ⟨rfl, wxF', wxS', rfl, hZ, hS'⟩ := hp9
    show V K 2 ([((A 14), .inr (7, [.int (nI N), .int (nI R), .int (nI w), .int ms, .ref (A 15), .ref (A 16)])), ((A 15), .inl (gI (kG K), 5, .inl fsv)), ((A 16), .inl (gI (kG K), 16, .inl fsc)), ((A 17), .inr (9, [.ref (A 14), .ref (A 1), .ref (A 0), .ref (A 18), .ref (A 20), vs]))] ++ (wxF' ++ wxS')) 0 0 43 [(0, .ref (A 17)), (1, .int x)] []
    refine v_aload_n hk dX10_name_43 rfl ?_
    refine v_get (C := RX10) (T := TX10) (N := 6) (ci := 9) (v := .ref (A 14)) hk dX10_name_44 w2i_X10_name_X100 3 rfl rfl 0 (by decide) (by decide +kernel) rfl rfl ?_
    refine v_iload_n hk dX10_name_47 rfl ?_
    refine v_callVGT (L := [((A 14), .inr (7, [.int (nI N), .int (nI R), .int (nI w), .int ms, .ref (A 15), .ref (A 16)])), ((A 15), .inl (gI (kG K), 5, .inl fsv)), ((A 16), .inl (gI (kG K), 16, .inl fsc)), ((A 17), .inr (9, [.ref (A 14), .ref (A 1), .ref (A 0), .ref (A 18), .ref (A 20), vs]))]) (wx := (wxF' ++ wxS')) (n := 1) (st := []) (b := (A 14)) (T := TX8) (N := 6) hk dX10_name_48 (c_X8_addName (kl K) (kG K) (A 14) (A 15) (A 16) (nI N) (nI R) (nI w) ms 5 fsv x _ hadd) rfl gd_X10_name_X8_addName rfl (by decide +kernel) ⟨Nat.le_of_ble_eq_true rfl, Nat.le_of_ble_eq_true rfl⟩ ⟨show 0 + 0 ≤ 0 by omega, show 0 + 0 ≤ 0 by omega⟩ rfl rfl (Nat.le_of_ble_eq_true rfl) 0 rfl rfl (wr := [((A 16), .inl (gI (kG K), 16, .inl fsc)), ((A 17), .inr (9, [.ref (A 14), .ref (A 1), .ref (A 0), .ref (A 18), .ref (A 20), vs]))]) [2, 3] [0, 1] 4 rfl (by decide) rfl rfl ?_
    intro v9 w9 hp9
    obtain ⟨rfl, rfl⟩ := hp9
    show V K 2 ([((A 16), .inl (gI (kG K), 16, .inl fsc)), ((A 17), .inr (9, [.ref (A 14), .ref (A 1), .ref (A 0), .ref (A 18), .ref (A 20), vs])), ((A 14), .inr (7, [.int r1, .int (nI R), .int (nI w), .int ms, .ref (A 15), .ref (A 16)])), ((A 15), .inl (gI (kG K), 5, .inl f1))] ++ (wxF' ++ wxS')) 0 0 51 [(0, .ref (A 17)), (1, .int x)] [.int r0]
    refine v_lperm (ws' := [((A 17), .inr (9, [.ref (A 14), .ref (A 1), .ref (A 0), .ref (A 18), .ref (A 20), vs])), ((A 14), .inr (7, [.int r1, .int (nI R), .int (nI w), .int ms, .ref (A 15), .ref (A 16)])), ((A 15), .inl (gI (kG K), 5, .inl f1)), ((A 16), .inl (gI (kG K), 16, .inl fsc))] ++ (wxF' ++ wxS')) (List.Perm.append_right _ (perm_ixn [1, 2, 3, 0] 4 rfl (by decide) rfl)) ?_
    exact hrt (some (.int r0)) _ _ _ _ _ ⟨rfl, wxF', wxS', rfl, hZ, hS'⟩ (Nat.zero_le _) (Nat.zero_le _) dX10_name_51
set_option maxRecDepth 100000 in
theorem k_drop (l : Launch) (G : GG) (A : Nat → Nat) {cell : Nat → Nat → Nat} {vals : Nat → Nat} {N R w : Nat} {Q : Int32 → Int32 → Int32 → (Nat → Nat) → Prop} {vs : Value} {wxF wxS : va_W} {n : Nat} {ms : Int32} {fsv fsc : Nat → Int32} (hF : FBk G A cell vals N R w wxF n) (hS : SHR G A Q vs wxS) {x r0 r1 : Int32} {f1 : Nat → Int32} (hrow : m_X10_isRow (nI N) (nI R) (nI w) ms x = some 1) (hrem : m_X8_removeRow (nI N) (nI R) (nI w) ms 16 fsc x = some (r0, r1, f1)) : Ctr l G yX10_drop w2_X10_drop rm_X10_chg [.ref (A 17), .int x] ([((A 17), .inr (9, [.ref (A 14), .ref (A 1), .ref (A 0), .ref (A 18), .ref (A 20), vs])), ((A 14), .inr (7, [.int (nI N), .int (nI R), .int (nI w), .int ms, .ref (A 15), .ref (A 16)])), ((A 15), .inl (gI G, 5, .inl fsv)), ((A 16), .inl (gI G, 16, .inl fsc))] ++ (wxF ++ wxS)) (fun v w1 => v = some (.int r0) ∧ ∃ wxF' wxS', w1 = [((A 17), .inr (9, [.ref (A 14), .ref (A 1), .ref (A 0), .ref (A 18), .ref (A 20), vs])), ((A 14), .inr (7, [.int (nI N), .int r1, .int (nI w), .int ms, .ref (A 15), .ref (A 16)])), ((A 15), .inl (gI G, 5, .inl fsv)), ((A 16), .inl (gI G, 16, .inl f1))] ++ (wxF' ++ wxS') ∧ FBz G A wxF' n ∧ SHR G A Q0 vs wxS') := by
  refine ctr_entry (cc := cX10_drop) (maxL := 2) (ret := some .int) (lv0 := [(0, .ref (A 17)), (1, .int x)]) (by decide) rfl (Nat.le_of_ble_eq_true rfl) rfl ?_
  intro K hl9 hG9 hk hn9 hrt
  subst hl9
  subst hG9
  refine v_aload_n hk dX10_drop_0 rfl ?_
  refine v_iload_n hk dX10_drop_1 rfl ?_
  refine v_callVGT (L := [((A 17), .inr (9, [.ref (A 14), .ref (A 1), .ref (A 0), .ref (A 18), .ref (A 20), vs])), ((A 14), .inr (7, [.int (nI N), .int (nI R), .int (nI w), .int ms, .ref (A 15), .ref (A 16)])), ((A 15), .inl (gI (kG K), 5, .inl fsv)), ((A 16), .inl (gI (kG K), 16, .inl fsc))]) (wx := (wxF ++ wxS)) (n := 1) (st := []) (b := (A 17)) (T := TX10) (N := 6) hk dX10_drop_2 (c_X10_isRow (kl K) (kG K) (A 17) vs (A 14) (A 1) (A 0) (A 18) (A 20) (A 15) (A 16) (nI N) (nI R) (nI w) ms x 1 hrow) rfl gd_X10_drop_X10_isRow rfl (by decide +kernel) ⟨Nat.le_of_ble_eq_true rfl, Nat.le_of_ble_eq_true rfl⟩ ⟨show 0 + 0 ≤ 0 by omega, show 0 + 0 ≤ 0 by omega⟩ rfl rfl (Nat.le_of_ble_eq_true rfl) 0 rfl rfl (wr := [((A 15), .inl (gI (kG K), 5, .inl fsv)), ((A 16), .inl (gI (kG K), 16, .inl fsc))]) [2, 3] [0, 1] 4 rfl (by decide) rfl rfl ?_
  intro v9 w9 hp9
  obtain ⟨rfl, rfl⟩ := hp9
  show V K 2 ([((A 15), .inl (gI (kG K), 5, .inl fsv)), ((A 16), .inl (gI (kG K), 16, .inl fsc)), ((A 17), .inr (9, [.ref (A 14), .ref (A 1), .ref (A 0), .ref (A 18), .ref (A 20), vs])), ((A 14), .inr (7, [.int (nI N), .int (nI R), .int (nI w), .int ms, .ref (A 15), .ref (A 16)]))] ++ (wxF ++ wxS)) 0 0 5 [(0, .ref (A 17)), (1, .int x)] [.int 1]
  refine v_if_ne (tgt := 10) hk dX10_drop_5 (by decide) (fun _ => ?_) (fun hc => absurd hc (by decide))
  refine v_aload_n hk dX10_drop_10 rfl ?_
  refine v_callVG (n := 0) (st := []) (b := (A 17)) (T := TX10) (N := 6) (wr := [((A 15), .inl (gI (kG K), 5, .inl fsv)), ((A 16), .inl (gI (kG K), 16, .inl fsc)), ((A 14), .inr (7, [.int (nI N), .int (nI R), .int (nI w), .int ms, .ref (A 15), .ref (A 16)]))]) hk dX10_drop_11 (c_forgetFits (kl K) (kG K) A hF hS) rfl gd_X10_drop_X10_forgetFits rfl (by decide +kernel) ⟨Nat.le_of_ble_eq_true rfl, Nat.le_of_ble_eq_true rfl⟩ ⟨Nat.zero_le _, Nat.zero_le _⟩ rfl rfl (Nat.le_of_ble_eq_true rfl) (List.mem_append_left _ (List.mem_of_getElem? (i := 2) rfl)) rfl (pm_front (perm_ixn [0, 1, 3, 2] 4 rfl (by decide) rfl)) ?_
  intro v9 w9 hp9
  obtain ⟨rfl, wxF', wxS', rfl, hZ, hS'⟩ := hp9
  show V K 2 ([((A 15), .inl (gI (kG K), 5, .inl fsv)), ((A 16), .inl (gI (kG K), 16, .inl fsc)), ((A 14), .inr (7, [.int (nI N), .int (nI R), .int (nI w), .int ms, .ref (A 15), .ref (A 16)])), ((A 17), .inr (9, [.ref (A 14), .ref (A 1), .ref (A 0), .ref (A 18), .ref (A 20), vs]))] ++ (wxF' ++ wxS')) 0 0 14 [(0, .ref (A 17)), (1, .int x)] []
  refine v_aload_n hk dX10_drop_14 rfl ?_
  refine v_get (C := RX10) (T := TX10) (N := 6) (ci := 9) (v := .ref (A 14)) hk dX10_drop_15 w2i_X10_drop_X100 3 rfl rfl 0 (by decide) (by decide +kernel) rfl rfl ?_
  refine v_iload_n hk dX10_drop_18 rfl ?_
  refine v_callVGT (L := [((A 15), .inl (gI (kG K), 5, .inl fsv)), ((A 16), .inl (gI (kG K), 16, .inl fsc)), ((A 14), .inr (7, [.int (nI N), .int (nI R), .int (nI w), .int ms, .ref (A 15), .ref (A 16)])), ((A 17), .inr (9, [.ref (A 14), .ref (A 1), .ref (A 0), .ref (A 18), .ref (A 20), vs]))]) (wx := (wxF' ++ wxS')) (n := 1) (st := []) (b := (A 14)) (T := TX8) (N := 6) hk dX10_drop_19 (c_X8_removeRow (kl K) (kG K) (A 14) (A 16) (A 15) (nI N) (nI R) (nI w) ms 16 fsc x _ hrem) rfl gd_X10_drop_X8_removeRow rfl (by decide +kernel) ⟨Nat.le_of_ble_eq_true rfl, Nat.le_of_ble_eq_true rfl⟩ ⟨show 0 + 0 ≤ 0 by omega, show 0 + 0 ≤ 0 by omega⟩ rfl rfl (Nat.le_of_ble_eq_true rfl) 2 rfl rfl (wr := [((A 15), .inl (gI (kG K), 5, .inl fsv)), ((A 17), .inr (9, [.ref (A 14), .ref (A 1), .ref (A 0), .ref (A 18), .ref (A 20), vs]))]) [0, 3] [2, 1] 4 rfl (by decide) rfl rfl ?_
  intro v9 w9 hp9
  obtain ⟨rfl, rfl⟩ := hp9
  show V K 2 ([((A 15), .inl (gI (kG K), 5, .inl fsv)), ((A 17), .inr (9, [.ref (A 14), .ref (A 1), .ref (A 0), .ref (A 18), .ref (A 20), vs])), ((A 14), .inr (7, [.int (nI N), .int r1, .int (nI w), .int ms, .ref (A 15), .ref (A 16)])), ((A 16), .inl (gI (kG K), 16, .inl f1))] ++ (wxF' ++ wxS')) 0 0 22 [(0, .ref (A 17)), (1, .int x)] [.int r0]
  refine v_lperm (ws' := [((A 17), .inr (9, [.ref (A 14), .ref (A 1), .ref (A 0), .ref (A 18), .ref (A 20), vs])), ((A 14), .inr (7, [.int (nI N), .int r1, .int (nI w), .int ms, .ref (A 15), .ref (A 16)])), ((A 15), .inl (gI (kG K), 5, .inl fsv)), ((A 16), .inl (gI (kG K), 16, .inl f1))] ++ (wxF' ++ wxS')) (List.Perm.append_right _ (perm_ixn [1, 2, 0, 3] 4 rfl (by decide) rfl)) ?_
  exact hrt (some (.int r0)) _ _ _ _ _ ⟨rfl, wxF', wxS', rfl, hZ, hS'⟩ (Nat.zero_le _) (Nat.zero_le _) dX10_drop_22
set_option maxRecDepth 100000 in
theorem k_row (l : Launch) (G : GG) (A : Nat → Nat) {cell : Nat → Nat → Nat} {vals : Nat → Nat} {N R w : Nat} {Q : Int32 → Int32 → Int32 → (Nat → Nat) → Prop} {vs : Value} {wxF wxS : va_W} {n : Nat} {ms : Int32} {fsv fsc : Nat → Int32} (hF : FBk G A cell vals N R w wxF n) (hS : SHR G A Q vs wxS) {p0 p1 p2 p3 p4 k0 k1 k2 k3 k4 r0 r1 : Int32} {f1 : Nat → Int32} (e0 : m_X10_fitsName (nI N) (nI R) (nI w) ms 5 fsv 0 p0 = some 1) (e1 : m_X10_fitsName (nI N) (nI R) (nI w) ms 5 fsv 1 p1 = some 1) (e2 : m_X10_fitsName (nI N) (nI R) (nI w) ms 5 fsv 2 p2 = some 1) (e3 : m_X10_fitsName (nI N) (nI R) (nI w) ms 5 fsv 3 p3 = some 1) (e4 : m_X10_fitsName (nI N) (nI R) (nI w) ms 5 fsv 4 p4 = some 1) (hN0 : 0 < N) (hN : N ≤ 5) (hR : R < 16) (g0 : m_X10_coded (nI N) (nI R) (nI w) ms 0 p0 = some k0) (g1 : m_X10_coded (nI N) (nI R) (nI w) ms 1 p1 = some k1) (g2 : m_X10_coded (nI N) (nI R) (nI w) ms 2 p2 = some k2) (g3 : m_X10_coded (nI N) (nI R) (nI w) ms 3 p3 = some k3) (g4 : m_X10_coded (nI N) (nI R) (nI w) ms 4 p4 = some k4) (hadd : m_X8_addRow (nI N) (nI R) (nI w) ms 16 fsc ((((k0 ||| k1) ||| k2) ||| k3) ||| k4) = some (r0, r1, f1)) : Ctr l G yX10_row w2_X10_row rm_X10_chg [.ref (A 17), .int p0, .int p1, .int p2, .int p3, .int p4] ([((A 17), .inr (9, [.ref (A 14), .ref (A 1), .ref (A 0), .ref (A 18), .ref (A 20), vs])), ((A 14), .inr (7, [.int (nI N), .int (nI R), .int (nI w), .int ms, .ref (A 15), .ref (A 16)])), ((A 15), .inl (gI G, 5, .inl fsv)), ((A 16), .inl (gI G, 16, .inl fsc))] ++ (wxF ++ wxS)) (fun v w1 => v = some (.int r0) ∧ ∃ wxF' wxS', w1 = [((A 17), .inr (9, [.ref (A 14), .ref (A 1), .ref (A 0), .ref (A 18), .ref (A 20), vs])), ((A 14), .inr (7, [.int (nI N), .int r1, .int (nI w), .int ms, .ref (A 15), .ref (A 16)])), ((A 15), .inl (gI G, 5, .inl fsv)), ((A 16), .inl (gI G, 16, .inl f1))] ++ (wxF' ++ wxS') ∧ FBz G A wxF' n ∧ SHR G A Q0 vs wxS') := by
  refine ctr_entry (cc := cX10_row) (maxL := 7) (ret := some .int) (lv0 := [(0, .ref (A 17)), (1, .int p0), (2, .int p1), (3, .int p2), (4, .int p3), (5, .int p4)]) (by decide) rfl (Nat.le_of_ble_eq_true rfl) rfl ?_
  intro K hl9 hG9 hk hn9 hrt
  subst hl9
  subst hG9
  refine v_aload_n hk dX10_row_0 rfl ?_
  refine v_iconst (v := 0) hk dX10_row_1 (by decide) ?_
  refine v_iload_n hk dX10_row_2 rfl ?_
  refine v_callVGT (L := [((A 17), .inr (9, [.ref (A 14), .ref (A 1), .ref (A 0), .ref (A 18), .ref (A 20), vs])), ((A 14), .inr (7, [.int (nI N), .int (nI R), .int (nI w), .int ms, .ref (A 15), .ref (A 16)])), ((A 15), .inl (gI (kG K), 5, .inl fsv)), ((A 16), .inl (gI (kG K), 16, .inl fsc))]) (wx := (wxF ++ wxS)) (n := 2) (st := []) (b := (A 17)) (T := TX10) (N := 6) hk dX10_row_3 (c_X10_fitsName (kl K) (kG K) (A 17) vs (A 14) (A 15) (A 1) (A 0) (A 18) (A 20) (A 16) (nI N) (nI R) (nI w) ms 5 fsv 0 p0 1 e0) rfl gd_X10_row_X10_fitsName rfl (by decide +kernel) ⟨Nat.le_of_ble_eq_true rfl, Nat.le_of_ble_eq_true rfl⟩ ⟨show 0 + 0 ≤ 0 by omega, show 0 + 0 ≤ 0 by omega⟩ rfl rfl (Nat.le_of_ble_eq_true rfl) 0 rfl rfl (wr := [((A 16), .inl (gI (kG K), 16, .inl fsc))]) [3] [0, 1, 2] 4 rfl (by decide) rfl rfl ?_
  intro v9 w9 hp9
  obtain ⟨rfl, rfl⟩ := hp9
  show V K 7 ([((A 16), .inl (gI (kG K), 16, .inl fsc)), ((A 17), .inr (9, [.ref (A 14), .ref (A 1), .ref (A 0), .ref (A 18), .ref (A 20), vs])), ((A 14), .inr (7, [.int (nI N), .int (nI R), .int (nI w), .int ms, .ref (A 15), .ref (A 16)])), ((A 15), .inl (gI (kG K), 5, .inl fsv))] ++ (wxF ++ wxS)) 0 0 6 [(0, .ref (A 17)), (1, .int p0), (2, .int p1), (3, .int p2), (4, .int p3), (5, .int p4)] [.int 1]
  refine v_if_eq (tgt := 47) hk dX10_row_6 (by decide) (fun hc => absurd hc (by decide)) (fun _ => ?_)
  refine v_aload_n hk dX10_row_9 rfl ?_
  refine v_iconst (v := 1) hk dX10_row_10 (by decide) ?_
  refine v_iload_n hk dX10_row_11 rfl ?_
  refine v_callVGT (L := [((A 16), .inl (gI (kG K), 16, .inl fsc)), ((A 17), .inr (9, [.ref (A 14), .ref (A 1), .ref (A 0), .ref (A 18), .ref (A 20), vs])), ((A 14), .inr (7, [.int (nI N), .int (nI R), .int (nI w), .int ms, .ref (A 15), .ref (A 16)])), ((A 15), .inl (gI (kG K), 5, .inl fsv))]) (wx := (wxF ++ wxS)) (n := 2) (st := []) (b := (A 17)) (T := TX10) (N := 6) hk dX10_row_12 (c_X10_fitsName (kl K) (kG K) (A 17) vs (A 14) (A 15) (A 1) (A 0) (A 18) (A 20) (A 16) (nI N) (nI R) (nI w) ms 5 fsv 1 p1 1 e1) rfl gd_X10_row_X10_fitsName rfl (by decide +kernel) ⟨Nat.le_of_ble_eq_true rfl, Nat.le_of_ble_eq_true rfl⟩ ⟨show 0 + 0 ≤ 0 by omega, show 0 + 0 ≤ 0 by omega⟩ rfl rfl (Nat.le_of_ble_eq_true rfl) 1 rfl rfl (wr := [((A 16), .inl (gI (kG K), 16, .inl fsc))]) [0] [1, 2, 3] 4 rfl (by decide) rfl rfl ?_
  intro v9 w9 hp9
  obtain ⟨rfl, rfl⟩ := hp9
  show V K 7 ([((A 16), .inl (gI (kG K), 16, .inl fsc)), ((A 17), .inr (9, [.ref (A 14), .ref (A 1), .ref (A 0), .ref (A 18), .ref (A 20), vs])), ((A 14), .inr (7, [.int (nI N), .int (nI R), .int (nI w), .int ms, .ref (A 15), .ref (A 16)])), ((A 15), .inl (gI (kG K), 5, .inl fsv))] ++ (wxF ++ wxS)) 0 0 15 [(0, .ref (A 17)), (1, .int p0), (2, .int p1), (3, .int p2), (4, .int p3), (5, .int p4)] [.int 1]
  refine v_if_eq (tgt := 47) hk dX10_row_15 (by decide) (fun hc => absurd hc (by decide)) (fun _ => ?_)
  refine v_aload_n hk dX10_row_18 rfl ?_
  refine v_iconst (v := 2) hk dX10_row_19 (by decide) ?_
  refine v_iload_n hk dX10_row_20 rfl ?_
  refine v_callVGT (L := [((A 16), .inl (gI (kG K), 16, .inl fsc)), ((A 17), .inr (9, [.ref (A 14), .ref (A 1), .ref (A 0), .ref (A 18), .ref (A 20), vs])), ((A 14), .inr (7, [.int (nI N), .int (nI R), .int (nI w), .int ms, .ref (A 15), .ref (A 16)])), ((A 15), .inl (gI (kG K), 5, .inl fsv))]) (wx := (wxF ++ wxS)) (n := 2) (st := []) (b := (A 17)) (T := TX10) (N := 6) hk dX10_row_21 (c_X10_fitsName (kl K) (kG K) (A 17) vs (A 14) (A 15) (A 1) (A 0) (A 18) (A 20) (A 16) (nI N) (nI R) (nI w) ms 5 fsv 2 p2 1 e2) rfl gd_X10_row_X10_fitsName rfl (by decide +kernel) ⟨Nat.le_of_ble_eq_true rfl, Nat.le_of_ble_eq_true rfl⟩ ⟨show 0 + 0 ≤ 0 by omega, show 0 + 0 ≤ 0 by omega⟩ rfl rfl (Nat.le_of_ble_eq_true rfl) 1 rfl rfl (wr := [((A 16), .inl (gI (kG K), 16, .inl fsc))]) [0] [1, 2, 3] 4 rfl (by decide) rfl rfl ?_
  intro v9 w9 hp9
  obtain ⟨rfl, rfl⟩ := hp9
  show V K 7 ([((A 16), .inl (gI (kG K), 16, .inl fsc)), ((A 17), .inr (9, [.ref (A 14), .ref (A 1), .ref (A 0), .ref (A 18), .ref (A 20), vs])), ((A 14), .inr (7, [.int (nI N), .int (nI R), .int (nI w), .int ms, .ref (A 15), .ref (A 16)])), ((A 15), .inl (gI (kG K), 5, .inl fsv))] ++ (wxF ++ wxS)) 0 0 24 [(0, .ref (A 17)), (1, .int p0), (2, .int p1), (3, .int p2), (4, .int p3), (5, .int p4)] [.int 1]
  refine v_if_eq (tgt := 47) hk dX10_row_24 (by decide) (fun hc => absurd hc (by decide)) (fun _ => ?_)
  refine v_aload_n hk dX10_row_27 rfl ?_
  refine v_iconst (v := 3) hk dX10_row_28 (by decide) ?_
  refine v_iload hk dX10_row_29 rfl ?_
  refine v_callVGT (L := [((A 16), .inl (gI (kG K), 16, .inl fsc)), ((A 17), .inr (9, [.ref (A 14), .ref (A 1), .ref (A 0), .ref (A 18), .ref (A 20), vs])), ((A 14), .inr (7, [.int (nI N), .int (nI R), .int (nI w), .int ms, .ref (A 15), .ref (A 16)])), ((A 15), .inl (gI (kG K), 5, .inl fsv))]) (wx := (wxF ++ wxS)) (n := 2) (st := []) (b := (A 17)) (T := TX10) (N := 6) hk dX10_row_31 (c_X10_fitsName (kl K) (kG K) (A 17) vs (A 14) (A 15) (A 1) (A 0) (A 18) (A 20) (A 16) (nI N) (nI R) (nI w) ms 5 fsv 3 p3 1 e3) rfl gd_X10_row_X10_fitsName rfl (by decide +kernel) ⟨Nat.le_of_ble_eq_true rfl, Nat.le_of_ble_eq_true rfl⟩ ⟨show 0 + 0 ≤ 0 by omega, show 0 + 0 ≤ 0 by omega⟩ rfl rfl (Nat.le_of_ble_eq_true rfl) 1 rfl rfl (wr := [((A 16), .inl (gI (kG K), 16, .inl fsc))]) [0] [1, 2, 3] 4 rfl (by decide) rfl rfl ?_
  intro v9 w9 hp9
  obtain ⟨rfl, rfl⟩ := hp9
  show V K 7 ([((A 16), .inl (gI (kG K), 16, .inl fsc)), ((A 17), .inr (9, [.ref (A 14), .ref (A 1), .ref (A 0), .ref (A 18), .ref (A 20), vs])), ((A 14), .inr (7, [.int (nI N), .int (nI R), .int (nI w), .int ms, .ref (A 15), .ref (A 16)])), ((A 15), .inl (gI (kG K), 5, .inl fsv))] ++ (wxF ++ wxS)) 0 0 34 [(0, .ref (A 17)), (1, .int p0), (2, .int p1), (3, .int p2), (4, .int p3), (5, .int p4)] [.int 1]
  refine v_if_eq (tgt := 47) hk dX10_row_34 (by decide) (fun hc => absurd hc (by decide)) (fun _ => ?_)
  refine v_aload_n hk dX10_row_37 rfl ?_
  refine v_iconst (v := 4) hk dX10_row_38 (by decide) ?_
  refine v_iload hk dX10_row_39 rfl ?_
  refine v_callVGT (L := [((A 16), .inl (gI (kG K), 16, .inl fsc)), ((A 17), .inr (9, [.ref (A 14), .ref (A 1), .ref (A 0), .ref (A 18), .ref (A 20), vs])), ((A 14), .inr (7, [.int (nI N), .int (nI R), .int (nI w), .int ms, .ref (A 15), .ref (A 16)])), ((A 15), .inl (gI (kG K), 5, .inl fsv))]) (wx := (wxF ++ wxS)) (n := 2) (st := []) (b := (A 17)) (T := TX10) (N := 6) hk dX10_row_41 (c_X10_fitsName (kl K) (kG K) (A 17) vs (A 14) (A 15) (A 1) (A 0) (A 18) (A 20) (A 16) (nI N) (nI R) (nI w) ms 5 fsv 4 p4 1 e4) rfl gd_X10_row_X10_fitsName rfl (by decide +kernel) ⟨Nat.le_of_ble_eq_true rfl, Nat.le_of_ble_eq_true rfl⟩ ⟨show 0 + 0 ≤ 0 by omega, show 0 + 0 ≤ 0 by omega⟩ rfl rfl (Nat.le_of_ble_eq_true rfl) 1 rfl rfl (wr := [((A 16), .inl (gI (kG K), 16, .inl fsc))]) [0] [1, 2, 3] 4 rfl (by decide) rfl rfl ?_
  intro v9 w9 hp9
  obtain ⟨rfl, rfl⟩ := hp9
  show V K 7 ([((A 16), .inl (gI (kG K), 16, .inl fsc)), ((A 17), .inr (9, [.ref (A 14), .ref (A 1), .ref (A 0), .ref (A 18), .ref (A 20), vs])), ((A 14), .inr (7, [.int (nI N), .int (nI R), .int (nI w), .int ms, .ref (A 15), .ref (A 16)])), ((A 15), .inl (gI (kG K), 5, .inl fsv))] ++ (wxF ++ wxS)) 0 0 44 [(0, .ref (A 17)), (1, .int p0), (2, .int p1), (3, .int p2), (4, .int p3), (5, .int p4)] [.int 1]
  refine v_if_ne (tgt := 49) hk dX10_row_44 (by decide) (fun _ => ?_) (fun hc => absurd hc (by decide))
  refine v_aload_n hk dX10_row_49 rfl ?_
  refine v_get (C := RX10) (T := TX10) (N := 6) (ci := 9) (v := .ref (A 14)) hk dX10_row_50 w2i_X10_row_X100 1 rfl rfl 0 (by decide) (by decide +kernel) rfl rfl ?_
  refine v_get (C := RX8) (T := TX8) (N := 6) (ci := 7) (v := .int (nI N)) hk dX10_row_53 w2i_X10_row_X80 2 rfl rfl 0 (by decide) (by decide +kernel) rfl rfl ?_
  refine v_if_ne (tgt := 62) hk dX10_row_56 (by decide) (fun _ => ?_) (fun hc => absurd hc (show ¬ nI N = 0 from fun z => by have := (neq (b := 0) (by omega) (by omega)).mp z; omega))
  refine v_aload_n hk dX10_row_62 rfl ?_
  refine v_get (C := RX10) (T := TX10) (N := 6) (ci := 9) (v := .ref (A 14)) hk dX10_row_63 w2i_X10_row_X100 1 rfl rfl 0 (by decide) (by decide +kernel) rfl rfl ?_
  refine v_get (C := RX8) (T := TX8) (N := 6) (ci := 7) (v := .int (nI R)) hk dX10_row_66 w2i_X10_row_X80 2 rfl rfl 1 (by decide) (by decide +kernel) rfl rfl ?_
  refine v_bipush (v := 16) hk dX10_row_69 (by decide) ?_
  refine v_icmp_lt (tgt := 77) hk dX10_row_71 (by decide) (fun _ => ?_) (fun hc => absurd (show nI R < 16 from (nlt (b := 16) (by omega) (by omega)).mpr (by omega)) hc)
  refine v_aload_n hk dX10_row_77 rfl ?_
  refine v_callVG (n := 0) (st := []) (b := (A 17)) (T := TX10) (N := 6) (wr := [((A 16), .inl (gI (kG K), 16, .inl fsc)), ((A 14), .inr (7, [.int (nI N), .int (nI R), .int (nI w), .int ms, .ref (A 15), .ref (A 16)])), ((A 15), .inl (gI (kG K), 5, .inl fsv))]) hk dX10_row_78 (c_forgetFits (kl K) (kG K) A hF hS) rfl gd_X10_row_X10_forgetFits rfl (by decide +kernel) ⟨Nat.le_of_ble_eq_true rfl, Nat.le_of_ble_eq_true rfl⟩ ⟨Nat.zero_le _, Nat.zero_le _⟩ rfl rfl (Nat.le_of_ble_eq_true rfl) (List.mem_append_left _ (List.mem_of_getElem? (i := 1) rfl)) rfl (pm_front (perm_ixn [0, 2, 3, 1] 4 rfl (by decide) rfl)) ?_
  intro v9 w9 hp9
  obtain ⟨rfl, wxF', wxS', rfl, hZ, hS'⟩ := hp9
  show V K 7 ([((A 16), .inl (gI (kG K), 16, .inl fsc)), ((A 14), .inr (7, [.int (nI N), .int (nI R), .int (nI w), .int ms, .ref (A 15), .ref (A 16)])), ((A 15), .inl (gI (kG K), 5, .inl fsv)), ((A 17), .inr (9, [.ref (A 14), .ref (A 1), .ref (A 0), .ref (A 18), .ref (A 20), vs]))] ++ (wxF' ++ wxS')) 0 0 81 [(0, .ref (A 17)), (1, .int p0), (2, .int p1), (3, .int p2), (4, .int p3), (5, .int p4)] []
  refine v_aload_n hk dX10_row_81 rfl ?_
  refine v_iconst (v := 0) hk dX10_row_82 (by decide) ?_
  refine v_iload_n hk dX10_row_83 rfl ?_
  refine v_callVGT (L := [((A 16), .inl (gI (kG K), 16, .inl fsc)), ((A 14), .inr (7, [.int (nI N), .int (nI R), .int (nI w), .int ms, .ref (A 15), .ref (A 16)])), ((A 15), .inl (gI (kG K), 5, .inl fsv)), ((A 17), .inr (9, [.ref (A 14), .ref (A 1), .ref (A 0), .ref (A 18), .ref (A 20), vs]))]) (wx := (wxF' ++ wxS')) (n := 2) (st := []) (b := (A 17)) (T := TX10) (N := 6) hk dX10_row_84 (c_X10_coded (kl K) (kG K) (A 17) vs (A 14) (A 1) (A 0) (A 18) (A 20) (A 15) (A 16) (nI N) (nI R) (nI w) ms 0 p0 k0 g0) rfl gd_X10_row_X10_coded rfl (by decide +kernel) ⟨Nat.le_of_ble_eq_true rfl, Nat.le_of_ble_eq_true rfl⟩ ⟨show 0 + 0 ≤ 0 by omega, show 0 + 0 ≤ 0 by omega⟩ rfl rfl (Nat.le_of_ble_eq_true rfl) 3 rfl rfl (wr := [((A 16), .inl (gI (kG K), 16, .inl fsc)), ((A 15), .inl (gI (kG K), 5, .inl fsv))]) [0, 2] [3, 1] 4 rfl (by decide) rfl rfl ?_
  intro v9 w9 hp9
  obtain ⟨rfl, rfl⟩ := hp9
  show V K 7 ([((A 16), .inl (gI (kG K), 16, .inl fsc)), ((A 15), .inl (gI (kG K), 5, .inl fsv)), ((A 17), .inr (9, [.ref (A 14), .ref (A 1), .ref (A 0), .ref (A 18), .ref (A 20), vs])), ((A 14), .inr (7, [.int (nI N), .int (nI R), .int (nI w), .int ms, .ref (A 15), .ref (A 16)]))] ++ (wxF' ++ wxS')) 0 0 87 [(0, .ref (A 17)), (1, .int p0), (2, .int p1), (3, .int p2), (4, .int p3), (5, .int p4)] [.int k0]
  refine v_aload_n hk dX10_row_87 rfl ?_
  refine v_iconst (v := 1) hk dX10_row_88 (by decide) ?_
  refine v_iload_n hk dX10_row_89 rfl ?_
  refine v_callVGT (L := [((A 16), .inl (gI (kG K), 16, .inl fsc)), ((A 15), .inl (gI (kG K), 5, .inl fsv)), ((A 17), .inr (9, [.ref (A 14), .ref (A 1), .ref (A 0), .ref (A 18), .ref (A 20), vs])), ((A 14), .inr (7, [.int (nI N), .int (nI R), .int (nI w), .int ms, .ref (A 15), .ref (A 16)]))]) (wx := (wxF' ++ wxS')) (n := 2) (st := [.int k0]) (b := (A 17)) (T := TX10) (N := 6) hk dX10_row_90 (c_X10_coded (kl K) (kG K) (A 17) vs (A 14) (A 1) (A 0) (A 18) (A 20) (A 15) (A 16) (nI N) (nI R) (nI w) ms 1 p1 k1 g1) rfl gd_X10_row_X10_coded rfl (by decide +kernel) ⟨Nat.le_of_ble_eq_true rfl, Nat.le_of_ble_eq_true rfl⟩ ⟨show 0 + 0 ≤ 0 by omega, show 0 + 0 ≤ 0 by omega⟩ rfl rfl (Nat.le_of_ble_eq_true rfl) 2 rfl rfl (wr := [((A 16), .inl (gI (kG K), 16, .inl fsc)), ((A 15), .inl (gI (kG K), 5, .inl fsv))]) [0, 1] [2, 3] 4 rfl (by decide) rfl rfl ?_
  intro v9 w9 hp9
  obtain ⟨rfl, rfl⟩ := hp9
  show V K 7 ([((A 16), .inl (gI (kG K), 16, .inl fsc)), ((A 15), .inl (gI (kG K), 5, .inl fsv)), ((A 17), .inr (9, [.ref (A 14), .ref (A 1), .ref (A 0), .ref (A 18), .ref (A 20), vs])), ((A 14), .inr (7, [.int (nI N), .int (nI R), .int (nI w), .int ms, .ref (A 15), .ref (A 16)]))] ++ (wxF' ++ wxS')) 0 0 93 [(0, .ref (A 17)), (1, .int p0), (2, .int p1), (3, .int p2), (4, .int p3), (5, .int p4)] [.int k1, .int k0]
  refine v_ior hk dX10_row_93 ?_
  refine v_aload_n hk dX10_row_94 rfl ?_
  refine v_iconst (v := 2) hk dX10_row_95 (by decide) ?_
  refine v_iload_n hk dX10_row_96 rfl ?_
  refine v_callVGT (L := [((A 16), .inl (gI (kG K), 16, .inl fsc)), ((A 15), .inl (gI (kG K), 5, .inl fsv)), ((A 17), .inr (9, [.ref (A 14), .ref (A 1), .ref (A 0), .ref (A 18), .ref (A 20), vs])), ((A 14), .inr (7, [.int (nI N), .int (nI R), .int (nI w), .int ms, .ref (A 15), .ref (A 16)]))]) (wx := (wxF' ++ wxS')) (n := 2) (st := [.int (k0 ||| k1)]) (b := (A 17)) (T := TX10) (N := 6) hk dX10_row_97 (c_X10_coded (kl K) (kG K) (A 17) vs (A 14) (A 1) (A 0) (A 18) (A 20) (A 15) (A 16) (nI N) (nI R) (nI w) ms 2 p2 k2 g2) rfl gd_X10_row_X10_coded rfl (by decide +kernel) ⟨Nat.le_of_ble_eq_true rfl, Nat.le_of_ble_eq_true rfl⟩ ⟨show 0 + 0 ≤ 0 by omega, show 0 + 0 ≤ 0 by omega⟩ rfl rfl (Nat.le_of_ble_eq_true rfl) 2 rfl rfl (wr := [((A 16), .inl (gI (kG K), 16, .inl fsc)), ((A 15), .inl (gI (kG K), 5, .inl fsv))]) [0, 1] [2, 3] 4 rfl (by decide) rfl rfl ?_
  intro v9 w9 hp9
  obtain ⟨rfl, rfl⟩ := hp9
  show V K 7 ([((A 16), .inl (gI (kG K), 16, .inl fsc)), ((A 15), .inl (gI (kG K), 5, .inl fsv)), ((A 17), .inr (9, [.ref (A 14), .ref (A 1), .ref (A 0), .ref (A 18), .ref (A 20), vs])), ((A 14), .inr (7, [.int (nI N), .int (nI R), .int (nI w), .int ms, .ref (A 15), .ref (A 16)]))] ++ (wxF' ++ wxS')) 0 0 100 [(0, .ref (A 17)), (1, .int p0), (2, .int p1), (3, .int p2), (4, .int p3), (5, .int p4)] [.int k2, .int (k0 ||| k1)]
  refine v_ior hk dX10_row_100 ?_
  refine v_aload_n hk dX10_row_101 rfl ?_
  refine v_iconst (v := 3) hk dX10_row_102 (by decide) ?_
  refine v_iload hk dX10_row_103 rfl ?_
  refine v_callVGT (L := [((A 16), .inl (gI (kG K), 16, .inl fsc)), ((A 15), .inl (gI (kG K), 5, .inl fsv)), ((A 17), .inr (9, [.ref (A 14), .ref (A 1), .ref (A 0), .ref (A 18), .ref (A 20), vs])), ((A 14), .inr (7, [.int (nI N), .int (nI R), .int (nI w), .int ms, .ref (A 15), .ref (A 16)]))]) (wx := (wxF' ++ wxS')) (n := 2) (st := [.int ((k0 ||| k1) ||| k2)]) (b := (A 17)) (T := TX10) (N := 6) hk dX10_row_105 (c_X10_coded (kl K) (kG K) (A 17) vs (A 14) (A 1) (A 0) (A 18) (A 20) (A 15) (A 16) (nI N) (nI R) (nI w) ms 3 p3 k3 g3) rfl gd_X10_row_X10_coded rfl (by decide +kernel) ⟨Nat.le_of_ble_eq_true rfl, Nat.le_of_ble_eq_true rfl⟩ ⟨show 0 + 0 ≤ 0 by omega, show 0 + 0 ≤ 0 by omega⟩ rfl rfl (Nat.le_of_ble_eq_true rfl) 2 rfl rfl (wr := [((A 16), .inl (gI (kG K), 16, .inl fsc)), ((A 15), .inl (gI (kG K), 5, .inl fsv))]) [0, 1] [2, 3] 4 rfl (by decide) rfl rfl ?_
  intro v9 w9 hp9
  obtain ⟨rfl, rfl⟩ := hp9
  show V K 7 ([((A 16), .inl (gI (kG K), 16, .inl fsc)), ((A 15), .inl (gI (kG K), 5, .inl fsv)), ((A 17), .inr (9, [.ref (A 14), .ref (A 1), .ref (A 0), .ref (A 18), .ref (A 20), vs])), ((A 14), .inr (7, [.int (nI N), .int (nI R), .int (nI w), .int ms, .ref (A 15), .ref (A 16)]))] ++ (wxF' ++ wxS')) 0 0 108 [(0, .ref (A 17)), (1, .int p0), (2, .int p1), (3, .int p2), (4, .int p3), (5, .int p4)] [.int k3, .int ((k0 ||| k1) ||| k2)]
  refine v_ior hk dX10_row_108 ?_
  refine v_aload_n hk dX10_row_109 rfl ?_
  refine v_iconst (v := 4) hk dX10_row_110 (by decide) ?_
  refine v_iload hk dX10_row_111 rfl ?_
  refine v_callVGT (L := [((A 16), .inl (gI (kG K), 16, .inl fsc)), ((A 15), .inl (gI (kG K), 5, .inl fsv)), ((A 17), .inr (9, [.ref (A 14), .ref (A 1), .ref (A 0), .ref (A 18), .ref (A 20), vs])), ((A 14), .inr (7, [.int (nI N), .int (nI R), .int (nI w), .int ms, .ref (A 15), .ref (A 16)]))]) (wx := (wxF' ++ wxS')) (n := 2) (st := [.int (((k0 ||| k1) ||| k2) ||| k3)]) (b := (A 17)) (T := TX10) (N := 6) hk dX10_row_113 (c_X10_coded (kl K) (kG K) (A 17) vs (A 14) (A 1) (A 0) (A 18) (A 20) (A 15) (A 16) (nI N) (nI R) (nI w) ms 4 p4 k4 g4) rfl gd_X10_row_X10_coded rfl (by decide +kernel) ⟨Nat.le_of_ble_eq_true rfl, Nat.le_of_ble_eq_true rfl⟩ ⟨show 0 + 0 ≤ 0 by omega, show 0 + 0 ≤ 0 by omega⟩ rfl rfl (Nat.le_of_ble_eq_true rfl) 2 rfl rfl (wr := [((A 16), .inl (gI (kG K), 16, .inl fsc)), ((A 15), .inl (gI (kG K), 5, .inl fsv))]) [0, 1] [2, 3] 4 rfl (by decide) rfl rfl ?_
  intro v9 w9 hp9
  obtain ⟨rfl, rfl⟩ := hp9
  show V K 7 ([((A 16), .inl (gI (kG K), 16, .inl fsc)), ((A 15), .inl (gI (kG K), 5, .inl fsv)), ((A 17), .inr (9, [.ref (A 14), .ref (A 1), .ref (A 0), .ref (A 18), .ref (A 20), vs])), ((A 14), .inr (7, [.int (nI N), .int (nI R), .int (nI w), .int ms, .ref (A 15), .ref (A 16)]))] ++ (wxF' ++ wxS')) 0 0 116 [(0, .ref (A 17)), (1, .int p0), (2, .int p1), (3, .int p2), (4, .int p3), (5, .int p4)] [.int k4, .int (((k0 ||| k1) ||| k2) ||| k3)]
  refine v_ior hk dX10_row_116 ?_
  refine v_istore hk dX10_row_117 (by decide) [1, 2, 3, 4, 5, 6, 0] (lv' := [(0, .ref (A 17)), (1, .int p0), (2, .int p1), (3, .int p2), (4, .int p3), (5, .int p4), (6, .int ((((k0 ||| k1) ||| k2) ||| k3) ||| k4))]) rfl ?_
  refine v_aload_n hk dX10_row_119 rfl ?_
  refine v_get (C := RX10) (T := TX10) (N := 6) (ci := 9) (v := .ref (A 14)) hk dX10_row_120 w2i_X10_row_X100 2 rfl rfl 0 (by decide) (by decide +kernel) rfl rfl ?_
  refine v_iload hk dX10_row_123 rfl ?_
  refine v_callVGT (L := [((A 16), .inl (gI (kG K), 16, .inl fsc)), ((A 15), .inl (gI (kG K), 5, .inl fsv)), ((A 17), .inr (9, [.ref (A 14), .ref (A 1), .ref (A 0), .ref (A 18), .ref (A 20), vs])), ((A 14), .inr (7, [.int (nI N), .int (nI R), .int (nI w), .int ms, .ref (A 15), .ref (A 16)]))]) (wx := (wxF' ++ wxS')) (n := 1) (st := []) (b := (A 14)) (T := TX8) (N := 6) hk dX10_row_125 (c_X8_addRow (kl K) (kG K) (A 14) (A 16) (A 15) (nI N) (nI R) (nI w) ms 16 fsc _ _ hadd) rfl gd_X10_row_X8_addRow rfl (by decide +kernel) ⟨Nat.le_of_ble_eq_true rfl, Nat.le_of_ble_eq_true rfl⟩ ⟨show 0 + 0 ≤ 0 by omega, show 0 + 0 ≤ 0 by omega⟩ rfl rfl (Nat.le_of_ble_eq_true rfl) 3 rfl rfl (wr := [((A 15), .inl (gI (kG K), 5, .inl fsv)), ((A 17), .inr (9, [.ref (A 14), .ref (A 1), .ref (A 0), .ref (A 18), .ref (A 20), vs]))]) [1, 2] [3, 0] 4 rfl (by decide) rfl rfl ?_
  intro v9 w9 hp9
  obtain ⟨rfl, rfl⟩ := hp9
  show V K 7 ([((A 15), .inl (gI (kG K), 5, .inl fsv)), ((A 17), .inr (9, [.ref (A 14), .ref (A 1), .ref (A 0), .ref (A 18), .ref (A 20), vs])), ((A 14), .inr (7, [.int (nI N), .int r1, .int (nI w), .int ms, .ref (A 15), .ref (A 16)])), ((A 16), .inl (gI (kG K), 16, .inl f1))] ++ (wxF' ++ wxS')) 0 0 128 [(0, .ref (A 17)), (1, .int p0), (2, .int p1), (3, .int p2), (4, .int p3), (5, .int p4), (6, .int ((((k0 ||| k1) ||| k2) ||| k3) ||| k4))] [.int r0]
  refine v_lperm (ws' := [((A 17), .inr (9, [.ref (A 14), .ref (A 1), .ref (A 0), .ref (A 18), .ref (A 20), vs])), ((A 14), .inr (7, [.int (nI N), .int r1, .int (nI w), .int ms, .ref (A 15), .ref (A 16)])), ((A 15), .inl (gI (kG K), 5, .inl fsv)), ((A 16), .inl (gI (kG K), 16, .inl f1))] ++ (wxF' ++ wxS')) (List.Perm.append_right _ (perm_ixn [1, 2, 0, 3] 4 rfl (by decide) rfl)) ?_
  exact hrt (some (.int r0)) _ _ _ _ _ ⟨rfl, wxF', wxS', rfl, hZ, hS'⟩ (Nat.zero_le _) (Nat.zero_le _) dX10_row_128
set_option maxRecDepth 100000 in
theorem k_set0 (l : Launch) (G : GG) (A : Nat → Nat) {cell : Nat → Nat → Nat} {vals : Nat → Nat} {N R w : Nat} {Q : Int32 → Int32 → Int32 → (Nat → Nat) → Prop} {vs : Value} {wxF wxS : va_W} {n : Nat} {ms : Int32} {fsv fsc : Nat → Int32} (hF : FBk G A cell vals N R w wxF n) (hS : SHR G A Q vs wxS) {x : Int32} (h1 : ¬ x < 1) (h2 : ¬ 9 < x) : Ctr l G yX10_set w2_X10_set rm_X10_chg [.ref (A 17), .int 0, .int x] ([((A 17), .inr (9, [.ref (A 14), .ref (A 1), .ref (A 0), .ref (A 18), .ref (A 20), vs])), ((A 14), .inr (7, [.int (nI N), .int (nI R), .int (nI w), .int ms, .ref (A 15), .ref (A 16)])), ((A 15), .inl (gI G, 5, .inl fsv)), ((A 16), .inl (gI G, 16, .inl fsc))] ++ (wxF ++ wxS)) (fun v w1 => v = some (.int (nI w)) ∧ ∃ wxF' wxS', w1 = [((A 17), .inr (9, [.ref (A 14), .ref (A 1), .ref (A 0), .ref (A 18), .ref (A 20), vs])), ((A 14), .inr (7, [.int (nI N), .int (nI R), .int x, .int ms, .ref (A 15), .ref (A 16)])), ((A 15), .inl (gI G, 5, .inl fsv)), ((A 16), .inl (gI G, 16, .inl fsc))] ++ (wxF' ++ wxS') ∧ FBz G A wxF' n ∧ SHR G A Q0 vs wxS') := by
  refine ctr_entry (cc := cX10_set) (maxL := 4) (ret := some .int) (lv0 := [(0, .ref (A 17)), (1, .int 0), (2, .int x)]) (by decide) rfl (Nat.le_of_ble_eq_true rfl) rfl ?_
  intro K hl9 hG9 hk hn9 hrt
  subst hl9
  subst hG9
  refine v_iload_n hk dX10_set_0 rfl ?_
  refine v_if_ne (tgt := 37) hk dX10_set_1 (by decide) (fun hc => absurd hc (fun z => z rfl)) (fun _ => ?_)
  refine v_iload_n hk dX10_set_4 rfl ?_
  refine v_iconst (v := 1) hk dX10_set_5 (by decide) ?_
  refine v_icmp_lt (tgt := 37) hk dX10_set_6 (by decide) (fun hc => absurd hc h1) (fun _ => ?_)
  refine v_iload_n hk dX10_set_9 rfl ?_
  refine v_bipush (v := 9) hk dX10_set_10 (by decide) ?_
  refine v_icmp_gt (tgt := 37) hk dX10_set_12 (by decide) (fun hc => absurd hc h2) (fun _ => ?_)
  refine v_aload_n hk dX10_set_15 rfl ?_
  refine v_get (C := RX10) (T := TX10) (N := 6) (ci := 9) (v := .ref (A 14)) hk dX10_set_16 w2i_X10_set_X100 0 rfl rfl 0 (by decide) (by decide +kernel) rfl rfl ?_
  refine v_get (C := RX8) (T := TX8) (N := 6) (ci := 7) (v := .int (nI w)) hk dX10_set_19 w2i_X10_set_X80 1 rfl rfl 2 (by decide) (by decide +kernel) rfl rfl ?_
  refine v_istore_n hk dX10_set_22 rfl (by decide) [1, 2, 3, 0] (lv' := [(0, .ref (A 17)), (1, .int 0), (2, .int x), (3, .int (nI w))]) rfl ?_
  refine v_aload_n hk dX10_set_23 rfl ?_
  refine v_get (C := RX10) (T := TX10) (N := 6) (ci := 9) (v := .ref (A 14)) hk dX10_set_24 w2i_X10_set_X100 0 rfl rfl 0 (by decide) (by decide +kernel) rfl rfl ?_
  refine v_iload_n hk dX10_set_27 rfl ?_
  refine v_put (C := RX8) (T := TX8) (N := 6) (ci := 7) (v := .int x) (ty := .int) hk dX10_set_28 w2i_X10_set_X80 tyX8 tyX8_ok nmX8 1 rfl rfl 2 (by decide) (by decide +kernel) rfl rfl (by decide +kernel) rfl rfl (Nat.le_of_ble_eq_true rfl) (ws' := [((A 17), .inr (9, [.ref (A 14), .ref (A 1), .ref (A 0), .ref (A 18), .ref (A 20), vs])), ((A 14), .inr (7, [.int (nI N), .int (nI R), .int x, .int ms, .ref (A 15), .ref (A 16)])), ((A 15), .inl (gI (kG K), 5, .inl fsv)), ((A 16), .inl (gI (kG K), 16, .inl fsc))] ++ (wxF ++ wxS)) rfl ?_
  refine v_aload_n hk dX10_set_31 rfl ?_
  refine v_callVG (n := 0) (st := []) (b := (A 17)) (T := TX10) (N := 6) (wr := [((A 14), .inr (7, [.int (nI N), .int (nI R), .int x, .int ms, .ref (A 15), .ref (A 16)])), ((A 15), .inl (gI (kG K), 5, .inl fsv)), ((A 16), .inl (gI (kG K), 16, .inl fsc))]) hk dX10_set_32 (c_forgetFits (kl K) (kG K) A hF hS) rfl gd_X10_set_X10_forgetFits rfl (by decide +kernel) ⟨Nat.le_of_ble_eq_true rfl, Nat.le_of_ble_eq_true rfl⟩ ⟨Nat.zero_le _, Nat.zero_le _⟩ rfl rfl (Nat.le_of_ble_eq_true rfl) (List.mem_append_left _ (List.mem_of_getElem? (i := 0) rfl)) rfl (pm_front (perm_ixn [1, 2, 3, 0] 4 rfl (by decide) rfl)) ?_
  intro v9 w9 hp9
  obtain ⟨rfl, wxF', wxS', rfl, hZ, hS'⟩ := hp9
  show V K 4 ([((A 14), .inr (7, [.int (nI N), .int (nI R), .int x, .int ms, .ref (A 15), .ref (A 16)])), ((A 15), .inl (gI (kG K), 5, .inl fsv)), ((A 16), .inl (gI (kG K), 16, .inl fsc)), ((A 17), .inr (9, [.ref (A 14), .ref (A 1), .ref (A 0), .ref (A 18), .ref (A 20), vs]))] ++ (wxF' ++ wxS')) 0 0 35 [(0, .ref (A 17)), (1, .int 0), (2, .int x), (3, .int (nI w))] []
  refine v_iload_n hk dX10_set_35 rfl ?_
  refine v_lperm (ws' := [((A 17), .inr (9, [.ref (A 14), .ref (A 1), .ref (A 0), .ref (A 18), .ref (A 20), vs])), ((A 14), .inr (7, [.int (nI N), .int (nI R), .int x, .int ms, .ref (A 15), .ref (A 16)])), ((A 15), .inl (gI (kG K), 5, .inl fsv)), ((A 16), .inl (gI (kG K), 16, .inl fsc))] ++ (wxF' ++ wxS')) (List.Perm.append_right _ (perm_ixn [3, 0, 1, 2] 4 rfl (by decide) rfl)) ?_
  exact hrt (some (.int (nI w))) _ _ _ _ _ ⟨rfl, wxF', wxS', rfl, hZ, hS'⟩ (Nat.zero_le _) (Nat.zero_le _) dX10_set_36
set_option maxRecDepth 100000 in
theorem k_set1 (l : Launch) (G : GG) (A : Nat → Nat) {cell : Nat → Nat → Nat} {vals : Nat → Nat} {N R w : Nat} {Q : Int32 → Int32 → Int32 → (Nat → Nat) → Prop} {vs : Value} {wxF wxS : va_W} {n : Nat} {ms : Int32} {fsv fsc : Nat → Int32} (hF : FBk G A cell vals N R w wxF n) (hS : SHR G A Q vs wxS) {x : Int32} (h1 : ¬ x < 0) (h2 : ¬ 4 < x) : Ctr l G yX10_set w2_X10_set rm_X10_chg [.ref (A 17), .int 1, .int x] ([((A 17), .inr (9, [.ref (A 14), .ref (A 1), .ref (A 0), .ref (A 18), .ref (A 20), vs])), ((A 14), .inr (7, [.int (nI N), .int (nI R), .int (nI w), .int ms, .ref (A 15), .ref (A 16)])), ((A 15), .inl (gI G, 5, .inl fsv)), ((A 16), .inl (gI G, 16, .inl fsc))] ++ (wxF ++ wxS)) (fun v w1 => v = some (.int ms) ∧ ∃ wxS', w1 = [((A 17), .inr (9, [.ref (A 14), .ref (A 1), .ref (A 0), .ref (A 18), .ref (A 20), vs])), ((A 14), .inr (7, [.int (nI N), .int (nI R), .int (nI w), .int x, .ref (A 15), .ref (A 16)])), ((A 15), .inl (gI G, 5, .inl fsv)), ((A 16), .inl (gI G, 16, .inl fsc))] ++ (wxF ++ wxS') ∧ SHR G A Q0 vs wxS') := by
  refine ctr_entry (cc := cX10_set) (maxL := 4) (ret := some .int) (lv0 := [(0, .ref (A 17)), (1, .int 1), (2, .int x)]) (by decide) rfl (Nat.le_of_ble_eq_true rfl) rfl ?_
  intro K hl9 hG9 hk hn9 hrt
  subst hl9
  subst hG9
  refine v_iload_n hk dX10_set_0 rfl ?_
  refine v_if_ne (tgt := 37) hk dX10_set_1 (by decide) (fun _ => ?_) (fun hc => absurd hc (by decide))
  refine v_iload_n hk dX10_set_37 rfl ?_
  refine v_iconst (v := 1) hk dX10_set_38 (by decide) ?_
  refine v_icmp_ne (tgt := 73) hk dX10_set_39 (by decide) (fun hc => absurd hc (fun z => z rfl)) (fun _ => ?_)
  refine v_iload_n hk dX10_set_42 rfl ?_
  refine v_if_lt (tgt := 73) hk dX10_set_43 (by decide) (fun hc => absurd hc h1) (fun _ => ?_)
  refine v_iload_n hk dX10_set_46 rfl ?_
  refine v_iconst (v := 4) hk dX10_set_47 (by decide) ?_
  refine v_icmp_gt (tgt := 73) hk dX10_set_48 (by decide) (fun hc => absurd hc h2) (fun _ => ?_)
  refine v_aload_n hk dX10_set_51 rfl ?_
  refine v_get (C := RX10) (T := TX10) (N := 6) (ci := 9) (v := .ref (A 14)) hk dX10_set_52 w2i_X10_set_X100 0 rfl rfl 0 (by decide) (by decide +kernel) rfl rfl ?_
  refine v_get (C := RX8) (T := TX8) (N := 6) (ci := 7) (v := .int ms) hk dX10_set_55 w2i_X10_set_X80 1 rfl rfl 3 (by decide) (by decide +kernel) rfl rfl ?_
  refine v_istore_n hk dX10_set_58 rfl (by decide) [1, 2, 3, 0] (lv' := [(0, .ref (A 17)), (1, .int 1), (2, .int x), (3, .int ms)]) rfl ?_
  refine v_aload_n hk dX10_set_59 rfl ?_
  refine v_get (C := RX10) (T := TX10) (N := 6) (ci := 9) (v := .ref (A 14)) hk dX10_set_60 w2i_X10_set_X100 0 rfl rfl 0 (by decide) (by decide +kernel) rfl rfl ?_
  refine v_iload_n hk dX10_set_63 rfl ?_
  refine v_put (C := RX8) (T := TX8) (N := 6) (ci := 7) (v := .int x) (ty := .int) hk dX10_set_64 w2i_X10_set_X80 tyX8 tyX8_ok nmX8 1 rfl rfl 3 (by decide) (by decide +kernel) rfl rfl (by decide +kernel) rfl rfl (Nat.le_of_ble_eq_true rfl) (ws' := [((A 17), .inr (9, [.ref (A 14), .ref (A 1), .ref (A 0), .ref (A 18), .ref (A 20), vs])), ((A 14), .inr (7, [.int (nI N), .int (nI R), .int (nI w), .int x, .ref (A 15), .ref (A 16)])), ((A 15), .inl (gI (kG K), 5, .inl fsv)), ((A 16), .inl (gI (kG K), 16, .inl fsc))] ++ (wxF ++ wxS)) rfl ?_
  refine v_aload_n hk dX10_set_67 rfl ?_
  have hp : List.Perm (α := Nat × va_E) ([((A 17), .inr (9, [.ref (A 14), .ref (A 1), .ref (A 0), .ref (A 18), .ref (A 20), vs])), ((A 14), .inr (7, [.int (nI N), .int (nI R), .int (nI w), .int x, .ref (A 15), .ref (A 16)])), ((A 15), .inl (gI (kG K), 5, .inl fsv)), ((A 16), .inl (gI (kG K), 16, .inl fsc))] ++ (wxF ++ wxS)) (([((A 14), .inr (7, [.int (nI N), .int (nI R), .int (nI w), .int x, .ref (A 15), .ref (A 16)])), ((A 15), .inl (gI (kG K), 5, .inl fsv)), ((A 16), .inl (gI (kG K), 16, .inl fsc))] ++ wxF) ++ ([((A 17), .inr (9, [.ref (A 14), .ref (A 1), .ref (A 0), .ref (A 18), .ref (A 20), vs]))] ++ wxS)) := by
    have h1 : List.Perm (α := Nat × va_E) ([((A 17), .inr (9, [.ref (A 14), .ref (A 1), .ref (A 0), .ref (A 18), .ref (A 20), vs])), ((A 14), .inr (7, [.int (nI N), .int (nI R), .int (nI w), .int x, .ref (A 15), .ref (A 16)])), ((A 15), .inl (gI (kG K), 5, .inl fsv)), ((A 16), .inl (gI (kG K), 16, .inl fsc))]) ([((A 14), .inr (7, [.int (nI N), .int (nI R), .int (nI w), .int x, .ref (A 15), .ref (A 16)])), ((A 15), .inl (gI (kG K), 5, .inl fsv)), ((A 16), .inl (gI (kG K), 16, .inl fsc))] ++ [((A 17), .inr (9, [.ref (A 14), .ref (A 1), .ref (A 0), .ref (A 18), .ref (A 20), vs]))]) := perm_ixn [1, 2, 3, 0] 4 rfl (by decide) rfl
    refine (List.Perm.append_right _ h1).trans ?_
    rw [List.append_assoc, List.append_assoc]
    exact List.Perm.append_left _ pm_sw
  refine v_callVG (n := 0) (st := []) (b := (A 17)) (T := TX10) (N := 6) hk dX10_set_68 (c_forgetShares (kl K) (kG K) A hS) rfl gd_X10_set_X10_forgetShares rfl (by decide +kernel) ⟨Nat.le_of_ble_eq_true rfl, Nat.le_of_ble_eq_true rfl⟩ ⟨Nat.zero_le _, Nat.zero_le _⟩ rfl rfl (Nat.le_of_ble_eq_true rfl) (List.mem_append_left _ (List.mem_of_getElem? (i := 0) rfl)) rfl hp ?_
  intro v9 w9 hp9
  obtain ⟨rfl, wxS', rfl, hS'⟩ := hp9
  have hp2 : List.Perm (α := Nat × va_E) (([((A 14), .inr (7, [.int (nI N), .int (nI R), .int (nI w), .int x, .ref (A 15), .ref (A 16)])), ((A 15), .inl (gI (kG K), 5, .inl fsv)), ((A 16), .inl (gI (kG K), 16, .inl fsc))] ++ wxF) ++ ([((A 17), .inr (9, [.ref (A 14), .ref (A 1), .ref (A 0), .ref (A 18), .ref (A 20), vs]))] ++ wxS')) ([((A 14), .inr (7, [.int (nI N), .int (nI R), .int (nI w), .int x, .ref (A 15), .ref (A 16)])), ((A 15), .inl (gI (kG K), 5, .inl fsv)), ((A 16), .inl (gI (kG K), 16, .inl fsc)), ((A 17), .inr (9, [.ref (A 14), .ref (A 1), .ref (A 0), .ref (A 18), .ref (A 20), vs]))] ++ (wxF ++ wxS')) := by
    have h2 : List.Perm (α := Nat × va_E) (([((A 14), .inr (7, [.int (nI N), .int (nI R), .int (nI w), .int x, .ref (A 15), .ref (A 16)])), ((A 15), .inl (gI (kG K), 5, .inl fsv)), ((A 16), .inl (gI (kG K), 16, .inl fsc))] ++ wxF) ++ ([((A 17), .inr (9, [.ref (A 14), .ref (A 1), .ref (A 0), .ref (A 18), .ref (A 20), vs]))] ++ wxS')) ([((A 14), .inr (7, [.int (nI N), .int (nI R), .int (nI w), .int x, .ref (A 15), .ref (A 16)])), ((A 15), .inl (gI (kG K), 5, .inl fsv)), ((A 16), .inl (gI (kG K), 16, .inl fsc))] ++ ([((A 17), .inr (9, [.ref (A 14), .ref (A 1), .ref (A 0), .ref (A 18), .ref (A 20), vs]))] ++ (wxF ++ wxS'))) := by
      rw [List.append_assoc]
      exact List.Perm.append_left _ pm_sw
    exact h2
  refine v_lperm hp2 ?_
  show V K 4 ([((A 14), .inr (7, [.int (nI N), .int (nI R), .int (nI w), .int x, .ref (A 15), .ref (A 16)])), ((A 15), .inl (gI (kG K), 5, .inl fsv)), ((A 16), .inl (gI (kG K), 16, .inl fsc)), ((A 17), .inr (9, [.ref (A 14), .ref (A 1), .ref (A 0), .ref (A 18), .ref (A 20), vs]))] ++ (wxF ++ wxS')) 0 0 71 [(0, .ref (A 17)), (1, .int 1), (2, .int x), (3, .int ms)] []
  refine v_iload_n hk dX10_set_71 rfl ?_
  refine v_lperm (ws' := [((A 17), .inr (9, [.ref (A 14), .ref (A 1), .ref (A 0), .ref (A 18), .ref (A 20), vs])), ((A 14), .inr (7, [.int (nI N), .int (nI R), .int (nI w), .int x, .ref (A 15), .ref (A 16)])), ((A 15), .inl (gI (kG K), 5, .inl fsv)), ((A 16), .inl (gI (kG K), 16, .inl fsc))] ++ (wxF ++ wxS')) (List.Perm.append_right _ (perm_ixn [3, 0, 1, 2] 4 rfl (by decide) rfl)) ?_
  exact hrt (some (.int ms)) _ _ _ _ _ ⟨rfl, wxS', rfl, hS'⟩ (Nat.zero_le _) (Nat.zero_le _) dX10_set_72
