abbrev rm_X11_tell : Room := { frames := 5, cells := 0, slots := 0, locals := 122 }
set_option maxHeartbeats 4000000 in
set_option maxRecDepth 100000 in
theorem c_X11_tell (l : Launch) (G : GG) (adm : Nat) (adA : Nat → Nat) (o_names : Int32) (o_rows : Int32) (o_strength : Int32) (o_most : Int32) (o_toldGraph : Int32) (o_toldArc : Int32) (fvalues : Nat → Int32) (fcells : Nat → Int32) (fisKnown : Nat → Int32) (ftops : Nat → Int32) (flows : Nat → Int32) (fsmall : Nat → Int32) (flarge : Nat → Int32) (fone : Nat → Int32) (ftwo : Nat → Int32) (frest : Nat → Int32) (ffactor : Nat → Int32) (fmade : Nat → Int32) (fabove : Nat → Int32) (fbelow : Nat → Int32) (gr : Int32) (r : Int32 × Int32 × (Nat → Int32) × (Nat → Int32) × (Nat → Int32) × (Nat → Int32) × (Nat → Int32) × (Nat → Int32) × (Nat → Int32) × (Nat → Int32) × (Nat → Int32) × (Nat → Int32) × (Nat → Int32) × (Nat → Int32)) (h : m_X11_tell o_names o_rows o_strength o_most o_toldGraph o_toldArc fvalues fcells fisKnown ftops flows fsmall flarge fone ftwo frest ffactor fmade fabove fbelow gr = some r) : Ctr l G yX11_tell w2_X11_tell rm_X11_tell [.ref adm, .int gr] [(adm, .inr (10, oM adA o_names o_rows o_strength o_most o_toldGraph o_toldArc)), ((adA 1), .inl (gI G, 5, .inl fvalues)), ((adA 3), .inl (gI G, 80, .inl fcells)), ((adA 11), .inl (gZ G, 160, .inl fisKnown)), ((adA 12), .inl (gI G, 1280, .inl ftops)), ((adA 13), .inl (gI G, 1280, .inl flows)), ((adA 14), .inl (gI G, 320, .inl fsmall)), ((adA 15), .inl (gI G, 320, .inl flarge)), ((adA 6), .inl (gI G, 320, .inl fone)), ((adA 7), .inl (gI G, 320, .inl ftwo)), ((adA 8), .inl (gI G, 320, .inl frest)), ((adA 16), .inl (gI G, 320, .inl ffactor)), ((adA 17), .inl (gI G, 320, .inl fmade)), ((adA 9), .inl (gI G, 320, .inl fabove)), ((adA 10), .inl (gI G, 320, .inl fbelow))] (fun v w => v = none ∧ w = [(adm, .inr (10, oM adA o_names o_rows o_strength o_most r.1 r.2.1)), ((adA 1), .inl (gI G, 5, .inl fvalues)), ((adA 3), .inl (gI G, 80, .inl fcells)), ((adA 11), .inl (gZ G, 160, .inl r.2.2.1)), ((adA 12), .inl (gI G, 1280, .inl r.2.2.2.1)), ((adA 13), .inl (gI G, 1280, .inl r.2.2.2.2.1)), ((adA 14), .inl (gI G, 320, .inl r.2.2.2.2.2.1)), ((adA 15), .inl (gI G, 320, .inl r.2.2.2.2.2.2.1)), ((adA 6), .inl (gI G, 320, .inl r.2.2.2.2.2.2.2.1)), ((adA 7), .inl (gI G, 320, .inl r.2.2.2.2.2.2.2.2.1)), ((adA 8), .inl (gI G, 320, .inl r.2.2.2.2.2.2.2.2.2.1)), ((adA 16), .inl (gI G, 320, .inl r.2.2.2.2.2.2.2.2.2.2.1)), ((adA 17), .inl (gI G, 320, .inl r.2.2.2.2.2.2.2.2.2.2.2.1)), ((adA 9), .inl (gI G, 320, .inl r.2.2.2.2.2.2.2.2.2.2.2.2.1)), ((adA 10), .inl (gI G, 320, .inl r.2.2.2.2.2.2.2.2.2.2.2.2.2))]) := by
  refine ctr_entry (cc := cX11_tell) (maxL := 2) (ret := none) (lv0 := [(0, .ref adm), (1, .int gr)]) (by decide) rfl (Nat.le_of_ble_eq_true rfl) (rfl) ?_
  intro K hl9 hG9 hk hn9 hrt
  subst hl9
  subst hG9
  have hR9 : RoomGe rm_X11_tell rm_X11_tell := RoomGe.rf
  replace h := id_e h
  rw [em_X11_tell] at h
  refine v_aload_n hk dX11_tell_0 rfl ?_
  refine v_get (C := RX11) (T := TX11) (N := 39) (ci := 10) (v := .int o_toldGraph) hk dX11_tell_1 w2i_X11_tell_X110 0 rfl rfl 24 (by decide) (by decide +kernel) rfl rfl ?_
  refine v_iload_n hk dX11_tell_4 rfl ?_
  refine v_icmp_eq (tgt := 35) hk dX11_tell_5 (by decide) (fun hc => ?_) (fun hc => ?_)
  · replace h := it_t (g := id) h hc
    replace h : some (o_toldGraph, o_toldArc, fisKnown, ftops, flows, fsmall, flarge, fone, ftwo, frest, ffactor, fmade, fabove, fbelow) = some r := h
    replace h := Option.some.inj h
    subst h
    refine hrt (none) _ _ _ _ _ (⟨rfl, rfl⟩) (Nat.zero_le _) (Nat.zero_le _) (dX11_tell_35)
  · replace h := it_f (g := id) h hc
    refine v_aload_n hk dX11_tell_8 rfl ?_
    refine v_iload_n hk dX11_tell_9 rfl ?_
    refine v_aload_n hk dX11_tell_10 rfl ?_
    refine v_get (C := RX11) (T := TX11) (N := 39) (ci := 10) (v := .ref (adA 9)) hk dX11_tell_11 w2i_X11_tell_X110 0 rfl rfl 9 (by decide) (by decide +kernel) rfl rfl ?_
    refine v_aload_n hk dX11_tell_14 rfl ?_
    refine v_get (C := RX11) (T := TX11) (N := 39) (ci := 10) (v := .ref (adA 10)) hk dX11_tell_15 w2i_X11_tell_X110 0 rfl rfl 10 (by decide) (by decide +kernel) rfl rfl ?_
    obtain ⟨r_1, er_1, h⟩ := bd_e (g := id) rfl h
    refine v_callV (n := 3) (st := []) (b := adm) (T := TX11) (N := 39) hk dX11_tell_18 (c_X11_fit (kl K) (kG K) adm adA (adA 9) (adA 10) o_names o_rows o_strength o_most o_toldGraph o_toldArc fvalues fcells fisKnown ftops flows fsmall flarge fone ftwo frest ffactor fmade 320 fabove 320 fbelow gr r_1 er_1) rfl gd_X11_tell_X11_fit rfl (by decide +kernel) (frok hR9 (Nat.le_of_ble_eq_true rfl) (Nat.le_of_ble_eq_true rfl)) (roomk hR9 (Nat.le_of_ble_eq_true rfl) (Nat.le_of_ble_eq_true rfl)) rfl rfl (Nat.le_of_ble_eq_true rfl) 0 rfl rfl [0, 1, 2, 3, 4, 5, 6, 7, 8, 9, 10, 11, 12, 13, 14] [] (wr := []) rfl rfl (by decide) (by decide) (by decide) ?_
    intro v9 w9 hp9
    obtain ⟨rfl, rfl⟩ := hp9
    show V K 2 [(adm, .inr (10, oM adA o_names o_rows o_strength o_most o_toldGraph o_toldArc)), ((adA 1), .inl (gI (kG K), 5, .inl fvalues)), ((adA 3), .inl (gI (kG K), 80, .inl fcells)), ((adA 11), .inl (gZ (kG K), 160, .inl r_1.1)), ((adA 12), .inl (gI (kG K), 1280, .inl r_1.2.1)), ((adA 13), .inl (gI (kG K), 1280, .inl r_1.2.2.1)), ((adA 14), .inl (gI (kG K), 320, .inl r_1.2.2.2.1)), ((adA 15), .inl (gI (kG K), 320, .inl r_1.2.2.2.2.1)), ((adA 6), .inl (gI (kG K), 320, .inl r_1.2.2.2.2.2.1)), ((adA 7), .inl (gI (kG K), 320, .inl r_1.2.2.2.2.2.2.1)), ((adA 8), .inl (gI (kG K), 320, .inl r_1.2.2.2.2.2.2.2.1)), ((adA 16), .inl (gI (kG K), 320, .inl r_1.2.2.2.2.2.2.2.2.1)), ((adA 17), .inl (gI (kG K), 320, .inl r_1.2.2.2.2.2.2.2.2.2.1)), ((adA 9), .inl (gI (kG K), 320, .inl r_1.2.2.2.2.2.2.2.2.2.2.1)), ((adA 10), .inl (gI (kG K), 320, .inl r_1.2.2.2.2.2.2.2.2.2.2.2))] 0 0 21 [(0, .ref adm), (1, .int gr)] []
    refine v_aload_n hk dX11_tell_21 rfl ?_
    obtain ⟨r_2, er_2, h⟩ := bd_e (g := id) rfl h
    refine v_callV (n := 0) (st := []) (b := adm) (T := TX11) (N := 39) hk dX11_tell_22 (c_X11_least (kl K) (kG K) adm adA o_names o_rows o_strength o_most o_toldGraph o_toldArc r_1.2.2.2.2.2.1 r_1.2.2.2.2.2.2.1 r_1.2.2.2.2.2.2.2.1 r_1.2.2.2.2.2.2.2.2.2.2.1 r_1.2.2.2.2.2.2.2.2.2.2.2 r_2 er_2) rfl gd_X11_tell_X11_least rfl (by decide +kernel) (frok hR9 (Nat.le_of_ble_eq_true rfl) (Nat.le_of_ble_eq_true rfl)) (roomk hR9 (Nat.le_of_ble_eq_true rfl) (Nat.le_of_ble_eq_true rfl)) rfl rfl (Nat.le_of_ble_eq_true rfl) 0 rfl rfl [0, 8, 9, 10, 13, 14] [1, 2, 3, 4, 5, 6, 7, 11, 12] (wr := [((adA 1), .inl (gI (kG K), 5, .inl fvalues)), ((adA 3), .inl (gI (kG K), 80, .inl fcells)), ((adA 11), .inl (gZ (kG K), 160, .inl r_1.1)), ((adA 12), .inl (gI (kG K), 1280, .inl r_1.2.1)), ((adA 13), .inl (gI (kG K), 1280, .inl r_1.2.2.1)), ((adA 14), .inl (gI (kG K), 320, .inl r_1.2.2.2.1)), ((adA 15), .inl (gI (kG K), 320, .inl r_1.2.2.2.2.1)), ((adA 16), .inl (gI (kG K), 320, .inl r_1.2.2.2.2.2.2.2.2.1)), ((adA 17), .inl (gI (kG K), 320, .inl r_1.2.2.2.2.2.2.2.2.2.1))]) rfl rfl (by decide) (by decide) (by decide) ?_
    intro v9 w9 hp9
    obtain ⟨rfl, rfl⟩ := hp9
    show V K 2 [((adA 1), .inl (gI (kG K), 5, .inl fvalues)), ((adA 3), .inl (gI (kG K), 80, .inl fcells)), ((adA 11), .inl (gZ (kG K), 160, .inl r_1.1)), ((adA 12), .inl (gI (kG K), 1280, .inl r_1.2.1)), ((adA 13), .inl (gI (kG K), 1280, .inl r_1.2.2.1)), ((adA 14), .inl (gI (kG K), 320, .inl r_1.2.2.2.1)), ((adA 15), .inl (gI (kG K), 320, .inl r_1.2.2.2.2.1)), ((adA 16), .inl (gI (kG K), 320, .inl r_1.2.2.2.2.2.2.2.2.1)), ((adA 17), .inl (gI (kG K), 320, .inl r_1.2.2.2.2.2.2.2.2.2.1)), (adm, .inr (10, oM adA o_names o_rows o_strength o_most o_toldGraph o_toldArc)), ((adA 6), .inl (gI (kG K), 320, .inl r_2.1)), ((adA 7), .inl (gI (kG K), 320, .inl r_2.2.1)), ((adA 8), .inl (gI (kG K), 320, .inl r_2.2.2.1)), ((adA 9), .inl (gI (kG K), 320, .inl r_2.2.2.2.1)), ((adA 10), .inl (gI (kG K), 320, .inl r_2.2.2.2.2))] 0 0 25 [(0, .ref adm), (1, .int gr)] []
    refine v_aload_n hk dX11_tell_25 rfl ?_
    refine v_iload_n hk dX11_tell_26 rfl ?_
    refine v_put (C := RX11) (T := TX11) (N := 39) (ci := 10) (v := .int gr) (ty := .int) hk dX11_tell_27 w2i_X11_tell_X110 tyX11 tyX11_ok nmX11 9 rfl rfl 24 (by decide) (by decide +kernel) rfl rfl (by decide +kernel) rfl rfl (Nat.le_of_ble_eq_true rfl) (ws' := [((adA 1), .inl (gI (kG K), 5, .inl fvalues)), ((adA 3), .inl (gI (kG K), 80, .inl fcells)), ((adA 11), .inl (gZ (kG K), 160, .inl r_1.1)), ((adA 12), .inl (gI (kG K), 1280, .inl r_1.2.1)), ((adA 13), .inl (gI (kG K), 1280, .inl r_1.2.2.1)), ((adA 14), .inl (gI (kG K), 320, .inl r_1.2.2.2.1)), ((adA 15), .inl (gI (kG K), 320, .inl r_1.2.2.2.2.1)), ((adA 16), .inl (gI (kG K), 320, .inl r_1.2.2.2.2.2.2.2.2.1)), ((adA 17), .inl (gI (kG K), 320, .inl r_1.2.2.2.2.2.2.2.2.2.1)), (adm, .inr (10, oM adA o_names o_rows o_strength o_most gr o_toldArc)), ((adA 6), .inl (gI (kG K), 320, .inl r_2.1)), ((adA 7), .inl (gI (kG K), 320, .inl r_2.2.1)), ((adA 8), .inl (gI (kG K), 320, .inl r_2.2.2.1)), ((adA 9), .inl (gI (kG K), 320, .inl r_2.2.2.2.1)), ((adA 10), .inl (gI (kG K), 320, .inl r_2.2.2.2.2))]) rfl ?_
    refine v_aload_n hk dX11_tell_30 rfl ?_
    refine v_iconst (v := (-1)) hk dX11_tell_31 (by decide) ?_
    refine v_put (C := RX11) (T := TX11) (N := 39) (ci := 10) (v := .int (-1)) (ty := .int) hk dX11_tell_32 w2i_X11_tell_X110 tyX11 tyX11_ok nmX11 9 rfl rfl 25 (by decide) (by decide +kernel) rfl rfl (by decide +kernel) rfl rfl (Nat.le_of_ble_eq_true rfl) (ws' := [((adA 1), .inl (gI (kG K), 5, .inl fvalues)), ((adA 3), .inl (gI (kG K), 80, .inl fcells)), ((adA 11), .inl (gZ (kG K), 160, .inl r_1.1)), ((adA 12), .inl (gI (kG K), 1280, .inl r_1.2.1)), ((adA 13), .inl (gI (kG K), 1280, .inl r_1.2.2.1)), ((adA 14), .inl (gI (kG K), 320, .inl r_1.2.2.2.1)), ((adA 15), .inl (gI (kG K), 320, .inl r_1.2.2.2.2.1)), ((adA 16), .inl (gI (kG K), 320, .inl r_1.2.2.2.2.2.2.2.2.1)), ((adA 17), .inl (gI (kG K), 320, .inl r_1.2.2.2.2.2.2.2.2.2.1)), (adm, .inr (10, oM adA o_names o_rows o_strength o_most gr (-1))), ((adA 6), .inl (gI (kG K), 320, .inl r_2.1)), ((adA 7), .inl (gI (kG K), 320, .inl r_2.2.1)), ((adA 8), .inl (gI (kG K), 320, .inl r_2.2.2.1)), ((adA 9), .inl (gI (kG K), 320, .inl r_2.2.2.2.1)), ((adA 10), .inl (gI (kG K), 320, .inl r_2.2.2.2.2))]) rfl ?_
    replace h : some (gr, (-1), r_1.1, r_1.2.1, r_1.2.2.1, r_1.2.2.2.1, r_1.2.2.2.2.1, r_2.1, r_2.2.1, r_2.2.2.1, r_1.2.2.2.2.2.2.2.2.1, r_1.2.2.2.2.2.2.2.2.2.1, r_2.2.2.2.1, r_2.2.2.2.2) = some r := h
    replace h := Option.some.inj h
    subst h
    refine v_perm [9, 0, 1, 2, 3, 4, 5, 6, 10, 11, 12, 7, 8, 13, 14] (ws' := [(adm, .inr (10, oM adA o_names o_rows o_strength o_most gr (-1))), ((adA 1), .inl (gI (kG K), 5, .inl fvalues)), ((adA 3), .inl (gI (kG K), 80, .inl fcells)), ((adA 11), .inl (gZ (kG K), 160, .inl r_1.1)), ((adA 12), .inl (gI (kG K), 1280, .inl r_1.2.1)), ((adA 13), .inl (gI (kG K), 1280, .inl r_1.2.2.1)), ((adA 14), .inl (gI (kG K), 320, .inl r_1.2.2.2.1)), ((adA 15), .inl (gI (kG K), 320, .inl r_1.2.2.2.2.1)), ((adA 6), .inl (gI (kG K), 320, .inl r_2.1)), ((adA 7), .inl (gI (kG K), 320, .inl r_2.2.1)), ((adA 8), .inl (gI (kG K), 320, .inl r_2.2.2.1)), ((adA 16), .inl (gI (kG K), 320, .inl r_1.2.2.2.2.2.2.2.2.1)), ((adA 17), .inl (gI (kG K), 320, .inl r_1.2.2.2.2.2.2.2.2.2.1)), ((adA 9), .inl (gI (kG K), 320, .inl r_2.2.2.2.1)), ((adA 10), .inl (gI (kG K), 320, .inl r_2.2.2.2.2))]) rfl rfl (by decide) ?_
    refine hrt (none) _ _ _ _ _ (⟨rfl, rfl⟩) (Nat.zero_le _) (Nat.zero_le _) (dX11_tell_35)
abbrev rm_X11_wordOf : Room := { frames := 0, cells := 0, slots := 0, locals := 0 }
set_option maxHeartbeats 4000000 in
set_option maxRecDepth 100000 in
theorem c_X11_wordOf (l : Launch) (G : GG) (adm : Nat) (adA : Nat → Nat) (o_names : Int32) (o_rows : Int32) (o_strength : Int32) (o_most : Int32) (o_toldGraph : Int32) (o_toldArc : Int32) (fabove : Nat → Int32) (fbelow : Nat → Int32) (part : Int32) (i : Int32) (r : Int64) (h : m_X11_wordOf o_names o_rows o_strength o_most o_toldGraph o_toldArc fabove fbelow part i = some r) : Ctr l G yX11_wordOf w2_X11_wordOf rm_X11_wordOf [.ref adm, .int part, .int i] [(adm, .inr (10, oM adA o_names o_rows o_strength o_most o_toldGraph o_toldArc)), ((adA 9), .inl (gI G, 320, .inl fabove)), ((adA 10), .inl (gI G, 320, .inl fbelow))] (fun v w => v = some (.long r) ∧ w = [(adm, .inr (10, oM adA o_names o_rows o_strength o_most o_toldGraph o_toldArc)), ((adA 9), .inl (gI G, 320, .inl fabove)), ((adA 10), .inl (gI G, 320, .inl fbelow))]) := by
  refine ctr_entry (cc := cX11_wordOf) (maxL := 4) (ret := some .long) (lv0 := [(0, .ref adm), (1, .int part), (2, .int i)]) (by decide) rfl (Nat.le_of_ble_eq_true rfl) (rfl) ?_
  intro K hl9 hG9 hk hn9 hrt
  subst hl9
  subst hG9
  have hR9 : RoomGe rm_X11_wordOf rm_X11_wordOf := RoomGe.rf
  replace h := id_e h
  rw [em_X11_wordOf] at h
  refine v_iload_n hk dX11_wordOf_0 rfl ?_
  refine v_if_ne (tgt := 11) hk dX11_wordOf_1 (by decide) (fun hc => ?_) (fun hc => ?_)
  · replace h := it_f (g := id) h hc
    refine v_aload_n hk dX11_wordOf_11 rfl ?_
    refine v_get (C := RX11) (T := TX11) (N := 39) (ci := 10) (v := .ref (adA 10)) hk dX11_wordOf_12 w2i_X11_wordOf_X110 0 rfl rfl 10 (by decide) (by decide +kernel) rfl rfl ?_
    refine v_astore_n hk dX11_wordOf_15 rfl (by decide) [1, 2, 3, 0] (lv' := [(0, .ref adm), (1, .int part), (2, .int i), (3, .ref (adA 10))]) rfl ?_
    refine v_iload_n hk dX11_wordOf_16 rfl ?_
    obtain ⟨y_2, ey_2, h⟩ := bd_e (g := id) rfl h
    have Jy_2 : V K 4 [(adm, .inr (10, oM adA o_names o_rows o_strength o_most o_toldGraph o_toldArc)), ((adA 9), .inl (gI (kG K), 320, .inl fabove)), ((adA 10), .inl (gI (kG K), 320, .inl fbelow))] 0 0 43 [(0, .ref adm), (1, .int part), (2, .int i), (3, .ref (adA 10))] [.long y_2] := by
      replace h : some y_2 = some r := h
      replace h := Option.some.inj h
      subst h
      refine hrt (some (.long y_2)) _ _ _ _ _ (⟨rfl, rfl⟩) (Nat.zero_le _) (Nat.zero_le _) (dX11_wordOf_43)
    clear h
    have h := id_e ey_2
    clear ey_2
    refine v_if_lt (tgt := 27) hk dX11_wordOf_17 (by decide) (fun hc => ?_) (fun hc => ?_)
    · replace h := it_t (g := id) h hc
      refine v_ldc2 (v := (-1)) hk dX11_wordOf_27 (by decide +kernel) ?_
      refine v_goto (tgt := 43) hk dX11_wordOf_30 (by decide) ?_
      replace h : some ((-1) : Int64) = some y_2 := h
      replace h := Option.some.inj h
      subst h
      exact Jy_2
    · replace h := it_f (g := id) h hc
      refine v_iload_n hk dX11_wordOf_20 rfl ?_
      refine v_aload_n hk dX11_wordOf_21 rfl ?_
      refine v_iconst (v := 0) hk dX11_wordOf_22 (by decide) ?_
      obtain ⟨hi, h⟩ := ok_e (g := id) rfl h
      refine v_ialdV hk dX11_wordOf_23 2 rfl (ix_in hi) ?_
      obtain ⟨y_3, ey_3, h⟩ := bd_e (g := id) rfl h
      have Jy_3 : V K 4 [(adm, .inr (10, oM adA o_names o_rows o_strength o_most o_toldGraph o_toldArc)), ((adA 9), .inl (gI (kG K), 320, .inl fabove)), ((adA 10), .inl (gI (kG K), 320, .inl fbelow))] 0 0 43 [(0, .ref adm), (1, .int part), (2, .int i), (3, .ref (adA 10))] [.long y_3] := by
        replace h : some (y_3 : Int64) = some y_2 := h
        replace h := Option.some.inj h
        subst h
        exact Jy_2
      clear h
      have h := id_e ey_3
      clear ey_3
      refine v_icmp_lt (tgt := 33) hk dX11_wordOf_24 (by decide) (fun hc => ?_) (fun hc => ?_)
      · replace h := it_t (g := id) h hc
        refine v_aload_n hk dX11_wordOf_33 rfl ?_
        refine v_iconst (v := 1) hk dX11_wordOf_34 (by decide) ?_
        refine v_iload_n hk dX11_wordOf_35 rfl ?_
        refine v_iadd hk dX11_wordOf_36 ?_
        obtain ⟨hi, h⟩ := ok_e (g := id) rfl h
        refine v_ialdV hk dX11_wordOf_37 2 rfl (ix_in hi) ?_
        refine v_i2l hk dX11_wordOf_38 ?_
        refine v_ldc2 (v := 4294967295) hk dX11_wordOf_39 (by decide +kernel) ?_
        refine v_land hk dX11_wordOf_42 ?_
        replace h : some (((fbelow (1 + i).toNatClampNeg).toInt64) &&& 4294967295 : Int64) = some y_3 := h
        replace h := Option.some.inj h
        subst h
        exact Jy_3
      · replace h := it_f (g := id) h hc
        refine v_ldc2 (v := (-1)) hk dX11_wordOf_27 (by decide +kernel) ?_
        refine v_goto (tgt := 43) hk dX11_wordOf_30 (by decide) ?_
        replace h : some ((-1) : Int64) = some y_3 := h
        replace h := Option.some.inj h
        subst h
        exact Jy_3
  · replace h := it_t (g := id) h hc
    refine v_aload_n hk dX11_wordOf_4 rfl ?_
    refine v_get (C := RX11) (T := TX11) (N := 39) (ci := 10) (v := .ref (adA 9)) hk dX11_wordOf_5 w2i_X11_wordOf_X110 0 rfl rfl 9 (by decide) (by decide +kernel) rfl rfl ?_
    refine v_goto (tgt := 15) hk dX11_wordOf_8 (by decide) ?_
    refine v_astore_n hk dX11_wordOf_15 rfl (by decide) [1, 2, 3, 0] (lv' := [(0, .ref adm), (1, .int part), (2, .int i), (3, .ref (adA 9))]) rfl ?_
    refine v_iload_n hk dX11_wordOf_16 rfl ?_
    obtain ⟨y_4, ey_4, h⟩ := bd_e (g := id) rfl h
    have Jy_4 : V K 4 [(adm, .inr (10, oM adA o_names o_rows o_strength o_most o_toldGraph o_toldArc)), ((adA 9), .inl (gI (kG K), 320, .inl fabove)), ((adA 10), .inl (gI (kG K), 320, .inl fbelow))] 0 0 43 [(0, .ref adm), (1, .int part), (2, .int i), (3, .ref (adA 9))] [.long y_4] := by
      replace h : some y_4 = some r := h
      replace h := Option.some.inj h
      subst h
      refine hrt (some (.long y_4)) _ _ _ _ _ (⟨rfl, rfl⟩) (Nat.zero_le _) (Nat.zero_le _) (dX11_wordOf_43)
    clear h
    have h := id_e ey_4
    clear ey_4
    refine v_if_lt (tgt := 27) hk dX11_wordOf_17 (by decide) (fun hc => ?_) (fun hc => ?_)
    · replace h := it_t (g := id) h hc
      refine v_ldc2 (v := (-1)) hk dX11_wordOf_27 (by decide +kernel) ?_
      refine v_goto (tgt := 43) hk dX11_wordOf_30 (by decide) ?_
      replace h : some ((-1) : Int64) = some y_4 := h
      replace h := Option.some.inj h
      subst h
      exact Jy_4
    · replace h := it_f (g := id) h hc
      refine v_iload_n hk dX11_wordOf_20 rfl ?_
      refine v_aload_n hk dX11_wordOf_21 rfl ?_
      refine v_iconst (v := 0) hk dX11_wordOf_22 (by decide) ?_
      obtain ⟨hi, h⟩ := ok_e (g := id) rfl h
      refine v_ialdV hk dX11_wordOf_23 1 rfl (ix_in hi) ?_
      obtain ⟨y_5, ey_5, h⟩ := bd_e (g := id) rfl h
      have Jy_5 : V K 4 [(adm, .inr (10, oM adA o_names o_rows o_strength o_most o_toldGraph o_toldArc)), ((adA 9), .inl (gI (kG K), 320, .inl fabove)), ((adA 10), .inl (gI (kG K), 320, .inl fbelow))] 0 0 43 [(0, .ref adm), (1, .int part), (2, .int i), (3, .ref (adA 9))] [.long y_5] := by
        replace h : some (y_5 : Int64) = some y_4 := h
        replace h := Option.some.inj h
        subst h
        exact Jy_4
      clear h
      have h := id_e ey_5
      clear ey_5
      refine v_icmp_lt (tgt := 33) hk dX11_wordOf_24 (by decide) (fun hc => ?_) (fun hc => ?_)
      · replace h := it_t (g := id) h hc
        refine v_aload_n hk dX11_wordOf_33 rfl ?_
        refine v_iconst (v := 1) hk dX11_wordOf_34 (by decide) ?_
        refine v_iload_n hk dX11_wordOf_35 rfl ?_
        refine v_iadd hk dX11_wordOf_36 ?_
        obtain ⟨hi, h⟩ := ok_e (g := id) rfl h
        refine v_ialdV hk dX11_wordOf_37 1 rfl (ix_in hi) ?_
        refine v_i2l hk dX11_wordOf_38 ?_
        refine v_ldc2 (v := 4294967295) hk dX11_wordOf_39 (by decide +kernel) ?_
        refine v_land hk dX11_wordOf_42 ?_
        replace h : some (((fabove (1 + i).toNatClampNeg).toInt64) &&& 4294967295 : Int64) = some y_5 := h
        replace h := Option.some.inj h
        subst h
        exact Jy_5
      · replace h := it_f (g := id) h hc
        refine v_ldc2 (v := (-1)) hk dX11_wordOf_27 (by decide +kernel) ?_
        refine v_goto (tgt := 43) hk dX11_wordOf_30 (by decide) ?_
        replace h : some ((-1) : Int64) = some y_5 := h
        replace h := Option.some.inj h
        subst h
        exact Jy_5
abbrev rm_X11_size : Room := { frames := 6, cells := 0, slots := 0, locals := 143 }
set_option maxHeartbeats 4000000 in
set_option maxRecDepth 100000 in
theorem c_X11_size (l : Launch) (G : GG) (adm : Nat) (adA : Nat → Nat) (o_names : Int32) (o_rows : Int32) (o_strength : Int32) (o_most : Int32) (o_toldGraph : Int32) (o_toldArc : Int32) (fvalues : Nat → Int32) (fcells : Nat → Int32) (fisKnown : Nat → Int32) (ftops : Nat → Int32) (flows : Nat → Int32) (fsmall : Nat → Int32) (flarge : Nat → Int32) (fone : Nat → Int32) (ftwo : Nat → Int32) (frest : Nat → Int32) (ffactor : Nat → Int32) (fmade : Nat → Int32) (fabove : Nat → Int32) (fbelow : Nat → Int32) (gr : Int32) (part : Int32) (r : Int32 × Int32 × Int32 × (Nat → Int32) × (Nat → Int32) × (Nat → Int32) × (Nat → Int32) × (Nat → Int32) × (Nat → Int32) × (Nat → Int32) × (Nat → Int32) × (Nat → Int32) × (Nat → Int32) × (Nat → Int32) × (Nat → Int32)) (h : m_X11_size o_names o_rows o_strength o_most o_toldGraph o_toldArc fvalues fcells fisKnown ftops flows fsmall flarge fone ftwo frest ffactor fmade fabove fbelow gr part = some r) : Ctr l G yX11_size w2_X11_size rm_X11_size [.ref adm, .int gr, .int part] [(adm, .inr (10, oM adA o_names o_rows o_strength o_most o_toldGraph o_toldArc)), ((adA 1), .inl (gI G, 5, .inl fvalues)), ((adA 3), .inl (gI G, 80, .inl fcells)), ((adA 11), .inl (gZ G, 160, .inl fisKnown)), ((adA 12), .inl (gI G, 1280, .inl ftops)), ((adA 13), .inl (gI G, 1280, .inl flows)), ((adA 14), .inl (gI G, 320, .inl fsmall)), ((adA 15), .inl (gI G, 320, .inl flarge)), ((adA 6), .inl (gI G, 320, .inl fone)), ((adA 7), .inl (gI G, 320, .inl ftwo)), ((adA 8), .inl (gI G, 320, .inl frest)), ((adA 16), .inl (gI G, 320, .inl ffactor)), ((adA 17), .inl (gI G, 320, .inl fmade)), ((adA 9), .inl (gI G, 320, .inl fabove)), ((adA 10), .inl (gI G, 320, .inl fbelow))] (fun v w => v = some (.int r.1) ∧ w = [(adm, .inr (10, oM adA o_names o_rows o_strength o_most r.2.1 r.2.2.1)), ((adA 1), .inl (gI G, 5, .inl fvalues)), ((adA 3), .inl (gI G, 80, .inl fcells)), ((adA 11), .inl (gZ G, 160, .inl r.2.2.2.1)), ((adA 12), .inl (gI G, 1280, .inl r.2.2.2.2.1)), ((adA 13), .inl (gI G, 1280, .inl r.2.2.2.2.2.1)), ((adA 14), .inl (gI G, 320, .inl r.2.2.2.2.2.2.1)), ((adA 15), .inl (gI G, 320, .inl r.2.2.2.2.2.2.2.1)), ((adA 6), .inl (gI G, 320, .inl r.2.2.2.2.2.2.2.2.1)), ((adA 7), .inl (gI G, 320, .inl r.2.2.2.2.2.2.2.2.2.1)), ((adA 8), .inl (gI G, 320, .inl r.2.2.2.2.2.2.2.2.2.2.1)), ((adA 16), .inl (gI G, 320, .inl r.2.2.2.2.2.2.2.2.2.2.2.1)), ((adA 17), .inl (gI G, 320, .inl r.2.2.2.2.2.2.2.2.2.2.2.2.1)), ((adA 9), .inl (gI G, 320, .inl r.2.2.2.2.2.2.2.2.2.2.2.2.2.1)), ((adA 10), .inl (gI G, 320, .inl r.2.2.2.2.2.2.2.2.2.2.2.2.2.2))]) := by
  refine ctr_entry (cc := cX11_size) (maxL := 3) (ret := some .int) (lv0 := [(0, .ref adm), (1, .int gr), (2, .int part)]) (by decide) rfl (Nat.le_of_ble_eq_true rfl) (rfl) ?_
  intro K hl9 hG9 hk hn9 hrt
  subst hl9
  subst hG9
  have hR9 : RoomGe rm_X11_size rm_X11_size := RoomGe.rf
  replace h := id_e h
  rw [em_X11_size] at h
  refine v_aload_n hk dX11_size_0 rfl ?_
  refine v_iload_n hk dX11_size_1 rfl ?_
  obtain ⟨r_1, er_1, h⟩ := bd_e (g := id) rfl h
  refine v_callV (n := 1) (st := []) (b := adm) (T := TX11) (N := 39) hk dX11_size_2 (c_X11_isGraph (kl K) (kG K) adm adA o_names o_rows o_strength o_most o_toldGraph o_toldArc gr r_1 er_1) rfl gd_X11_size_X11_isGraph rfl (by decide +kernel) (frok hR9 (Nat.le_of_ble_eq_true rfl) (Nat.le_of_ble_eq_true rfl)) (roomk hR9 (Nat.le_of_ble_eq_true rfl) (Nat.le_of_ble_eq_true rfl)) rfl rfl (Nat.le_of_ble_eq_true rfl) 0 rfl rfl [0] [1, 2, 3, 4, 5, 6, 7, 8, 9, 10, 11, 12, 13, 14] (wr := [((adA 1), .inl (gI (kG K), 5, .inl fvalues)), ((adA 3), .inl (gI (kG K), 80, .inl fcells)), ((adA 11), .inl (gZ (kG K), 160, .inl fisKnown)), ((adA 12), .inl (gI (kG K), 1280, .inl ftops)), ((adA 13), .inl (gI (kG K), 1280, .inl flows)), ((adA 14), .inl (gI (kG K), 320, .inl fsmall)), ((adA 15), .inl (gI (kG K), 320, .inl flarge)), ((adA 6), .inl (gI (kG K), 320, .inl fone)), ((adA 7), .inl (gI (kG K), 320, .inl ftwo)), ((adA 8), .inl (gI (kG K), 320, .inl frest)), ((adA 16), .inl (gI (kG K), 320, .inl ffactor)), ((adA 17), .inl (gI (kG K), 320, .inl fmade)), ((adA 9), .inl (gI (kG K), 320, .inl fabove)), ((adA 10), .inl (gI (kG K), 320, .inl fbelow))]) rfl rfl (by decide) (by decide) (by decide) ?_
  intro v9 w9 hp9
  obtain ⟨rfl, rfl⟩ := hp9
  show V K 3 [((adA 1), .inl (gI (kG K), 5, .inl fvalues)), ((adA 3), .inl (gI (kG K), 80, .inl fcells)), ((adA 11), .inl (gZ (kG K), 160, .inl fisKnown)), ((adA 12), .inl (gI (kG K), 1280, .inl ftops)), ((adA 13), .inl (gI (kG K), 1280, .inl flows)), ((adA 14), .inl (gI (kG K), 320, .inl fsmall)), ((adA 15), .inl (gI (kG K), 320, .inl flarge)), ((adA 6), .inl (gI (kG K), 320, .inl fone)), ((adA 7), .inl (gI (kG K), 320, .inl ftwo)), ((adA 8), .inl (gI (kG K), 320, .inl frest)), ((adA 16), .inl (gI (kG K), 320, .inl ffactor)), ((adA 17), .inl (gI (kG K), 320, .inl fmade)), ((adA 9), .inl (gI (kG K), 320, .inl fabove)), ((adA 10), .inl (gI (kG K), 320, .inl fbelow)), (adm, .inr (10, oM adA o_names o_rows o_strength o_most o_toldGraph o_toldArc))] 0 0 5 [(0, .ref adm), (1, .int gr), (2, .int part)] [.int r_1]
  refine v_if_eq (tgt := 15) hk dX11_size_5 (by decide) (fun hc => ?_) (fun hc => ?_)
  · replace h := it_t (g := id) h hc
    refine v_iconst (v := (-1)) hk dX11_size_15 (by decide) ?_
    replace h : some ((-1), o_toldGraph, o_toldArc, fisKnown, ftops, flows, fsmall, flarge, fone, ftwo, frest, ffactor, fmade, fabove, fbelow) = some r := h
    replace h := Option.some.inj h
    subst h
    refine v_perm [14, 0, 1, 2, 3, 4, 5, 6, 7, 8, 9, 10, 11, 12, 13] (ws' := [(adm, .inr (10, oM adA o_names o_rows o_strength o_most o_toldGraph o_toldArc)), ((adA 1), .inl (gI (kG K), 5, .inl fvalues)), ((adA 3), .inl (gI (kG K), 80, .inl fcells)), ((adA 11), .inl (gZ (kG K), 160, .inl fisKnown)), ((adA 12), .inl (gI (kG K), 1280, .inl ftops)), ((adA 13), .inl (gI (kG K), 1280, .inl flows)), ((adA 14), .inl (gI (kG K), 320, .inl fsmall)), ((adA 15), .inl (gI (kG K), 320, .inl flarge)), ((adA 6), .inl (gI (kG K), 320, .inl fone)), ((adA 7), .inl (gI (kG K), 320, .inl ftwo)), ((adA 8), .inl (gI (kG K), 320, .inl frest)), ((adA 16), .inl (gI (kG K), 320, .inl ffactor)), ((adA 17), .inl (gI (kG K), 320, .inl fmade)), ((adA 9), .inl (gI (kG K), 320, .inl fabove)), ((adA 10), .inl (gI (kG K), 320, .inl fbelow))]) rfl rfl (by decide) ?_
    refine hrt (some (.int (-1))) _ _ _ _ _ (⟨rfl, rfl⟩) (Nat.zero_le _) (Nat.zero_le _) (dX11_size_16)
  · replace h := it_f (g := id) h hc
    refine v_iload_n hk dX11_size_8 rfl ?_
    obtain ⟨r_2, er_2, h⟩ := bd_e (g := id) rfl h
    refine v_callS (n := 1) (st := []) hk dX11_size_9 (c_X11_isPart (kl K) (kG K) part r_2 er_2) gd_X11_size_X11_isPart rfl (by decide +kernel) (frok hR9 (Nat.le_of_ble_eq_true rfl) (Nat.le_of_ble_eq_true rfl)) (roomk hR9 (Nat.le_of_ble_eq_true rfl) (Nat.le_of_ble_eq_true rfl)) rfl rfl (Nat.le_of_ble_eq_true rfl) [] [0, 1, 2, 3, 4, 5, 6, 7, 8, 9, 10, 11, 12, 13, 14] (wr := [((adA 1), .inl (gI (kG K), 5, .inl fvalues)), ((adA 3), .inl (gI (kG K), 80, .inl fcells)), ((adA 11), .inl (gZ (kG K), 160, .inl fisKnown)), ((adA 12), .inl (gI (kG K), 1280, .inl ftops)), ((adA 13), .inl (gI (kG K), 1280, .inl flows)), ((adA 14), .inl (gI (kG K), 320, .inl fsmall)), ((adA 15), .inl (gI (kG K), 320, .inl flarge)), ((adA 6), .inl (gI (kG K), 320, .inl fone)), ((adA 7), .inl (gI (kG K), 320, .inl ftwo)), ((adA 8), .inl (gI (kG K), 320, .inl frest)), ((adA 16), .inl (gI (kG K), 320, .inl ffactor)), ((adA 17), .inl (gI (kG K), 320, .inl fmade)), ((adA 9), .inl (gI (kG K), 320, .inl fabove)), ((adA 10), .inl (gI (kG K), 320, .inl fbelow)), (adm, .inr (10, oM adA o_names o_rows o_strength o_most o_toldGraph o_toldArc))]) rfl rfl (by decide) (by decide) (by decide) ?_
    intro v9 w9 hp9
    obtain ⟨rfl, rfl⟩ := hp9
    show V K 3 [((adA 1), .inl (gI (kG K), 5, .inl fvalues)), ((adA 3), .inl (gI (kG K), 80, .inl fcells)), ((adA 11), .inl (gZ (kG K), 160, .inl fisKnown)), ((adA 12), .inl (gI (kG K), 1280, .inl ftops)), ((adA 13), .inl (gI (kG K), 1280, .inl flows)), ((adA 14), .inl (gI (kG K), 320, .inl fsmall)), ((adA 15), .inl (gI (kG K), 320, .inl flarge)), ((adA 6), .inl (gI (kG K), 320, .inl fone)), ((adA 7), .inl (gI (kG K), 320, .inl ftwo)), ((adA 8), .inl (gI (kG K), 320, .inl frest)), ((adA 16), .inl (gI (kG K), 320, .inl ffactor)), ((adA 17), .inl (gI (kG K), 320, .inl fmade)), ((adA 9), .inl (gI (kG K), 320, .inl fabove)), ((adA 10), .inl (gI (kG K), 320, .inl fbelow)), (adm, .inr (10, oM adA o_names o_rows o_strength o_most o_toldGraph o_toldArc))] 0 0 12 [(0, .ref adm), (1, .int gr), (2, .int part)] [.int r_2]
    refine v_if_ne (tgt := 17) hk dX11_size_12 (by decide) (fun hc => ?_) (fun hc => ?_)
    · replace h := it_f (g := id) h hc
      refine v_aload_n hk dX11_size_17 rfl ?_
      refine v_iload_n hk dX11_size_18 rfl ?_
      obtain ⟨r_3, er_3, h⟩ := bd_e (g := id) rfl h
      refine v_callV (n := 1) (st := []) (b := adm) (T := TX11) (N := 39) hk dX11_size_19 (c_X11_tell (kl K) (kG K) adm adA o_names o_rows o_strength o_most o_toldGraph o_toldArc fvalues fcells fisKnown ftops flows fsmall flarge fone ftwo frest ffactor fmade fabove fbelow gr r_3 er_3) rfl gd_X11_size_X11_tell rfl (by decide +kernel) (frok hR9 (Nat.le_of_ble_eq_true rfl) (Nat.le_of_ble_eq_true rfl)) (roomk hR9 (Nat.le_of_ble_eq_true rfl) (Nat.le_of_ble_eq_true rfl)) rfl rfl (Nat.le_of_ble_eq_true rfl) 14 rfl rfl [14, 0, 1, 2, 3, 4, 5, 6, 7, 8, 9, 10, 11, 12, 13] [] (wr := []) rfl rfl (by decide) (by decide) (by decide) ?_
      intro v9 w9 hp9
      obtain ⟨rfl, rfl⟩ := hp9
      show V K 3 [(adm, .inr (10, oM adA o_names o_rows o_strength o_most r_3.1 r_3.2.1)), ((adA 1), .inl (gI (kG K), 5, .inl fvalues)), ((adA 3), .inl (gI (kG K), 80, .inl fcells)), ((adA 11), .inl (gZ (kG K), 160, .inl r_3.2.2.1)), ((adA 12), .inl (gI (kG K), 1280, .inl r_3.2.2.2.1)), ((adA 13), .inl (gI (kG K), 1280, .inl r_3.2.2.2.2.1)), ((adA 14), .inl (gI (kG K), 320, .inl r_3.2.2.2.2.2.1)), ((adA 15), .inl (gI (kG K), 320, .inl r_3.2.2.2.2.2.2.1)), ((adA 6), .inl (gI (kG K), 320, .inl r_3.2.2.2.2.2.2.2.1)), ((adA 7), .inl (gI (kG K), 320, .inl r_3.2.2.2.2.2.2.2.2.1)), ((adA 8), .inl (gI (kG K), 320, .inl r_3.2.2.2.2.2.2.2.2.2.1)), ((adA 16), .inl (gI (kG K), 320, .inl r_3.2.2.2.2.2.2.2.2.2.2.1)), ((adA 17), .inl (gI (kG K), 320, .inl r_3.2.2.2.2.2.2.2.2.2.2.2.1)), ((adA 9), .inl (gI (kG K), 320, .inl r_3.2.2.2.2.2.2.2.2.2.2.2.2.1)), ((adA 10), .inl (gI (kG K), 320, .inl r_3.2.2.2.2.2.2.2.2.2.2.2.2.2))] 0 0 22 [(0, .ref adm), (1, .int gr), (2, .int part)] []
      refine v_iload_n hk dX11_size_22 rfl ?_
      obtain ⟨y_4, ey_4, h⟩ := bd_e (g := id) rfl h
      have Jy_4 : V K 3 [(adm, .inr (10, oM adA o_names o_rows o_strength o_most r_3.1 r_3.2.1)), ((adA 1), .inl (gI (kG K), 5, .inl fvalues)), ((adA 3), .inl (gI (kG K), 80, .inl fcells)), ((adA 11), .inl (gZ (kG K), 160, .inl r_3.2.2.1)), ((adA 12), .inl (gI (kG K), 1280, .inl r_3.2.2.2.1)), ((adA 13), .inl (gI (kG K), 1280, .inl r_3.2.2.2.2.1)), ((adA 14), .inl (gI (kG K), 320, .inl r_3.2.2.2.2.2.1)), ((adA 15), .inl (gI (kG K), 320, .inl r_3.2.2.2.2.2.2.1)), ((adA 6), .inl (gI (kG K), 320, .inl r_3.2.2.2.2.2.2.2.1)), ((adA 7), .inl (gI (kG K), 320, .inl r_3.2.2.2.2.2.2.2.2.1)), ((adA 8), .inl (gI (kG K), 320, .inl r_3.2.2.2.2.2.2.2.2.2.1)), ((adA 16), .inl (gI (kG K), 320, .inl r_3.2.2.2.2.2.2.2.2.2.2.1)), ((adA 17), .inl (gI (kG K), 320, .inl r_3.2.2.2.2.2.2.2.2.2.2.2.1)), ((adA 9), .inl (gI (kG K), 320, .inl r_3.2.2.2.2.2.2.2.2.2.2.2.2.1)), ((adA 10), .inl (gI (kG K), 320, .inl r_3.2.2.2.2.2.2.2.2.2.2.2.2.2))] 0 0 41 [(0, .ref adm), (1, .int gr), (2, .int part)] [.int y_4] := by
        replace h : some (y_4, r_3.1, r_3.2.1, r_3.2.2.1, r_3.2.2.2.1, r_3.2.2.2.2.1, r_3.2.2.2.2.2.1, r_3.2.2.2.2.2.2.1, r_3.2.2.2.2.2.2.2.1, r_3.2.2.2.2.2.2.2.2.1, r_3.2.2.2.2.2.2.2.2.2.1, r_3.2.2.2.2.2.2.2.2.2.2.1, r_3.2.2.2.2.2.2.2.2.2.2.2.1, r_3.2.2.2.2.2.2.2.2.2.2.2.2.1, r_3.2.2.2.2.2.2.2.2.2.2.2.2.2) = some r := h
        replace h := Option.some.inj h
        subst h
        refine hrt (some (.int y_4)) _ _ _ _ _ (⟨rfl, rfl⟩) (Nat.zero_le _) (Nat.zero_le _) (dX11_size_41)
      clear h
      have h := id_e ey_4
      clear ey_4
      refine v_if_ne (tgt := 35) hk dX11_size_23 (by decide) (fun hc => ?_) (fun hc => ?_)
      · replace h := it_f (g := id) h hc
        refine v_aload_n hk dX11_size_35 rfl ?_
        refine v_get (C := RX11) (T := TX11) (N := 39) (ci := 10) (v := .ref (adA 10)) hk dX11_size_36 w2i_X11_size_X110 0 rfl rfl 10 (by decide) (by decide +kernel) rfl rfl ?_
        refine v_iconst (v := 0) hk dX11_size_39 (by decide) ?_
        obtain ⟨hi, h⟩ := ok_e (g := id) rfl h
        refine v_ialdV hk dX11_size_40 14 rfl (ix_in hi) ?_
        replace h : some (r_3.2.2.2.2.2.2.2.2.2.2.2.2.2 (0 : Int32).toNatClampNeg : Int32) = some y_4 := h
        replace h := Option.some.inj h
        subst h
        exact Jy_4
      · replace h := it_t (g := id) h hc
        refine v_aload_n hk dX11_size_26 rfl ?_
        refine v_get (C := RX11) (T := TX11) (N := 39) (ci := 10) (v := .ref (adA 9)) hk dX11_size_27 w2i_X11_size_X110 0 rfl rfl 9 (by decide) (by decide +kernel) rfl rfl ?_
        refine v_iconst (v := 0) hk dX11_size_30 (by decide) ?_
        obtain ⟨hi, h⟩ := ok_e (g := id) rfl h
        refine v_ialdV hk dX11_size_31 13 rfl (ix_in hi) ?_
        refine v_goto (tgt := 41) hk dX11_size_32 (by decide) ?_
        replace h : some (r_3.2.2.2.2.2.2.2.2.2.2.2.2.1 (0 : Int32).toNatClampNeg : Int32) = some y_4 := h
        replace h := Option.some.inj h
        subst h
        exact Jy_4
    · replace h := it_t (g := id) h hc
      refine v_iconst (v := (-1)) hk dX11_size_15 (by decide) ?_
      replace h : some ((-1), o_toldGraph, o_toldArc, fisKnown, ftops, flows, fsmall, flarge, fone, ftwo, frest, ffactor, fmade, fabove, fbelow) = some r := h
      replace h := Option.some.inj h
      subst h
      refine v_perm [14, 0, 1, 2, 3, 4, 5, 6, 7, 8, 9, 10, 11, 12, 13] (ws' := [(adm, .inr (10, oM adA o_names o_rows o_strength o_most o_toldGraph o_toldArc)), ((adA 1), .inl (gI (kG K), 5, .inl fvalues)), ((adA 3), .inl (gI (kG K), 80, .inl fcells)), ((adA 11), .inl (gZ (kG K), 160, .inl fisKnown)), ((adA 12), .inl (gI (kG K), 1280, .inl ftops)), ((adA 13), .inl (gI (kG K), 1280, .inl flows)), ((adA 14), .inl (gI (kG K), 320, .inl fsmall)), ((adA 15), .inl (gI (kG K), 320, .inl flarge)), ((adA 6), .inl (gI (kG K), 320, .inl fone)), ((adA 7), .inl (gI (kG K), 320, .inl ftwo)), ((adA 8), .inl (gI (kG K), 320, .inl frest)), ((adA 16), .inl (gI (kG K), 320, .inl ffactor)), ((adA 17), .inl (gI (kG K), 320, .inl fmade)), ((adA 9), .inl (gI (kG K), 320, .inl fabove)), ((adA 10), .inl (gI (kG K), 320, .inl fbelow))]) rfl rfl (by decide) ?_
      refine hrt (some (.int (-1))) _ _ _ _ _ (⟨rfl, rfl⟩) (Nat.zero_le _) (Nat.zero_le _) (dX11_size_16)
abbrev rm_X11_word : Room := { frames := 6, cells := 0, slots := 0, locals := 143 }
set_option maxHeartbeats 4000000 in
set_option maxRecDepth 100000 in
theorem c_X11_word (l : Launch) (G : GG) (adm : Nat) (adA : Nat → Nat) (o_names : Int32) (o_rows : Int32) (o_strength : Int32) (o_most : Int32) (o_toldGraph : Int32) (o_toldArc : Int32) (fvalues : Nat → Int32) (fcells : Nat → Int32) (fisKnown : Nat → Int32) (ftops : Nat → Int32) (flows : Nat → Int32) (fsmall : Nat → Int32) (flarge : Nat → Int32) (fone : Nat → Int32) (ftwo : Nat → Int32) (frest : Nat → Int32) (ffactor : Nat → Int32) (fmade : Nat → Int32) (fabove : Nat → Int32) (fbelow : Nat → Int32) (gr : Int32) (part : Int32) (i : Int32) (r : Int64 × Int32 × Int32 × (Nat → Int32) × (Nat → Int32) × (Nat → Int32) × (Nat → Int32) × (Nat → Int32) × (Nat → Int32) × (Nat → Int32) × (Nat → Int32) × (Nat → Int32) × (Nat → Int32) × (Nat → Int32) × (Nat → Int32)) (h : m_X11_word o_names o_rows o_strength o_most o_toldGraph o_toldArc fvalues fcells fisKnown ftops flows fsmall flarge fone ftwo frest ffactor fmade fabove fbelow gr part i = some r) : Ctr l G yX11_word w2_X11_word rm_X11_word [.ref adm, .int gr, .int part, .int i] [(adm, .inr (10, oM adA o_names o_rows o_strength o_most o_toldGraph o_toldArc)), ((adA 1), .inl (gI G, 5, .inl fvalues)), ((adA 3), .inl (gI G, 80, .inl fcells)), ((adA 11), .inl (gZ G, 160, .inl fisKnown)), ((adA 12), .inl (gI G, 1280, .inl ftops)), ((adA 13), .inl (gI G, 1280, .inl flows)), ((adA 14), .inl (gI G, 320, .inl fsmall)), ((adA 15), .inl (gI G, 320, .inl flarge)), ((adA 6), .inl (gI G, 320, .inl fone)), ((adA 7), .inl (gI G, 320, .inl ftwo)), ((adA 8), .inl (gI G, 320, .inl frest)), ((adA 16), .inl (gI G, 320, .inl ffactor)), ((adA 17), .inl (gI G, 320, .inl fmade)), ((adA 9), .inl (gI G, 320, .inl fabove)), ((adA 10), .inl (gI G, 320, .inl fbelow))] (fun v w => v = some (.long r.1) ∧ w = [(adm, .inr (10, oM adA o_names o_rows o_strength o_most r.2.1 r.2.2.1)), ((adA 1), .inl (gI G, 5, .inl fvalues)), ((adA 3), .inl (gI G, 80, .inl fcells)), ((adA 11), .inl (gZ G, 160, .inl r.2.2.2.1)), ((adA 12), .inl (gI G, 1280, .inl r.2.2.2.2.1)), ((adA 13), .inl (gI G, 1280, .inl r.2.2.2.2.2.1)), ((adA 14), .inl (gI G, 320, .inl r.2.2.2.2.2.2.1)), ((adA 15), .inl (gI G, 320, .inl r.2.2.2.2.2.2.2.1)), ((adA 6), .inl (gI G, 320, .inl r.2.2.2.2.2.2.2.2.1)), ((adA 7), .inl (gI G, 320, .inl r.2.2.2.2.2.2.2.2.2.1)), ((adA 8), .inl (gI G, 320, .inl r.2.2.2.2.2.2.2.2.2.2.1)), ((adA 16), .inl (gI G, 320, .inl r.2.2.2.2.2.2.2.2.2.2.2.1)), ((adA 17), .inl (gI G, 320, .inl r.2.2.2.2.2.2.2.2.2.2.2.2.1)), ((adA 9), .inl (gI G, 320, .inl r.2.2.2.2.2.2.2.2.2.2.2.2.2.1)), ((adA 10), .inl (gI G, 320, .inl r.2.2.2.2.2.2.2.2.2.2.2.2.2.2))]) := by
  refine ctr_entry (cc := cX11_word) (maxL := 4) (ret := some .long) (lv0 := [(0, .ref adm), (1, .int gr), (2, .int part), (3, .int i)]) (by decide) rfl (Nat.le_of_ble_eq_true rfl) (rfl) ?_
  intro K hl9 hG9 hk hn9 hrt
  subst hl9
  subst hG9
  have hR9 : RoomGe rm_X11_word rm_X11_word := RoomGe.rf
  replace h := id_e h
  rw [em_X11_word] at h
  refine v_aload_n hk dX11_word_0 rfl ?_
  refine v_iload_n hk dX11_word_1 rfl ?_
  obtain ⟨r_1, er_1, h⟩ := bd_e (g := id) rfl h
  refine v_callV (n := 1) (st := []) (b := adm) (T := TX11) (N := 39) hk dX11_word_2 (c_X11_isGraph (kl K) (kG K) adm adA o_names o_rows o_strength o_most o_toldGraph o_toldArc gr r_1 er_1) rfl gd_X11_word_X11_isGraph rfl (by decide +kernel) (frok hR9 (Nat.le_of_ble_eq_true rfl) (Nat.le_of_ble_eq_true rfl)) (roomk hR9 (Nat.le_of_ble_eq_true rfl) (Nat.le_of_ble_eq_true rfl)) rfl rfl (Nat.le_of_ble_eq_true rfl) 0 rfl rfl [0] [1, 2, 3, 4, 5, 6, 7, 8, 9, 10, 11, 12, 13, 14] (wr := [((adA 1), .inl (gI (kG K), 5, .inl fvalues)), ((adA 3), .inl (gI (kG K), 80, .inl fcells)), ((adA 11), .inl (gZ (kG K), 160, .inl fisKnown)), ((adA 12), .inl (gI (kG K), 1280, .inl ftops)), ((adA 13), .inl (gI (kG K), 1280, .inl flows)), ((adA 14), .inl (gI (kG K), 320, .inl fsmall)), ((adA 15), .inl (gI (kG K), 320, .inl flarge)), ((adA 6), .inl (gI (kG K), 320, .inl fone)), ((adA 7), .inl (gI (kG K), 320, .inl ftwo)), ((adA 8), .inl (gI (kG K), 320, .inl frest)), ((adA 16), .inl (gI (kG K), 320, .inl ffactor)), ((adA 17), .inl (gI (kG K), 320, .inl fmade)), ((adA 9), .inl (gI (kG K), 320, .inl fabove)), ((adA 10), .inl (gI (kG K), 320, .inl fbelow))]) rfl rfl (by decide) (by decide) (by decide) ?_
  intro v9 w9 hp9
  obtain ⟨rfl, rfl⟩ := hp9
  show V K 4 [((adA 1), .inl (gI (kG K), 5, .inl fvalues)), ((adA 3), .inl (gI (kG K), 80, .inl fcells)), ((adA 11), .inl (gZ (kG K), 160, .inl fisKnown)), ((adA 12), .inl (gI (kG K), 1280, .inl ftops)), ((adA 13), .inl (gI (kG K), 1280, .inl flows)), ((adA 14), .inl (gI (kG K), 320, .inl fsmall)), ((adA 15), .inl (gI (kG K), 320, .inl flarge)), ((adA 6), .inl (gI (kG K), 320, .inl fone)), ((adA 7), .inl (gI (kG K), 320, .inl ftwo)), ((adA 8), .inl (gI (kG K), 320, .inl frest)), ((adA 16), .inl (gI (kG K), 320, .inl ffactor)), ((adA 17), .inl (gI (kG K), 320, .inl fmade)), ((adA 9), .inl (gI (kG K), 320, .inl fabove)), ((adA 10), .inl (gI (kG K), 320, .inl fbelow)), (adm, .inr (10, oM adA o_names o_rows o_strength o_most o_toldGraph o_toldArc))] 0 0 5 [(0, .ref adm), (1, .int gr), (2, .int part), (3, .int i)] [.int r_1]
  refine v_if_eq (tgt := 15) hk dX11_word_5 (by decide) (fun hc => ?_) (fun hc => ?_)
  · replace h := it_t (g := id) h hc
    refine v_ldc2 (v := (-1)) hk dX11_word_15 (by decide +kernel) ?_
    replace h : some ((-1), o_toldGraph, o_toldArc, fisKnown, ftops, flows, fsmall, flarge, fone, ftwo, frest, ffactor, fmade, fabove, fbelow) = some r := h
    replace h := Option.some.inj h
    subst h
    refine v_perm [14, 0, 1, 2, 3, 4, 5, 6, 7, 8, 9, 10, 11, 12, 13] (ws' := [(adm, .inr (10, oM adA o_names o_rows o_strength o_most o_toldGraph o_toldArc)), ((adA 1), .inl (gI (kG K), 5, .inl fvalues)), ((adA 3), .inl (gI (kG K), 80, .inl fcells)), ((adA 11), .inl (gZ (kG K), 160, .inl fisKnown)), ((adA 12), .inl (gI (kG K), 1280, .inl ftops)), ((adA 13), .inl (gI (kG K), 1280, .inl flows)), ((adA 14), .inl (gI (kG K), 320, .inl fsmall)), ((adA 15), .inl (gI (kG K), 320, .inl flarge)), ((adA 6), .inl (gI (kG K), 320, .inl fone)), ((adA 7), .inl (gI (kG K), 320, .inl ftwo)), ((adA 8), .inl (gI (kG K), 320, .inl frest)), ((adA 16), .inl (gI (kG K), 320, .inl ffactor)), ((adA 17), .inl (gI (kG K), 320, .inl fmade)), ((adA 9), .inl (gI (kG K), 320, .inl fabove)), ((adA 10), .inl (gI (kG K), 320, .inl fbelow))]) rfl rfl (by decide) ?_
    refine hrt (some (.long (-1))) _ _ _ _ _ (⟨rfl, rfl⟩) (Nat.zero_le _) (Nat.zero_le _) (dX11_word_18)
  · replace h := it_f (g := id) h hc
    refine v_iload_n hk dX11_word_8 rfl ?_
    obtain ⟨r_2, er_2, h⟩ := bd_e (g := id) rfl h
    refine v_callS (n := 1) (st := []) hk dX11_word_9 (c_X11_isPart (kl K) (kG K) part r_2 er_2) gd_X11_word_X11_isPart rfl (by decide +kernel) (frok hR9 (Nat.le_of_ble_eq_true rfl) (Nat.le_of_ble_eq_true rfl)) (roomk hR9 (Nat.le_of_ble_eq_true rfl) (Nat.le_of_ble_eq_true rfl)) rfl rfl (Nat.le_of_ble_eq_true rfl) [] [0, 1, 2, 3, 4, 5, 6, 7, 8, 9, 10, 11, 12, 13, 14] (wr := [((adA 1), .inl (gI (kG K), 5, .inl fvalues)), ((adA 3), .inl (gI (kG K), 80, .inl fcells)), ((adA 11), .inl (gZ (kG K), 160, .inl fisKnown)), ((adA 12), .inl (gI (kG K), 1280, .inl ftops)), ((adA 13), .inl (gI (kG K), 1280, .inl flows)), ((adA 14), .inl (gI (kG K), 320, .inl fsmall)), ((adA 15), .inl (gI (kG K), 320, .inl flarge)), ((adA 6), .inl (gI (kG K), 320, .inl fone)), ((adA 7), .inl (gI (kG K), 320, .inl ftwo)), ((adA 8), .inl (gI (kG K), 320, .inl frest)), ((adA 16), .inl (gI (kG K), 320, .inl ffactor)), ((adA 17), .inl (gI (kG K), 320, .inl fmade)), ((adA 9), .inl (gI (kG K), 320, .inl fabove)), ((adA 10), .inl (gI (kG K), 320, .inl fbelow)), (adm, .inr (10, oM adA o_names o_rows o_strength o_most o_toldGraph o_toldArc))]) rfl rfl (by decide) (by decide) (by decide) ?_
    intro v9 w9 hp9
    obtain ⟨rfl, rfl⟩ := hp9
    show V K 4 [((adA 1), .inl (gI (kG K), 5, .inl fvalues)), ((adA 3), .inl (gI (kG K), 80, .inl fcells)), ((adA 11), .inl (gZ (kG K), 160, .inl fisKnown)), ((adA 12), .inl (gI (kG K), 1280, .inl ftops)), ((adA 13), .inl (gI (kG K), 1280, .inl flows)), ((adA 14), .inl (gI (kG K), 320, .inl fsmall)), ((adA 15), .inl (gI (kG K), 320, .inl flarge)), ((adA 6), .inl (gI (kG K), 320, .inl fone)), ((adA 7), .inl (gI (kG K), 320, .inl ftwo)), ((adA 8), .inl (gI (kG K), 320, .inl frest)), ((adA 16), .inl (gI (kG K), 320, .inl ffactor)), ((adA 17), .inl (gI (kG K), 320, .inl fmade)), ((adA 9), .inl (gI (kG K), 320, .inl fabove)), ((adA 10), .inl (gI (kG K), 320, .inl fbelow)), (adm, .inr (10, oM adA o_names o_rows o_strength o_most o_toldGraph o_toldArc))] 0 0 12 [(0, .ref adm), (1, .int gr), (2, .int part), (3, .int i)] [.int r_2]
    refine v_if_ne (tgt := 19) hk dX11_word_12 (by decide) (fun hc => ?_) (fun hc => ?_)
    · replace h := it_f (g := id) h hc
      refine v_aload_n hk dX11_word_19 rfl ?_
      refine v_iload_n hk dX11_word_20 rfl ?_
      obtain ⟨r_3, er_3, h⟩ := bd_e (g := id) rfl h
      refine v_callV (n := 1) (st := []) (b := adm) (T := TX11) (N := 39) hk dX11_word_21 (c_X11_tell (kl K) (kG K) adm adA o_names o_rows o_strength o_most o_toldGraph o_toldArc fvalues fcells fisKnown ftops flows fsmall flarge fone ftwo frest ffactor fmade fabove fbelow gr r_3 er_3) rfl gd_X11_word_X11_tell rfl (by decide +kernel) (frok hR9 (Nat.le_of_ble_eq_true rfl) (Nat.le_of_ble_eq_true rfl)) (roomk hR9 (Nat.le_of_ble_eq_true rfl) (Nat.le_of_ble_eq_true rfl)) rfl rfl (Nat.le_of_ble_eq_true rfl) 14 rfl rfl [14, 0, 1, 2, 3, 4, 5, 6, 7, 8, 9, 10, 11, 12, 13] [] (wr := []) rfl rfl (by decide) (by decide) (by decide) ?_
      intro v9 w9 hp9
      obtain ⟨rfl, rfl⟩ := hp9
      show V K 4 [(adm, .inr (10, oM adA o_names o_rows o_strength o_most r_3.1 r_3.2.1)), ((adA 1), .inl (gI (kG K), 5, .inl fvalues)), ((adA 3), .inl (gI (kG K), 80, .inl fcells)), ((adA 11), .inl (gZ (kG K), 160, .inl r_3.2.2.1)), ((adA 12), .inl (gI (kG K), 1280, .inl r_3.2.2.2.1)), ((adA 13), .inl (gI (kG K), 1280, .inl r_3.2.2.2.2.1)), ((adA 14), .inl (gI (kG K), 320, .inl r_3.2.2.2.2.2.1)), ((adA 15), .inl (gI (kG K), 320, .inl r_3.2.2.2.2.2.2.1)), ((adA 6), .inl (gI (kG K), 320, .inl r_3.2.2.2.2.2.2.2.1)), ((adA 7), .inl (gI (kG K), 320, .inl r_3.2.2.2.2.2.2.2.2.1)), ((adA 8), .inl (gI (kG K), 320, .inl r_3.2.2.2.2.2.2.2.2.2.1)), ((adA 16), .inl (gI (kG K), 320, .inl r_3.2.2.2.2.2.2.2.2.2.2.1)), ((adA 17), .inl (gI (kG K), 320, .inl r_3.2.2.2.2.2.2.2.2.2.2.2.1)), ((adA 9), .inl (gI (kG K), 320, .inl r_3.2.2.2.2.2.2.2.2.2.2.2.2.1)), ((adA 10), .inl (gI (kG K), 320, .inl r_3.2.2.2.2.2.2.2.2.2.2.2.2.2))] 0 0 24 [(0, .ref adm), (1, .int gr), (2, .int part), (3, .int i)] []
      refine v_aload_n hk dX11_word_24 rfl ?_
      refine v_iload_n hk dX11_word_25 rfl ?_
      refine v_iload_n hk dX11_word_26 rfl ?_
      obtain ⟨r_4, er_4, h⟩ := bd_e (g := id) rfl h
      refine v_callV (n := 2) (st := []) (b := adm) (T := TX11) (N := 39) hk dX11_word_27 (c_X11_wordOf (kl K) (kG K) adm adA o_names o_rows o_strength o_most r_3.1 r_3.2.1 r_3.2.2.2.2.2.2.2.2.2.2.2.2.1 r_3.2.2.2.2.2.2.2.2.2.2.2.2.2 part i r_4 er_4) rfl gd_X11_word_X11_wordOf rfl (by decide +kernel) (frok hR9 (Nat.le_of_ble_eq_true rfl) (Nat.le_of_ble_eq_true rfl)) (roomk hR9 (Nat.le_of_ble_eq_true rfl) (Nat.le_of_ble_eq_true rfl)) rfl rfl (Nat.le_of_ble_eq_true rfl) 0 rfl rfl [0, 13, 14] [1, 2, 3, 4, 5, 6, 7, 8, 9, 10, 11, 12] (wr := [((adA 1), .inl (gI (kG K), 5, .inl fvalues)), ((adA 3), .inl (gI (kG K), 80, .inl fcells)), ((adA 11), .inl (gZ (kG K), 160, .inl r_3.2.2.1)), ((adA 12), .inl (gI (kG K), 1280, .inl r_3.2.2.2.1)), ((adA 13), .inl (gI (kG K), 1280, .inl r_3.2.2.2.2.1)), ((adA 14), .inl (gI (kG K), 320, .inl r_3.2.2.2.2.2.1)), ((adA 15), .inl (gI (kG K), 320, .inl r_3.2.2.2.2.2.2.1)), ((adA 6), .inl (gI (kG K), 320, .inl r_3.2.2.2.2.2.2.2.1)), ((adA 7), .inl (gI (kG K), 320, .inl r_3.2.2.2.2.2.2.2.2.1)), ((adA 8), .inl (gI (kG K), 320, .inl r_3.2.2.2.2.2.2.2.2.2.1)), ((adA 16), .inl (gI (kG K), 320, .inl r_3.2.2.2.2.2.2.2.2.2.2.1)), ((adA 17), .inl (gI (kG K), 320, .inl r_3.2.2.2.2.2.2.2.2.2.2.2.1))]) rfl rfl (by decide) (by decide) (by decide) ?_
      intro v9 w9 hp9
      obtain ⟨rfl, rfl⟩ := hp9
      show V K 4 [((adA 1), .inl (gI (kG K), 5, .inl fvalues)), ((adA 3), .inl (gI (kG K), 80, .inl fcells)), ((adA 11), .inl (gZ (kG K), 160, .inl r_3.2.2.1)), ((adA 12), .inl (gI (kG K), 1280, .inl r_3.2.2.2.1)), ((adA 13), .inl (gI (kG K), 1280, .inl r_3.2.2.2.2.1)), ((adA 14), .inl (gI (kG K), 320, .inl r_3.2.2.2.2.2.1)), ((adA 15), .inl (gI (kG K), 320, .inl r_3.2.2.2.2.2.2.1)), ((adA 6), .inl (gI (kG K), 320, .inl r_3.2.2.2.2.2.2.2.1)), ((adA 7), .inl (gI (kG K), 320, .inl r_3.2.2.2.2.2.2.2.2.1)), ((adA 8), .inl (gI (kG K), 320, .inl r_3.2.2.2.2.2.2.2.2.2.1)), ((adA 16), .inl (gI (kG K), 320, .inl r_3.2.2.2.2.2.2.2.2.2.2.1)), ((adA 17), .inl (gI (kG K), 320, .inl r_3.2.2.2.2.2.2.2.2.2.2.2.1)), (adm, .inr (10, oM adA o_names o_rows o_strength o_most r_3.1 r_3.2.1)), ((adA 9), .inl (gI (kG K), 320, .inl r_3.2.2.2.2.2.2.2.2.2.2.2.2.1)), ((adA 10), .inl (gI (kG K), 320, .inl r_3.2.2.2.2.2.2.2.2.2.2.2.2.2))] 0 0 30 [(0, .ref adm), (1, .int gr), (2, .int part), (3, .int i)] [.long r_4]
      replace h : some (r_4, r_3.1, r_3.2.1, r_3.2.2.1, r_3.2.2.2.1, r_3.2.2.2.2.1, r_3.2.2.2.2.2.1, r_3.2.2.2.2.2.2.1, r_3.2.2.2.2.2.2.2.1, r_3.2.2.2.2.2.2.2.2.1, r_3.2.2.2.2.2.2.2.2.2.1, r_3.2.2.2.2.2.2.2.2.2.2.1, r_3.2.2.2.2.2.2.2.2.2.2.2.1, r_3.2.2.2.2.2.2.2.2.2.2.2.2.1, r_3.2.2.2.2.2.2.2.2.2.2.2.2.2) = some r := h
      replace h := Option.some.inj h
      subst h
      refine v_perm [12, 0, 1, 2, 3, 4, 5, 6, 7, 8, 9, 10, 11, 13, 14] (ws' := [(adm, .inr (10, oM adA o_names o_rows o_strength o_most r_3.1 r_3.2.1)), ((adA 1), .inl (gI (kG K), 5, .inl fvalues)), ((adA 3), .inl (gI (kG K), 80, .inl fcells)), ((adA 11), .inl (gZ (kG K), 160, .inl r_3.2.2.1)), ((adA 12), .inl (gI (kG K), 1280, .inl r_3.2.2.2.1)), ((adA 13), .inl (gI (kG K), 1280, .inl r_3.2.2.2.2.1)), ((adA 14), .inl (gI (kG K), 320, .inl r_3.2.2.2.2.2.1)), ((adA 15), .inl (gI (kG K), 320, .inl r_3.2.2.2.2.2.2.1)), ((adA 6), .inl (gI (kG K), 320, .inl r_3.2.2.2.2.2.2.2.1)), ((adA 7), .inl (gI (kG K), 320, .inl r_3.2.2.2.2.2.2.2.2.1)), ((adA 8), .inl (gI (kG K), 320, .inl r_3.2.2.2.2.2.2.2.2.2.1)), ((adA 16), .inl (gI (kG K), 320, .inl r_3.2.2.2.2.2.2.2.2.2.2.1)), ((adA 17), .inl (gI (kG K), 320, .inl r_3.2.2.2.2.2.2.2.2.2.2.2.1)), ((adA 9), .inl (gI (kG K), 320, .inl r_3.2.2.2.2.2.2.2.2.2.2.2.2.1)), ((adA 10), .inl (gI (kG K), 320, .inl r_3.2.2.2.2.2.2.2.2.2.2.2.2.2))]) rfl rfl (by decide) ?_
      refine hrt (some (.long r_4)) _ _ _ _ _ (⟨rfl, rfl⟩) (Nat.zero_le _) (Nat.zero_le _) (dX11_word_30)
    · replace h := it_t (g := id) h hc
      refine v_ldc2 (v := (-1)) hk dX11_word_15 (by decide +kernel) ?_
      replace h : some ((-1), o_toldGraph, o_toldArc, fisKnown, ftops, flows, fsmall, flarge, fone, ftwo, frest, ffactor, fmade, fabove, fbelow) = some r := h
      replace h := Option.some.inj h
      subst h
      refine v_perm [14, 0, 1, 2, 3, 4, 5, 6, 7, 8, 9, 10, 11, 12, 13] (ws' := [(adm, .inr (10, oM adA o_names o_rows o_strength o_most o_toldGraph o_toldArc)), ((adA 1), .inl (gI (kG K), 5, .inl fvalues)), ((adA 3), .inl (gI (kG K), 80, .inl fcells)), ((adA 11), .inl (gZ (kG K), 160, .inl fisKnown)), ((adA 12), .inl (gI (kG K), 1280, .inl ftops)), ((adA 13), .inl (gI (kG K), 1280, .inl flows)), ((adA 14), .inl (gI (kG K), 320, .inl fsmall)), ((adA 15), .inl (gI (kG K), 320, .inl flarge)), ((adA 6), .inl (gI (kG K), 320, .inl fone)), ((adA 7), .inl (gI (kG K), 320, .inl ftwo)), ((adA 8), .inl (gI (kG K), 320, .inl frest)), ((adA 16), .inl (gI (kG K), 320, .inl ffactor)), ((adA 17), .inl (gI (kG K), 320, .inl fmade)), ((adA 9), .inl (gI (kG K), 320, .inl fabove)), ((adA 10), .inl (gI (kG K), 320, .inl fbelow))]) rfl rfl (by decide) ?_
      refine hrt (some (.long (-1))) _ _ _ _ _ (⟨rfl, rfl⟩) (Nat.zero_le _) (Nat.zero_le _) (dX11_word_18)
abbrev rm_X11_compare : Room := { frames := 6, cells := 0, slots := 0, locals := 144 }
set_option maxHeartbeats 4000000 in
set_option maxRecDepth 100000 in
theorem c_X11_compare (l : Launch) (G : GG) (adm : Nat) (adA : Nat → Nat) (o_names : Int32) (o_rows : Int32) (o_strength : Int32) (o_most : Int32) (o_toldGraph : Int32) (o_toldArc : Int32) (fvalues : Nat → Int32) (fcells : Nat → Int32) (fisKnown : Nat → Int32) (ftops : Nat → Int32) (flows : Nat → Int32) (fsmall : Nat → Int32) (flarge : Nat → Int32) (fone : Nat → Int32) (ftwo : Nat → Int32) (frest : Nat → Int32) (ffactor : Nat → Int32) (fmade : Nat → Int32) (ftopA : Nat → Int32) (flowA : Nat → Int32) (ftopB : Nat → Int32) (flowB : Nat → Int32) (fleft : Nat → Int32) (fright : Nat → Int32) (gr : Int32) (ot : Int32) (r : Int32 × (Nat → Int32) × (Nat → Int32) × (Nat → Int32) × (Nat → Int32) × (Nat → Int32) × (Nat → Int32) × (Nat → Int32) × (Nat → Int32) × (Nat → Int32) × (Nat → Int32) × (Nat → Int32) × (Nat → Int32) × (Nat → Int32) × (Nat → Int32) × (Nat → Int32) × (Nat → Int32)) (h : m_X11_compare o_names o_rows o_strength o_most o_toldGraph o_toldArc fvalues fcells fisKnown ftops flows fsmall flarge fone ftwo frest ffactor fmade ftopA flowA ftopB flowB fleft fright gr ot = some r) : Ctr l G yX11_compare w2_X11_compare rm_X11_compare [.ref adm, .int gr, .int ot] [(adm, .inr (10, oM adA o_names o_rows o_strength o_most o_toldGraph o_toldArc)), ((adA 1), .inl (gI G, 5, .inl fvalues)), ((adA 3), .inl (gI G, 80, .inl fcells)), ((adA 11), .inl (gZ G, 160, .inl fisKnown)), ((adA 12), .inl (gI G, 1280, .inl ftops)), ((adA 13), .inl (gI G, 1280, .inl flows)), ((adA 14), .inl (gI G, 320, .inl fsmall)), ((adA 15), .inl (gI G, 320, .inl flarge)), ((adA 6), .inl (gI G, 320, .inl fone)), ((adA 7), .inl (gI G, 320, .inl ftwo)), ((adA 8), .inl (gI G, 320, .inl frest)), ((adA 16), .inl (gI G, 320, .inl ffactor)), ((adA 17), .inl (gI G, 320, .inl fmade)), ((adA 18), .inl (gI G, 320, .inl ftopA)), ((adA 19), .inl (gI G, 320, .inl flowA)), ((adA 20), .inl (gI G, 320, .inl ftopB)), ((adA 21), .inl (gI G, 320, .inl flowB)), ((adA 22), .inl (gI G, 320, .inl fleft)), ((adA 23), .inl (gI G, 320, .inl fright))] (fun v w => v = some (.int r.1) ∧ w = [(adm, .inr (10, oM adA o_names o_rows o_strength o_most o_toldGraph o_toldArc)), ((adA 1), .inl (gI G, 5, .inl fvalues)), ((adA 3), .inl (gI G, 80, .inl fcells)), ((adA 11), .inl (gZ G, 160, .inl r.2.1)), ((adA 12), .inl (gI G, 1280, .inl r.2.2.1)), ((adA 13), .inl (gI G, 1280, .inl r.2.2.2.1)), ((adA 14), .inl (gI G, 320, .inl r.2.2.2.2.1)), ((adA 15), .inl (gI G, 320, .inl r.2.2.2.2.2.1)), ((adA 6), .inl (gI G, 320, .inl r.2.2.2.2.2.2.1)), ((adA 7), .inl (gI G, 320, .inl r.2.2.2.2.2.2.2.1)), ((adA 8), .inl (gI G, 320, .inl r.2.2.2.2.2.2.2.2.1)), ((adA 16), .inl (gI G, 320, .inl r.2.2.2.2.2.2.2.2.2.1)), ((adA 17), .inl (gI G, 320, .inl r.2.2.2.2.2.2.2.2.2.2.1)), ((adA 18), .inl (gI G, 320, .inl r.2.2.2.2.2.2.2.2.2.2.2.1)), ((adA 19), .inl (gI G, 320, .inl r.2.2.2.2.2.2.2.2.2.2.2.2.1)), ((adA 20), .inl (gI G, 320, .inl r.2.2.2.2.2.2.2.2.2.2.2.2.2.1)), ((adA 21), .inl (gI G, 320, .inl r.2.2.2.2.2.2.2.2.2.2.2.2.2.2.1)), ((adA 22), .inl (gI G, 320, .inl r.2.2.2.2.2.2.2.2.2.2.2.2.2.2.2.1)), ((adA 23), .inl (gI G, 320, .inl r.2.2.2.2.2.2.2.2.2.2.2.2.2.2.2.2))]) := by
  refine ctr_entry (cc := cX11_compare) (maxL := 4) (ret := some .int) (lv0 := [(0, .ref adm), (1, .int gr), (2, .int ot)]) (by decide) rfl (Nat.le_of_ble_eq_true rfl) (rfl) ?_
  intro K hl9 hG9 hk hn9 hrt
  subst hl9
  subst hG9
  have hR9 : RoomGe rm_X11_compare rm_X11_compare := RoomGe.rf
  replace h := id_e h
  rw [em_X11_compare] at h
  refine v_aload_n hk dX11_compare_0 rfl ?_
  refine v_iload_n hk dX11_compare_1 rfl ?_
  obtain ⟨r_1, er_1, h⟩ := bd_e (g := id) rfl h
  refine v_callV (n := 1) (st := []) (b := adm) (T := TX11) (N := 39) hk dX11_compare_2 (c_X11_isGraph (kl K) (kG K) adm adA o_names o_rows o_strength o_most o_toldGraph o_toldArc gr r_1 er_1) rfl gd_X11_compare_X11_isGraph rfl (by decide +kernel) (frok hR9 (Nat.le_of_ble_eq_true rfl) (Nat.le_of_ble_eq_true rfl)) (roomk hR9 (Nat.le_of_ble_eq_true rfl) (Nat.le_of_ble_eq_true rfl)) rfl rfl (Nat.le_of_ble_eq_true rfl) 0 rfl rfl [0] [1, 2, 3, 4, 5, 6, 7, 8, 9, 10, 11, 12, 13, 14, 15, 16, 17, 18] (wr := [((adA 1), .inl (gI (kG K), 5, .inl fvalues)), ((adA 3), .inl (gI (kG K), 80, .inl fcells)), ((adA 11), .inl (gZ (kG K), 160, .inl fisKnown)), ((adA 12), .inl (gI (kG K), 1280, .inl ftops)), ((adA 13), .inl (gI (kG K), 1280, .inl flows)), ((adA 14), .inl (gI (kG K), 320, .inl fsmall)), ((adA 15), .inl (gI (kG K), 320, .inl flarge)), ((adA 6), .inl (gI (kG K), 320, .inl fone)), ((adA 7), .inl (gI (kG K), 320, .inl ftwo)), ((adA 8), .inl (gI (kG K), 320, .inl frest)), ((adA 16), .inl (gI (kG K), 320, .inl ffactor)), ((adA 17), .inl (gI (kG K), 320, .inl fmade)), ((adA 18), .inl (gI (kG K), 320, .inl ftopA)), ((adA 19), .inl (gI (kG K), 320, .inl flowA)), ((adA 20), .inl (gI (kG K), 320, .inl ftopB)), ((adA 21), .inl (gI (kG K), 320, .inl flowB)), ((adA 22), .inl (gI (kG K), 320, .inl fleft)), ((adA 23), .inl (gI (kG K), 320, .inl fright))]) rfl rfl (by decide) (by decide) (by decide) ?_
  intro v9 w9 hp9
  obtain ⟨rfl, rfl⟩ := hp9
  show V K 4 [((adA 1), .inl (gI (kG K), 5, .inl fvalues)), ((adA 3), .inl (gI (kG K), 80, .inl fcells)), ((adA 11), .inl (gZ (kG K), 160, .inl fisKnown)), ((adA 12), .inl (gI (kG K), 1280, .inl ftops)), ((adA 13), .inl (gI (kG K), 1280, .inl flows)), ((adA 14), .inl (gI (kG K), 320, .inl fsmall)), ((adA 15), .inl (gI (kG K), 320, .inl flarge)), ((adA 6), .inl (gI (kG K), 320, .inl fone)), ((adA 7), .inl (gI (kG K), 320, .inl ftwo)), ((adA 8), .inl (gI (kG K), 320, .inl frest)), ((adA 16), .inl (gI (kG K), 320, .inl ffactor)), ((adA 17), .inl (gI (kG K), 320, .inl fmade)), ((adA 18), .inl (gI (kG K), 320, .inl ftopA)), ((adA 19), .inl (gI (kG K), 320, .inl flowA)), ((adA 20), .inl (gI (kG K), 320, .inl ftopB)), ((adA 21), .inl (gI (kG K), 320, .inl flowB)), ((adA 22), .inl (gI (kG K), 320, .inl fleft)), ((adA 23), .inl (gI (kG K), 320, .inl fright)), (adm, .inr (10, oM adA o_names o_rows o_strength o_most o_toldGraph o_toldArc))] 0 0 5 [(0, .ref adm), (1, .int gr), (2, .int ot)] [.int r_1]
  refine v_if_eq (tgt := 16) hk dX11_compare_5 (by decide) (fun hc => ?_) (fun hc => ?_)
  · replace h := it_t (g := id) h hc
    refine v_iconst (v := (-1)) hk dX11_compare_16 (by decide) ?_
    replace h : some ((-1), fisKnown, ftops, flows, fsmall, flarge, fone, ftwo, frest, ffactor, fmade, ftopA, flowA, ftopB, flowB, fleft, fright) = some r := h
    replace h := Option.some.inj h
    subst h
    refine v_perm [18, 0, 1, 2, 3, 4, 5, 6, 7, 8, 9, 10, 11, 12, 13, 14, 15, 16, 17] (ws' := [(adm, .inr (10, oM adA o_names o_rows o_strength o_most o_toldGraph o_toldArc)), ((adA 1), .inl (gI (kG K), 5, .inl fvalues)), ((adA 3), .inl (gI (kG K), 80, .inl fcells)), ((adA 11), .inl (gZ (kG K), 160, .inl fisKnown)), ((adA 12), .inl (gI (kG K), 1280, .inl ftops)), ((adA 13), .inl (gI (kG K), 1280, .inl flows)), ((adA 14), .inl (gI (kG K), 320, .inl fsmall)), ((adA 15), .inl (gI (kG K), 320, .inl flarge)), ((adA 6), .inl (gI (kG K), 320, .inl fone)), ((adA 7), .inl (gI (kG K), 320, .inl ftwo)), ((adA 8), .inl (gI (kG K), 320, .inl frest)), ((adA 16), .inl (gI (kG K), 320, .inl ffactor)), ((adA 17), .inl (gI (kG K), 320, .inl fmade)), ((adA 18), .inl (gI (kG K), 320, .inl ftopA)), ((adA 19), .inl (gI (kG K), 320, .inl flowA)), ((adA 20), .inl (gI (kG K), 320, .inl ftopB)), ((adA 21), .inl (gI (kG K), 320, .inl flowB)), ((adA 22), .inl (gI (kG K), 320, .inl fleft)), ((adA 23), .inl (gI (kG K), 320, .inl fright))]) rfl rfl (by decide) ?_
    refine hrt (some (.int (-1))) _ _ _ _ _ (⟨rfl, rfl⟩) (Nat.zero_le _) (Nat.zero_le _) (dX11_compare_17)
  · replace h := it_f (g := id) h hc
    refine v_aload_n hk dX11_compare_8 rfl ?_
    refine v_iload_n hk dX11_compare_9 rfl ?_
    obtain ⟨r_2, er_2, h⟩ := bd_e (g := id) rfl h
    refine v_callV (n := 1) (st := []) (b := adm) (T := TX11) (N := 39) hk dX11_compare_10 (c_X11_isGraph (kl K) (kG K) adm adA o_names o_rows o_strength o_most o_toldGraph o_toldArc ot r_2 er_2) rfl gd_X11_compare_X11_isGraph rfl (by decide +kernel) (frok hR9 (Nat.le_of_ble_eq_true rfl) (Nat.le_of_ble_eq_true rfl)) (roomk hR9 (Nat.le_of_ble_eq_true rfl) (Nat.le_of_ble_eq_true rfl)) rfl rfl (Nat.le_of_ble_eq_true rfl) 18 rfl rfl [18] [0, 1, 2, 3, 4, 5, 6, 7, 8, 9, 10, 11, 12, 13, 14, 15, 16, 17] (wr := [((adA 1), .inl (gI (kG K), 5, .inl fvalues)), ((adA 3), .inl (gI (kG K), 80, .inl fcells)), ((adA 11), .inl (gZ (kG K), 160, .inl fisKnown)), ((adA 12), .inl (gI (kG K), 1280, .inl ftops)), ((adA 13), .inl (gI (kG K), 1280, .inl flows)), ((adA 14), .inl (gI (kG K), 320, .inl fsmall)), ((adA 15), .inl (gI (kG K), 320, .inl flarge)), ((adA 6), .inl (gI (kG K), 320, .inl fone)), ((adA 7), .inl (gI (kG K), 320, .inl ftwo)), ((adA 8), .inl (gI (kG K), 320, .inl frest)), ((adA 16), .inl (gI (kG K), 320, .inl ffactor)), ((adA 17), .inl (gI (kG K), 320, .inl fmade)), ((adA 18), .inl (gI (kG K), 320, .inl ftopA)), ((adA 19), .inl (gI (kG K), 320, .inl flowA)), ((adA 20), .inl (gI (kG K), 320, .inl ftopB)), ((adA 21), .inl (gI (kG K), 320, .inl flowB)), ((adA 22), .inl (gI (kG K), 320, .inl fleft)), ((adA 23), .inl (gI (kG K), 320, .inl fright))]) rfl rfl (by decide) (by decide) (by decide) ?_
    intro v9 w9 hp9
    obtain ⟨rfl, rfl⟩ := hp9
    show V K 4 [((adA 1), .inl (gI (kG K), 5, .inl fvalues)), ((adA 3), .inl (gI (kG K), 80, .inl fcells)), ((adA 11), .inl (gZ (kG K), 160, .inl fisKnown)), ((adA 12), .inl (gI (kG K), 1280, .inl ftops)), ((adA 13), .inl (gI (kG K), 1280, .inl flows)), ((adA 14), .inl (gI (kG K), 320, .inl fsmall)), ((adA 15), .inl (gI (kG K), 320, .inl flarge)), ((adA 6), .inl (gI (kG K), 320, .inl fone)), ((adA 7), .inl (gI (kG K), 320, .inl ftwo)), ((adA 8), .inl (gI (kG K), 320, .inl frest)), ((adA 16), .inl (gI (kG K), 320, .inl ffactor)), ((adA 17), .inl (gI (kG K), 320, .inl fmade)), ((adA 18), .inl (gI (kG K), 320, .inl ftopA)), ((adA 19), .inl (gI (kG K), 320, .inl flowA)), ((adA 20), .inl (gI (kG K), 320, .inl ftopB)), ((adA 21), .inl (gI (kG K), 320, .inl flowB)), ((adA 22), .inl (gI (kG K), 320, .inl fleft)), ((adA 23), .inl (gI (kG K), 320, .inl fright)), (adm, .inr (10, oM adA o_names o_rows o_strength o_most o_toldGraph o_toldArc))] 0 0 13 [(0, .ref adm), (1, .int gr), (2, .int ot)] [.int r_2]
    refine v_if_ne (tgt := 18) hk dX11_compare_13 (by decide) (fun hc => ?_) (fun hc => ?_)
    · replace h := it_f (g := id) h hc
      refine v_aload_n hk dX11_compare_18 rfl ?_
      refine v_iload_n hk dX11_compare_19 rfl ?_
      refine v_iload_n hk dX11_compare_20 rfl ?_
      obtain ⟨r_3, er_3, h⟩ := bd_e (g := id) rfl h
      refine v_callV (n := 2) (st := []) (b := adm) (T := TX11) (N := 39) hk dX11_compare_21 (c_X11_signOf (kl K) (kG K) adm adA o_names o_rows o_strength o_most o_toldGraph o_toldArc fvalues fcells fisKnown ftops flows fsmall flarge fone ftwo frest ffactor fmade ftopA flowA ftopB flowB fleft fright gr ot r_3 er_3) rfl gd_X11_compare_X11_signOf rfl (by decide +kernel) (frok hR9 (Nat.le_of_ble_eq_true rfl) (Nat.le_of_ble_eq_true rfl)) (roomk hR9 (Nat.le_of_ble_eq_true rfl) (Nat.le_of_ble_eq_true rfl)) rfl rfl (Nat.le_of_ble_eq_true rfl) 18 rfl rfl [18, 0, 1, 2, 3, 4, 5, 6, 7, 8, 9, 10, 11, 12, 13, 14, 15, 16, 17] [] (wr := []) rfl rfl (by decide) (by decide) (by decide) ?_
      intro v9 w9 hp9
      obtain ⟨rfl, rfl⟩ := hp9
      show V K 4 [(adm, .inr (10, oM adA o_names o_rows o_strength o_most o_toldGraph o_toldArc)), ((adA 1), .inl (gI (kG K), 5, .inl fvalues)), ((adA 3), .inl (gI (kG K), 80, .inl fcells)), ((adA 11), .inl (gZ (kG K), 160, .inl r_3.2.1)), ((adA 12), .inl (gI (kG K), 1280, .inl r_3.2.2.1)), ((adA 13), .inl (gI (kG K), 1280, .inl r_3.2.2.2.1)), ((adA 14), .inl (gI (kG K), 320, .inl r_3.2.2.2.2.1)), ((adA 15), .inl (gI (kG K), 320, .inl r_3.2.2.2.2.2.1)), ((adA 6), .inl (gI (kG K), 320, .inl r_3.2.2.2.2.2.2.1)), ((adA 7), .inl (gI (kG K), 320, .inl r_3.2.2.2.2.2.2.2.1)), ((adA 8), .inl (gI (kG K), 320, .inl r_3.2.2.2.2.2.2.2.2.1)), ((adA 16), .inl (gI (kG K), 320, .inl r_3.2.2.2.2.2.2.2.2.2.1)), ((adA 17), .inl (gI (kG K), 320, .inl r_3.2.2.2.2.2.2.2.2.2.2.1)), ((adA 18), .inl (gI (kG K), 320, .inl r_3.2.2.2.2.2.2.2.2.2.2.2.1)), ((adA 19), .inl (gI (kG K), 320, .inl r_3.2.2.2.2.2.2.2.2.2.2.2.2.1)), ((adA 20), .inl (gI (kG K), 320, .inl r_3.2.2.2.2.2.2.2.2.2.2.2.2.2.1)), ((adA 21), .inl (gI (kG K), 320, .inl r_3.2.2.2.2.2.2.2.2.2.2.2.2.2.2.1)), ((adA 22), .inl (gI (kG K), 320, .inl r_3.2.2.2.2.2.2.2.2.2.2.2.2.2.2.2.1)), ((adA 23), .inl (gI (kG K), 320, .inl r_3.2.2.2.2.2.2.2.2.2.2.2.2.2.2.2.2))] 0 0 24 [(0, .ref adm), (1, .int gr), (2, .int ot)] [.int r_3.1]
      refine v_istore_n hk dX11_compare_24 rfl (by decide) [1, 2, 3, 0] (lv' := [(0, .ref adm), (1, .int gr), (2, .int ot), (3, .int r_3.1)]) rfl ?_
      refine v_iload_n hk dX11_compare_25 rfl ?_
      obtain ⟨y_4, ey_4, h⟩ := bd_e (g := id) rfl h
      have Jy_4 : V K 4 [(adm, .inr (10, oM adA o_names o_rows o_strength o_most o_toldGraph o_toldArc)), ((adA 1), .inl (gI (kG K), 5, .inl fvalues)), ((adA 3), .inl (gI (kG K), 80, .inl fcells)), ((adA 11), .inl (gZ (kG K), 160, .inl r_3.2.1)), ((adA 12), .inl (gI (kG K), 1280, .inl r_3.2.2.1)), ((adA 13), .inl (gI (kG K), 1280, .inl r_3.2.2.2.1)), ((adA 14), .inl (gI (kG K), 320, .inl r_3.2.2.2.2.1)), ((adA 15), .inl (gI (kG K), 320, .inl r_3.2.2.2.2.2.1)), ((adA 6), .inl (gI (kG K), 320, .inl r_3.2.2.2.2.2.2.1)), ((adA 7), .inl (gI (kG K), 320, .inl r_3.2.2.2.2.2.2.2.1)), ((adA 8), .inl (gI (kG K), 320, .inl r_3.2.2.2.2.2.2.2.2.1)), ((adA 16), .inl (gI (kG K), 320, .inl r_3.2.2.2.2.2.2.2.2.2.1)), ((adA 17), .inl (gI (kG K), 320, .inl r_3.2.2.2.2.2.2.2.2.2.2.1)), ((adA 18), .inl (gI (kG K), 320, .inl r_3.2.2.2.2.2.2.2.2.2.2.2.1)), ((adA 19), .inl (gI (kG K), 320, .inl r_3.2.2.2.2.2.2.2.2.2.2.2.2.1)), ((adA 20), .inl (gI (kG K), 320, .inl r_3.2.2.2.2.2.2.2.2.2.2.2.2.2.1)), ((adA 21), .inl (gI (kG K), 320, .inl r_3.2.2.2.2.2.2.2.2.2.2.2.2.2.2.1)), ((adA 22), .inl (gI (kG K), 320, .inl r_3.2.2.2.2.2.2.2.2.2.2.2.2.2.2.2.1)), ((adA 23), .inl (gI (kG K), 320, .inl r_3.2.2.2.2.2.2.2.2.2.2.2.2.2.2.2.2))] 0 0 42 [(0, .ref adm), (1, .int gr), (2, .int ot), (3, .int r_3.1)] [.int y_4] := by
        replace h : some (y_4, r_3.2.1, r_3.2.2.1, r_3.2.2.2.1, r_3.2.2.2.2.1, r_3.2.2.2.2.2.1, r_3.2.2.2.2.2.2.1, r_3.2.2.2.2.2.2.2.1, r_3.2.2.2.2.2.2.2.2.1, r_3.2.2.2.2.2.2.2.2.2.1, r_3.2.2.2.2.2.2.2.2.2.2.1, r_3.2.2.2.2.2.2.2.2.2.2.2.1, r_3.2.2.2.2.2.2.2.2.2.2.2.2.1, r_3.2.2.2.2.2.2.2.2.2.2.2.2.2.1, r_3.2.2.2.2.2.2.2.2.2.2.2.2.2.2.1, r_3.2.2.2.2.2.2.2.2.2.2.2.2.2.2.2.1, r_3.2.2.2.2.2.2.2.2.2.2.2.2.2.2.2.2) = some r := h
        replace h := Option.some.inj h
        subst h
        refine hrt (some (.int y_4)) _ _ _ _ _ (⟨rfl, rfl⟩) (Nat.zero_le _) (Nat.zero_le _) (dX11_compare_42)
      clear h
      have h := id_e ey_4
      clear ey_4
      refine v_if_ge (tgt := 33) hk dX11_compare_26 (by decide) (fun hc => ?_) (fun hc => ?_)
      · replace h := it_t (g := id) h hc
        refine v_iload_n hk dX11_compare_33 rfl ?_
        obtain ⟨z_5, ez_5, h⟩ := lt_e (g := id) h
        have Jz_5 : V K 4 [(adm, .inr (10, oM adA o_names o_rows o_strength o_most o_toldGraph o_toldArc)), ((adA 1), .inl (gI (kG K), 5, .inl fvalues)), ((adA 3), .inl (gI (kG K), 80, .inl fcells)), ((adA 11), .inl (gZ (kG K), 160, .inl r_3.2.1)), ((adA 12), .inl (gI (kG K), 1280, .inl r_3.2.2.1)), ((adA 13), .inl (gI (kG K), 1280, .inl r_3.2.2.2.1)), ((adA 14), .inl (gI (kG K), 320, .inl r_3.2.2.2.2.1)), ((adA 15), .inl (gI (kG K), 320, .inl r_3.2.2.2.2.2.1)), ((adA 6), .inl (gI (kG K), 320, .inl r_3.2.2.2.2.2.2.1)), ((adA 7), .inl (gI (kG K), 320, .inl r_3.2.2.2.2.2.2.2.1)), ((adA 8), .inl (gI (kG K), 320, .inl r_3.2.2.2.2.2.2.2.2.1)), ((adA 16), .inl (gI (kG K), 320, .inl r_3.2.2.2.2.2.2.2.2.2.1)), ((adA 17), .inl (gI (kG K), 320, .inl r_3.2.2.2.2.2.2.2.2.2.2.1)), ((adA 18), .inl (gI (kG K), 320, .inl r_3.2.2.2.2.2.2.2.2.2.2.2.1)), ((adA 19), .inl (gI (kG K), 320, .inl r_3.2.2.2.2.2.2.2.2.2.2.2.2.1)), ((adA 20), .inl (gI (kG K), 320, .inl r_3.2.2.2.2.2.2.2.2.2.2.2.2.2.1)), ((adA 21), .inl (gI (kG K), 320, .inl r_3.2.2.2.2.2.2.2.2.2.2.2.2.2.2.1)), ((adA 22), .inl (gI (kG K), 320, .inl r_3.2.2.2.2.2.2.2.2.2.2.2.2.2.2.2.1)), ((adA 23), .inl (gI (kG K), 320, .inl r_3.2.2.2.2.2.2.2.2.2.2.2.2.2.2.2.2))] 0 0 42 [(0, .ref adm), (1, .int gr), (2, .int ot), (3, .int r_3.1)] (.int z_5 :: []) := by
          replace h : some (z_5 : Int32) = some y_4 := h
          replace h := Option.some.inj h
          subst h
          exact Jy_4
        refine v_if_ne (tgt := 41) hk dX11_compare_34 (by decide) (fun hc => ?_) (fun hc => ?_)
        · rw [if_neg hc] at ez_5
          subst ez_5
          refine v_iconst (v := 2) hk dX11_compare_41 (by decide) ?_
          exact Jz_5
        · rw [if_pos hc] at ez_5
          subst ez_5
          refine v_iconst (v := 1) hk dX11_compare_37 (by decide) ?_
          refine v_goto (tgt := 42) hk dX11_compare_38 (by decide) ?_
          exact Jz_5
      · replace h := it_f (g := id) h hc
        refine v_iconst (v := 0) hk dX11_compare_29 (by decide) ?_
        refine v_goto (tgt := 42) hk dX11_compare_30 (by decide) ?_
        replace h : some (0 : Int32) = some y_4 := h
        replace h := Option.some.inj h
        subst h
        exact Jy_4
    · replace h := it_t (g := id) h hc
      refine v_iconst (v := (-1)) hk dX11_compare_16 (by decide) ?_
      replace h : some ((-1), fisKnown, ftops, flows, fsmall, flarge, fone, ftwo, frest, ffactor, fmade, ftopA, flowA, ftopB, flowB, fleft, fright) = some r := h
      replace h := Option.some.inj h
      subst h
      refine v_perm [18, 0, 1, 2, 3, 4, 5, 6, 7, 8, 9, 10, 11, 12, 13, 14, 15, 16, 17] (ws' := [(adm, .inr (10, oM adA o_names o_rows o_strength o_most o_toldGraph o_toldArc)), ((adA 1), .inl (gI (kG K), 5, .inl fvalues)), ((adA 3), .inl (gI (kG K), 80, .inl fcells)), ((adA 11), .inl (gZ (kG K), 160, .inl fisKnown)), ((adA 12), .inl (gI (kG K), 1280, .inl ftops)), ((adA 13), .inl (gI (kG K), 1280, .inl flows)), ((adA 14), .inl (gI (kG K), 320, .inl fsmall)), ((adA 15), .inl (gI (kG K), 320, .inl flarge)), ((adA 6), .inl (gI (kG K), 320, .inl fone)), ((adA 7), .inl (gI (kG K), 320, .inl ftwo)), ((adA 8), .inl (gI (kG K), 320, .inl frest)), ((adA 16), .inl (gI (kG K), 320, .inl ffactor)), ((adA 17), .inl (gI (kG K), 320, .inl fmade)), ((adA 18), .inl (gI (kG K), 320, .inl ftopA)), ((adA 19), .inl (gI (kG K), 320, .inl flowA)), ((adA 20), .inl (gI (kG K), 320, .inl ftopB)), ((adA 21), .inl (gI (kG K), 320, .inl flowB)), ((adA 22), .inl (gI (kG K), 320, .inl fleft)), ((adA 23), .inl (gI (kG K), 320, .inl fright))]) rfl rfl (by decide) ?_
      refine hrt (some (.int (-1))) _ _ _ _ _ (⟨rfl, rfl⟩) (Nat.zero_le _) (Nat.zero_le _) (dX11_compare_17)
abbrev rm_X11_bestParents : Room := { frames := 4, cells := 0, slots := 0, locals := 97 }
set_option maxHeartbeats 4000000 in
set_option maxRecDepth 100000 in
theorem L_X11_bestParents_39 {K : Cx} {R9 : Room} (hk : Ok K cX11_bestParents 5 RX11 w2_X11_bestParents R9) (hR9 : RoomGe R9 rm_X11_bestParents) (adm : Nat) (adA : Nat → Nat) (o_names : Int32) (o_rows : Int32) (o_strength : Int32) (o_most : Int32) (o_toldGraph : Int32) (o_toldArc : Int32) (fvalues : Nat → Int32) (fcells : Nat → Int32) (nm : Int32) (of0 : Int32) (b9 : (Int32 × Int32 × (Nat → Int32) × (Nat → Int32) × (Nat → Int32) × (Nat → Int32) × (Nat → Int32) × (Nat → Int32) × (Nat → Int32) × (Nat → Int32) × (Nat → Int32) × (Nat → Int32) × (Nat → Int32) × (Nat → Int32) × (Nat → Int32) × (Nat → Int32))) (kk0 : ∀ q9 : (Int32 × Int32 × (Nat → Int32) × (Nat → Int32) × (Nat → Int32) × (Nat → Int32) × (Nat → Int32) × (Nat → Int32) × (Nat → Int32) × (Nat → Int32) × (Nat → Int32) × (Nat → Int32) × (Nat → Int32) × (Nat → Int32) × (Nat → Int32) × (Nat → Int32)), b9 = q9 → V K 5 [((adA 18), .inl (gI (kG K), 320, .inl q9.2.2.1)), ((adA 19), .inl (gI (kG K), 320, .inl q9.2.2.2.1)), ((adA 22), .inl (gI (kG K), 320, .inl q9.2.2.2.2.1)), ((adA 23), .inl (gI (kG K), 320, .inl q9.2.2.2.2.2.1)), ((adA 20), .inl (gI (kG K), 320, .inl q9.2.2.2.2.2.2.1)), (adm, .inr (10, oM adA o_names o_rows o_strength o_most o_toldGraph o_toldArc)), ((adA 1), .inl (gI (kG K), 5, .inl fvalues)), ((adA 3), .inl (gI (kG K), 80, .inl fcells)), ((adA 11), .inl (gZ (kG K), 160, .inl q9.2.2.2.2.2.2.2.1)), ((adA 12), .inl (gI (kG K), 1280, .inl q9.2.2.2.2.2.2.2.2.1)), ((adA 14), .inl (gI (kG K), 320, .inl q9.2.2.2.2.2.2.2.2.2.1)), ((adA 15), .inl (gI (kG K), 320, .inl q9.2.2.2.2.2.2.2.2.2.2.1)), ((adA 6), .inl (gI (kG K), 320, .inl q9.2.2.2.2.2.2.2.2.2.2.2.1)), ((adA 7), .inl (gI (kG K), 320, .inl q9.2.2.2.2.2.2.2.2.2.2.2.2.1)), ((adA 8), .inl (gI (kG K), 320, .inl q9.2.2.2.2.2.2.2.2.2.2.2.2.2.1)), ((adA 13), .inl (gI (kG K), 1280, .inl q9.2.2.2.2.2.2.2.2.2.2.2.2.2.2.1)), ((adA 21), .inl (gI (kG K), 320, .inl q9.2.2.2.2.2.2.2.2.2.2.2.2.2.2.2))] 0 0 140 [(0, .ref adm), (1, .int nm), (2, .int of0), (3, .int q9.1), (4, .int q9.2.1)] []) : ∀ (nn : Nat) (i3_5 : Int32) (i4_6 : Int32) (ftopA_7 : Nat → Int32) (flowA_8 : Nat → Int32) (fleft_9 : Nat → Int32) (fright_10 : Nat → Int32) (ftopB_11 : Nat → Int32) (fisKnown_12 : Nat → Int32) (ftops_13 : Nat → Int32) (fsmall_14 : Nat → Int32) (flarge_15 : Nat → Int32) (fone_16 : Nat → Int32) (ftwo_17 : Nat → Int32) (frest_18 : Nat → Int32) (flows_19 : Nat → Int32) (flowB_20 : Nat → Int32), lp (b_X11_bestParents_39 o_names o_rows o_strength o_most o_toldGraph o_toldArc fvalues fcells nm of0) nn (i3_5, i4_6, ftopA_7, flowA_8, fleft_9, fright_10, ftopB_11, fisKnown_12, ftops_13, fsmall_14, flarge_15, fone_16, ftwo_17, frest_18, flows_19, flowB_20) = some b9 → V K 5 [((adA 18), .inl (gI (kG K), 320, .inl ftopA_7)), ((adA 19), .inl (gI (kG K), 320, .inl flowA_8)), ((adA 22), .inl (gI (kG K), 320, .inl fleft_9)), ((adA 23), .inl (gI (kG K), 320, .inl fright_10)), ((adA 20), .inl (gI (kG K), 320, .inl ftopB_11)), (adm, .inr (10, oM adA o_names o_rows o_strength o_most o_toldGraph o_toldArc)), ((adA 1), .inl (gI (kG K), 5, .inl fvalues)), ((adA 3), .inl (gI (kG K), 80, .inl fcells)), ((adA 11), .inl (gZ (kG K), 160, .inl fisKnown_12)), ((adA 12), .inl (gI (kG K), 1280, .inl ftops_13)), ((adA 14), .inl (gI (kG K), 320, .inl fsmall_14)), ((adA 15), .inl (gI (kG K), 320, .inl flarge_15)), ((adA 6), .inl (gI (kG K), 320, .inl fone_16)), ((adA 7), .inl (gI (kG K), 320, .inl ftwo_17)), ((adA 8), .inl (gI (kG K), 320, .inl frest_18)), ((adA 13), .inl (gI (kG K), 1280, .inl flows_19)), ((adA 21), .inl (gI (kG K), 320, .inl flowB_20))] 0 0 39 [(0, .ref adm), (1, .int nm), (2, .int of0), (3, .int i3_5), (4, .int i4_6)] [] := by
  intro nn
  induction nn with
  | zero => intro i3_5 i4_6 ftopA_7 flowA_8 fleft_9 fright_10 ftopB_11 fisKnown_12 ftops_13 fsmall_14 flarge_15 fone_16 ftwo_17 frest_18 flows_19 flowB_20 h; exact absurd h (by simp [lp])
  | succ nn ih =>
    intro i3_5 i4_6 ftopA_7 flowA_8 fleft_9 fright_10 ftopB_11 fisKnown_12 ftops_13 fsmall_14 flarge_15 fone_16 ftwo_17 frest_18 flows_19 flowB_20 h
    replace h := lp_s h
    rw [eb_X11_bestParents_39] at h
    refine v_iload hk dX11_bestParents_39 rfl ?_
    refine v_iload_n hk dX11_bestParents_41 rfl ?_
    refine v_icmp_gt (tgt := 140) hk dX11_bestParents_42 (by decide) (fun hc => ?_) (fun hc => ?_)
    · replace h := it_t (g := (lpk (lp (b_X11_bestParents_39 o_names o_rows o_strength o_most o_toldGraph o_toldArc fvalues fcells nm of0) nn))) h hc
      replace h : some (i3_5, i4_6, ftopA_7, flowA_8, fleft_9, fright_10, ftopB_11, fisKnown_12, ftops_13, fsmall_14, flarge_15, fone_16, ftwo_17, frest_18, flows_19, flowB_20) = some b9 := h
      replace h := Option.some.inj h
      subst h
      exact kk0 _ rfl
    · replace h := it_f (g := (lpk (lp (b_X11_bestParents_39 o_names o_rows o_strength o_most o_toldGraph o_toldArc fvalues fcells nm of0) nn))) h hc
      refine v_iload hk dX11_bestParents_45 rfl ?_
      refine v_iload_n hk dX11_bestParents_47 rfl ?_
      refine v_iconst (v := (-1)) hk dX11_bestParents_48 (by decide) ?_
      refine v_ixor hk dX11_bestParents_49 ?_
      refine v_iand hk dX11_bestParents_50 ?_
      refine v_if_ne (tgt := 134) hk dX11_bestParents_51 (by decide) (fun hc => ?_) (fun hc => ?_)
      · replace h := it_f (g := (lpk (lp (b_X11_bestParents_39 o_names o_rows o_strength o_most o_toldGraph o_toldArc fvalues fcells nm of0) nn))) h hc
        obtain ⟨x4_21, ex4_21, h⟩ := lt_e (g := (lpk (lp (b_X11_bestParents_39 o_names o_rows o_strength o_most o_toldGraph o_toldArc fvalues fcells nm of0) nn))) h
        refine v_iinc (v := x4_21) hk dX11_bestParents_134 rfl (by rw [ex4_21]; rfl) (by decide) [1, 2, 3, 4, 0] (lv' := [(0, .ref adm), (1, .int nm), (2, .int of0), (3, .int i3_5), (4, .int x4_21)]) rfl ?_
        refine v_goto (tgt := 39) hk dX11_bestParents_137 (by decide) ?_
        exact ih i3_5 x4_21 ftopA_7 flowA_8 fleft_9 fright_10 ftopB_11 fisKnown_12 ftops_13 fsmall_14 flarge_15 fone_16 ftwo_17 frest_18 flows_19 flowB_20 h
      · replace h := it_t (g := (lpk (lp (b_X11_bestParents_39 o_names o_rows o_strength o_most o_toldGraph o_toldArc fvalues fcells nm of0) nn))) h hc
        refine v_iload hk dX11_bestParents_54 rfl ?_
        obtain ⟨r_22, er_22, h⟩ := bd_e (g := (lpk (lp (b_X11_bestParents_39 o_names o_rows o_strength o_most o_toldGraph o_toldArc fvalues fcells nm of0) nn))) rfl h
        refine v_callS (n := 1) (st := []) hk dX11_bestParents_56 (c_X11_bits (kl K) (kG K) i4_6 r_22 er_22) gd_X11_bestParents_X11_bits rfl (by decide +kernel) (frok hR9 (Nat.le_of_ble_eq_true rfl) (Nat.le_of_ble_eq_true rfl)) (roomk hR9 (Nat.le_of_ble_eq_true rfl) (Nat.le_of_ble_eq_true rfl)) rfl rfl (Nat.le_of_ble_eq_true rfl) [] [0, 1, 2, 3, 4, 5, 6, 7, 8, 9, 10, 11, 12, 13, 14, 15, 16] (wr := [((adA 18), .inl (gI (kG K), 320, .inl ftopA_7)), ((adA 19), .inl (gI (kG K), 320, .inl flowA_8)), ((adA 22), .inl (gI (kG K), 320, .inl fleft_9)), ((adA 23), .inl (gI (kG K), 320, .inl fright_10)), ((adA 20), .inl (gI (kG K), 320, .inl ftopB_11)), (adm, .inr (10, oM adA o_names o_rows o_strength o_most o_toldGraph o_toldArc)), ((adA 1), .inl (gI (kG K), 5, .inl fvalues)), ((adA 3), .inl (gI (kG K), 80, .inl fcells)), ((adA 11), .inl (gZ (kG K), 160, .inl fisKnown_12)), ((adA 12), .inl (gI (kG K), 1280, .inl ftops_13)), ((adA 14), .inl (gI (kG K), 320, .inl fsmall_14)), ((adA 15), .inl (gI (kG K), 320, .inl flarge_15)), ((adA 6), .inl (gI (kG K), 320, .inl fone_16)), ((adA 7), .inl (gI (kG K), 320, .inl ftwo_17)), ((adA 8), .inl (gI (kG K), 320, .inl frest_18)), ((adA 13), .inl (gI (kG K), 1280, .inl flows_19)), ((adA 21), .inl (gI (kG K), 320, .inl flowB_20))]) rfl rfl (by decide) (by decide) (by decide) ?_
        intro v9 w9 hp9
        obtain ⟨rfl, rfl⟩ := hp9
        show V K 5 [((adA 18), .inl (gI (kG K), 320, .inl ftopA_7)), ((adA 19), .inl (gI (kG K), 320, .inl flowA_8)), ((adA 22), .inl (gI (kG K), 320, .inl fleft_9)), ((adA 23), .inl (gI (kG K), 320, .inl fright_10)), ((adA 20), .inl (gI (kG K), 320, .inl ftopB_11)), (adm, .inr (10, oM adA o_names o_rows o_strength o_most o_toldGraph o_toldArc)), ((adA 1), .inl (gI (kG K), 5, .inl fvalues)), ((adA 3), .inl (gI (kG K), 80, .inl fcells)), ((adA 11), .inl (gZ (kG K), 160, .inl fisKnown_12)), ((adA 12), .inl (gI (kG K), 1280, .inl ftops_13)), ((adA 14), .inl (gI (kG K), 320, .inl fsmall_14)), ((adA 15), .inl (gI (kG K), 320, .inl flarge_15)), ((adA 6), .inl (gI (kG K), 320, .inl fone_16)), ((adA 7), .inl (gI (kG K), 320, .inl ftwo_17)), ((adA 8), .inl (gI (kG K), 320, .inl frest_18)), ((adA 13), .inl (gI (kG K), 1280, .inl flows_19)), ((adA 21), .inl (gI (kG K), 320, .inl flowB_20))] 0 0 59 [(0, .ref adm), (1, .int nm), (2, .int of0), (3, .int i3_5), (4, .int i4_6)] [.int r_22]
        refine v_aload_n hk dX11_bestParents_59 rfl ?_
        refine v_get (C := RX11) (T := TX11) (N := 39) (ci := 10) (v := .int o_most) hk dX11_bestParents_60 w2i_X11_bestParents_X110 5 rfl rfl 5 (by decide) (by decide +kernel) rfl rfl ?_
        refine v_icmp_gt (tgt := 134) hk dX11_bestParents_63 (by decide) (fun hc => ?_) (fun hc => ?_)
        · replace h := it_t (g := (lpk (lp (b_X11_bestParents_39 o_names o_rows o_strength o_most o_toldGraph o_toldArc fvalues fcells nm of0) nn))) h hc
          obtain ⟨x4_23, ex4_23, h⟩ := lt_e (g := (lpk (lp (b_X11_bestParents_39 o_names o_rows o_strength o_most o_toldGraph o_toldArc fvalues fcells nm of0) nn))) h
          refine v_iinc (v := x4_23) hk dX11_bestParents_134 rfl (by rw [ex4_23]; rfl) (by decide) [1, 2, 3, 4, 0] (lv' := [(0, .ref adm), (1, .int nm), (2, .int of0), (3, .int i3_5), (4, .int x4_23)]) rfl ?_
          refine v_goto (tgt := 39) hk dX11_bestParents_137 (by decide) ?_
          exact ih i3_5 x4_23 ftopA_7 flowA_8 fleft_9 fright_10 ftopB_11 fisKnown_12 ftops_13 fsmall_14 flarge_15 fone_16 ftwo_17 frest_18 flows_19 flowB_20 h
        · replace h := it_f (g := (lpk (lp (b_X11_bestParents_39 o_names o_rows o_strength o_most o_toldGraph o_toldArc fvalues fcells nm of0) nn))) h hc
          refine v_aload_n hk dX11_bestParents_66 rfl ?_
          refine v_get (C := RX11) (T := TX11) (N := 39) (ci := 10) (v := .ref (adA 12)) hk dX11_bestParents_67 w2i_X11_bestParents_X110 5 rfl rfl 12 (by decide) (by decide +kernel) rfl rfl ?_
          refine v_aload_n hk dX11_bestParents_70 rfl ?_
          refine v_iload_n hk dX11_bestParents_71 rfl ?_
          refine v_iload hk dX11_bestParents_72 rfl ?_
          obtain ⟨r_24, er_24, h⟩ := bd_e (g := (lpk (lp (b_X11_bestParents_39 o_names o_rows o_strength o_most o_toldGraph o_toldArc fvalues fcells nm of0) nn))) rfl h
          refine v_callV (n := 2) (st := [.ref (adA 12)]) (b := adm) (T := TX11) (N := 39) hk dX11_bestParents_74 (c_X11_family (kl K) (kG K) adm adA o_names o_rows o_strength o_most o_toldGraph o_toldArc fvalues fcells fisKnown_12 ftops_13 flows_19 fsmall_14 flarge_15 fone_16 ftwo_17 frest_18 nm i4_6 r_24 er_24) rfl gd_X11_bestParents_X11_family rfl (by decide +kernel) (frok hR9 (Nat.le_of_ble_eq_true rfl) (Nat.le_of_ble_eq_true rfl)) (roomk hR9 (Nat.le_of_ble_eq_true rfl) (Nat.le_of_ble_eq_true rfl)) rfl rfl (Nat.le_of_ble_eq_true rfl) 5 rfl rfl [5, 6, 7, 8, 9, 15, 10, 11, 12, 13, 14] [0, 1, 2, 3, 4, 16] (wr := [((adA 18), .inl (gI (kG K), 320, .inl ftopA_7)), ((adA 19), .inl (gI (kG K), 320, .inl flowA_8)), ((adA 22), .inl (gI (kG K), 320, .inl fleft_9)), ((adA 23), .inl (gI (kG K), 320, .inl fright_10)), ((adA 20), .inl (gI (kG K), 320, .inl ftopB_11)), ((adA 21), .inl (gI (kG K), 320, .inl flowB_20))]) rfl rfl (by decide) (by decide) (by decide) ?_
          intro v9 w9 hp9
          obtain ⟨rfl, rfl⟩ := hp9
          show V K 5 [((adA 18), .inl (gI (kG K), 320, .inl ftopA_7)), ((adA 19), .inl (gI (kG K), 320, .inl flowA_8)), ((adA 22), .inl (gI (kG K), 320, .inl fleft_9)), ((adA 23), .inl (gI (kG K), 320, .inl fright_10)), ((adA 20), .inl (gI (kG K), 320, .inl ftopB_11)), ((adA 21), .inl (gI (kG K), 320, .inl flowB_20)), (adm, .inr (10, oM adA o_names o_rows o_strength o_most o_toldGraph o_toldArc)), ((adA 1), .inl (gI (kG K), 5, .inl fvalues)), ((adA 3), .inl (gI (kG K), 80, .inl fcells)), ((adA 11), .inl (gZ (kG K), 160, .inl r_24.2.1)), ((adA 12), .inl (gI (kG K), 1280, .inl r_24.2.2.1)), ((adA 13), .inl (gI (kG K), 1280, .inl r_24.2.2.2.1)), ((adA 14), .inl (gI (kG K), 320, .inl r_24.2.2.2.2.1)), ((adA 15), .inl (gI (kG K), 320, .inl r_24.2.2.2.2.2.1)), ((adA 6), .inl (gI (kG K), 320, .inl r_24.2.2.2.2.2.2.1)), ((adA 7), .inl (gI (kG K), 320, .inl r_24.2.2.2.2.2.2.2.1)), ((adA 8), .inl (gI (kG K), 320, .inl r_24.2.2.2.2.2.2.2.2))] 0 0 77 [(0, .ref adm), (1, .int nm), (2, .int of0), (3, .int i3_5), (4, .int i4_6)] [.int r_24.1, .ref (adA 12)]
          refine v_aload_n hk dX11_bestParents_77 rfl ?_
          refine v_get (C := RX11) (T := TX11) (N := 39) (ci := 10) (v := .ref (adA 18)) hk dX11_bestParents_78 w2i_X11_bestParents_X110 6 rfl rfl 18 (by decide) (by decide +kernel) rfl rfl ?_
          obtain ⟨r_25, er_25, h⟩ := bd_e (g := (lpk (lp (b_X11_bestParents_39 o_names o_rows o_strength o_most o_toldGraph o_toldArc fvalues fcells nm of0) nn))) rfl h
          refine v_callS (n := 3) (st := []) hk dX11_bestParents_81 (c_X11_load (kl K) (kG K) (adA 12) (adA 18) 1280 r_24.2.2.1 320 ftopA_7 r_24.1 r_25 er_25) gd_X11_bestParents_X11_load rfl (by decide +kernel) (frok hR9 (Nat.le_of_ble_eq_true rfl) (Nat.le_of_ble_eq_true rfl)) (roomk hR9 (Nat.le_of_ble_eq_true rfl) (Nat.le_of_ble_eq_true rfl)) rfl rfl (Nat.le_of_ble_eq_true rfl) [10, 0] [1, 2, 3, 4, 5, 6, 7, 8, 9, 11, 12, 13, 14, 15, 16] (wr := [((adA 19), .inl (gI (kG K), 320, .inl flowA_8)), ((adA 22), .inl (gI (kG K), 320, .inl fleft_9)), ((adA 23), .inl (gI (kG K), 320, .inl fright_10)), ((adA 20), .inl (gI (kG K), 320, .inl ftopB_11)), ((adA 21), .inl (gI (kG K), 320, .inl flowB_20)), (adm, .inr (10, oM adA o_names o_rows o_strength o_most o_toldGraph o_toldArc)), ((adA 1), .inl (gI (kG K), 5, .inl fvalues)), ((adA 3), .inl (gI (kG K), 80, .inl fcells)), ((adA 11), .inl (gZ (kG K), 160, .inl r_24.2.1)), ((adA 13), .inl (gI (kG K), 1280, .inl r_24.2.2.2.1)), ((adA 14), .inl (gI (kG K), 320, .inl r_24.2.2.2.2.1)), ((adA 15), .inl (gI (kG K), 320, .inl r_24.2.2.2.2.2.1)), ((adA 6), .inl (gI (kG K), 320, .inl r_24.2.2.2.2.2.2.1)), ((adA 7), .inl (gI (kG K), 320, .inl r_24.2.2.2.2.2.2.2.1)), ((adA 8), .inl (gI (kG K), 320, .inl r_24.2.2.2.2.2.2.2.2))]) rfl rfl (by decide) (by decide) (by decide) ?_
          intro v9 w9 hp9
          obtain ⟨rfl, rfl⟩ := hp9
          show V K 5 [((adA 19), .inl (gI (kG K), 320, .inl flowA_8)), ((adA 22), .inl (gI (kG K), 320, .inl fleft_9)), ((adA 23), .inl (gI (kG K), 320, .inl fright_10)), ((adA 20), .inl (gI (kG K), 320, .inl ftopB_11)), ((adA 21), .inl (gI (kG K), 320, .inl flowB_20)), (adm, .inr (10, oM adA o_names o_rows o_strength o_most o_toldGraph o_toldArc)), ((adA 1), .inl (gI (kG K), 5, .inl fvalues)), ((adA 3), .inl (gI (kG K), 80, .inl fcells)), ((adA 11), .inl (gZ (kG K), 160, .inl r_24.2.1)), ((adA 13), .inl (gI (kG K), 1280, .inl r_24.2.2.2.1)), ((adA 14), .inl (gI (kG K), 320, .inl r_24.2.2.2.2.1)), ((adA 15), .inl (gI (kG K), 320, .inl r_24.2.2.2.2.2.1)), ((adA 6), .inl (gI (kG K), 320, .inl r_24.2.2.2.2.2.2.1)), ((adA 7), .inl (gI (kG K), 320, .inl r_24.2.2.2.2.2.2.2.1)), ((adA 8), .inl (gI (kG K), 320, .inl r_24.2.2.2.2.2.2.2.2)), ((adA 12), .inl (gI (kG K), 1280, .inl r_24.2.2.1)), ((adA 18), .inl (gI (kG K), 320, .inl r_25))] 0 0 84 [(0, .ref adm), (1, .int nm), (2, .int of0), (3, .int i3_5), (4, .int i4_6)] []
          refine v_aload_n hk dX11_bestParents_84 rfl ?_
          refine v_get (C := RX11) (T := TX11) (N := 39) (ci := 10) (v := .ref (adA 13)) hk dX11_bestParents_85 w2i_X11_bestParents_X110 5 rfl rfl 13 (by decide) (by decide +kernel) rfl rfl ?_
          refine v_aload_n hk dX11_bestParents_88 rfl ?_
          refine v_iload_n hk dX11_bestParents_89 rfl ?_
          refine v_iload hk dX11_bestParents_90 rfl ?_
          obtain ⟨r_26, er_26, h⟩ := bd_e (g := (lpk (lp (b_X11_bestParents_39 o_names o_rows o_strength o_most o_toldGraph o_toldArc fvalues fcells nm of0) nn))) rfl h
          refine v_callV (n := 2) (st := [.ref (adA 13)]) (b := adm) (T := TX11) (N := 39) hk dX11_bestParents_92 (c_X11_family (kl K) (kG K) adm adA o_names o_rows o_strength o_most o_toldGraph o_toldArc fvalues fcells r_24.2.1 r_24.2.2.1 r_24.2.2.2.1 r_24.2.2.2.2.1 r_24.2.2.2.2.2.1 r_24.2.2.2.2.2.2.1 r_24.2.2.2.2.2.2.2.1 r_24.2.2.2.2.2.2.2.2 nm i4_6 r_26 er_26) rfl gd_X11_bestParents_X11_family rfl (by decide +kernel) (frok hR9 (Nat.le_of_ble_eq_true rfl) (Nat.le_of_ble_eq_true rfl)) (roomk hR9 (Nat.le_of_ble_eq_true rfl) (Nat.le_of_ble_eq_true rfl)) rfl rfl (Nat.le_of_ble_eq_true rfl) 5 rfl rfl [5, 6, 7, 8, 15, 9, 10, 11, 12, 13, 14] [0, 1, 2, 3, 4, 16] (wr := [((adA 19), .inl (gI (kG K), 320, .inl flowA_8)), ((adA 22), .inl (gI (kG K), 320, .inl fleft_9)), ((adA 23), .inl (gI (kG K), 320, .inl fright_10)), ((adA 20), .inl (gI (kG K), 320, .inl ftopB_11)), ((adA 21), .inl (gI (kG K), 320, .inl flowB_20)), ((adA 18), .inl (gI (kG K), 320, .inl r_25))]) rfl rfl (by decide) (by decide) (by decide) ?_
          intro v9 w9 hp9
          obtain ⟨rfl, rfl⟩ := hp9
          show V K 5 [((adA 19), .inl (gI (kG K), 320, .inl flowA_8)), ((adA 22), .inl (gI (kG K), 320, .inl fleft_9)), ((adA 23), .inl (gI (kG K), 320, .inl fright_10)), ((adA 20), .inl (gI (kG K), 320, .inl ftopB_11)), ((adA 21), .inl (gI (kG K), 320, .inl flowB_20)), ((adA 18), .inl (gI (kG K), 320, .inl r_25)), (adm, .inr (10, oM adA o_names o_rows o_strength o_most o_toldGraph o_toldArc)), ((adA 1), .inl (gI (kG K), 5, .inl fvalues)), ((adA 3), .inl (gI (kG K), 80, .inl fcells)), ((adA 11), .inl (gZ (kG K), 160, .inl r_26.2.1)), ((adA 12), .inl (gI (kG K), 1280, .inl r_26.2.2.1)), ((adA 13), .inl (gI (kG K), 1280, .inl r_26.2.2.2.1)), ((adA 14), .inl (gI (kG K), 320, .inl r_26.2.2.2.2.1)), ((adA 15), .inl (gI (kG K), 320, .inl r_26.2.2.2.2.2.1)), ((adA 6), .inl (gI (kG K), 320, .inl r_26.2.2.2.2.2.2.1)), ((adA 7), .inl (gI (kG K), 320, .inl r_26.2.2.2.2.2.2.2.1)), ((adA 8), .inl (gI (kG K), 320, .inl r_26.2.2.2.2.2.2.2.2))] 0 0 95 [(0, .ref adm), (1, .int nm), (2, .int of0), (3, .int i3_5), (4, .int i4_6)] [.int r_26.1, .ref (adA 13)]
          refine v_aload_n hk dX11_bestParents_95 rfl ?_
          refine v_get (C := RX11) (T := TX11) (N := 39) (ci := 10) (v := .ref (adA 19)) hk dX11_bestParents_96 w2i_X11_bestParents_X110 6 rfl rfl 19 (by decide) (by decide +kernel) rfl rfl ?_
          obtain ⟨r_27, er_27, h⟩ := bd_e (g := (lpk (lp (b_X11_bestParents_39 o_names o_rows o_strength o_most o_toldGraph o_toldArc fvalues fcells nm of0) nn))) rfl h
          refine v_callS (n := 3) (st := []) hk dX11_bestParents_99 (c_X11_load (kl K) (kG K) (adA 13) (adA 19) 1280 r_26.2.2.2.1 320 flowA_8 r_26.1 r_27 er_27) gd_X11_bestParents_X11_load rfl (by decide +kernel) (frok hR9 (Nat.le_of_ble_eq_true rfl) (Nat.le_of_ble_eq_true rfl)) (roomk hR9 (Nat.le_of_ble_eq_true rfl) (Nat.le_of_ble_eq_true rfl)) rfl rfl (Nat.le_of_ble_eq_true rfl) [11, 0] [1, 2, 3, 4, 5, 6, 7, 8, 9, 10, 12, 13, 14, 15, 16] (wr := [((adA 22), .inl (gI (kG K), 320, .inl fleft_9)), ((adA 23), .inl (gI (kG K), 320, .inl fright_10)), ((adA 20), .inl (gI (kG K), 320, .inl ftopB_11)), ((adA 21), .inl (gI (kG K), 320, .inl flowB_20)), ((adA 18), .inl (gI (kG K), 320, .inl r_25)), (adm, .inr (10, oM adA o_names o_rows o_strength o_most o_toldGraph o_toldArc)), ((adA 1), .inl (gI (kG K), 5, .inl fvalues)), ((adA 3), .inl (gI (kG K), 80, .inl fcells)), ((adA 11), .inl (gZ (kG K), 160, .inl r_26.2.1)), ((adA 12), .inl (gI (kG K), 1280, .inl r_26.2.2.1)), ((adA 14), .inl (gI (kG K), 320, .inl r_26.2.2.2.2.1)), ((adA 15), .inl (gI (kG K), 320, .inl r_26.2.2.2.2.2.1)), ((adA 6), .inl (gI (kG K), 320, .inl r_26.2.2.2.2.2.2.1)), ((adA 7), .inl (gI (kG K), 320, .inl r_26.2.2.2.2.2.2.2.1)), ((adA 8), .inl (gI (kG K), 320, .inl r_26.2.2.2.2.2.2.2.2))]) rfl rfl (by decide) (by decide) (by decide) ?_
          intro v9 w9 hp9
          obtain ⟨rfl, rfl⟩ := hp9
          show V K 5 [((adA 22), .inl (gI (kG K), 320, .inl fleft_9)), ((adA 23), .inl (gI (kG K), 320, .inl fright_10)), ((adA 20), .inl (gI (kG K), 320, .inl ftopB_11)), ((adA 21), .inl (gI (kG K), 320, .inl flowB_20)), ((adA 18), .inl (gI (kG K), 320, .inl r_25)), (adm, .inr (10, oM adA o_names o_rows o_strength o_most o_toldGraph o_toldArc)), ((adA 1), .inl (gI (kG K), 5, .inl fvalues)), ((adA 3), .inl (gI (kG K), 80, .inl fcells)), ((adA 11), .inl (gZ (kG K), 160, .inl r_26.2.1)), ((adA 12), .inl (gI (kG K), 1280, .inl r_26.2.2.1)), ((adA 14), .inl (gI (kG K), 320, .inl r_26.2.2.2.2.1)), ((adA 15), .inl (gI (kG K), 320, .inl r_26.2.2.2.2.2.1)), ((adA 6), .inl (gI (kG K), 320, .inl r_26.2.2.2.2.2.2.1)), ((adA 7), .inl (gI (kG K), 320, .inl r_26.2.2.2.2.2.2.2.1)), ((adA 8), .inl (gI (kG K), 320, .inl r_26.2.2.2.2.2.2.2.2)), ((adA 13), .inl (gI (kG K), 1280, .inl r_26.2.2.2.1)), ((adA 19), .inl (gI (kG K), 320, .inl r_27))] 0 0 102 [(0, .ref adm), (1, .int nm), (2, .int of0), (3, .int i3_5), (4, .int i4_6)] []
          refine v_aload_n hk dX11_bestParents_102 rfl ?_
          obtain ⟨r_28, er_28, h⟩ := bd_e (g := (lpk (lp (b_X11_bestParents_39 o_names o_rows o_strength o_most o_toldGraph o_toldArc fvalues fcells nm of0) nn))) rfl h
          refine v_callV (n := 0) (st := []) (b := adm) (T := TX11) (N := 39) hk dX11_bestParents_103 (c_X11_sign (kl K) (kG K) adm adA o_names o_rows o_strength o_most o_toldGraph o_toldArc r_25 r_27 ftopB_11 flowB_20 fleft_9 fright_10 r_28 er_28) rfl gd_X11_bestParents_X11_sign rfl (by decide +kernel) (frok hR9 (Nat.le_of_ble_eq_true rfl) (Nat.le_of_ble_eq_true rfl)) (roomk hR9 (Nat.le_of_ble_eq_true rfl) (Nat.le_of_ble_eq_true rfl)) rfl rfl (Nat.le_of_ble_eq_true rfl) 5 rfl rfl [5, 4, 16, 2, 3, 0, 1] [6, 7, 8, 9, 10, 11, 12, 13, 14, 15] (wr := [((adA 1), .inl (gI (kG K), 5, .inl fvalues)), ((adA 3), .inl (gI (kG K), 80, .inl fcells)), ((adA 11), .inl (gZ (kG K), 160, .inl r_26.2.1)), ((adA 12), .inl (gI (kG K), 1280, .inl r_26.2.2.1)), ((adA 14), .inl (gI (kG K), 320, .inl r_26.2.2.2.2.1)), ((adA 15), .inl (gI (kG K), 320, .inl r_26.2.2.2.2.2.1)), ((adA 6), .inl (gI (kG K), 320, .inl r_26.2.2.2.2.2.2.1)), ((adA 7), .inl (gI (kG K), 320, .inl r_26.2.2.2.2.2.2.2.1)), ((adA 8), .inl (gI (kG K), 320, .inl r_26.2.2.2.2.2.2.2.2)), ((adA 13), .inl (gI (kG K), 1280, .inl r_26.2.2.2.1))]) rfl rfl (by decide) (by decide) (by decide) ?_
          intro v9 w9 hp9
          obtain ⟨rfl, rfl⟩ := hp9
          show V K 5 [((adA 1), .inl (gI (kG K), 5, .inl fvalues)), ((adA 3), .inl (gI (kG K), 80, .inl fcells)), ((adA 11), .inl (gZ (kG K), 160, .inl r_26.2.1)), ((adA 12), .inl (gI (kG K), 1280, .inl r_26.2.2.1)), ((adA 14), .inl (gI (kG K), 320, .inl r_26.2.2.2.2.1)), ((adA 15), .inl (gI (kG K), 320, .inl r_26.2.2.2.2.2.1)), ((adA 6), .inl (gI (kG K), 320, .inl r_26.2.2.2.2.2.2.1)), ((adA 7), .inl (gI (kG K), 320, .inl r_26.2.2.2.2.2.2.2.1)), ((adA 8), .inl (gI (kG K), 320, .inl r_26.2.2.2.2.2.2.2.2)), ((adA 13), .inl (gI (kG K), 1280, .inl r_26.2.2.2.1)), (adm, .inr (10, oM adA o_names o_rows o_strength o_most o_toldGraph o_toldArc)), ((adA 18), .inl (gI (kG K), 320, .inl r_25)), ((adA 19), .inl (gI (kG K), 320, .inl r_27)), ((adA 20), .inl (gI (kG K), 320, .inl ftopB_11)), ((adA 21), .inl (gI (kG K), 320, .inl flowB_20)), ((adA 22), .inl (gI (kG K), 320, .inl r_28.2.1)), ((adA 23), .inl (gI (kG K), 320, .inl r_28.2.2))] 0 0 106 [(0, .ref adm), (1, .int nm), (2, .int of0), (3, .int i3_5), (4, .int i4_6)] [.int r_28.1]
          refine v_if_le (tgt := 134) hk dX11_bestParents_106 (by decide) (fun hc => ?_) (fun hc => ?_)
          · replace h := it_t (g := (lpk (lp (b_X11_bestParents_39 o_names o_rows o_strength o_most o_toldGraph o_toldArc fvalues fcells nm of0) nn))) h hc
            obtain ⟨x4_29, ex4_29, h⟩ := lt_e (g := (lpk (lp (b_X11_bestParents_39 o_names o_rows o_strength o_most o_toldGraph o_toldArc fvalues fcells nm of0) nn))) h
            refine v_iinc (v := x4_29) hk dX11_bestParents_134 rfl (by rw [ex4_29]; rfl) (by decide) [1, 2, 3, 4, 0] (lv' := [(0, .ref adm), (1, .int nm), (2, .int of0), (3, .int i3_5), (4, .int x4_29)]) rfl ?_
            refine v_goto (tgt := 39) hk dX11_bestParents_137 (by decide) ?_
            refine v_perm [11, 12, 15, 16, 13, 10, 0, 1, 2, 3, 4, 5, 6, 7, 8, 9, 14] (ws' := [((adA 18), .inl (gI (kG K), 320, .inl r_25)), ((adA 19), .inl (gI (kG K), 320, .inl r_27)), ((adA 22), .inl (gI (kG K), 320, .inl r_28.2.1)), ((adA 23), .inl (gI (kG K), 320, .inl r_28.2.2)), ((adA 20), .inl (gI (kG K), 320, .inl ftopB_11)), (adm, .inr (10, oM adA o_names o_rows o_strength o_most o_toldGraph o_toldArc)), ((adA 1), .inl (gI (kG K), 5, .inl fvalues)), ((adA 3), .inl (gI (kG K), 80, .inl fcells)), ((adA 11), .inl (gZ (kG K), 160, .inl r_26.2.1)), ((adA 12), .inl (gI (kG K), 1280, .inl r_26.2.2.1)), ((adA 14), .inl (gI (kG K), 320, .inl r_26.2.2.2.2.1)), ((adA 15), .inl (gI (kG K), 320, .inl r_26.2.2.2.2.2.1)), ((adA 6), .inl (gI (kG K), 320, .inl r_26.2.2.2.2.2.2.1)), ((adA 7), .inl (gI (kG K), 320, .inl r_26.2.2.2.2.2.2.2.1)), ((adA 8), .inl (gI (kG K), 320, .inl r_26.2.2.2.2.2.2.2.2)), ((adA 13), .inl (gI (kG K), 1280, .inl r_26.2.2.2.1)), ((adA 21), .inl (gI (kG K), 320, .inl flowB_20))]) rfl rfl (by decide) ?_
            exact ih i3_5 x4_29 r_25 r_27 r_28.2.1 r_28.2.2 ftopB_11 r_26.2.1 r_26.2.2.1 r_26.2.2.2.2.1 r_26.2.2.2.2.2.1 r_26.2.2.2.2.2.2.1 r_26.2.2.2.2.2.2.2.1 r_26.2.2.2.2.2.2.2.2 r_26.2.2.2.1 flowB_20 h
          · replace h := it_f (g := (lpk (lp (b_X11_bestParents_39 o_names o_rows o_strength o_most o_toldGraph o_toldArc fvalues fcells nm of0) nn))) h hc
            refine v_iload hk dX11_bestParents_109 rfl ?_
            refine v_istore_n hk dX11_bestParents_111 rfl (by decide) [1, 2, 3, 0, 4] (lv' := [(0, .ref adm), (1, .int nm), (2, .int of0), (3, .int i4_6), (4, .int i4_6)]) rfl ?_
            refine v_aload_n hk dX11_bestParents_112 rfl ?_
            refine v_get (C := RX11) (T := TX11) (N := 39) (ci := 10) (v := .ref (adA 18)) hk dX11_bestParents_113 w2i_X11_bestParents_X110 10 rfl rfl 18 (by decide) (by decide +kernel) rfl rfl ?_
            refine v_aload_n hk dX11_bestParents_116 rfl ?_
            refine v_get (C := RX11) (T := TX11) (N := 39) (ci := 10) (v := .ref (adA 20)) hk dX11_bestParents_117 w2i_X11_bestParents_X110 10 rfl rfl 20 (by decide) (by decide +kernel) rfl rfl ?_
            obtain ⟨r_30, er_30, h⟩ := bd_e (g := (lpk (lp (b_X11_bestParents_39 o_names o_rows o_strength o_most o_toldGraph o_toldArc fvalues fcells nm of0) nn))) rfl h
            refine v_callS (n := 2) (st := []) hk dX11_bestParents_120 (c_X11_copy (kl K) (kG K) (adA 18) (adA 20) 320 r_25 320 ftopB_11 r_30 er_30) gd_X11_bestParents_X11_copy rfl (by decide +kernel) (frok hR9 (Nat.le_of_ble_eq_true rfl) (Nat.le_of_ble_eq_true rfl)) (roomk hR9 (Nat.le_of_ble_eq_true rfl) (Nat.le_of_ble_eq_true rfl)) rfl rfl (Nat.le_of_ble_eq_true rfl) [11, 13] [0, 1, 2, 3, 4, 5, 6, 7, 8, 9, 10, 12, 14, 15, 16] (wr := [((adA 1), .inl (gI (kG K), 5, .inl fvalues)), ((adA 3), .inl (gI (kG K), 80, .inl fcells)), ((adA 11), .inl (gZ (kG K), 160, .inl r_26.2.1)), ((adA 12), .inl (gI (kG K), 1280, .inl r_26.2.2.1)), ((adA 14), .inl (gI (kG K), 320, .inl r_26.2.2.2.2.1)), ((adA 15), .inl (gI (kG K), 320, .inl r_26.2.2.2.2.2.1)), ((adA 6), .inl (gI (kG K), 320, .inl r_26.2.2.2.2.2.2.1)), ((adA 7), .inl (gI (kG K), 320, .inl r_26.2.2.2.2.2.2.2.1)), ((adA 8), .inl (gI (kG K), 320, .inl r_26.2.2.2.2.2.2.2.2)), ((adA 13), .inl (gI (kG K), 1280, .inl r_26.2.2.2.1)), (adm, .inr (10, oM adA o_names o_rows o_strength o_most o_toldGraph o_toldArc)), ((adA 19), .inl (gI (kG K), 320, .inl r_27)), ((adA 21), .inl (gI (kG K), 320, .inl flowB_20)), ((adA 22), .inl (gI (kG K), 320, .inl r_28.2.1)), ((adA 23), .inl (gI (kG K), 320, .inl r_28.2.2))]) rfl rfl (by decide) (by decide) (by decide) ?_
            intro v9 w9 hp9
            obtain ⟨rfl, rfl⟩ := hp9
            show V K 5 [((adA 1), .inl (gI (kG K), 5, .inl fvalues)), ((adA 3), .inl (gI (kG K), 80, .inl fcells)), ((adA 11), .inl (gZ (kG K), 160, .inl r_26.2.1)), ((adA 12), .inl (gI (kG K), 1280, .inl r_26.2.2.1)), ((adA 14), .inl (gI (kG K), 320, .inl r_26.2.2.2.2.1)), ((adA 15), .inl (gI (kG K), 320, .inl r_26.2.2.2.2.2.1)), ((adA 6), .inl (gI (kG K), 320, .inl r_26.2.2.2.2.2.2.1)), ((adA 7), .inl (gI (kG K), 320, .inl r_26.2.2.2.2.2.2.2.1)), ((adA 8), .inl (gI (kG K), 320, .inl r_26.2.2.2.2.2.2.2.2)), ((adA 13), .inl (gI (kG K), 1280, .inl r_26.2.2.2.1)), (adm, .inr (10, oM adA o_names o_rows o_strength o_most o_toldGraph o_toldArc)), ((adA 19), .inl (gI (kG K), 320, .inl r_27)), ((adA 21), .inl (gI (kG K), 320, .inl flowB_20)), ((adA 22), .inl (gI (kG K), 320, .inl r_28.2.1)), ((adA 23), .inl (gI (kG K), 320, .inl r_28.2.2)), ((adA 18), .inl (gI (kG K), 320, .inl r_25)), ((adA 20), .inl (gI (kG K), 320, .inl r_30))] 0 0 123 [(0, .ref adm), (1, .int nm), (2, .int of0), (3, .int i4_6), (4, .int i4_6)] []
            refine v_aload_n hk dX11_bestParents_123 rfl ?_
            refine v_get (C := RX11) (T := TX11) (N := 39) (ci := 10) (v := .ref (adA 19)) hk dX11_bestParents_124 w2i_X11_bestParents_X110 10 rfl rfl 19 (by decide) (by decide +kernel) rfl rfl ?_
            refine v_aload_n hk dX11_bestParents_127 rfl ?_
            refine v_get (C := RX11) (T := TX11) (N := 39) (ci := 10) (v := .ref (adA 21)) hk dX11_bestParents_128 w2i_X11_bestParents_X110 10 rfl rfl 21 (by decide) (by decide +kernel) rfl rfl ?_
            obtain ⟨r_31, er_31, h⟩ := bd_e (g := (lpk (lp (b_X11_bestParents_39 o_names o_rows o_strength o_most o_toldGraph o_toldArc fvalues fcells nm of0) nn))) rfl h
            refine v_callS (n := 2) (st := []) hk dX11_bestParents_131 (c_X11_copy (kl K) (kG K) (adA 19) (adA 21) 320 r_27 320 flowB_20 r_31 er_31) gd_X11_bestParents_X11_copy rfl (by decide +kernel) (frok hR9 (Nat.le_of_ble_eq_true rfl) (Nat.le_of_ble_eq_true rfl)) (roomk hR9 (Nat.le_of_ble_eq_true rfl) (Nat.le_of_ble_eq_true rfl)) rfl rfl (Nat.le_of_ble_eq_true rfl) [11, 12] [0, 1, 2, 3, 4, 5, 6, 7, 8, 9, 10, 13, 14, 15, 16] (wr := [((adA 1), .inl (gI (kG K), 5, .inl fvalues)), ((adA 3), .inl (gI (kG K), 80, .inl fcells)), ((adA 11), .inl (gZ (kG K), 160, .inl r_26.2.1)), ((adA 12), .inl (gI (kG K), 1280, .inl r_26.2.2.1)), ((adA 14), .inl (gI (kG K), 320, .inl r_26.2.2.2.2.1)), ((adA 15), .inl (gI (kG K), 320, .inl r_26.2.2.2.2.2.1)), ((adA 6), .inl (gI (kG K), 320, .inl r_26.2.2.2.2.2.2.1)), ((adA 7), .inl (gI (kG K), 320, .inl r_26.2.2.2.2.2.2.2.1)), ((adA 8), .inl (gI (kG K), 320, .inl r_26.2.2.2.2.2.2.2.2)), ((adA 13), .inl (gI (kG K), 1280, .inl r_26.2.2.2.1)), (adm, .inr (10, oM adA o_names o_rows o_strength o_most o_toldGraph o_toldArc)), ((adA 22), .inl (gI (kG K), 320, .inl r_28.2.1)), ((adA 23), .inl (gI (kG K), 320, .inl r_28.2.2)), ((adA 18), .inl (gI (kG K), 320, .inl r_25)), ((adA 20), .inl (gI (kG K), 320, .inl r_30))]) rfl rfl (by decide) (by decide) (by decide) ?_
            intro v9 w9 hp9
            obtain ⟨rfl, rfl⟩ := hp9
            show V K 5 [((adA 1), .inl (gI (kG K), 5, .inl fvalues)), ((adA 3), .inl (gI (kG K), 80, .inl fcells)), ((adA 11), .inl (gZ (kG K), 160, .inl r_26.2.1)), ((adA 12), .inl (gI (kG K), 1280, .inl r_26.2.2.1)), ((adA 14), .inl (gI (kG K), 320, .inl r_26.2.2.2.2.1)), ((adA 15), .inl (gI (kG K), 320, .inl r_26.2.2.2.2.2.1)), ((adA 6), .inl (gI (kG K), 320, .inl r_26.2.2.2.2.2.2.1)), ((adA 7), .inl (gI (kG K), 320, .inl r_26.2.2.2.2.2.2.2.1)), ((adA 8), .inl (gI (kG K), 320, .inl r_26.2.2.2.2.2.2.2.2)), ((adA 13), .inl (gI (kG K), 1280, .inl r_26.2.2.2.1)), (adm, .inr (10, oM adA o_names o_rows o_strength o_most o_toldGraph o_toldArc)), ((adA 22), .inl (gI (kG K), 320, .inl r_28.2.1)), ((adA 23), .inl (gI (kG K), 320, .inl r_28.2.2)), ((adA 18), .inl (gI (kG K), 320, .inl r_25)), ((adA 20), .inl (gI (kG K), 320, .inl r_30)), ((adA 19), .inl (gI (kG K), 320, .inl r_27)), ((adA 21), .inl (gI (kG K), 320, .inl r_31))] 0 0 134 [(0, .ref adm), (1, .int nm), (2, .int of0), (3, .int i4_6), (4, .int i4_6)] []
            obtain ⟨x4_32, ex4_32, h⟩ := lt_e (g := (lpk (lp (b_X11_bestParents_39 o_names o_rows o_strength o_most o_toldGraph o_toldArc fvalues fcells nm of0) nn))) h
            refine v_iinc (v := x4_32) hk dX11_bestParents_134 rfl (by rw [ex4_32]; rfl) (by decide) [1, 2, 3, 4, 0] (lv' := [(0, .ref adm), (1, .int nm), (2, .int of0), (3, .int i4_6), (4, .int x4_32)]) rfl ?_
            refine v_goto (tgt := 39) hk dX11_bestParents_137 (by decide) ?_
            refine v_perm [13, 15, 11, 12, 14, 10, 0, 1, 2, 3, 4, 5, 6, 7, 8, 9, 16] (ws' := [((adA 18), .inl (gI (kG K), 320, .inl r_25)), ((adA 19), .inl (gI (kG K), 320, .inl r_27)), ((adA 22), .inl (gI (kG K), 320, .inl r_28.2.1)), ((adA 23), .inl (gI (kG K), 320, .inl r_28.2.2)), ((adA 20), .inl (gI (kG K), 320, .inl r_30)), (adm, .inr (10, oM adA o_names o_rows o_strength o_most o_toldGraph o_toldArc)), ((adA 1), .inl (gI (kG K), 5, .inl fvalues)), ((adA 3), .inl (gI (kG K), 80, .inl fcells)), ((adA 11), .inl (gZ (kG K), 160, .inl r_26.2.1)), ((adA 12), .inl (gI (kG K), 1280, .inl r_26.2.2.1)), ((adA 14), .inl (gI (kG K), 320, .inl r_26.2.2.2.2.1)), ((adA 15), .inl (gI (kG K), 320, .inl r_26.2.2.2.2.2.1)), ((adA 6), .inl (gI (kG K), 320, .inl r_26.2.2.2.2.2.2.1)), ((adA 7), .inl (gI (kG K), 320, .inl r_26.2.2.2.2.2.2.2.1)), ((adA 8), .inl (gI (kG K), 320, .inl r_26.2.2.2.2.2.2.2.2)), ((adA 13), .inl (gI (kG K), 1280, .inl r_26.2.2.2.1)), ((adA 21), .inl (gI (kG K), 320, .inl r_31))]) rfl rfl (by decide) ?_
            exact ih i4_6 x4_32 r_25 r_27 r_28.2.1 r_28.2.2 r_30 r_26.2.1 r_26.2.2.1 r_26.2.2.2.2.1 r_26.2.2.2.2.2.1 r_26.2.2.2.2.2.2.1 r_26.2.2.2.2.2.2.2.1 r_26.2.2.2.2.2.2.2.2 r_26.2.2.2.1 r_31 h
set_option maxHeartbeats 4000000 in
set_option maxRecDepth 100000 in
theorem c_X11_bestParents (l : Launch) (G : GG) (adm : Nat) (adA : Nat → Nat) (o_names : Int32) (o_rows : Int32) (o_strength : Int32) (o_most : Int32) (o_toldGraph : Int32) (o_toldArc : Int32) (fvalues : Nat → Int32) (fcells : Nat → Int32) (fisKnown : Nat → Int32) (ftops : Nat → Int32) (flows : Nat → Int32) (fsmall : Nat → Int32) (flarge : Nat → Int32) (fone : Nat → Int32) (ftwo : Nat → Int32) (frest : Nat → Int32) (ftopA : Nat → Int32) (flowA : Nat → Int32) (ftopB : Nat → Int32) (flowB : Nat → Int32) (fleft : Nat → Int32) (fright : Nat → Int32) (nm : Int32) (of0 : Int32) (r : Int32 × (Nat → Int32) × (Nat → Int32) × (Nat → Int32) × (Nat → Int32) × (Nat → Int32) × (Nat → Int32) × (Nat → Int32) × (Nat → Int32) × (Nat → Int32) × (Nat → Int32) × (Nat → Int32) × (Nat → Int32) × (Nat → Int32) × (Nat → Int32)) (h : m_X11_bestParents o_names o_rows o_strength o_most o_toldGraph o_toldArc fvalues fcells fisKnown ftops flows fsmall flarge fone ftwo frest ftopA flowA ftopB flowB fleft fright nm of0 = some r) : Ctr l G yX11_bestParents w2_X11_bestParents rm_X11_bestParents [.ref adm, .int nm, .int of0] [(adm, .inr (10, oM adA o_names o_rows o_strength o_most o_toldGraph o_toldArc)), ((adA 1), .inl (gI G, 5, .inl fvalues)), ((adA 3), .inl (gI G, 80, .inl fcells)), ((adA 11), .inl (gZ G, 160, .inl fisKnown)), ((adA 12), .inl (gI G, 1280, .inl ftops)), ((adA 13), .inl (gI G, 1280, .inl flows)), ((adA 14), .inl (gI G, 320, .inl fsmall)), ((adA 15), .inl (gI G, 320, .inl flarge)), ((adA 6), .inl (gI G, 320, .inl fone)), ((adA 7), .inl (gI G, 320, .inl ftwo)), ((adA 8), .inl (gI G, 320, .inl frest)), ((adA 18), .inl (gI G, 320, .inl ftopA)), ((adA 19), .inl (gI G, 320, .inl flowA)), ((adA 20), .inl (gI G, 320, .inl ftopB)), ((adA 21), .inl (gI G, 320, .inl flowB)), ((adA 22), .inl (gI G, 320, .inl fleft)), ((adA 23), .inl (gI G, 320, .inl fright))] (fun v w => v = some (.int r.1) ∧ w = [(adm, .inr (10, oM adA o_names o_rows o_strength o_most o_toldGraph o_toldArc)), ((adA 1), .inl (gI G, 5, .inl fvalues)), ((adA 3), .inl (gI G, 80, .inl fcells)), ((adA 11), .inl (gZ G, 160, .inl r.2.1)), ((adA 12), .inl (gI G, 1280, .inl r.2.2.1)), ((adA 13), .inl (gI G, 1280, .inl r.2.2.2.1)), ((adA 14), .inl (gI G, 320, .inl r.2.2.2.2.1)), ((adA 15), .inl (gI G, 320, .inl r.2.2.2.2.2.1)), ((adA 6), .inl (gI G, 320, .inl r.2.2.2.2.2.2.1)), ((adA 7), .inl (gI G, 320, .inl r.2.2.2.2.2.2.2.1)), ((adA 8), .inl (gI G, 320, .inl r.2.2.2.2.2.2.2.2.1)), ((adA 18), .inl (gI G, 320, .inl r.2.2.2.2.2.2.2.2.2.1)), ((adA 19), .inl (gI G, 320, .inl r.2.2.2.2.2.2.2.2.2.2.1)), ((adA 20), .inl (gI G, 320, .inl r.2.2.2.2.2.2.2.2.2.2.2.1)), ((adA 21), .inl (gI G, 320, .inl r.2.2.2.2.2.2.2.2.2.2.2.2.1)), ((adA 22), .inl (gI G, 320, .inl r.2.2.2.2.2.2.2.2.2.2.2.2.2.1)), ((adA 23), .inl (gI G, 320, .inl r.2.2.2.2.2.2.2.2.2.2.2.2.2.2))]) := by
  refine ctr_entry (cc := cX11_bestParents) (maxL := 5) (ret := some .int) (lv0 := [(0, .ref adm), (1, .int nm), (2, .int of0)]) (by decide) rfl (Nat.le_of_ble_eq_true rfl) (rfl) ?_
  intro K hl9 hG9 hk hn9 hrt
  subst hl9
  subst hG9
  have hR9 : RoomGe rm_X11_bestParents rm_X11_bestParents := RoomGe.rf
  replace h := id_e h
  rw [em_X11_bestParents] at h
  refine v_iconst (v := 0) hk dX11_bestParents_0 (by decide) ?_
  refine v_istore_n hk dX11_bestParents_1 rfl (by decide) [1, 2, 3, 0] (lv' := [(0, .ref adm), (1, .int nm), (2, .int of0), (3, .int 0)]) rfl ?_
  refine v_aload_n hk dX11_bestParents_2 rfl ?_
  refine v_get (C := RX11) (T := TX11) (N := 39) (ci := 10) (v := .ref (adA 12)) hk dX11_bestParents_3 w2i_X11_bestParents_X110 0 rfl rfl 12 (by decide) (by decide +kernel) rfl rfl ?_
  refine v_aload_n hk dX11_bestParents_6 rfl ?_
  refine v_iload_n hk dX11_bestParents_7 rfl ?_
  refine v_iconst (v := 0) hk dX11_bestParents_8 (by decide) ?_
  obtain ⟨r_1, er_1, h⟩ := bd_e (g := id) rfl h
  refine v_callV (n := 2) (st := [.ref (adA 12)]) (b := adm) (T := TX11) (N := 39) hk dX11_bestParents_9 (c_X11_family (kl K) (kG K) adm adA o_names o_rows o_strength o_most o_toldGraph o_toldArc fvalues fcells fisKnown ftops flows fsmall flarge fone ftwo frest nm 0 r_1 er_1) rfl gd_X11_bestParents_X11_family rfl (by decide +kernel) (frok hR9 (Nat.le_of_ble_eq_true rfl) (Nat.le_of_ble_eq_true rfl)) (roomk hR9 (Nat.le_of_ble_eq_true rfl) (Nat.le_of_ble_eq_true rfl)) rfl rfl (Nat.le_of_ble_eq_true rfl) 0 rfl rfl [0, 1, 2, 3, 4, 5, 6, 7, 8, 9, 10] [11, 12, 13, 14, 15, 16] (wr := [((adA 18), .inl (gI (kG K), 320, .inl ftopA)), ((adA 19), .inl (gI (kG K), 320, .inl flowA)), ((adA 20), .inl (gI (kG K), 320, .inl ftopB)), ((adA 21), .inl (gI (kG K), 320, .inl flowB)), ((adA 22), .inl (gI (kG K), 320, .inl fleft)), ((adA 23), .inl (gI (kG K), 320, .inl fright))]) rfl rfl (by decide) (by decide) (by decide) ?_
  intro v9 w9 hp9
  obtain ⟨rfl, rfl⟩ := hp9
  show V K 5 [((adA 18), .inl (gI (kG K), 320, .inl ftopA)), ((adA 19), .inl (gI (kG K), 320, .inl flowA)), ((adA 20), .inl (gI (kG K), 320, .inl ftopB)), ((adA 21), .inl (gI (kG K), 320, .inl flowB)), ((adA 22), .inl (gI (kG K), 320, .inl fleft)), ((adA 23), .inl (gI (kG K), 320, .inl fright)), (adm, .inr (10, oM adA o_names o_rows o_strength o_most o_toldGraph o_toldArc)), ((adA 1), .inl (gI (kG K), 5, .inl fvalues)), ((adA 3), .inl (gI (kG K), 80, .inl fcells)), ((adA 11), .inl (gZ (kG K), 160, .inl r_1.2.1)), ((adA 12), .inl (gI (kG K), 1280, .inl r_1.2.2.1)), ((adA 13), .inl (gI (kG K), 1280, .inl r_1.2.2.2.1)), ((adA 14), .inl (gI (kG K), 320, .inl r_1.2.2.2.2.1)), ((adA 15), .inl (gI (kG K), 320, .inl r_1.2.2.2.2.2.1)), ((adA 6), .inl (gI (kG K), 320, .inl r_1.2.2.2.2.2.2.1)), ((adA 7), .inl (gI (kG K), 320, .inl r_1.2.2.2.2.2.2.2.1)), ((adA 8), .inl (gI (kG K), 320, .inl r_1.2.2.2.2.2.2.2.2))] 0 0 12 [(0, .ref adm), (1, .int nm), (2, .int of0), (3, .int 0)] [.int r_1.1, .ref (adA 12)]
  refine v_aload_n hk dX11_bestParents_12 rfl ?_
  refine v_get (C := RX11) (T := TX11) (N := 39) (ci := 10) (v := .ref (adA 20)) hk dX11_bestParents_13 w2i_X11_bestParents_X110 6 rfl rfl 20 (by decide) (by decide +kernel) rfl rfl ?_
  obtain ⟨r_2, er_2, h⟩ := bd_e (g := id) rfl h
  refine v_callS (n := 3) (st := []) hk dX11_bestParents_16 (c_X11_load (kl K) (kG K) (adA 12) (adA 20) 1280 r_1.2.2.1 320 ftopB r_1.1 r_2 er_2) gd_X11_bestParents_X11_load rfl (by decide +kernel) (frok hR9 (Nat.le_of_ble_eq_true rfl) (Nat.le_of_ble_eq_true rfl)) (roomk hR9 (Nat.le_of_ble_eq_true rfl) (Nat.le_of_ble_eq_true rfl)) rfl rfl (Nat.le_of_ble_eq_true rfl) [10, 2] [0, 1, 3, 4, 5, 6, 7, 8, 9, 11, 12, 13, 14, 15, 16] (wr := [((adA 18), .inl (gI (kG K), 320, .inl ftopA)), ((adA 19), .inl (gI (kG K), 320, .inl flowA)), ((adA 21), .inl (gI (kG K), 320, .inl flowB)), ((adA 22), .inl (gI (kG K), 320, .inl fleft)), ((adA 23), .inl (gI (kG K), 320, .inl fright)), (adm, .inr (10, oM adA o_names o_rows o_strength o_most o_toldGraph o_toldArc)), ((adA 1), .inl (gI (kG K), 5, .inl fvalues)), ((adA 3), .inl (gI (kG K), 80, .inl fcells)), ((adA 11), .inl (gZ (kG K), 160, .inl r_1.2.1)), ((adA 13), .inl (gI (kG K), 1280, .inl r_1.2.2.2.1)), ((adA 14), .inl (gI (kG K), 320, .inl r_1.2.2.2.2.1)), ((adA 15), .inl (gI (kG K), 320, .inl r_1.2.2.2.2.2.1)), ((adA 6), .inl (gI (kG K), 320, .inl r_1.2.2.2.2.2.2.1)), ((adA 7), .inl (gI (kG K), 320, .inl r_1.2.2.2.2.2.2.2.1)), ((adA 8), .inl (gI (kG K), 320, .inl r_1.2.2.2.2.2.2.2.2))]) rfl rfl (by decide) (by decide) (by decide) ?_
  intro v9 w9 hp9
  obtain ⟨rfl, rfl⟩ := hp9
  show V K 5 [((adA 18), .inl (gI (kG K), 320, .inl ftopA)), ((adA 19), .inl (gI (kG K), 320, .inl flowA)), ((adA 21), .inl (gI (kG K), 320, .inl flowB)), ((adA 22), .inl (gI (kG K), 320, .inl fleft)), ((adA 23), .inl (gI (kG K), 320, .inl fright)), (adm, .inr (10, oM adA o_names o_rows o_strength o_most o_toldGraph o_toldArc)), ((adA 1), .inl (gI (kG K), 5, .inl fvalues)), ((adA 3), .inl (gI (kG K), 80, .inl fcells)), ((adA 11), .inl (gZ (kG K), 160, .inl r_1.2.1)), ((adA 13), .inl (gI (kG K), 1280, .inl r_1.2.2.2.1)), ((adA 14), .inl (gI (kG K), 320, .inl r_1.2.2.2.2.1)), ((adA 15), .inl (gI (kG K), 320, .inl r_1.2.2.2.2.2.1)), ((adA 6), .inl (gI (kG K), 320, .inl r_1.2.2.2.2.2.2.1)), ((adA 7), .inl (gI (kG K), 320, .inl r_1.2.2.2.2.2.2.2.1)), ((adA 8), .inl (gI (kG K), 320, .inl r_1.2.2.2.2.2.2.2.2)), ((adA 12), .inl (gI (kG K), 1280, .inl r_1.2.2.1)), ((adA 20), .inl (gI (kG K), 320, .inl r_2))] 0 0 19 [(0, .ref adm), (1, .int nm), (2, .int of0), (3, .int 0)] []
  refine v_aload_n hk dX11_bestParents_19 rfl ?_
  refine v_get (C := RX11) (T := TX11) (N := 39) (ci := 10) (v := .ref (adA 13)) hk dX11_bestParents_20 w2i_X11_bestParents_X110 5 rfl rfl 13 (by decide) (by decide +kernel) rfl rfl ?_
  refine v_aload_n hk dX11_bestParents_23 rfl ?_
  refine v_iload_n hk dX11_bestParents_24 rfl ?_
  refine v_iconst (v := 0) hk dX11_bestParents_25 (by decide) ?_
  obtain ⟨r_3, er_3, h⟩ := bd_e (g := id) rfl h
  refine v_callV (n := 2) (st := [.ref (adA 13)]) (b := adm) (T := TX11) (N := 39) hk dX11_bestParents_26 (c_X11_family (kl K) (kG K) adm adA o_names o_rows o_strength o_most o_toldGraph o_toldArc fvalues fcells r_1.2.1 r_1.2.2.1 r_1.2.2.2.1 r_1.2.2.2.2.1 r_1.2.2.2.2.2.1 r_1.2.2.2.2.2.2.1 r_1.2.2.2.2.2.2.2.1 r_1.2.2.2.2.2.2.2.2 nm 0 r_3 er_3) rfl gd_X11_bestParents_X11_family rfl (by decide +kernel) (frok hR9 (Nat.le_of_ble_eq_true rfl) (Nat.le_of_ble_eq_true rfl)) (roomk hR9 (Nat.le_of_ble_eq_true rfl) (Nat.le_of_ble_eq_true rfl)) rfl rfl (Nat.le_of_ble_eq_true rfl) 5 rfl rfl [5, 6, 7, 8, 15, 9, 10, 11, 12, 13, 14] [0, 1, 2, 3, 4, 16] (wr := [((adA 18), .inl (gI (kG K), 320, .inl ftopA)), ((adA 19), .inl (gI (kG K), 320, .inl flowA)), ((adA 21), .inl (gI (kG K), 320, .inl flowB)), ((adA 22), .inl (gI (kG K), 320, .inl fleft)), ((adA 23), .inl (gI (kG K), 320, .inl fright)), ((adA 20), .inl (gI (kG K), 320, .inl r_2))]) rfl rfl (by decide) (by decide) (by decide) ?_
  intro v9 w9 hp9
  obtain ⟨rfl, rfl⟩ := hp9
  show V K 5 [((adA 18), .inl (gI (kG K), 320, .inl ftopA)), ((adA 19), .inl (gI (kG K), 320, .inl flowA)), ((adA 21), .inl (gI (kG K), 320, .inl flowB)), ((adA 22), .inl (gI (kG K), 320, .inl fleft)), ((adA 23), .inl (gI (kG K), 320, .inl fright)), ((adA 20), .inl (gI (kG K), 320, .inl r_2)), (adm, .inr (10, oM adA o_names o_rows o_strength o_most o_toldGraph o_toldArc)), ((adA 1), .inl (gI (kG K), 5, .inl fvalues)), ((adA 3), .inl (gI (kG K), 80, .inl fcells)), ((adA 11), .inl (gZ (kG K), 160, .inl r_3.2.1)), ((adA 12), .inl (gI (kG K), 1280, .inl r_3.2.2.1)), ((adA 13), .inl (gI (kG K), 1280, .inl r_3.2.2.2.1)), ((adA 14), .inl (gI (kG K), 320, .inl r_3.2.2.2.2.1)), ((adA 15), .inl (gI (kG K), 320, .inl r_3.2.2.2.2.2.1)), ((adA 6), .inl (gI (kG K), 320, .inl r_3.2.2.2.2.2.2.1)), ((adA 7), .inl (gI (kG K), 320, .inl r_3.2.2.2.2.2.2.2.1)), ((adA 8), .inl (gI (kG K), 320, .inl r_3.2.2.2.2.2.2.2.2))] 0 0 29 [(0, .ref adm), (1, .int nm), (2, .int of0), (3, .int 0)] [.int r_3.1, .ref (adA 13)]
  refine v_aload_n hk dX11_bestParents_29 rfl ?_
  refine v_get (C := RX11) (T := TX11) (N := 39) (ci := 10) (v := .ref (adA 21)) hk dX11_bestParents_30 w2i_X11_bestParents_X110 6 rfl rfl 21 (by decide) (by decide +kernel) rfl rfl ?_
  obtain ⟨r_4, er_4, h⟩ := bd_e (g := id) rfl h
  refine v_callS (n := 3) (st := []) hk dX11_bestParents_33 (c_X11_load (kl K) (kG K) (adA 13) (adA 21) 1280 r_3.2.2.2.1 320 flowB r_3.1 r_4 er_4) gd_X11_bestParents_X11_load rfl (by decide +kernel) (frok hR9 (Nat.le_of_ble_eq_true rfl) (Nat.le_of_ble_eq_true rfl)) (roomk hR9 (Nat.le_of_ble_eq_true rfl) (Nat.le_of_ble_eq_true rfl)) rfl rfl (Nat.le_of_ble_eq_true rfl) [11, 2] [0, 1, 3, 4, 5, 6, 7, 8, 9, 10, 12, 13, 14, 15, 16] (wr := [((adA 18), .inl (gI (kG K), 320, .inl ftopA)), ((adA 19), .inl (gI (kG K), 320, .inl flowA)), ((adA 22), .inl (gI (kG K), 320, .inl fleft)), ((adA 23), .inl (gI (kG K), 320, .inl fright)), ((adA 20), .inl (gI (kG K), 320, .inl r_2)), (adm, .inr (10, oM adA o_names o_rows o_strength o_most o_toldGraph o_toldArc)), ((adA 1), .inl (gI (kG K), 5, .inl fvalues)), ((adA 3), .inl (gI (kG K), 80, .inl fcells)), ((adA 11), .inl (gZ (kG K), 160, .inl r_3.2.1)), ((adA 12), .inl (gI (kG K), 1280, .inl r_3.2.2.1)), ((adA 14), .inl (gI (kG K), 320, .inl r_3.2.2.2.2.1)), ((adA 15), .inl (gI (kG K), 320, .inl r_3.2.2.2.2.2.1)), ((adA 6), .inl (gI (kG K), 320, .inl r_3.2.2.2.2.2.2.1)), ((adA 7), .inl (gI (kG K), 320, .inl r_3.2.2.2.2.2.2.2.1)), ((adA 8), .inl (gI (kG K), 320, .inl r_3.2.2.2.2.2.2.2.2))]) rfl rfl (by decide) (by decide) (by decide) ?_
  intro v9 w9 hp9
  obtain ⟨rfl, rfl⟩ := hp9
  show V K 5 [((adA 18), .inl (gI (kG K), 320, .inl ftopA)), ((adA 19), .inl (gI (kG K), 320, .inl flowA)), ((adA 22), .inl (gI (kG K), 320, .inl fleft)), ((adA 23), .inl (gI (kG K), 320, .inl fright)), ((adA 20), .inl (gI (kG K), 320, .inl r_2)), (adm, .inr (10, oM adA o_names o_rows o_strength o_most o_toldGraph o_toldArc)), ((adA 1), .inl (gI (kG K), 5, .inl fvalues)), ((adA 3), .inl (gI (kG K), 80, .inl fcells)), ((adA 11), .inl (gZ (kG K), 160, .inl r_3.2.1)), ((adA 12), .inl (gI (kG K), 1280, .inl r_3.2.2.1)), ((adA 14), .inl (gI (kG K), 320, .inl r_3.2.2.2.2.1)), ((adA 15), .inl (gI (kG K), 320, .inl r_3.2.2.2.2.2.1)), ((adA 6), .inl (gI (kG K), 320, .inl r_3.2.2.2.2.2.2.1)), ((adA 7), .inl (gI (kG K), 320, .inl r_3.2.2.2.2.2.2.2.1)), ((adA 8), .inl (gI (kG K), 320, .inl r_3.2.2.2.2.2.2.2.2)), ((adA 13), .inl (gI (kG K), 1280, .inl r_3.2.2.2.1)), ((adA 21), .inl (gI (kG K), 320, .inl r_4))] 0 0 36 [(0, .ref adm), (1, .int nm), (2, .int of0), (3, .int 0)] []
  refine v_iconst (v := 1) hk dX11_bestParents_36 (by decide) ?_
  refine v_istore hk dX11_bestParents_37 (by decide) [1, 2, 3, 4, 0] (lv' := [(0, .ref adm), (1, .int nm), (2, .int of0), (3, .int 0), (4, .int 1)]) rfl ?_
  obtain ⟨b_34, eb_34, h⟩ := bd_e (g := id) rfl h
  refine L_X11_bestParents_39 hk hR9 adm adA o_names o_rows o_strength o_most o_toldGraph o_toldArc fvalues fcells nm of0 b_34 (fun q_33 eq_33 => ?_) FU 0 1 ftopA flowA fleft fright r_2 r_3.2.1 r_3.2.2.1 r_3.2.2.2.2.1 r_3.2.2.2.2.2.1 r_3.2.2.2.2.2.2.1 r_3.2.2.2.2.2.2.2.1 r_3.2.2.2.2.2.2.2.2 r_3.2.2.2.1 r_4 eb_34
  · replace eq_33 := eq_33.symm
    subst eq_33
    refine v_iload_n hk dX11_bestParents_140 rfl ?_
    replace h : some (q_33.1, q_33.2.2.2.2.2.2.2.1, q_33.2.2.2.2.2.2.2.2.1, q_33.2.2.2.2.2.2.2.2.2.2.2.2.2.2.1, q_33.2.2.2.2.2.2.2.2.2.1, q_33.2.2.2.2.2.2.2.2.2.2.1, q_33.2.2.2.2.2.2.2.2.2.2.2.1, q_33.2.2.2.2.2.2.2.2.2.2.2.2.1, q_33.2.2.2.2.2.2.2.2.2.2.2.2.2.1, q_33.2.2.1, q_33.2.2.2.1, q_33.2.2.2.2.2.2.1, q_33.2.2.2.2.2.2.2.2.2.2.2.2.2.2.2, q_33.2.2.2.2.1, q_33.2.2.2.2.2.1) = some r := h
    replace h := Option.some.inj h
    subst h
    refine v_perm [5, 6, 7, 8, 9, 15, 10, 11, 12, 13, 14, 0, 1, 4, 16, 2, 3] (ws' := [(adm, .inr (10, oM adA o_names o_rows o_strength o_most o_toldGraph o_toldArc)), ((adA 1), .inl (gI (kG K), 5, .inl fvalues)), ((adA 3), .inl (gI (kG K), 80, .inl fcells)), ((adA 11), .inl (gZ (kG K), 160, .inl q_33.2.2.2.2.2.2.2.1)), ((adA 12), .inl (gI (kG K), 1280, .inl q_33.2.2.2.2.2.2.2.2.1)), ((adA 13), .inl (gI (kG K), 1280, .inl q_33.2.2.2.2.2.2.2.2.2.2.2.2.2.2.1)), ((adA 14), .inl (gI (kG K), 320, .inl q_33.2.2.2.2.2.2.2.2.2.1)), ((adA 15), .inl (gI (kG K), 320, .inl q_33.2.2.2.2.2.2.2.2.2.2.1)), ((adA 6), .inl (gI (kG K), 320, .inl q_33.2.2.2.2.2.2.2.2.2.2.2.1)), ((adA 7), .inl (gI (kG K), 320, .inl q_33.2.2.2.2.2.2.2.2.2.2.2.2.1)), ((adA 8), .inl (gI (kG K), 320, .inl q_33.2.2.2.2.2.2.2.2.2.2.2.2.2.1)), ((adA 18), .inl (gI (kG K), 320, .inl q_33.2.2.1)), ((adA 19), .inl (gI (kG K), 320, .inl q_33.2.2.2.1)), ((adA 20), .inl (gI (kG K), 320, .inl q_33.2.2.2.2.2.2.1)), ((adA 21), .inl (gI (kG K), 320, .inl q_33.2.2.2.2.2.2.2.2.2.2.2.2.2.2.2)), ((adA 22), .inl (gI (kG K), 320, .inl q_33.2.2.2.2.1)), ((adA 23), .inl (gI (kG K), 320, .inl q_33.2.2.2.2.2.1))]) rfl rfl (by decide) ?_
    refine hrt (some (.int q_33.1)) _ _ _ _ _ (⟨rfl, rfl⟩) (Nat.zero_le _) (Nat.zero_le _) (dX11_bestParents_141)
abbrev rm_X11_parents : Room := { frames := 5, cells := 0, slots := 0, locals := 121 }
set_option maxHeartbeats 4000000 in
set_option maxRecDepth 100000 in
theorem c_X11_parents (l : Launch) (G : GG) (adm : Nat) (adA : Nat → Nat) (o_names : Int32) (o_rows : Int32) (o_strength : Int32) (o_most : Int32) (o_toldGraph : Int32) (o_toldArc : Int32) (fvalues : Nat → Int32) (fcells : Nat → Int32) (fisKnown : Nat → Int32) (ftops : Nat → Int32) (flows : Nat → Int32) (fsmall : Nat → Int32) (flarge : Nat → Int32) (fone : Nat → Int32) (ftwo : Nat → Int32) (frest : Nat → Int32) (ftopA : Nat → Int32) (flowA : Nat → Int32) (ftopB : Nat → Int32) (flowB : Nat → Int32) (fleft : Nat → Int32) (fright : Nat → Int32) (nm : Int32) (of0 : Int32) (r : Int32 × (Nat → Int32) × (Nat → Int32) × (Nat → Int32) × (Nat → Int32) × (Nat → Int32) × (Nat → Int32) × (Nat → Int32) × (Nat → Int32) × (Nat → Int32) × (Nat → Int32) × (Nat → Int32) × (Nat → Int32) × (Nat → Int32) × (Nat → Int32)) (h : m_X11_parents o_names o_rows o_strength o_most o_toldGraph o_toldArc fvalues fcells fisKnown ftops flows fsmall flarge fone ftwo frest ftopA flowA ftopB flowB fleft fright nm of0 = some r) : Ctr l G yX11_parents w2_X11_parents rm_X11_parents [.ref adm, .int nm, .int of0] [(adm, .inr (10, oM adA o_names o_rows o_strength o_most o_toldGraph o_toldArc)), ((adA 1), .inl (gI G, 5, .inl fvalues)), ((adA 3), .inl (gI G, 80, .inl fcells)), ((adA 11), .inl (gZ G, 160, .inl fisKnown)), ((adA 12), .inl (gI G, 1280, .inl ftops)), ((adA 13), .inl (gI G, 1280, .inl flows)), ((adA 14), .inl (gI G, 320, .inl fsmall)), ((adA 15), .inl (gI G, 320, .inl flarge)), ((adA 6), .inl (gI G, 320, .inl fone)), ((adA 7), .inl (gI G, 320, .inl ftwo)), ((adA 8), .inl (gI G, 320, .inl frest)), ((adA 18), .inl (gI G, 320, .inl ftopA)), ((adA 19), .inl (gI G, 320, .inl flowA)), ((adA 20), .inl (gI G, 320, .inl ftopB)), ((adA 21), .inl (gI G, 320, .inl flowB)), ((adA 22), .inl (gI G, 320, .inl fleft)), ((adA 23), .inl (gI G, 320, .inl fright))] (fun v w => v = some (.int r.1) ∧ w = [(adm, .inr (10, oM adA o_names o_rows o_strength o_most o_toldGraph o_toldArc)), ((adA 1), .inl (gI G, 5, .inl fvalues)), ((adA 3), .inl (gI G, 80, .inl fcells)), ((adA 11), .inl (gZ G, 160, .inl r.2.1)), ((adA 12), .inl (gI G, 1280, .inl r.2.2.1)), ((adA 13), .inl (gI G, 1280, .inl r.2.2.2.1)), ((adA 14), .inl (gI G, 320, .inl r.2.2.2.2.1)), ((adA 15), .inl (gI G, 320, .inl r.2.2.2.2.2.1)), ((adA 6), .inl (gI G, 320, .inl r.2.2.2.2.2.2.1)), ((adA 7), .inl (gI G, 320, .inl r.2.2.2.2.2.2.2.1)), ((adA 8), .inl (gI G, 320, .inl r.2.2.2.2.2.2.2.2.1)), ((adA 18), .inl (gI G, 320, .inl r.2.2.2.2.2.2.2.2.2.1)), ((adA 19), .inl (gI G, 320, .inl r.2.2.2.2.2.2.2.2.2.2.1)), ((adA 20), .inl (gI G, 320, .inl r.2.2.2.2.2.2.2.2.2.2.2.1)), ((adA 21), .inl (gI G, 320, .inl r.2.2.2.2.2.2.2.2.2.2.2.2.1)), ((adA 22), .inl (gI G, 320, .inl r.2.2.2.2.2.2.2.2.2.2.2.2.2.1)), ((adA 23), .inl (gI G, 320, .inl r.2.2.2.2.2.2.2.2.2.2.2.2.2.2))]) := by
  refine ctr_entry (cc := cX11_parents) (maxL := 3) (ret := some .int) (lv0 := [(0, .ref adm), (1, .int nm), (2, .int of0)]) (by decide) rfl (Nat.le_of_ble_eq_true rfl) (rfl) ?_
  intro K hl9 hG9 hk hn9 hrt
  subst hl9
  subst hG9
  have hR9 : RoomGe rm_X11_parents rm_X11_parents := RoomGe.rf
  replace h := id_e h
  rw [em_X11_parents] at h
  refine v_aload_n hk dX11_parents_0 rfl ?_
  refine v_iload_n hk dX11_parents_1 rfl ?_
  obtain ⟨r_1, er_1, h⟩ := bd_e (g := id) rfl h
  refine v_callV (n := 1) (st := []) (b := adm) (T := TX11) (N := 39) hk dX11_parents_2 (c_X11_isName (kl K) (kG K) adm adA o_names o_rows o_strength o_most o_toldGraph o_toldArc nm r_1 er_1) rfl gd_X11_parents_X11_isName rfl (by decide +kernel) (frok hR9 (Nat.le_of_ble_eq_true rfl) (Nat.le_of_ble_eq_true rfl)) (roomk hR9 (Nat.le_of_ble_eq_true rfl) (Nat.le_of_ble_eq_true rfl)) rfl rfl (Nat.le_of_ble_eq_true rfl) 0 rfl rfl [0] [1, 2, 3, 4, 5, 6, 7, 8, 9, 10, 11, 12, 13, 14, 15, 16] (wr := [((adA 1), .inl (gI (kG K), 5, .inl fvalues)), ((adA 3), .inl (gI (kG K), 80, .inl fcells)), ((adA 11), .inl (gZ (kG K), 160, .inl fisKnown)), ((adA 12), .inl (gI (kG K), 1280, .inl ftops)), ((adA 13), .inl (gI (kG K), 1280, .inl flows)), ((adA 14), .inl (gI (kG K), 320, .inl fsmall)), ((adA 15), .inl (gI (kG K), 320, .inl flarge)), ((adA 6), .inl (gI (kG K), 320, .inl fone)), ((adA 7), .inl (gI (kG K), 320, .inl ftwo)), ((adA 8), .inl (gI (kG K), 320, .inl frest)), ((adA 18), .inl (gI (kG K), 320, .inl ftopA)), ((adA 19), .inl (gI (kG K), 320, .inl flowA)), ((adA 20), .inl (gI (kG K), 320, .inl ftopB)), ((adA 21), .inl (gI (kG K), 320, .inl flowB)), ((adA 22), .inl (gI (kG K), 320, .inl fleft)), ((adA 23), .inl (gI (kG K), 320, .inl fright))]) rfl rfl (by decide) (by decide) (by decide) ?_
  intro v9 w9 hp9
  obtain ⟨rfl, rfl⟩ := hp9
  show V K 3 [((adA 1), .inl (gI (kG K), 5, .inl fvalues)), ((adA 3), .inl (gI (kG K), 80, .inl fcells)), ((adA 11), .inl (gZ (kG K), 160, .inl fisKnown)), ((adA 12), .inl (gI (kG K), 1280, .inl ftops)), ((adA 13), .inl (gI (kG K), 1280, .inl flows)), ((adA 14), .inl (gI (kG K), 320, .inl fsmall)), ((adA 15), .inl (gI (kG K), 320, .inl flarge)), ((adA 6), .inl (gI (kG K), 320, .inl fone)), ((adA 7), .inl (gI (kG K), 320, .inl ftwo)), ((adA 8), .inl (gI (kG K), 320, .inl frest)), ((adA 18), .inl (gI (kG K), 320, .inl ftopA)), ((adA 19), .inl (gI (kG K), 320, .inl flowA)), ((adA 20), .inl (gI (kG K), 320, .inl ftopB)), ((adA 21), .inl (gI (kG K), 320, .inl flowB)), ((adA 22), .inl (gI (kG K), 320, .inl fleft)), ((adA 23), .inl (gI (kG K), 320, .inl fright)), (adm, .inr (10, oM adA o_names o_rows o_strength o_most o_toldGraph o_toldArc))] 0 0 5 [(0, .ref adm), (1, .int nm), (2, .int of0)] [.int r_1]
  refine v_if_eq (tgt := 25) hk dX11_parents_5 (by decide) (fun hc => ?_) (fun hc => ?_)
  · replace h := it_t (g := id) h hc
    refine v_iconst (v := (-1)) hk dX11_parents_25 (by decide) ?_
    refine v_goto (tgt := 35) hk dX11_parents_26 (by decide) ?_
    replace h : some ((-1), fisKnown, ftops, flows, fsmall, flarge, fone, ftwo, frest, ftopA, flowA, ftopB, flowB, fleft, fright) = some r := h
    replace h := Option.some.inj h
    subst h
    refine v_perm [16, 0, 1, 2, 3, 4, 5, 6, 7, 8, 9, 10, 11, 12, 13, 14, 15] (ws' := [(adm, .inr (10, oM adA o_names o_rows o_strength o_most o_toldGraph o_toldArc)), ((adA 1), .inl (gI (kG K), 5, .inl fvalues)), ((adA 3), .inl (gI (kG K), 80, .inl fcells)), ((adA 11), .inl (gZ (kG K), 160, .inl fisKnown)), ((adA 12), .inl (gI (kG K), 1280, .inl ftops)), ((adA 13), .inl (gI (kG K), 1280, .inl flows)), ((adA 14), .inl (gI (kG K), 320, .inl fsmall)), ((adA 15), .inl (gI (kG K), 320, .inl flarge)), ((adA 6), .inl (gI (kG K), 320, .inl fone)), ((adA 7), .inl (gI (kG K), 320, .inl ftwo)), ((adA 8), .inl (gI (kG K), 320, .inl frest)), ((adA 18), .inl (gI (kG K), 320, .inl ftopA)), ((adA 19), .inl (gI (kG K), 320, .inl flowA)), ((adA 20), .inl (gI (kG K), 320, .inl ftopB)), ((adA 21), .inl (gI (kG K), 320, .inl flowB)), ((adA 22), .inl (gI (kG K), 320, .inl fleft)), ((adA 23), .inl (gI (kG K), 320, .inl fright))]) rfl rfl (by decide) ?_
    refine hrt (some (.int (-1))) _ _ _ _ _ (⟨rfl, rfl⟩) (Nat.zero_le _) (Nat.zero_le _) (dX11_parents_35)
  · replace h := it_f (g := id) h hc
    refine v_aload_n hk dX11_parents_8 rfl ?_
    refine v_iload_n hk dX11_parents_9 rfl ?_
    obtain ⟨r_2, er_2, h⟩ := bd_e (g := id) rfl h
    refine v_callV (n := 1) (st := []) (b := adm) (T := TX11) (N := 39) hk dX11_parents_10 (c_X11_isSet (kl K) (kG K) adm adA o_names o_rows o_strength o_most o_toldGraph o_toldArc of0 r_2 er_2) rfl gd_X11_parents_X11_isSet rfl (by decide +kernel) (frok hR9 (Nat.le_of_ble_eq_true rfl) (Nat.le_of_ble_eq_true rfl)) (roomk hR9 (Nat.le_of_ble_eq_true rfl) (Nat.le_of_ble_eq_true rfl)) rfl rfl (Nat.le_of_ble_eq_true rfl) 16 rfl rfl [16] [0, 1, 2, 3, 4, 5, 6, 7, 8, 9, 10, 11, 12, 13, 14, 15] (wr := [((adA 1), .inl (gI (kG K), 5, .inl fvalues)), ((adA 3), .inl (gI (kG K), 80, .inl fcells)), ((adA 11), .inl (gZ (kG K), 160, .inl fisKnown)), ((adA 12), .inl (gI (kG K), 1280, .inl ftops)), ((adA 13), .inl (gI (kG K), 1280, .inl flows)), ((adA 14), .inl (gI (kG K), 320, .inl fsmall)), ((adA 15), .inl (gI (kG K), 320, .inl flarge)), ((adA 6), .inl (gI (kG K), 320, .inl fone)), ((adA 7), .inl (gI (kG K), 320, .inl ftwo)), ((adA 8), .inl (gI (kG K), 320, .inl frest)), ((adA 18), .inl (gI (kG K), 320, .inl ftopA)), ((adA 19), .inl (gI (kG K), 320, .inl flowA)), ((adA 20), .inl (gI (kG K), 320, .inl ftopB)), ((adA 21), .inl (gI (kG K), 320, .inl flowB)), ((adA 22), .inl (gI (kG K), 320, .inl fleft)), ((adA 23), .inl (gI (kG K), 320, .inl fright))]) rfl rfl (by decide) (by decide) (by decide) ?_
    intro v9 w9 hp9
    obtain ⟨rfl, rfl⟩ := hp9
    show V K 3 [((adA 1), .inl (gI (kG K), 5, .inl fvalues)), ((adA 3), .inl (gI (kG K), 80, .inl fcells)), ((adA 11), .inl (gZ (kG K), 160, .inl fisKnown)), ((adA 12), .inl (gI (kG K), 1280, .inl ftops)), ((adA 13), .inl (gI (kG K), 1280, .inl flows)), ((adA 14), .inl (gI (kG K), 320, .inl fsmall)), ((adA 15), .inl (gI (kG K), 320, .inl flarge)), ((adA 6), .inl (gI (kG K), 320, .inl fone)), ((adA 7), .inl (gI (kG K), 320, .inl ftwo)), ((adA 8), .inl (gI (kG K), 320, .inl frest)), ((adA 18), .inl (gI (kG K), 320, .inl ftopA)), ((adA 19), .inl (gI (kG K), 320, .inl flowA)), ((adA 20), .inl (gI (kG K), 320, .inl ftopB)), ((adA 21), .inl (gI (kG K), 320, .inl flowB)), ((adA 22), .inl (gI (kG K), 320, .inl fleft)), ((adA 23), .inl (gI (kG K), 320, .inl fright)), (adm, .inr (10, oM adA o_names o_rows o_strength o_most o_toldGraph o_toldArc))] 0 0 13 [(0, .ref adm), (1, .int nm), (2, .int of0)] [.int r_2]
    refine v_if_eq (tgt := 25) hk dX11_parents_13 (by decide) (fun hc => ?_) (fun hc => ?_)
    · replace h := it_t (g := id) h hc
      refine v_iconst (v := (-1)) hk dX11_parents_25 (by decide) ?_
      refine v_goto (tgt := 35) hk dX11_parents_26 (by decide) ?_
      replace h : some ((-1), fisKnown, ftops, flows, fsmall, flarge, fone, ftwo, frest, ftopA, flowA, ftopB, flowB, fleft, fright) = some r := h
      replace h := Option.some.inj h
      subst h
      refine v_perm [16, 0, 1, 2, 3, 4, 5, 6, 7, 8, 9, 10, 11, 12, 13, 14, 15] (ws' := [(adm, .inr (10, oM adA o_names o_rows o_strength o_most o_toldGraph o_toldArc)), ((adA 1), .inl (gI (kG K), 5, .inl fvalues)), ((adA 3), .inl (gI (kG K), 80, .inl fcells)), ((adA 11), .inl (gZ (kG K), 160, .inl fisKnown)), ((adA 12), .inl (gI (kG K), 1280, .inl ftops)), ((adA 13), .inl (gI (kG K), 1280, .inl flows)), ((adA 14), .inl (gI (kG K), 320, .inl fsmall)), ((adA 15), .inl (gI (kG K), 320, .inl flarge)), ((adA 6), .inl (gI (kG K), 320, .inl fone)), ((adA 7), .inl (gI (kG K), 320, .inl ftwo)), ((adA 8), .inl (gI (kG K), 320, .inl frest)), ((adA 18), .inl (gI (kG K), 320, .inl ftopA)), ((adA 19), .inl (gI (kG K), 320, .inl flowA)), ((adA 20), .inl (gI (kG K), 320, .inl ftopB)), ((adA 21), .inl (gI (kG K), 320, .inl flowB)), ((adA 22), .inl (gI (kG K), 320, .inl fleft)), ((adA 23), .inl (gI (kG K), 320, .inl fright))]) rfl rfl (by decide) ?_
      refine hrt (some (.int (-1))) _ _ _ _ _ (⟨rfl, rfl⟩) (Nat.zero_le _) (Nat.zero_le _) (dX11_parents_35)
    · replace h := it_f (g := id) h hc
      refine v_iload_n hk dX11_parents_16 rfl ?_
      refine v_iload_n hk dX11_parents_17 rfl ?_
      refine v_ishr hk dX11_parents_18 ?_
      refine v_iconst (v := 1) hk dX11_parents_19 (by decide) ?_
      refine v_iand hk dX11_parents_20 ?_
      refine v_iconst (v := 1) hk dX11_parents_21 (by decide) ?_
      refine v_icmp_ne (tgt := 29) hk dX11_parents_22 (by decide) (fun hc => ?_) (fun hc => ?_)
      · replace h := it_f (g := id) h hc
        refine v_aload_n hk dX11_parents_29 rfl ?_
        refine v_iload_n hk dX11_parents_30 rfl ?_
        refine v_iload_n hk dX11_parents_31 rfl ?_
        obtain ⟨r_3, er_3, h⟩ := bd_e (g := id) rfl h
        refine v_callV (n := 2) (st := []) (b := adm) (T := TX11) (N := 39) hk dX11_parents_32 (c_X11_bestParents (kl K) (kG K) adm adA o_names o_rows o_strength o_most o_toldGraph o_toldArc fvalues fcells fisKnown ftops flows fsmall flarge fone ftwo frest ftopA flowA ftopB flowB fleft fright nm of0 r_3 er_3) rfl gd_X11_parents_X11_bestParents rfl (by decide +kernel) (frok hR9 (Nat.le_of_ble_eq_true rfl) (Nat.le_of_ble_eq_true rfl)) (roomk hR9 (Nat.le_of_ble_eq_true rfl) (Nat.le_of_ble_eq_true rfl)) rfl rfl (Nat.le_of_ble_eq_true rfl) 16 rfl rfl [16, 0, 1, 2, 3, 4, 5, 6, 7, 8, 9, 10, 11, 12, 13, 14, 15] [] (wr := []) rfl rfl (by decide) (by decide) (by decide) ?_
        intro v9 w9 hp9
        obtain ⟨rfl, rfl⟩ := hp9
        show V K 3 [(adm, .inr (10, oM adA o_names o_rows o_strength o_most o_toldGraph o_toldArc)), ((adA 1), .inl (gI (kG K), 5, .inl fvalues)), ((adA 3), .inl (gI (kG K), 80, .inl fcells)), ((adA 11), .inl (gZ (kG K), 160, .inl r_3.2.1)), ((adA 12), .inl (gI (kG K), 1280, .inl r_3.2.2.1)), ((adA 13), .inl (gI (kG K), 1280, .inl r_3.2.2.2.1)), ((adA 14), .inl (gI (kG K), 320, .inl r_3.2.2.2.2.1)), ((adA 15), .inl (gI (kG K), 320, .inl r_3.2.2.2.2.2.1)), ((adA 6), .inl (gI (kG K), 320, .inl r_3.2.2.2.2.2.2.1)), ((adA 7), .inl (gI (kG K), 320, .inl r_3.2.2.2.2.2.2.2.1)), ((adA 8), .inl (gI (kG K), 320, .inl r_3.2.2.2.2.2.2.2.2.1)), ((adA 18), .inl (gI (kG K), 320, .inl r_3.2.2.2.2.2.2.2.2.2.1)), ((adA 19), .inl (gI (kG K), 320, .inl r_3.2.2.2.2.2.2.2.2.2.2.1)), ((adA 20), .inl (gI (kG K), 320, .inl r_3.2.2.2.2.2.2.2.2.2.2.2.1)), ((adA 21), .inl (gI (kG K), 320, .inl r_3.2.2.2.2.2.2.2.2.2.2.2.2.1)), ((adA 22), .inl (gI (kG K), 320, .inl r_3.2.2.2.2.2.2.2.2.2.2.2.2.2.1)), ((adA 23), .inl (gI (kG K), 320, .inl r_3.2.2.2.2.2.2.2.2.2.2.2.2.2.2))] 0 0 35 [(0, .ref adm), (1, .int nm), (2, .int of0)] [.int r_3.1]
        replace h : some (r_3.1, r_3.2.1, r_3.2.2.1, r_3.2.2.2.1, r_3.2.2.2.2.1, r_3.2.2.2.2.2.1, r_3.2.2.2.2.2.2.1, r_3.2.2.2.2.2.2.2.1, r_3.2.2.2.2.2.2.2.2.1, r_3.2.2.2.2.2.2.2.2.2.1, r_3.2.2.2.2.2.2.2.2.2.2.1, r_3.2.2.2.2.2.2.2.2.2.2.2.1, r_3.2.2.2.2.2.2.2.2.2.2.2.2.1, r_3.2.2.2.2.2.2.2.2.2.2.2.2.2.1, r_3.2.2.2.2.2.2.2.2.2.2.2.2.2.2) = some r := h
        replace h := Option.some.inj h
        subst h
        refine hrt (some (.int r_3.1)) _ _ _ _ _ (⟨rfl, rfl⟩) (Nat.zero_le _) (Nat.zero_le _) (dX11_parents_35)
      · replace h := it_t (g := id) h hc
        refine v_iconst (v := (-1)) hk dX11_parents_25 (by decide) ?_
        refine v_goto (tgt := 35) hk dX11_parents_26 (by decide) ?_
        replace h : some ((-1), fisKnown, ftops, flows, fsmall, flarge, fone, ftwo, frest, ftopA, flowA, ftopB, flowB, fleft, fright) = some r := h
        replace h := Option.some.inj h
        subst h
        refine v_perm [16, 0, 1, 2, 3, 4, 5, 6, 7, 8, 9, 10, 11, 12, 13, 14, 15] (ws' := [(adm, .inr (10, oM adA o_names o_rows o_strength o_most o_toldGraph o_toldArc)), ((adA 1), .inl (gI (kG K), 5, .inl fvalues)), ((adA 3), .inl (gI (kG K), 80, .inl fcells)), ((adA 11), .inl (gZ (kG K), 160, .inl fisKnown)), ((adA 12), .inl (gI (kG K), 1280, .inl ftops)), ((adA 13), .inl (gI (kG K), 1280, .inl flows)), ((adA 14), .inl (gI (kG K), 320, .inl fsmall)), ((adA 15), .inl (gI (kG K), 320, .inl flarge)), ((adA 6), .inl (gI (kG K), 320, .inl fone)), ((adA 7), .inl (gI (kG K), 320, .inl ftwo)), ((adA 8), .inl (gI (kG K), 320, .inl frest)), ((adA 18), .inl (gI (kG K), 320, .inl ftopA)), ((adA 19), .inl (gI (kG K), 320, .inl flowA)), ((adA 20), .inl (gI (kG K), 320, .inl ftopB)), ((adA 21), .inl (gI (kG K), 320, .inl flowB)), ((adA 22), .inl (gI (kG K), 320, .inl fleft)), ((adA 23), .inl (gI (kG K), 320, .inl fright))]) rfl rfl (by decide) ?_
        refine hrt (some (.int (-1))) _ _ _ _ _ (⟨rfl, rfl⟩) (Nat.zero_le _) (Nat.zero_le _) (dX11_parents_35)
abbrev rm_X11_fitIn : Room := { frames := 4, cells := 0, slots := 0, locals := 97 }
set_option maxHeartbeats 4000000 in
set_option maxRecDepth 100000 in
theorem L_X11_fitIn_14 {K : Cx} {R9 : Room} (hk : Ok K cX11_fitIn 7 RX11 w2_X11_fitIn R9) (hR9 : RoomGe R9 rm_X11_fitIn) (adm : Nat) (adA : Nat → Nat) (adx : Nat) (ady : Nat) (o_names : Int32) (o_rows : Int32) (o_strength : Int32) (o_most : Int32) (o_toldGraph : Int32) (o_toldArc : Int32) (fvalues : Nat → Int32) (fcells : Nat → Int32) (nx : Nat) (ny : Nat) (of0 : Int32) (gr : Int32) (b9 : (Int32 × (Nat → Int32) × (Nat → Int32) × (Nat → Int32) × (Nat → Int32) × (Nat → Int32) × (Nat → Int32) × (Nat → Int32) × (Nat → Int32) × (Nat → Int32) × (Nat → Int32) × (Nat → Int32) × (Nat → Int32))) (kk0 : ∀ q9 : (Int32 × (Nat → Int32) × (Nat → Int32) × (Nat → Int32) × (Nat → Int32) × (Nat → Int32) × (Nat → Int32) × (Nat → Int32) × (Nat → Int32) × (Nat → Int32) × (Nat → Int32) × (Nat → Int32) × (Nat → Int32)), b9 = q9 → V K 7 [(adm, .inr (10, oM adA o_names o_rows o_strength o_most o_toldGraph o_toldArc)), ((adA 1), .inl (gI (kG K), 5, .inl fvalues)), ((adA 3), .inl (gI (kG K), 80, .inl fcells)), ((adA 11), .inl (gZ (kG K), 160, .inl q9.2.1)), ((adA 12), .inl (gI (kG K), 1280, .inl q9.2.2.1)), ((adA 13), .inl (gI (kG K), 1280, .inl q9.2.2.2.1)), ((adA 14), .inl (gI (kG K), 320, .inl q9.2.2.2.2.1)), ((adA 15), .inl (gI (kG K), 320, .inl q9.2.2.2.2.2.1)), ((adA 6), .inl (gI (kG K), 320, .inl q9.2.2.2.2.2.2.1)), ((adA 7), .inl (gI (kG K), 320, .inl q9.2.2.2.2.2.2.2.1)), ((adA 8), .inl (gI (kG K), 320, .inl q9.2.2.2.2.2.2.2.2.1)), ((adA 16), .inl (gI (kG K), 320, .inl q9.2.2.2.2.2.2.2.2.2.1)), ((adA 17), .inl (gI (kG K), 320, .inl q9.2.2.2.2.2.2.2.2.2.2.1)), (adx, .inl (gI (kG K), nx, .inl q9.2.2.2.2.2.2.2.2.2.2.2.1)), (ady, .inl (gI (kG K), ny, .inl q9.2.2.2.2.2.2.2.2.2.2.2.2))] 0 0 76 [(0, .ref adm), (1, .int of0), (2, .int gr), (3, .ref adx), (4, .ref ady), (5, .int q9.1)] []) : ∀ (nn : Nat) (i5_3 : Int32) (fisKnown_4 : Nat → Int32) (ftops_5 : Nat → Int32) (flows_6 : Nat → Int32) (fsmall_7 : Nat → Int32) (flarge_8 : Nat → Int32) (fone_9 : Nat → Int32) (ftwo_10 : Nat → Int32) (frest_11 : Nat → Int32) (ffactor_12 : Nat → Int32) (fmade_13 : Nat → Int32) (fx_14 : Nat → Int32) (fy_15 : Nat → Int32), lp (b_X11_fitIn_14 o_names o_rows o_strength o_most o_toldGraph o_toldArc fvalues fcells nx ny of0 gr) nn (i5_3, fisKnown_4, ftops_5, flows_6, fsmall_7, flarge_8, fone_9, ftwo_10, frest_11, ffactor_12, fmade_13, fx_14, fy_15) = some b9 → V K 7 [(adm, .inr (10, oM adA o_names o_rows o_strength o_most o_toldGraph o_toldArc)), ((adA 1), .inl (gI (kG K), 5, .inl fvalues)), ((adA 3), .inl (gI (kG K), 80, .inl fcells)), ((adA 11), .inl (gZ (kG K), 160, .inl fisKnown_4)), ((adA 12), .inl (gI (kG K), 1280, .inl ftops_5)), ((adA 13), .inl (gI (kG K), 1280, .inl flows_6)), ((adA 14), .inl (gI (kG K), 320, .inl fsmall_7)), ((adA 15), .inl (gI (kG K), 320, .inl flarge_8)), ((adA 6), .inl (gI (kG K), 320, .inl fone_9)), ((adA 7), .inl (gI (kG K), 320, .inl ftwo_10)), ((adA 8), .inl (gI (kG K), 320, .inl frest_11)), ((adA 16), .inl (gI (kG K), 320, .inl ffactor_12)), ((adA 17), .inl (gI (kG K), 320, .inl fmade_13)), (adx, .inl (gI (kG K), nx, .inl fx_14)), (ady, .inl (gI (kG K), ny, .inl fy_15))] 0 0 14 [(0, .ref adm), (1, .int of0), (2, .int gr), (3, .ref adx), (4, .ref ady), (5, .int i5_3)] [] := by
  intro nn
  induction nn with
  | zero => intro i5_3 fisKnown_4 ftops_5 flows_6 fsmall_7 flarge_8 fone_9 ftwo_10 frest_11 ffactor_12 fmade_13 fx_14 fy_15 h; exact absurd h (by simp [lp])
  | succ nn ih =>
    intro i5_3 fisKnown_4 ftops_5 flows_6 fsmall_7 flarge_8 fone_9 ftwo_10 frest_11 ffactor_12 fmade_13 fx_14 fy_15 h
    replace h := lp_s h
    rw [eb_X11_fitIn_14] at h
    refine v_iload hk dX11_fitIn_14 rfl ?_
    refine v_aload_n hk dX11_fitIn_16 rfl ?_
    refine v_get (C := RX11) (T := TX11) (N := 39) (ci := 10) (v := .int o_names) hk dX11_fitIn_17 w2i_X11_fitIn_X110 0 rfl rfl 0 (by decide) (by decide +kernel) rfl rfl ?_
    refine v_icmp_ge (tgt := 76) hk dX11_fitIn_20 (by decide) (fun hc => ?_) (fun hc => ?_)
    · replace h := it_t (g := (lpk (lp (b_X11_fitIn_14 o_names o_rows o_strength o_most o_toldGraph o_toldArc fvalues fcells nx ny of0 gr) nn))) h hc
      replace h : some (i5_3, fisKnown_4, ftops_5, flows_6, fsmall_7, flarge_8, fone_9, ftwo_10, frest_11, ffactor_12, fmade_13, fx_14, fy_15) = some b9 := h
      replace h := Option.some.inj h
      subst h
      exact kk0 _ rfl
    · replace h := it_f (g := (lpk (lp (b_X11_fitIn_14 o_names o_rows o_strength o_most o_toldGraph o_toldArc fvalues fcells nx ny of0 gr) nn))) h hc
      refine v_iload_n hk dX11_fitIn_23 rfl ?_
      refine v_iload hk dX11_fitIn_24 rfl ?_
      refine v_ishr hk dX11_fitIn_26 ?_
      refine v_iconst (v := 1) hk dX11_fitIn_27 (by decide) ?_
      refine v_iand hk dX11_fitIn_28 ?_
      refine v_iconst (v := 1) hk dX11_fitIn_29 (by decide) ?_
      refine v_icmp_ne (tgt := 70) hk dX11_fitIn_30 (by decide) (fun hc => ?_) (fun hc => ?_)
      · replace h := it_f (g := (lpk (lp (b_X11_fitIn_14 o_names o_rows o_strength o_most o_toldGraph o_toldArc fvalues fcells nx ny of0 gr) nn))) h hc
        obtain ⟨x5_16, ex5_16, h⟩ := lt_e (g := (lpk (lp (b_X11_fitIn_14 o_names o_rows o_strength o_most o_toldGraph o_toldArc fvalues fcells nx ny of0 gr) nn))) h
        refine v_iinc (v := x5_16) hk dX11_fitIn_70 rfl (by rw [ex5_16]; rfl) (by decide) [1, 2, 3, 4, 5, 0] (lv' := [(0, .ref adm), (1, .int of0), (2, .int gr), (3, .ref adx), (4, .ref ady), (5, .int x5_16)]) rfl ?_
        refine v_goto (tgt := 14) hk dX11_fitIn_73 (by decide) ?_
        exact ih x5_16 fisKnown_4 ftops_5 flows_6 fsmall_7 flarge_8 fone_9 ftwo_10 frest_11 ffactor_12 fmade_13 fx_14 fy_15 h
      · replace h := it_t (g := (lpk (lp (b_X11_fitIn_14 o_names o_rows o_strength o_most o_toldGraph o_toldArc fvalues fcells nx ny of0 gr) nn))) h hc
        refine v_aload_n hk dX11_fitIn_33 rfl ?_
        refine v_iload hk dX11_fitIn_34 rfl ?_
        refine v_iload_n hk dX11_fitIn_36 rfl ?_
        refine v_iload hk dX11_fitIn_37 rfl ?_
        obtain ⟨r_17, er_17, h⟩ := bd_e (g := (lpk (lp (b_X11_fitIn_14 o_names o_rows o_strength o_most o_toldGraph o_toldArc fvalues fcells nx ny of0 gr) nn))) rfl h
        refine v_callS (n := 2) (st := [.int i5_3, .ref adm]) hk dX11_fitIn_39 (c_X11_parentsOf (kl K) (kG K) gr i5_3 r_17 er_17) gd_X11_fitIn_X11_parentsOf rfl (by decide +kernel) (frok hR9 (Nat.le_of_ble_eq_true rfl) (Nat.le_of_ble_eq_true rfl)) (roomk hR9 (Nat.le_of_ble_eq_true rfl) (Nat.le_of_ble_eq_true rfl)) rfl rfl (Nat.le_of_ble_eq_true rfl) [] [0, 1, 2, 3, 4, 5, 6, 7, 8, 9, 10, 11, 12, 13, 14] (wr := [(adm, .inr (10, oM adA o_names o_rows o_strength o_most o_toldGraph o_toldArc)), ((adA 1), .inl (gI (kG K), 5, .inl fvalues)), ((adA 3), .inl (gI (kG K), 80, .inl fcells)), ((adA 11), .inl (gZ (kG K), 160, .inl fisKnown_4)), ((adA 12), .inl (gI (kG K), 1280, .inl ftops_5)), ((adA 13), .inl (gI (kG K), 1280, .inl flows_6)), ((adA 14), .inl (gI (kG K), 320, .inl fsmall_7)), ((adA 15), .inl (gI (kG K), 320, .inl flarge_8)), ((adA 6), .inl (gI (kG K), 320, .inl fone_9)), ((adA 7), .inl (gI (kG K), 320, .inl ftwo_10)), ((adA 8), .inl (gI (kG K), 320, .inl frest_11)), ((adA 16), .inl (gI (kG K), 320, .inl ffactor_12)), ((adA 17), .inl (gI (kG K), 320, .inl fmade_13)), (adx, .inl (gI (kG K), nx, .inl fx_14)), (ady, .inl (gI (kG K), ny, .inl fy_15))]) rfl rfl (by decide) (by decide) (by decide) ?_
        intro v9 w9 hp9
        obtain ⟨rfl, rfl⟩ := hp9
        show V K 7 [(adm, .inr (10, oM adA o_names o_rows o_strength o_most o_toldGraph o_toldArc)), ((adA 1), .inl (gI (kG K), 5, .inl fvalues)), ((adA 3), .inl (gI (kG K), 80, .inl fcells)), ((adA 11), .inl (gZ (kG K), 160, .inl fisKnown_4)), ((adA 12), .inl (gI (kG K), 1280, .inl ftops_5)), ((adA 13), .inl (gI (kG K), 1280, .inl flows_6)), ((adA 14), .inl (gI (kG K), 320, .inl fsmall_7)), ((adA 15), .inl (gI (kG K), 320, .inl flarge_8)), ((adA 6), .inl (gI (kG K), 320, .inl fone_9)), ((adA 7), .inl (gI (kG K), 320, .inl ftwo_10)), ((adA 8), .inl (gI (kG K), 320, .inl frest_11)), ((adA 16), .inl (gI (kG K), 320, .inl ffactor_12)), ((adA 17), .inl (gI (kG K), 320, .inl fmade_13)), (adx, .inl (gI (kG K), nx, .inl fx_14)), (ady, .inl (gI (kG K), ny, .inl fy_15))] 0 0 42 [(0, .ref adm), (1, .int of0), (2, .int gr), (3, .ref adx), (4, .ref ady), (5, .int i5_3)] [.int r_17, .int i5_3, .ref adm]
        obtain ⟨r_18, er_18, h⟩ := bd_e (g := (lpk (lp (b_X11_fitIn_14 o_names o_rows o_strength o_most o_toldGraph o_toldArc fvalues fcells nx ny of0 gr) nn))) rfl h
        refine v_callV (n := 2) (st := []) (b := adm) (T := TX11) (N := 39) hk dX11_fitIn_42 (c_X11_family (kl K) (kG K) adm adA o_names o_rows o_strength o_most o_toldGraph o_toldArc fvalues fcells fisKnown_4 ftops_5 flows_6 fsmall_7 flarge_8 fone_9 ftwo_10 frest_11 i5_3 r_17 r_18 er_18) rfl gd_X11_fitIn_X11_family rfl (by decide +kernel) (frok hR9 (Nat.le_of_ble_eq_true rfl) (Nat.le_of_ble_eq_true rfl)) (roomk hR9 (Nat.le_of_ble_eq_true rfl) (Nat.le_of_ble_eq_true rfl)) rfl rfl (Nat.le_of_ble_eq_true rfl) 0 rfl rfl [0, 1, 2, 3, 4, 5, 6, 7, 8, 9, 10] [11, 12, 13, 14] (wr := [((adA 16), .inl (gI (kG K), 320, .inl ffactor_12)), ((adA 17), .inl (gI (kG K), 320, .inl fmade_13)), (adx, .inl (gI (kG K), nx, .inl fx_14)), (ady, .inl (gI (kG K), ny, .inl fy_15))]) rfl rfl (by decide) (by decide) (by decide) ?_
        intro v9 w9 hp9
        obtain ⟨rfl, rfl⟩ := hp9
        show V K 7 [((adA 16), .inl (gI (kG K), 320, .inl ffactor_12)), ((adA 17), .inl (gI (kG K), 320, .inl fmade_13)), (adx, .inl (gI (kG K), nx, .inl fx_14)), (ady, .inl (gI (kG K), ny, .inl fy_15)), (adm, .inr (10, oM adA o_names o_rows o_strength o_most o_toldGraph o_toldArc)), ((adA 1), .inl (gI (kG K), 5, .inl fvalues)), ((adA 3), .inl (gI (kG K), 80, .inl fcells)), ((adA 11), .inl (gZ (kG K), 160, .inl r_18.2.1)), ((adA 12), .inl (gI (kG K), 1280, .inl r_18.2.2.1)), ((adA 13), .inl (gI (kG K), 1280, .inl r_18.2.2.2.1)), ((adA 14), .inl (gI (kG K), 320, .inl r_18.2.2.2.2.1)), ((adA 15), .inl (gI (kG K), 320, .inl r_18.2.2.2.2.2.1)), ((adA 6), .inl (gI (kG K), 320, .inl r_18.2.2.2.2.2.2.1)), ((adA 7), .inl (gI (kG K), 320, .inl r_18.2.2.2.2.2.2.2.1)), ((adA 8), .inl (gI (kG K), 320, .inl r_18.2.2.2.2.2.2.2.2))] 0 0 45 [(0, .ref adm), (1, .int of0), (2, .int gr), (3, .ref adx), (4, .ref ady), (5, .int i5_3)] [.int r_18.1]
        refine v_istore hk dX11_fitIn_45 (by decide) [1, 2, 3, 4, 5, 6, 0] (lv' := [(0, .ref adm), (1, .int of0), (2, .int gr), (3, .ref adx), (4, .ref ady), (5, .int i5_3), (6, .int r_18.1)]) rfl ?_
        refine v_aload_n hk dX11_fitIn_47 rfl ?_
        refine v_aload_n hk dX11_fitIn_48 rfl ?_
        refine v_aload_n hk dX11_fitIn_49 rfl ?_
        refine v_get (C := RX11) (T := TX11) (N := 39) (ci := 10) (v := .ref (adA 12)) hk dX11_fitIn_50 w2i_X11_fitIn_X110 4 rfl rfl 12 (by decide) (by decide +kernel) rfl rfl ?_
        refine v_iload hk dX11_fitIn_53 rfl ?_
        obtain ⟨r_19, er_19, h⟩ := bd_e (g := (lpk (lp (b_X11_fitIn_14 o_names o_rows o_strength o_most o_toldGraph o_toldArc fvalues fcells nx ny of0 gr) nn))) rfl h
        refine v_callV (n := 3) (st := []) (b := adm) (T := TX11) (N := 39) hk dX11_fitIn_55 (c_X11_multiply (kl K) (kG K) adm adA adx (adA 12) o_names o_rows o_strength o_most o_toldGraph o_toldArc ffactor_12 fmade_13 nx fx_14 1280 r_18.2.2.1 r_18.1 r_19 er_19) rfl gd_X11_fitIn_X11_multiply rfl (by decide +kernel) (frok hR9 (Nat.le_of_ble_eq_true rfl) (Nat.le_of_ble_eq_true rfl)) (roomk hR9 (Nat.le_of_ble_eq_true rfl) (Nat.le_of_ble_eq_true rfl)) rfl rfl (Nat.le_of_ble_eq_true rfl) 4 rfl rfl [4, 0, 1, 2, 8] [3, 5, 6, 7, 9, 10, 11, 12, 13, 14] (wr := [(ady, .inl (gI (kG K), ny, .inl fy_15)), ((adA 1), .inl (gI (kG K), 5, .inl fvalues)), ((adA 3), .inl (gI (kG K), 80, .inl fcells)), ((adA 11), .inl (gZ (kG K), 160, .inl r_18.2.1)), ((adA 13), .inl (gI (kG K), 1280, .inl r_18.2.2.2.1)), ((adA 14), .inl (gI (kG K), 320, .inl r_18.2.2.2.2.1)), ((adA 15), .inl (gI (kG K), 320, .inl r_18.2.2.2.2.2.1)), ((adA 6), .inl (gI (kG K), 320, .inl r_18.2.2.2.2.2.2.1)), ((adA 7), .inl (gI (kG K), 320, .inl r_18.2.2.2.2.2.2.2.1)), ((adA 8), .inl (gI (kG K), 320, .inl r_18.2.2.2.2.2.2.2.2))]) rfl rfl (by decide) (by decide) (by decide) ?_
        intro v9 w9 hp9
        obtain ⟨rfl, rfl⟩ := hp9
        show V K 7 [(ady, .inl (gI (kG K), ny, .inl fy_15)), ((adA 1), .inl (gI (kG K), 5, .inl fvalues)), ((adA 3), .inl (gI (kG K), 80, .inl fcells)), ((adA 11), .inl (gZ (kG K), 160, .inl r_18.2.1)), ((adA 13), .inl (gI (kG K), 1280, .inl r_18.2.2.2.1)), ((adA 14), .inl (gI (kG K), 320, .inl r_18.2.2.2.2.1)), ((adA 15), .inl (gI (kG K), 320, .inl r_18.2.2.2.2.2.1)), ((adA 6), .inl (gI (kG K), 320, .inl r_18.2.2.2.2.2.2.1)), ((adA 7), .inl (gI (kG K), 320, .inl r_18.2.2.2.2.2.2.2.1)), ((adA 8), .inl (gI (kG K), 320, .inl r_18.2.2.2.2.2.2.2.2)), (adm, .inr (10, oM adA o_names o_rows o_strength o_most o_toldGraph o_toldArc)), ((adA 16), .inl (gI (kG K), 320, .inl r_19.1)), ((adA 17), .inl (gI (kG K), 320, .inl r_19.2.1)), (adx, .inl (gI (kG K), nx, .inl r_19.2.2)), ((adA 12), .inl (gI (kG K), 1280, .inl r_18.2.2.1))] 0 0 58 [(0, .ref adm), (1, .int of0), (2, .int gr), (3, .ref adx), (4, .ref ady), (5, .int i5_3), (6, .int r_18.1)] []
        refine v_aload_n hk dX11_fitIn_58 rfl ?_
        refine v_aload hk dX11_fitIn_59 rfl ?_
        refine v_aload_n hk dX11_fitIn_61 rfl ?_
        refine v_get (C := RX11) (T := TX11) (N := 39) (ci := 10) (v := .ref (adA 13)) hk dX11_fitIn_62 w2i_X11_fitIn_X110 10 rfl rfl 13 (by decide) (by decide +kernel) rfl rfl ?_
        refine v_iload hk dX11_fitIn_65 rfl ?_
        obtain ⟨r_20, er_20, h⟩ := bd_e (g := (lpk (lp (b_X11_fitIn_14 o_names o_rows o_strength o_most o_toldGraph o_toldArc fvalues fcells nx ny of0 gr) nn))) rfl h
        refine v_callV (n := 3) (st := []) (b := adm) (T := TX11) (N := 39) hk dX11_fitIn_67 (c_X11_multiply (kl K) (kG K) adm adA ady (adA 13) o_names o_rows o_strength o_most o_toldGraph o_toldArc r_19.1 r_19.2.1 ny fy_15 1280 r_18.2.2.2.1 r_18.1 r_20 er_20) rfl gd_X11_fitIn_X11_multiply rfl (by decide +kernel) (frok hR9 (Nat.le_of_ble_eq_true rfl) (Nat.le_of_ble_eq_true rfl)) (roomk hR9 (Nat.le_of_ble_eq_true rfl) (Nat.le_of_ble_eq_true rfl)) rfl rfl (Nat.le_of_ble_eq_true rfl) 10 rfl rfl [10, 11, 12, 0, 4] [1, 2, 3, 5, 6, 7, 8, 9, 13, 14] (wr := [((adA 1), .inl (gI (kG K), 5, .inl fvalues)), ((adA 3), .inl (gI (kG K), 80, .inl fcells)), ((adA 11), .inl (gZ (kG K), 160, .inl r_18.2.1)), ((adA 14), .inl (gI (kG K), 320, .inl r_18.2.2.2.2.1)), ((adA 15), .inl (gI (kG K), 320, .inl r_18.2.2.2.2.2.1)), ((adA 6), .inl (gI (kG K), 320, .inl r_18.2.2.2.2.2.2.1)), ((adA 7), .inl (gI (kG K), 320, .inl r_18.2.2.2.2.2.2.2.1)), ((adA 8), .inl (gI (kG K), 320, .inl r_18.2.2.2.2.2.2.2.2)), (adx, .inl (gI (kG K), nx, .inl r_19.2.2)), ((adA 12), .inl (gI (kG K), 1280, .inl r_18.2.2.1))]) rfl rfl (by decide) (by decide) (by decide) ?_
        intro v9 w9 hp9
        obtain ⟨rfl, rfl⟩ := hp9
        show V K 7 [((adA 1), .inl (gI (kG K), 5, .inl fvalues)), ((adA 3), .inl (gI (kG K), 80, .inl fcells)), ((adA 11), .inl (gZ (kG K), 160, .inl r_18.2.1)), ((adA 14), .inl (gI (kG K), 320, .inl r_18.2.2.2.2.1)), ((adA 15), .inl (gI (kG K), 320, .inl r_18.2.2.2.2.2.1)), ((adA 6), .inl (gI (kG K), 320, .inl r_18.2.2.2.2.2.2.1)), ((adA 7), .inl (gI (kG K), 320, .inl r_18.2.2.2.2.2.2.2.1)), ((adA 8), .inl (gI (kG K), 320, .inl r_18.2.2.2.2.2.2.2.2)), (adx, .inl (gI (kG K), nx, .inl r_19.2.2)), ((adA 12), .inl (gI (kG K), 1280, .inl r_18.2.2.1)), (adm, .inr (10, oM adA o_names o_rows o_strength o_most o_toldGraph o_toldArc)), ((adA 16), .inl (gI (kG K), 320, .inl r_20.1)), ((adA 17), .inl (gI (kG K), 320, .inl r_20.2.1)), (ady, .inl (gI (kG K), ny, .inl r_20.2.2)), ((adA 13), .inl (gI (kG K), 1280, .inl r_18.2.2.2.1))] 0 0 70 [(0, .ref adm), (1, .int of0), (2, .int gr), (3, .ref adx), (4, .ref ady), (5, .int i5_3), (6, .int r_18.1)] []
        obtain ⟨x5_21, ex5_21, h⟩ := lt_e (g := (lpk (lp (b_X11_fitIn_14 o_names o_rows o_strength o_most o_toldGraph o_toldArc fvalues fcells nx ny of0 gr) nn))) h
        refine v_iinc (v := x5_21) hk dX11_fitIn_70 rfl (by rw [ex5_21]; rfl) (by decide) [1, 2, 3, 4, 5, 0, 6] (lv' := [(0, .ref adm), (1, .int of0), (2, .int gr), (3, .ref adx), (4, .ref ady), (5, .int x5_21), (6, .int r_18.1)]) rfl ?_
        refine v_goto (tgt := 14) hk dX11_fitIn_73 (by decide) ?_
        refine v_loc [0, 1, 2, 3, 4, 5] (lv' := [(0, .ref adm), (1, .int of0), (2, .int gr), (3, .ref adx), (4, .ref ady), (5, .int x5_21)]) rfl ?_
        refine v_perm [10, 0, 1, 2, 9, 14, 3, 4, 5, 6, 7, 11, 12, 8, 13] (ws' := [(adm, .inr (10, oM adA o_names o_rows o_strength o_most o_toldGraph o_toldArc)), ((adA 1), .inl (gI (kG K), 5, .inl fvalues)), ((adA 3), .inl (gI (kG K), 80, .inl fcells)), ((adA 11), .inl (gZ (kG K), 160, .inl r_18.2.1)), ((adA 12), .inl (gI (kG K), 1280, .inl r_18.2.2.1)), ((adA 13), .inl (gI (kG K), 1280, .inl r_18.2.2.2.1)), ((adA 14), .inl (gI (kG K), 320, .inl r_18.2.2.2.2.1)), ((adA 15), .inl (gI (kG K), 320, .inl r_18.2.2.2.2.2.1)), ((adA 6), .inl (gI (kG K), 320, .inl r_18.2.2.2.2.2.2.1)), ((adA 7), .inl (gI (kG K), 320, .inl r_18.2.2.2.2.2.2.2.1)), ((adA 8), .inl (gI (kG K), 320, .inl r_18.2.2.2.2.2.2.2.2)), ((adA 16), .inl (gI (kG K), 320, .inl r_20.1)), ((adA 17), .inl (gI (kG K), 320, .inl r_20.2.1)), (adx, .inl (gI (kG K), nx, .inl r_19.2.2)), (ady, .inl (gI (kG K), ny, .inl r_20.2.2))]) rfl rfl (by decide) ?_
        exact ih x5_21 r_18.2.1 r_18.2.2.1 r_18.2.2.2.1 r_18.2.2.2.2.1 r_18.2.2.2.2.2.1 r_18.2.2.2.2.2.2.1 r_18.2.2.2.2.2.2.2.1 r_18.2.2.2.2.2.2.2.2 r_20.1 r_20.2.1 r_19.2.2 r_20.2.2 h
set_option maxHeartbeats 4000000 in
set_option maxRecDepth 100000 in
theorem c_X11_fitIn (l : Launch) (G : GG) (adm : Nat) (adA : Nat → Nat) (adx : Nat) (ady : Nat) (o_names : Int32) (o_rows : Int32) (o_strength : Int32) (o_most : Int32) (o_toldGraph : Int32) (o_toldArc : Int32) (fvalues : Nat → Int32) (fcells : Nat → Int32) (fisKnown : Nat → Int32) (ftops : Nat → Int32) (flows : Nat → Int32) (fsmall : Nat → Int32) (flarge : Nat → Int32) (fone : Nat → Int32) (ftwo : Nat → Int32) (frest : Nat → Int32) (ffactor : Nat → Int32) (fmade : Nat → Int32) (nx : Nat) (fx : Nat → Int32) (ny : Nat) (fy : Nat → Int32) (of0 : Int32) (gr : Int32) (r : (Nat → Int32) × (Nat → Int32) × (Nat → Int32) × (Nat → Int32) × (Nat → Int32) × (Nat → Int32) × (Nat → Int32) × (Nat → Int32) × (Nat → Int32) × (Nat → Int32) × (Nat → Int32) × (Nat → Int32)) (h : m_X11_fitIn o_names o_rows o_strength o_most o_toldGraph o_toldArc fvalues fcells fisKnown ftops flows fsmall flarge fone ftwo frest ffactor fmade nx fx ny fy of0 gr = some r) : Ctr l G yX11_fitIn w2_X11_fitIn rm_X11_fitIn [.ref adm, .int of0, .int gr, .ref adx, .ref ady] [(adm, .inr (10, oM adA o_names o_rows o_strength o_most o_toldGraph o_toldArc)), ((adA 1), .inl (gI G, 5, .inl fvalues)), ((adA 3), .inl (gI G, 80, .inl fcells)), ((adA 11), .inl (gZ G, 160, .inl fisKnown)), ((adA 12), .inl (gI G, 1280, .inl ftops)), ((adA 13), .inl (gI G, 1280, .inl flows)), ((adA 14), .inl (gI G, 320, .inl fsmall)), ((adA 15), .inl (gI G, 320, .inl flarge)), ((adA 6), .inl (gI G, 320, .inl fone)), ((adA 7), .inl (gI G, 320, .inl ftwo)), ((adA 8), .inl (gI G, 320, .inl frest)), ((adA 16), .inl (gI G, 320, .inl ffactor)), ((adA 17), .inl (gI G, 320, .inl fmade)), (adx, .inl (gI G, nx, .inl fx)), (ady, .inl (gI G, ny, .inl fy))] (fun v w => v = none ∧ w = [(adm, .inr (10, oM adA o_names o_rows o_strength o_most o_toldGraph o_toldArc)), ((adA 1), .inl (gI G, 5, .inl fvalues)), ((adA 3), .inl (gI G, 80, .inl fcells)), ((adA 11), .inl (gZ G, 160, .inl r.1)), ((adA 12), .inl (gI G, 1280, .inl r.2.1)), ((adA 13), .inl (gI G, 1280, .inl r.2.2.1)), ((adA 14), .inl (gI G, 320, .inl r.2.2.2.1)), ((adA 15), .inl (gI G, 320, .inl r.2.2.2.2.1)), ((adA 6), .inl (gI G, 320, .inl r.2.2.2.2.2.1)), ((adA 7), .inl (gI G, 320, .inl r.2.2.2.2.2.2.1)), ((adA 8), .inl (gI G, 320, .inl r.2.2.2.2.2.2.2.1)), ((adA 16), .inl (gI G, 320, .inl r.2.2.2.2.2.2.2.2.1)), ((adA 17), .inl (gI G, 320, .inl r.2.2.2.2.2.2.2.2.2.1)), (adx, .inl (gI G, nx, .inl r.2.2.2.2.2.2.2.2.2.2.1)), (ady, .inl (gI G, ny, .inl r.2.2.2.2.2.2.2.2.2.2.2))]) := by
  refine ctr_entry (cc := cX11_fitIn) (maxL := 7) (ret := none) (lv0 := [(0, .ref adm), (1, .int of0), (2, .int gr), (3, .ref adx), (4, .ref ady)]) (by decide) rfl (Nat.le_of_ble_eq_true rfl) (rfl) ?_
  intro K hl9 hG9 hk hn9 hrt
  subst hl9
  subst hG9
  have hR9 : RoomGe rm_X11_fitIn rm_X11_fitIn := RoomGe.rf
  replace h := id_e h
  rw [em_X11_fitIn] at h
  refine v_aload_n hk dX11_fitIn_0 rfl ?_
  refine v_iconst (v := 1) hk dX11_fitIn_1 (by decide) ?_
  obtain ⟨r_1, er_1, h⟩ := bd_e (g := id) rfl h
  refine v_callS (n := 2) (st := []) hk dX11_fitIn_2 (c_X11_put (kl K) (kG K) adx nx fx 1 r_1 er_1) gd_X11_fitIn_X11_put rfl (by decide +kernel) (frok hR9 (Nat.le_of_ble_eq_true rfl) (Nat.le_of_ble_eq_true rfl)) (roomk hR9 (Nat.le_of_ble_eq_true rfl) (Nat.le_of_ble_eq_true rfl)) rfl rfl (Nat.le_of_ble_eq_true rfl) [13] [0, 1, 2, 3, 4, 5, 6, 7, 8, 9, 10, 11, 12, 14] (wr := [(adm, .inr (10, oM adA o_names o_rows o_strength o_most o_toldGraph o_toldArc)), ((adA 1), .inl (gI (kG K), 5, .inl fvalues)), ((adA 3), .inl (gI (kG K), 80, .inl fcells)), ((adA 11), .inl (gZ (kG K), 160, .inl fisKnown)), ((adA 12), .inl (gI (kG K), 1280, .inl ftops)), ((adA 13), .inl (gI (kG K), 1280, .inl flows)), ((adA 14), .inl (gI (kG K), 320, .inl fsmall)), ((adA 15), .inl (gI (kG K), 320, .inl flarge)), ((adA 6), .inl (gI (kG K), 320, .inl fone)), ((adA 7), .inl (gI (kG K), 320, .inl ftwo)), ((adA 8), .inl (gI (kG K), 320, .inl frest)), ((adA 16), .inl (gI (kG K), 320, .inl ffactor)), ((adA 17), .inl (gI (kG K), 320, .inl fmade)), (ady, .inl (gI (kG K), ny, .inl fy))]) rfl rfl (by decide) (by decide) (by decide) ?_
  intro v9 w9 hp9
  obtain ⟨rfl, rfl⟩ := hp9
  show V K 7 [(adm, .inr (10, oM adA o_names o_rows o_strength o_most o_toldGraph o_toldArc)), ((adA 1), .inl (gI (kG K), 5, .inl fvalues)), ((adA 3), .inl (gI (kG K), 80, .inl fcells)), ((adA 11), .inl (gZ (kG K), 160, .inl fisKnown)), ((adA 12), .inl (gI (kG K), 1280, .inl ftops)), ((adA 13), .inl (gI (kG K), 1280, .inl flows)), ((adA 14), .inl (gI (kG K), 320, .inl fsmall)), ((adA 15), .inl (gI (kG K), 320, .inl flarge)), ((adA 6), .inl (gI (kG K), 320, .inl fone)), ((adA 7), .inl (gI (kG K), 320, .inl ftwo)), ((adA 8), .inl (gI (kG K), 320, .inl frest)), ((adA 16), .inl (gI (kG K), 320, .inl ffactor)), ((adA 17), .inl (gI (kG K), 320, .inl fmade)), (ady, .inl (gI (kG K), ny, .inl fy)), (adx, .inl (gI (kG K), nx, .inl r_1))] 0 0 5 [(0, .ref adm), (1, .int of0), (2, .int gr), (3, .ref adx), (4, .ref ady)] []
  refine v_aload hk dX11_fitIn_5 rfl ?_
  refine v_iconst (v := 1) hk dX11_fitIn_7 (by decide) ?_
  obtain ⟨r_2, er_2, h⟩ := bd_e (g := id) rfl h
  refine v_callS (n := 2) (st := []) hk dX11_fitIn_8 (c_X11_put (kl K) (kG K) ady ny fy 1 r_2 er_2) gd_X11_fitIn_X11_put rfl (by decide +kernel) (frok hR9 (Nat.le_of_ble_eq_true rfl) (Nat.le_of_ble_eq_true rfl)) (roomk hR9 (Nat.le_of_ble_eq_true rfl) (Nat.le_of_ble_eq_true rfl)) rfl rfl (Nat.le_of_ble_eq_true rfl) [13] [0, 1, 2, 3, 4, 5, 6, 7, 8, 9, 10, 11, 12, 14] (wr := [(adm, .inr (10, oM adA o_names o_rows o_strength o_most o_toldGraph o_toldArc)), ((adA 1), .inl (gI (kG K), 5, .inl fvalues)), ((adA 3), .inl (gI (kG K), 80, .inl fcells)), ((adA 11), .inl (gZ (kG K), 160, .inl fisKnown)), ((adA 12), .inl (gI (kG K), 1280, .inl ftops)), ((adA 13), .inl (gI (kG K), 1280, .inl flows)), ((adA 14), .inl (gI (kG K), 320, .inl fsmall)), ((adA 15), .inl (gI (kG K), 320, .inl flarge)), ((adA 6), .inl (gI (kG K), 320, .inl fone)), ((adA 7), .inl (gI (kG K), 320, .inl ftwo)), ((adA 8), .inl (gI (kG K), 320, .inl frest)), ((adA 16), .inl (gI (kG K), 320, .inl ffactor)), ((adA 17), .inl (gI (kG K), 320, .inl fmade)), (adx, .inl (gI (kG K), nx, .inl r_1))]) rfl rfl (by decide) (by decide) (by decide) ?_
  intro v9 w9 hp9
  obtain ⟨rfl, rfl⟩ := hp9
  show V K 7 [(adm, .inr (10, oM adA o_names o_rows o_strength o_most o_toldGraph o_toldArc)), ((adA 1), .inl (gI (kG K), 5, .inl fvalues)), ((adA 3), .inl (gI (kG K), 80, .inl fcells)), ((adA 11), .inl (gZ (kG K), 160, .inl fisKnown)), ((adA 12), .inl (gI (kG K), 1280, .inl ftops)), ((adA 13), .inl (gI (kG K), 1280, .inl flows)), ((adA 14), .inl (gI (kG K), 320, .inl fsmall)), ((adA 15), .inl (gI (kG K), 320, .inl flarge)), ((adA 6), .inl (gI (kG K), 320, .inl fone)), ((adA 7), .inl (gI (kG K), 320, .inl ftwo)), ((adA 8), .inl (gI (kG K), 320, .inl frest)), ((adA 16), .inl (gI (kG K), 320, .inl ffactor)), ((adA 17), .inl (gI (kG K), 320, .inl fmade)), (adx, .inl (gI (kG K), nx, .inl r_1)), (ady, .inl (gI (kG K), ny, .inl r_2))] 0 0 11 [(0, .ref adm), (1, .int of0), (2, .int gr), (3, .ref adx), (4, .ref ady)] []
  refine v_iconst (v := 0) hk dX11_fitIn_11 (by decide) ?_
  refine v_istore hk dX11_fitIn_12 (by decide) [1, 2, 3, 4, 5, 0] (lv' := [(0, .ref adm), (1, .int of0), (2, .int gr), (3, .ref adx), (4, .ref ady), (5, .int 0)]) rfl ?_
  obtain ⟨b_23, eb_23, h⟩ := bd_e (g := id) rfl h
  refine L_X11_fitIn_14 hk hR9 adm adA adx ady o_names o_rows o_strength o_most o_toldGraph o_toldArc fvalues fcells nx ny of0 gr b_23 (fun q_22 eq_22 => ?_) FU 0 fisKnown ftops flows fsmall flarge fone ftwo frest ffactor fmade r_1 r_2 eb_23
  · replace eq_22 := eq_22.symm
    subst eq_22
    replace h : some (q_22.2.1, q_22.2.2.1, q_22.2.2.2.1, q_22.2.2.2.2.1, q_22.2.2.2.2.2.1, q_22.2.2.2.2.2.2.1, q_22.2.2.2.2.2.2.2.1, q_22.2.2.2.2.2.2.2.2.1, q_22.2.2.2.2.2.2.2.2.2.1, q_22.2.2.2.2.2.2.2.2.2.2.1, q_22.2.2.2.2.2.2.2.2.2.2.2.1, q_22.2.2.2.2.2.2.2.2.2.2.2.2) = some r := h
    replace h := Option.some.inj h
    subst h
    refine hrt (none) _ _ _ _ _ (⟨rfl, rfl⟩) (Nat.zero_le _) (Nat.zero_le _) (dX11_fitIn_76)
abbrev rm_X11_signIn : Room := { frames := 5, cells := 0, slots := 0, locals := 123 }
set_option maxHeartbeats 4000000 in
set_option maxRecDepth 100000 in
theorem c_X11_signIn (l : Launch) (G : GG) (adm : Nat) (adA : Nat → Nat) (o_names : Int32) (o_rows : Int32) (o_strength : Int32) (o_most : Int32) (o_toldGraph : Int32) (o_toldArc : Int32) (fvalues : Nat → Int32) (fcells : Nat → Int32) (fisKnown : Nat → Int32) (ftops : Nat → Int32) (flows : Nat → Int32) (fsmall : Nat → Int32) (flarge : Nat → Int32) (fone : Nat → Int32) (ftwo : Nat → Int32) (frest : Nat → Int32) (ffactor : Nat → Int32) (fmade : Nat → Int32) (ftopA : Nat → Int32) (flowA : Nat → Int32) (ftopB : Nat → Int32) (flowB : Nat → Int32) (fleft : Nat → Int32) (fright : Nat → Int32) (of0 : Int32) (gr : Int32) (ot : Int32) (r : Int32 × (Nat → Int32) × (Nat → Int32) × (Nat → Int32) × (Nat → Int32) × (Nat → Int32) × (Nat → Int32) × (Nat → Int32) × (Nat → Int32) × (Nat → Int32) × (Nat → Int32) × (Nat → Int32) × (Nat → Int32) × (Nat → Int32) × (Nat → Int32) × (Nat → Int32) × (Nat → Int32)) (h : m_X11_signIn o_names o_rows o_strength o_most o_toldGraph o_toldArc fvalues fcells fisKnown ftops flows fsmall flarge fone ftwo frest ffactor fmade ftopA flowA ftopB flowB fleft fright of0 gr ot = some r) : Ctr l G yX11_signIn w2_X11_signIn rm_X11_signIn [.ref adm, .int of0, .int gr, .int ot] [(adm, .inr (10, oM adA o_names o_rows o_strength o_most o_toldGraph o_toldArc)), ((adA 1), .inl (gI G, 5, .inl fvalues)), ((adA 3), .inl (gI G, 80, .inl fcells)), ((adA 11), .inl (gZ G, 160, .inl fisKnown)), ((adA 12), .inl (gI G, 1280, .inl ftops)), ((adA 13), .inl (gI G, 1280, .inl flows)), ((adA 14), .inl (gI G, 320, .inl fsmall)), ((adA 15), .inl (gI G, 320, .inl flarge)), ((adA 6), .inl (gI G, 320, .inl fone)), ((adA 7), .inl (gI G, 320, .inl ftwo)), ((adA 8), .inl (gI G, 320, .inl frest)), ((adA 16), .inl (gI G, 320, .inl ffactor)), ((adA 17), .inl (gI G, 320, .inl fmade)), ((adA 18), .inl (gI G, 320, .inl ftopA)), ((adA 19), .inl (gI G, 320, .inl flowA)), ((adA 20), .inl (gI G, 320, .inl ftopB)), ((adA 21), .inl (gI G, 320, .inl flowB)), ((adA 22), .inl (gI G, 320, .inl fleft)), ((adA 23), .inl (gI G, 320, .inl fright))] (fun v w => v = some (.int r.1) ∧ w = [(adm, .inr (10, oM adA o_names o_rows o_strength o_most o_toldGraph o_toldArc)), ((adA 1), .inl (gI G, 5, .inl fvalues)), ((adA 3), .inl (gI G, 80, .inl fcells)), ((adA 11), .inl (gZ G, 160, .inl r.2.1)), ((adA 12), .inl (gI G, 1280, .inl r.2.2.1)), ((adA 13), .inl (gI G, 1280, .inl r.2.2.2.1)), ((adA 14), .inl (gI G, 320, .inl r.2.2.2.2.1)), ((adA 15), .inl (gI G, 320, .inl r.2.2.2.2.2.1)), ((adA 6), .inl (gI G, 320, .inl r.2.2.2.2.2.2.1)), ((adA 7), .inl (gI G, 320, .inl r.2.2.2.2.2.2.2.1)), ((adA 8), .inl (gI G, 320, .inl r.2.2.2.2.2.2.2.2.1)), ((adA 16), .inl (gI G, 320, .inl r.2.2.2.2.2.2.2.2.2.1)), ((adA 17), .inl (gI G, 320, .inl r.2.2.2.2.2.2.2.2.2.2.1)), ((adA 18), .inl (gI G, 320, .inl r.2.2.2.2.2.2.2.2.2.2.2.1)), ((adA 19), .inl (gI G, 320, .inl r.2.2.2.2.2.2.2.2.2.2.2.2.1)), ((adA 20), .inl (gI G, 320, .inl r.2.2.2.2.2.2.2.2.2.2.2.2.2.1)), ((adA 21), .inl (gI G, 320, .inl r.2.2.2.2.2.2.2.2.2.2.2.2.2.2.1)), ((adA 22), .inl (gI G, 320, .inl r.2.2.2.2.2.2.2.2.2.2.2.2.2.2.2.1)), ((adA 23), .inl (gI G, 320, .inl r.2.2.2.2.2.2.2.2.2.2.2.2.2.2.2.2))]) := by
  refine ctr_entry (cc := cX11_signIn) (maxL := 4) (ret := some .int) (lv0 := [(0, .ref adm), (1, .int of0), (2, .int gr), (3, .int ot)]) (by decide) rfl (Nat.le_of_ble_eq_true rfl) (rfl) ?_
  intro K hl9 hG9 hk hn9 hrt
  subst hl9
  subst hG9
  have hR9 : RoomGe rm_X11_signIn rm_X11_signIn := RoomGe.rf
  replace h := id_e h
  rw [em_X11_signIn] at h
  refine v_aload_n hk dX11_signIn_0 rfl ?_
  refine v_iload_n hk dX11_signIn_1 rfl ?_
  refine v_iload_n hk dX11_signIn_2 rfl ?_
  refine v_aload_n hk dX11_signIn_3 rfl ?_
  refine v_get (C := RX11) (T := TX11) (N := 39) (ci := 10) (v := .ref (adA 18)) hk dX11_signIn_4 w2i_X11_signIn_X110 0 rfl rfl 18 (by decide) (by decide +kernel) rfl rfl ?_
  refine v_aload_n hk dX11_signIn_7 rfl ?_
  refine v_get (C := RX11) (T := TX11) (N := 39) (ci := 10) (v := .ref (adA 19)) hk dX11_signIn_8 w2i_X11_signIn_X110 0 rfl rfl 19 (by decide) (by decide +kernel) rfl rfl ?_
  obtain ⟨r_1, er_1, h⟩ := bd_e (g := id) rfl h
  refine v_callV (n := 4) (st := []) (b := adm) (T := TX11) (N := 39) hk dX11_signIn_11 (c_X11_fitIn (kl K) (kG K) adm adA (adA 18) (adA 19) o_names o_rows o_strength o_most o_toldGraph o_toldArc fvalues fcells fisKnown ftops flows fsmall flarge fone ftwo frest ffactor fmade 320 ftopA 320 flowA of0 gr r_1 er_1) rfl gd_X11_signIn_X11_fitIn rfl (by decide +kernel) (frok hR9 (Nat.le_of_ble_eq_true rfl) (Nat.le_of_ble_eq_true rfl)) (roomk hR9 (Nat.le_of_ble_eq_true rfl) (Nat.le_of_ble_eq_true rfl)) rfl rfl (Nat.le_of_ble_eq_true rfl) 0 rfl rfl [0, 1, 2, 3, 4, 5, 6, 7, 8, 9, 10, 11, 12, 13, 14] [15, 16, 17, 18] (wr := [((adA 20), .inl (gI (kG K), 320, .inl ftopB)), ((adA 21), .inl (gI (kG K), 320, .inl flowB)), ((adA 22), .inl (gI (kG K), 320, .inl fleft)), ((adA 23), .inl (gI (kG K), 320, .inl fright))]) rfl rfl (by decide) (by decide) (by decide) ?_
  intro v9 w9 hp9
  obtain ⟨rfl, rfl⟩ := hp9
  show V K 4 [((adA 20), .inl (gI (kG K), 320, .inl ftopB)), ((adA 21), .inl (gI (kG K), 320, .inl flowB)), ((adA 22), .inl (gI (kG K), 320, .inl fleft)), ((adA 23), .inl (gI (kG K), 320, .inl fright)), (adm, .inr (10, oM adA o_names o_rows o_strength o_most o_toldGraph o_toldArc)), ((adA 1), .inl (gI (kG K), 5, .inl fvalues)), ((adA 3), .inl (gI (kG K), 80, .inl fcells)), ((adA 11), .inl (gZ (kG K), 160, .inl r_1.1)), ((adA 12), .inl (gI (kG K), 1280, .inl r_1.2.1)), ((adA 13), .inl (gI (kG K), 1280, .inl r_1.2.2.1)), ((adA 14), .inl (gI (kG K), 320, .inl r_1.2.2.2.1)), ((adA 15), .inl (gI (kG K), 320, .inl r_1.2.2.2.2.1)), ((adA 6), .inl (gI (kG K), 320, .inl r_1.2.2.2.2.2.1)), ((adA 7), .inl (gI (kG K), 320, .inl r_1.2.2.2.2.2.2.1)), ((adA 8), .inl (gI (kG K), 320, .inl r_1.2.2.2.2.2.2.2.1)), ((adA 16), .inl (gI (kG K), 320, .inl r_1.2.2.2.2.2.2.2.2.1)), ((adA 17), .inl (gI (kG K), 320, .inl r_1.2.2.2.2.2.2.2.2.2.1)), ((adA 18), .inl (gI (kG K), 320, .inl r_1.2.2.2.2.2.2.2.2.2.2.1)), ((adA 19), .inl (gI (kG K), 320, .inl r_1.2.2.2.2.2.2.2.2.2.2.2))] 0 0 14 [(0, .ref adm), (1, .int of0), (2, .int gr), (3, .int ot)] []
  refine v_aload_n hk dX11_signIn_14 rfl ?_
  refine v_iload_n hk dX11_signIn_15 rfl ?_
  refine v_iload_n hk dX11_signIn_16 rfl ?_
  refine v_aload_n hk dX11_signIn_17 rfl ?_
  refine v_get (C := RX11) (T := TX11) (N := 39) (ci := 10) (v := .ref (adA 20)) hk dX11_signIn_18 w2i_X11_signIn_X110 4 rfl rfl 20 (by decide) (by decide +kernel) rfl rfl ?_
  refine v_aload_n hk dX11_signIn_21 rfl ?_
  refine v_get (C := RX11) (T := TX11) (N := 39) (ci := 10) (v := .ref (adA 21)) hk dX11_signIn_22 w2i_X11_signIn_X110 4 rfl rfl 21 (by decide) (by decide +kernel) rfl rfl ?_
  obtain ⟨r_2, er_2, h⟩ := bd_e (g := id) rfl h
  refine v_callV (n := 4) (st := []) (b := adm) (T := TX11) (N := 39) hk dX11_signIn_25 (c_X11_fitIn (kl K) (kG K) adm adA (adA 20) (adA 21) o_names o_rows o_strength o_most o_toldGraph o_toldArc fvalues fcells r_1.1 r_1.2.1 r_1.2.2.1 r_1.2.2.2.1 r_1.2.2.2.2.1 r_1.2.2.2.2.2.1 r_1.2.2.2.2.2.2.1 r_1.2.2.2.2.2.2.2.1 r_1.2.2.2.2.2.2.2.2.1 r_1.2.2.2.2.2.2.2.2.2.1 320 ftopB 320 flowB of0 ot r_2 er_2) rfl gd_X11_signIn_X11_fitIn rfl (by decide +kernel) (frok hR9 (Nat.le_of_ble_eq_true rfl) (Nat.le_of_ble_eq_true rfl)) (roomk hR9 (Nat.le_of_ble_eq_true rfl) (Nat.le_of_ble_eq_true rfl)) rfl rfl (Nat.le_of_ble_eq_true rfl) 4 rfl rfl [4, 5, 6, 7, 8, 9, 10, 11, 12, 13, 14, 15, 16, 0, 1] [2, 3, 17, 18] (wr := [((adA 22), .inl (gI (kG K), 320, .inl fleft)), ((adA 23), .inl (gI (kG K), 320, .inl fright)), ((adA 18), .inl (gI (kG K), 320, .inl r_1.2.2.2.2.2.2.2.2.2.2.1)), ((adA 19), .inl (gI (kG K), 320, .inl r_1.2.2.2.2.2.2.2.2.2.2.2))]) rfl rfl (by decide) (by decide) (by decide) ?_
  intro v9 w9 hp9
  obtain ⟨rfl, rfl⟩ := hp9
  show V K 4 [((adA 22), .inl (gI (kG K), 320, .inl fleft)), ((adA 23), .inl (gI (kG K), 320, .inl fright)), ((adA 18), .inl (gI (kG K), 320, .inl r_1.2.2.2.2.2.2.2.2.2.2.1)), ((adA 19), .inl (gI (kG K), 320, .inl r_1.2.2.2.2.2.2.2.2.2.2.2)), (adm, .inr (10, oM adA o_names o_rows o_strength o_most o_toldGraph o_toldArc)), ((adA 1), .inl (gI (kG K), 5, .inl fvalues)), ((adA 3), .inl (gI (kG K), 80, .inl fcells)), ((adA 11), .inl (gZ (kG K), 160, .inl r_2.1)), ((adA 12), .inl (gI (kG K), 1280, .inl r_2.2.1)), ((adA 13), .inl (gI (kG K), 1280, .inl r_2.2.2.1)), ((adA 14), .inl (gI (kG K), 320, .inl r_2.2.2.2.1)), ((adA 15), .inl (gI (kG K), 320, .inl r_2.2.2.2.2.1)), ((adA 6), .inl (gI (kG K), 320, .inl r_2.2.2.2.2.2.1)), ((adA 7), .inl (gI (kG K), 320, .inl r_2.2.2.2.2.2.2.1)), ((adA 8), .inl (gI (kG K), 320, .inl r_2.2.2.2.2.2.2.2.1)), ((adA 16), .inl (gI (kG K), 320, .inl r_2.2.2.2.2.2.2.2.2.1)), ((adA 17), .inl (gI (kG K), 320, .inl r_2.2.2.2.2.2.2.2.2.2.1)), ((adA 20), .inl (gI (kG K), 320, .inl r_2.2.2.2.2.2.2.2.2.2.2.1)), ((adA 21), .inl (gI (kG K), 320, .inl r_2.2.2.2.2.2.2.2.2.2.2.2))] 0 0 28 [(0, .ref adm), (1, .int of0), (2, .int gr), (3, .int ot)] []
  refine v_aload_n hk dX11_signIn_28 rfl ?_
  obtain ⟨r_3, er_3, h⟩ := bd_e (g := id) rfl h
  refine v_callV (n := 0) (st := []) (b := adm) (T := TX11) (N := 39) hk dX11_signIn_29 (c_X11_sign (kl K) (kG K) adm adA o_names o_rows o_strength o_most o_toldGraph o_toldArc r_1.2.2.2.2.2.2.2.2.2.2.1 r_1.2.2.2.2.2.2.2.2.2.2.2 r_2.2.2.2.2.2.2.2.2.2.2.1 r_2.2.2.2.2.2.2.2.2.2.2.2 fleft fright r_3 er_3) rfl gd_X11_signIn_X11_sign rfl (by decide +kernel) (frok hR9 (Nat.le_of_ble_eq_true rfl) (Nat.le_of_ble_eq_true rfl)) (roomk hR9 (Nat.le_of_ble_eq_true rfl) (Nat.le_of_ble_eq_true rfl)) rfl rfl (Nat.le_of_ble_eq_true rfl) 4 rfl rfl [4, 2, 3, 17, 18, 0, 1] [5, 6, 7, 8, 9, 10, 11, 12, 13, 14, 15, 16] (wr := [((adA 1), .inl (gI (kG K), 5, .inl fvalues)), ((adA 3), .inl (gI (kG K), 80, .inl fcells)), ((adA 11), .inl (gZ (kG K), 160, .inl r_2.1)), ((adA 12), .inl (gI (kG K), 1280, .inl r_2.2.1)), ((adA 13), .inl (gI (kG K), 1280, .inl r_2.2.2.1)), ((adA 14), .inl (gI (kG K), 320, .inl r_2.2.2.2.1)), ((adA 15), .inl (gI (kG K), 320, .inl r_2.2.2.2.2.1)), ((adA 6), .inl (gI (kG K), 320, .inl r_2.2.2.2.2.2.1)), ((adA 7), .inl (gI (kG K), 320, .inl r_2.2.2.2.2.2.2.1)), ((adA 8), .inl (gI (kG K), 320, .inl r_2.2.2.2.2.2.2.2.1)), ((adA 16), .inl (gI (kG K), 320, .inl r_2.2.2.2.2.2.2.2.2.1)), ((adA 17), .inl (gI (kG K), 320, .inl r_2.2.2.2.2.2.2.2.2.2.1))]) rfl rfl (by decide) (by decide) (by decide) ?_
  intro v9 w9 hp9
  obtain ⟨rfl, rfl⟩ := hp9
  show V K 4 [((adA 1), .inl (gI (kG K), 5, .inl fvalues)), ((adA 3), .inl (gI (kG K), 80, .inl fcells)), ((adA 11), .inl (gZ (kG K), 160, .inl r_2.1)), ((adA 12), .inl (gI (kG K), 1280, .inl r_2.2.1)), ((adA 13), .inl (gI (kG K), 1280, .inl r_2.2.2.1)), ((adA 14), .inl (gI (kG K), 320, .inl r_2.2.2.2.1)), ((adA 15), .inl (gI (kG K), 320, .inl r_2.2.2.2.2.1)), ((adA 6), .inl (gI (kG K), 320, .inl r_2.2.2.2.2.2.1)), ((adA 7), .inl (gI (kG K), 320, .inl r_2.2.2.2.2.2.2.1)), ((adA 8), .inl (gI (kG K), 320, .inl r_2.2.2.2.2.2.2.2.1)), ((adA 16), .inl (gI (kG K), 320, .inl r_2.2.2.2.2.2.2.2.2.1)), ((adA 17), .inl (gI (kG K), 320, .inl r_2.2.2.2.2.2.2.2.2.2.1)), (adm, .inr (10, oM adA o_names o_rows o_strength o_most o_toldGraph o_toldArc)), ((adA 18), .inl (gI (kG K), 320, .inl r_1.2.2.2.2.2.2.2.2.2.2.1)), ((adA 19), .inl (gI (kG K), 320, .inl r_1.2.2.2.2.2.2.2.2.2.2.2)), ((adA 20), .inl (gI (kG K), 320, .inl r_2.2.2.2.2.2.2.2.2.2.2.1)), ((adA 21), .inl (gI (kG K), 320, .inl r_2.2.2.2.2.2.2.2.2.2.2.2)), ((adA 22), .inl (gI (kG K), 320, .inl r_3.2.1)), ((adA 23), .inl (gI (kG K), 320, .inl r_3.2.2))] 0 0 32 [(0, .ref adm), (1, .int of0), (2, .int gr), (3, .int ot)] [.int r_3.1]
  replace h : some (r_3.1, r_2.1, r_2.2.1, r_2.2.2.1, r_2.2.2.2.1, r_2.2.2.2.2.1, r_2.2.2.2.2.2.1, r_2.2.2.2.2.2.2.1, r_2.2.2.2.2.2.2.2.1, r_2.2.2.2.2.2.2.2.2.1, r_2.2.2.2.2.2.2.2.2.2.1, r_1.2.2.2.2.2.2.2.2.2.2.1, r_1.2.2.2.2.2.2.2.2.2.2.2, r_2.2.2.2.2.2.2.2.2.2.2.1, r_2.2.2.2.2.2.2.2.2.2.2.2, r_3.2.1, r_3.2.2) = some r := h
  replace h := Option.some.inj h
  subst h
  refine v_perm [12, 0, 1, 2, 3, 4, 5, 6, 7, 8, 9, 10, 11, 13, 14, 15, 16, 17, 18] (ws' := [(adm, .inr (10, oM adA o_names o_rows o_strength o_most o_toldGraph o_toldArc)), ((adA 1), .inl (gI (kG K), 5, .inl fvalues)), ((adA 3), .inl (gI (kG K), 80, .inl fcells)), ((adA 11), .inl (gZ (kG K), 160, .inl r_2.1)), ((adA 12), .inl (gI (kG K), 1280, .inl r_2.2.1)), ((adA 13), .inl (gI (kG K), 1280, .inl r_2.2.2.1)), ((adA 14), .inl (gI (kG K), 320, .inl r_2.2.2.2.1)), ((adA 15), .inl (gI (kG K), 320, .inl r_2.2.2.2.2.1)), ((adA 6), .inl (gI (kG K), 320, .inl r_2.2.2.2.2.2.1)), ((adA 7), .inl (gI (kG K), 320, .inl r_2.2.2.2.2.2.2.1)), ((adA 8), .inl (gI (kG K), 320, .inl r_2.2.2.2.2.2.2.2.1)), ((adA 16), .inl (gI (kG K), 320, .inl r_2.2.2.2.2.2.2.2.2.1)), ((adA 17), .inl (gI (kG K), 320, .inl r_2.2.2.2.2.2.2.2.2.2.1)), ((adA 18), .inl (gI (kG K), 320, .inl r_1.2.2.2.2.2.2.2.2.2.2.1)), ((adA 19), .inl (gI (kG K), 320, .inl r_1.2.2.2.2.2.2.2.2.2.2.2)), ((adA 20), .inl (gI (kG K), 320, .inl r_2.2.2.2.2.2.2.2.2.2.2.1)), ((adA 21), .inl (gI (kG K), 320, .inl r_2.2.2.2.2.2.2.2.2.2.2.2)), ((adA 22), .inl (gI (kG K), 320, .inl r_3.2.1)), ((adA 23), .inl (gI (kG K), 320, .inl r_3.2.2))]) rfl rfl (by decide) ?_
  refine hrt (some (.int r_3.1)) _ _ _ _ _ (⟨rfl, rfl⟩) (Nat.zero_le _) (Nat.zero_le _) (dX11_signIn_32)
abbrev rm_X11_best : Room := { frames := 6, cells := 0, slots := 0, locals := 146 }
set_option maxHeartbeats 4000000 in
set_option maxRecDepth 100000 in
theorem L_X11_best_23 {K : Cx} {R9 : Room} (hk : Ok K cX11_best 7 RX11 w2_X11_best R9) (hR9 : RoomGe R9 rm_X11_best) (adm : Nat) (adA : Nat → Nat) (o_names : Int32) (o_rows : Int32) (o_strength : Int32) (o_most : Int32) (o_toldGraph : Int32) (o_toldArc : Int32) (fvalues : Nat → Int32) (fcells : Nat → Int32) (i1_2 : Int32) (fbests_13 : Nat → Int32) (b9 : (Int32 × Int32 × (Nat → Int32) × (Nat → Int32) × (Nat → Int32) × (Nat → Int32) × (Nat → Int32) × (Nat → Int32) × (Nat → Int32) × (Nat → Int32) × (Nat → Int32) × (Nat → Int32) × (Nat → Int32) × (Nat → Int32) × (Nat → Int32) × (Nat → Int32) × (Nat → Int32) × (Nat → Int32))) (kk0 : ∀ q9 : (Int32 × Int32 × (Nat → Int32) × (Nat → Int32) × (Nat → Int32) × (Nat → Int32) × (Nat → Int32) × (Nat → Int32) × (Nat → Int32) × (Nat → Int32) × (Nat → Int32) × (Nat → Int32) × (Nat → Int32) × (Nat → Int32) × (Nat → Int32) × (Nat → Int32) × (Nat → Int32) × (Nat → Int32)), b9 = q9 → V K 7 [(adm, .inr (10, oM adA o_names o_rows o_strength o_most o_toldGraph o_toldArc)), ((adA 1), .inl (gI (kG K), 5, .inl fvalues)), ((adA 3), .inl (gI (kG K), 80, .inl fcells)), ((adA 11), .inl (gZ (kG K), 160, .inl q9.2.2.1)), ((adA 12), .inl (gI (kG K), 1280, .inl q9.2.2.2.1)), ((adA 13), .inl (gI (kG K), 1280, .inl q9.2.2.2.2.1)), ((adA 14), .inl (gI (kG K), 320, .inl q9.2.2.2.2.2.1)), ((adA 15), .inl (gI (kG K), 320, .inl q9.2.2.2.2.2.2.1)), ((adA 6), .inl (gI (kG K), 320, .inl q9.2.2.2.2.2.2.2.1)), ((adA 7), .inl (gI (kG K), 320, .inl q9.2.2.2.2.2.2.2.2.1)), ((adA 8), .inl (gI (kG K), 320, .inl q9.2.2.2.2.2.2.2.2.2.1)), ((adA 16), .inl (gI (kG K), 320, .inl q9.2.2.2.2.2.2.2.2.2.2.1)), ((adA 17), .inl (gI (kG K), 320, .inl q9.2.2.2.2.2.2.2.2.2.2.2.1)), ((adA 26), .inl (gI (kG K), 32, .inl fbests_13)), ((adA 18), .inl (gI (kG K), 320, .inl q9.2.2.2.2.2.2.2.2.2.2.2.2.1)), ((adA 19), .inl (gI (kG K), 320, .inl q9.2.2.2.2.2.2.2.2.2.2.2.2.2.1)), ((adA 20), .inl (gI (kG K), 320, .inl q9.2.2.2.2.2.2.2.2.2.2.2.2.2.2.1)), ((adA 21), .inl (gI (kG K), 320, .inl q9.2.2.2.2.2.2.2.2.2.2.2.2.2.2.2.1)), ((adA 22), .inl (gI (kG K), 320, .inl q9.2.2.2.2.2.2.2.2.2.2.2.2.2.2.2.2.1)), ((adA 23), .inl (gI (kG K), 320, .inl q9.2.2.2.2.2.2.2.2.2.2.2.2.2.2.2.2.2))] 0 0 117 [(0, .ref adm), (1, .int i1_2), (2, .int q9.1), (3, .int q9.2.1)] []) : ∀ (nn : Nat) (i2_20 : Int32) (i3_21 : Int32) (fisKnown_22 : Nat → Int32) (ftops_23 : Nat → Int32) (flows_24 : Nat → Int32) (fsmall_25 : Nat → Int32) (flarge_26 : Nat → Int32) (fone_27 : Nat → Int32) (ftwo_28 : Nat → Int32) (frest_29 : Nat → Int32) (ffactor_30 : Nat → Int32) (fmade_31 : Nat → Int32) (ftopA_32 : Nat → Int32) (flowA_33 : Nat → Int32) (ftopB_34 : Nat → Int32) (flowB_35 : Nat → Int32) (fleft_36 : Nat → Int32) (fright_37 : Nat → Int32), lp (b_X11_best_23 o_names o_rows o_strength o_most o_toldGraph o_toldArc fvalues fcells i1_2 fbests_13) nn (i2_20, i3_21, fisKnown_22, ftops_23, flows_24, fsmall_25, flarge_26, fone_27, ftwo_28, frest_29, ffactor_30, fmade_31, ftopA_32, flowA_33, ftopB_34, flowB_35, fleft_36, fright_37) = some b9 → V K 7 [(adm, .inr (10, oM adA o_names o_rows o_strength o_most o_toldGraph o_toldArc)), ((adA 1), .inl (gI (kG K), 5, .inl fvalues)), ((adA 3), .inl (gI (kG K), 80, .inl fcells)), ((adA 11), .inl (gZ (kG K), 160, .inl fisKnown_22)), ((adA 12), .inl (gI (kG K), 1280, .inl ftops_23)), ((adA 13), .inl (gI (kG K), 1280, .inl flows_24)), ((adA 14), .inl (gI (kG K), 320, .inl fsmall_25)), ((adA 15), .inl (gI (kG K), 320, .inl flarge_26)), ((adA 6), .inl (gI (kG K), 320, .inl fone_27)), ((adA 7), .inl (gI (kG K), 320, .inl ftwo_28)), ((adA 8), .inl (gI (kG K), 320, .inl frest_29)), ((adA 16), .inl (gI (kG K), 320, .inl ffactor_30)), ((adA 17), .inl (gI (kG K), 320, .inl fmade_31)), ((adA 26), .inl (gI (kG K), 32, .inl fbests_13)), ((adA 18), .inl (gI (kG K), 320, .inl ftopA_32)), ((adA 19), .inl (gI (kG K), 320, .inl flowA_33)), ((adA 20), .inl (gI (kG K), 320, .inl ftopB_34)), ((adA 21), .inl (gI (kG K), 320, .inl flowB_35)), ((adA 22), .inl (gI (kG K), 320, .inl fleft_36)), ((adA 23), .inl (gI (kG K), 320, .inl fright_37))] 0 0 23 [(0, .ref adm), (1, .int i1_2), (2, .int i2_20), (3, .int i3_21)] [] := by
  intro nn
  induction nn with
  | zero => intro i2_20 i3_21 fisKnown_22 ftops_23 flows_24 fsmall_25 flarge_26 fone_27 ftwo_28 frest_29 ffactor_30 fmade_31 ftopA_32 flowA_33 ftopB_34 flowB_35 fleft_36 fright_37 h; exact absurd h (by simp [lp])
  | succ nn ih =>
    intro i2_20 i3_21 fisKnown_22 ftops_23 flows_24 fsmall_25 flarge_26 fone_27 ftwo_28 frest_29 ffactor_30 fmade_31 ftopA_32 flowA_33 ftopB_34 flowB_35 fleft_36 fright_37 h
    replace h := lp_s h
    rw [eb_X11_best_23] at h
    refine v_iload_n hk dX11_best_23 rfl ?_
    refine v_aload_n hk dX11_best_24 rfl ?_
    refine v_get (C := RX11) (T := TX11) (N := 39) (ci := 10) (v := .int o_names) hk dX11_best_25 w2i_X11_best_X110 0 rfl rfl 0 (by decide) (by decide +kernel) rfl rfl ?_
    refine v_icmp_ge (tgt := 117) hk dX11_best_28 (by decide) (fun hc => ?_) (fun hc => ?_)
    · replace h := it_t (g := (lpk (lp (b_X11_best_23 o_names o_rows o_strength o_most o_toldGraph o_toldArc fvalues fcells i1_2 fbests_13) nn))) h hc
      replace h : some (i2_20, i3_21, fisKnown_22, ftops_23, flows_24, fsmall_25, flarge_26, fone_27, ftwo_28, frest_29, ffactor_30, fmade_31, ftopA_32, flowA_33, ftopB_34, flowB_35, fleft_36, fright_37) = some b9 := h
      replace h := Option.some.inj h
      subst h
      exact kk0 _ rfl
    · replace h := it_f (g := (lpk (lp (b_X11_best_23 o_names o_rows o_strength o_most o_toldGraph o_toldArc fvalues fcells i1_2 fbests_13) nn))) h hc
      refine v_iload_n hk dX11_best_31 rfl ?_
      refine v_iload_n hk dX11_best_32 rfl ?_
      refine v_ishr hk dX11_best_33 ?_
      refine v_iconst (v := 1) hk dX11_best_34 (by decide) ?_
      refine v_iand hk dX11_best_35 ?_
      refine v_iconst (v := 1) hk dX11_best_36 (by decide) ?_
      refine v_icmp_ne (tgt := 111) hk dX11_best_37 (by decide) (fun hc => ?_) (fun hc => ?_)
      · replace h := it_f (g := (lpk (lp (b_X11_best_23 o_names o_rows o_strength o_most o_toldGraph o_toldArc fvalues fcells i1_2 fbests_13) nn))) h hc
        obtain ⟨x3_38, ex3_38, h⟩ := lt_e (g := (lpk (lp (b_X11_best_23 o_names o_rows o_strength o_most o_toldGraph o_toldArc fvalues fcells i1_2 fbests_13) nn))) h
        refine v_iinc (v := x3_38) hk dX11_best_111 rfl (by rw [ex3_38]; rfl) (by decide) [1, 2, 3, 0] (lv' := [(0, .ref adm), (1, .int i1_2), (2, .int i2_20), (3, .int x3_38)]) rfl ?_
        refine v_goto (tgt := 23) hk dX11_best_114 (by decide) ?_
        exact ih i2_20 x3_38 fisKnown_22 ftops_23 flows_24 fsmall_25 flarge_26 fone_27 ftwo_28 frest_29 ffactor_30 fmade_31 ftopA_32 flowA_33 ftopB_34 flowB_35 fleft_36 fright_37 h
      · replace h := it_t (g := (lpk (lp (b_X11_best_23 o_names o_rows o_strength o_most o_toldGraph o_toldArc fvalues fcells i1_2 fbests_13) nn))) h hc
        refine v_iload_n hk dX11_best_40 rfl ?_
        refine v_iconst (v := 1) hk dX11_best_41 (by decide) ?_
        refine v_iload_n hk dX11_best_42 rfl ?_
        refine v_ishl hk dX11_best_43 ?_
        refine v_iconst (v := (-1)) hk dX11_best_44 (by decide) ?_
        refine v_ixor hk dX11_best_45 ?_
        refine v_iand hk dX11_best_46 ?_
        obtain ⟨x4_39, ex4_39, h⟩ := lt_e (g := (lpk (lp (b_X11_best_23 o_names o_rows o_strength o_most o_toldGraph o_toldArc fvalues fcells i1_2 fbests_13) nn))) h
        refine v_topi ex4_39.symm ?_
        refine v_istore hk dX11_best_47 (by decide) [1, 2, 3, 4, 0] (lv' := [(0, .ref adm), (1, .int i1_2), (2, .int i2_20), (3, .int i3_21), (4, .int x4_39)]) rfl ?_
        refine v_aload_n hk dX11_best_49 rfl ?_
        refine v_get (C := RX11) (T := TX11) (N := 39) (ci := 10) (v := .ref (adA 26)) hk dX11_best_50 w2i_X11_best_X110 0 rfl rfl 26 (by decide) (by decide +kernel) rfl rfl ?_
        refine v_iload hk dX11_best_53 rfl ?_
        obtain ⟨hi, h⟩ := ok_e (g := (lpk (lp (b_X11_best_23 o_names o_rows o_strength o_most o_toldGraph o_toldArc fvalues fcells i1_2 fbests_13) nn))) rfl h
        refine v_ialdV hk dX11_best_55 13 rfl (ix_in hi) ?_
        refine v_iload_n hk dX11_best_56 rfl ?_
        refine v_aload_n hk dX11_best_57 rfl ?_
        refine v_iload_n hk dX11_best_58 rfl ?_
        refine v_iload hk dX11_best_59 rfl ?_
        obtain ⟨r_40, er_40, h⟩ := bd_e (g := (lpk (lp (b_X11_best_23 o_names o_rows o_strength o_most o_toldGraph o_toldArc fvalues fcells i1_2 fbests_13) nn))) rfl h
        refine v_callV (n := 2) (st := [.int i3_21, .int (fbests_13 x4_39.toNatClampNeg)]) (b := adm) (T := TX11) (N := 39) hk dX11_best_61 (c_X11_bestParents (kl K) (kG K) adm adA o_names o_rows o_strength o_most o_toldGraph o_toldArc fvalues fcells fisKnown_22 ftops_23 flows_24 fsmall_25 flarge_26 fone_27 ftwo_28 frest_29 ftopA_32 flowA_33 ftopB_34 flowB_35 fleft_36 fright_37 i3_21 x4_39 r_40 er_40) rfl gd_X11_best_X11_bestParents rfl (by decide +kernel) (frok hR9 (Nat.le_of_ble_eq_true rfl) (Nat.le_of_ble_eq_true rfl)) (roomk hR9 (Nat.le_of_ble_eq_true rfl) (Nat.le_of_ble_eq_true rfl)) rfl rfl (Nat.le_of_ble_eq_true rfl) 0 rfl rfl [0, 1, 2, 3, 4, 5, 6, 7, 8, 9, 10, 14, 15, 16, 17, 18, 19] [11, 12, 13] (wr := [((adA 16), .inl (gI (kG K), 320, .inl ffactor_30)), ((adA 17), .inl (gI (kG K), 320, .inl fmade_31)), ((adA 26), .inl (gI (kG K), 32, .inl fbests_13))]) rfl rfl (by decide) (by decide) (by decide) ?_
        intro v9 w9 hp9
        obtain ⟨rfl, rfl⟩ := hp9
        show V K 7 [((adA 16), .inl (gI (kG K), 320, .inl ffactor_30)), ((adA 17), .inl (gI (kG K), 320, .inl fmade_31)), ((adA 26), .inl (gI (kG K), 32, .inl fbests_13)), (adm, .inr (10, oM adA o_names o_rows o_strength o_most o_toldGraph o_toldArc)), ((adA 1), .inl (gI (kG K), 5, .inl fvalues)), ((adA 3), .inl (gI (kG K), 80, .inl fcells)), ((adA 11), .inl (gZ (kG K), 160, .inl r_40.2.1)), ((adA 12), .inl (gI (kG K), 1280, .inl r_40.2.2.1)), ((adA 13), .inl (gI (kG K), 1280, .inl r_40.2.2.2.1)), ((adA 14), .inl (gI (kG K), 320, .inl r_40.2.2.2.2.1)), ((adA 15), .inl (gI (kG K), 320, .inl r_40.2.2.2.2.2.1)), ((adA 6), .inl (gI (kG K), 320, .inl r_40.2.2.2.2.2.2.1)), ((adA 7), .inl (gI (kG K), 320, .inl r_40.2.2.2.2.2.2.2.1)), ((adA 8), .inl (gI (kG K), 320, .inl r_40.2.2.2.2.2.2.2.2.1)), ((adA 18), .inl (gI (kG K), 320, .inl r_40.2.2.2.2.2.2.2.2.2.1)), ((adA 19), .inl (gI (kG K), 320, .inl r_40.2.2.2.2.2.2.2.2.2.2.1)), ((adA 20), .inl (gI (kG K), 320, .inl r_40.2.2.2.2.2.2.2.2.2.2.2.1)), ((adA 21), .inl (gI (kG K), 320, .inl r_40.2.2.2.2.2.2.2.2.2.2.2.2.1)), ((adA 22), .inl (gI (kG K), 320, .inl r_40.2.2.2.2.2.2.2.2.2.2.2.2.2.1)), ((adA 23), .inl (gI (kG K), 320, .inl r_40.2.2.2.2.2.2.2.2.2.2.2.2.2.2))] 0 0 64 [(0, .ref adm), (1, .int i1_2), (2, .int i2_20), (3, .int i3_21), (4, .int x4_39)] [.int r_40.1, .int i3_21, .int (fbests_13 x4_39.toNatClampNeg)]
        obtain ⟨r_41, er_41, h⟩ := bd_e (g := (lpk (lp (b_X11_best_23 o_names o_rows o_strength o_most o_toldGraph o_toldArc fvalues fcells i1_2 fbests_13) nn))) rfl h
        refine v_callS (n := 2) (st := [.int (fbests_13 x4_39.toNatClampNeg)]) hk dX11_best_64 (c_X11_arcs (kl K) (kG K) i3_21 r_40.1 r_41 er_41) gd_X11_best_X11_arcs rfl (by decide +kernel) (frok hR9 (Nat.le_of_ble_eq_true rfl) (Nat.le_of_ble_eq_true rfl)) (roomk hR9 (Nat.le_of_ble_eq_true rfl) (Nat.le_of_ble_eq_true rfl)) rfl rfl (Nat.le_of_ble_eq_true rfl) [] [0, 1, 2, 3, 4, 5, 6, 7, 8, 9, 10, 11, 12, 13, 14, 15, 16, 17, 18, 19] (wr := [((adA 16), .inl (gI (kG K), 320, .inl ffactor_30)), ((adA 17), .inl (gI (kG K), 320, .inl fmade_31)), ((adA 26), .inl (gI (kG K), 32, .inl fbests_13)), (adm, .inr (10, oM adA o_names o_rows o_strength o_most o_toldGraph o_toldArc)), ((adA 1), .inl (gI (kG K), 5, .inl fvalues)), ((adA 3), .inl (gI (kG K), 80, .inl fcells)), ((adA 11), .inl (gZ (kG K), 160, .inl r_40.2.1)), ((adA 12), .inl (gI (kG K), 1280, .inl r_40.2.2.1)), ((adA 13), .inl (gI (kG K), 1280, .inl r_40.2.2.2.1)), ((adA 14), .inl (gI (kG K), 320, .inl r_40.2.2.2.2.1)), ((adA 15), .inl (gI (kG K), 320, .inl r_40.2.2.2.2.2.1)), ((adA 6), .inl (gI (kG K), 320, .inl r_40.2.2.2.2.2.2.1)), ((adA 7), .inl (gI (kG K), 320, .inl r_40.2.2.2.2.2.2.2.1)), ((adA 8), .inl (gI (kG K), 320, .inl r_40.2.2.2.2.2.2.2.2.1)), ((adA 18), .inl (gI (kG K), 320, .inl r_40.2.2.2.2.2.2.2.2.2.1)), ((adA 19), .inl (gI (kG K), 320, .inl r_40.2.2.2.2.2.2.2.2.2.2.1)), ((adA 20), .inl (gI (kG K), 320, .inl r_40.2.2.2.2.2.2.2.2.2.2.2.1)), ((adA 21), .inl (gI (kG K), 320, .inl r_40.2.2.2.2.2.2.2.2.2.2.2.2.1)), ((adA 22), .inl (gI (kG K), 320, .inl r_40.2.2.2.2.2.2.2.2.2.2.2.2.2.1)), ((adA 23), .inl (gI (kG K), 320, .inl r_40.2.2.2.2.2.2.2.2.2.2.2.2.2.2))]) rfl rfl (by decide) (by decide) (by decide) ?_
        intro v9 w9 hp9
        obtain ⟨rfl, rfl⟩ := hp9
        show V K 7 [((adA 16), .inl (gI (kG K), 320, .inl ffactor_30)), ((adA 17), .inl (gI (kG K), 320, .inl fmade_31)), ((adA 26), .inl (gI (kG K), 32, .inl fbests_13)), (adm, .inr (10, oM adA o_names o_rows o_strength o_most o_toldGraph o_toldArc)), ((adA 1), .inl (gI (kG K), 5, .inl fvalues)), ((adA 3), .inl (gI (kG K), 80, .inl fcells)), ((adA 11), .inl (gZ (kG K), 160, .inl r_40.2.1)), ((adA 12), .inl (gI (kG K), 1280, .inl r_40.2.2.1)), ((adA 13), .inl (gI (kG K), 1280, .inl r_40.2.2.2.1)), ((adA 14), .inl (gI (kG K), 320, .inl r_40.2.2.2.2.1)), ((adA 15), .inl (gI (kG K), 320, .inl r_40.2.2.2.2.2.1)), ((adA 6), .inl (gI (kG K), 320, .inl r_40.2.2.2.2.2.2.1)), ((adA 7), .inl (gI (kG K), 320, .inl r_40.2.2.2.2.2.2.2.1)), ((adA 8), .inl (gI (kG K), 320, .inl r_40.2.2.2.2.2.2.2.2.1)), ((adA 18), .inl (gI (kG K), 320, .inl r_40.2.2.2.2.2.2.2.2.2.1)), ((adA 19), .inl (gI (kG K), 320, .inl r_40.2.2.2.2.2.2.2.2.2.2.1)), ((adA 20), .inl (gI (kG K), 320, .inl r_40.2.2.2.2.2.2.2.2.2.2.2.1)), ((adA 21), .inl (gI (kG K), 320, .inl r_40.2.2.2.2.2.2.2.2.2.2.2.2.1)), ((adA 22), .inl (gI (kG K), 320, .inl r_40.2.2.2.2.2.2.2.2.2.2.2.2.2.1)), ((adA 23), .inl (gI (kG K), 320, .inl r_40.2.2.2.2.2.2.2.2.2.2.2.2.2.2))] 0 0 67 [(0, .ref adm), (1, .int i1_2), (2, .int i2_20), (3, .int i3_21), (4, .int x4_39)] [.int r_41, .int (fbests_13 x4_39.toNatClampNeg)]
        refine v_ior hk dX11_best_67 ?_
        obtain ⟨x5_42, ex5_42, h⟩ := lt_e (g := (lpk (lp (b_X11_best_23 o_names o_rows o_strength o_most o_toldGraph o_toldArc fvalues fcells i1_2 fbests_13) nn))) h
        refine v_topi ex5_42.symm ?_
        refine v_istore hk dX11_best_68 (by decide) [1, 2, 3, 4, 5, 0] (lv' := [(0, .ref adm), (1, .int i1_2), (2, .int i2_20), (3, .int i3_21), (4, .int x4_39), (5, .int x5_42)]) rfl ?_
        refine v_iload_n hk dX11_best_70 rfl ?_
        refine v_if_ge (tgt := 78) hk dX11_best_71 (by decide) (fun hc => ?_) (fun hc => ?_)
        · replace h := it_t (g := (lpk (lp (b_X11_best_23 o_names o_rows o_strength o_most o_toldGraph o_toldArc fvalues fcells i1_2 fbests_13) nn))) h hc
          refine v_aload_n hk dX11_best_78 rfl ?_
          refine v_iload_n hk dX11_best_79 rfl ?_
          refine v_iload hk dX11_best_80 rfl ?_
          refine v_iload_n hk dX11_best_82 rfl ?_
          obtain ⟨r_43, er_43, h⟩ := bd_e (g := (lpk (lp (b_X11_best_23 o_names o_rows o_strength o_most o_toldGraph o_toldArc fvalues fcells i1_2 fbests_13) nn))) rfl h
          refine v_callV (n := 3) (st := []) (b := adm) (T := TX11) (N := 39) hk dX11_best_83 (c_X11_signIn (kl K) (kG K) adm adA o_names o_rows o_strength o_most o_toldGraph o_toldArc fvalues fcells r_40.2.1 r_40.2.2.1 r_40.2.2.2.1 r_40.2.2.2.2.1 r_40.2.2.2.2.2.1 r_40.2.2.2.2.2.2.1 r_40.2.2.2.2.2.2.2.1 r_40.2.2.2.2.2.2.2.2.1 ffactor_30 fmade_31 r_40.2.2.2.2.2.2.2.2.2.1 r_40.2.2.2.2.2.2.2.2.2.2.1 r_40.2.2.2.2.2.2.2.2.2.2.2.1 r_40.2.2.2.2.2.2.2.2.2.2.2.2.1 r_40.2.2.2.2.2.2.2.2.2.2.2.2.2.1 r_40.2.2.2.2.2.2.2.2.2.2.2.2.2.2 i1_2 x5_42 i2_20 r_43 er_43) rfl gd_X11_best_X11_signIn rfl (by decide +kernel) (frok hR9 (Nat.le_of_ble_eq_true rfl) (Nat.le_of_ble_eq_true rfl)) (roomk hR9 (Nat.le_of_ble_eq_true rfl) (Nat.le_of_ble_eq_true rfl)) rfl rfl (Nat.le_of_ble_eq_true rfl) 3 rfl rfl [3, 4, 5, 6, 7, 8, 9, 10, 11, 12, 13, 0, 1, 14, 15, 16, 17, 18, 19] [2] (wr := [((adA 26), .inl (gI (kG K), 32, .inl fbests_13))]) rfl rfl (by decide) (by decide) (by decide) ?_
          intro v9 w9 hp9
          obtain ⟨rfl, rfl⟩ := hp9
          show V K 7 [((adA 26), .inl (gI (kG K), 32, .inl fbests_13)), (adm, .inr (10, oM adA o_names o_rows o_strength o_most o_toldGraph o_toldArc)), ((adA 1), .inl (gI (kG K), 5, .inl fvalues)), ((adA 3), .inl (gI (kG K), 80, .inl fcells)), ((adA 11), .inl (gZ (kG K), 160, .inl r_43.2.1)), ((adA 12), .inl (gI (kG K), 1280, .inl r_43.2.2.1)), ((adA 13), .inl (gI (kG K), 1280, .inl r_43.2.2.2.1)), ((adA 14), .inl (gI (kG K), 320, .inl r_43.2.2.2.2.1)), ((adA 15), .inl (gI (kG K), 320, .inl r_43.2.2.2.2.2.1)), ((adA 6), .inl (gI (kG K), 320, .inl r_43.2.2.2.2.2.2.1)), ((adA 7), .inl (gI (kG K), 320, .inl r_43.2.2.2.2.2.2.2.1)), ((adA 8), .inl (gI (kG K), 320, .inl r_43.2.2.2.2.2.2.2.2.1)), ((adA 16), .inl (gI (kG K), 320, .inl r_43.2.2.2.2.2.2.2.2.2.1)), ((adA 17), .inl (gI (kG K), 320, .inl r_43.2.2.2.2.2.2.2.2.2.2.1)), ((adA 18), .inl (gI (kG K), 320, .inl r_43.2.2.2.2.2.2.2.2.2.2.2.1)), ((adA 19), .inl (gI (kG K), 320, .inl r_43.2.2.2.2.2.2.2.2.2.2.2.2.1)), ((adA 20), .inl (gI (kG K), 320, .inl r_43.2.2.2.2.2.2.2.2.2.2.2.2.2.1)), ((adA 21), .inl (gI (kG K), 320, .inl r_43.2.2.2.2.2.2.2.2.2.2.2.2.2.2.1)), ((adA 22), .inl (gI (kG K), 320, .inl r_43.2.2.2.2.2.2.2.2.2.2.2.2.2.2.2.1)), ((adA 23), .inl (gI (kG K), 320, .inl r_43.2.2.2.2.2.2.2.2.2.2.2.2.2.2.2.2))] 0 0 86 [(0, .ref adm), (1, .int i1_2), (2, .int i2_20), (3, .int i3_21), (4, .int x4_39), (5, .int x5_42)] [.int r_43.1]
          refine v_istore hk dX11_best_86 (by decide) [1, 2, 3, 4, 5, 6, 0] (lv' := [(0, .ref adm), (1, .int i1_2), (2, .int i2_20), (3, .int i3_21), (4, .int x4_39), (5, .int x5_42), (6, .int r_43.1)]) rfl ?_
          refine v_iload hk dX11_best_88 rfl ?_
          obtain ⟨y_44, ey_44, h⟩ := bd_e (g := (lpk (lp (b_X11_best_23 o_names o_rows o_strength o_most o_toldGraph o_toldArc fvalues fcells i1_2 fbests_13) nn))) rfl h
          have Jy_44 : V K 7 [((adA 26), .inl (gI (kG K), 32, .inl fbests_13)), (adm, .inr (10, oM adA o_names o_rows o_strength o_most o_toldGraph o_toldArc)), ((adA 1), .inl (gI (kG K), 5, .inl fvalues)), ((adA 3), .inl (gI (kG K), 80, .inl fcells)), ((adA 11), .inl (gZ (kG K), 160, .inl r_43.2.1)), ((adA 12), .inl (gI (kG K), 1280, .inl r_43.2.2.1)), ((adA 13), .inl (gI (kG K), 1280, .inl r_43.2.2.2.1)), ((adA 14), .inl (gI (kG K), 320, .inl r_43.2.2.2.2.1)), ((adA 15), .inl (gI (kG K), 320, .inl r_43.2.2.2.2.2.1)), ((adA 6), .inl (gI (kG K), 320, .inl r_43.2.2.2.2.2.2.1)), ((adA 7), .inl (gI (kG K), 320, .inl r_43.2.2.2.2.2.2.2.1)), ((adA 8), .inl (gI (kG K), 320, .inl r_43.2.2.2.2.2.2.2.2.1)), ((adA 16), .inl (gI (kG K), 320, .inl r_43.2.2.2.2.2.2.2.2.2.1)), ((adA 17), .inl (gI (kG K), 320, .inl r_43.2.2.2.2.2.2.2.2.2.2.1)), ((adA 18), .inl (gI (kG K), 320, .inl r_43.2.2.2.2.2.2.2.2.2.2.2.1)), ((adA 19), .inl (gI (kG K), 320, .inl r_43.2.2.2.2.2.2.2.2.2.2.2.2.1)), ((adA 20), .inl (gI (kG K), 320, .inl r_43.2.2.2.2.2.2.2.2.2.2.2.2.2.1)), ((adA 21), .inl (gI (kG K), 320, .inl r_43.2.2.2.2.2.2.2.2.2.2.2.2.2.2.1)), ((adA 22), .inl (gI (kG K), 320, .inl r_43.2.2.2.2.2.2.2.2.2.2.2.2.2.2.2.1)), ((adA 23), .inl (gI (kG K), 320, .inl r_43.2.2.2.2.2.2.2.2.2.2.2.2.2.2.2.2))] 0 0 110 [(0, .ref adm), (1, .int i1_2), (2, .int i2_20), (3, .int i3_21), (4, .int x4_39), (5, .int x5_42), (6, .int r_43.1)] [.int y_44] := by
            refine v_istore_n hk dX11_best_110 rfl (by decide) [1, 2, 0, 3, 4, 5, 6] (lv' := [(0, .ref adm), (1, .int i1_2), (2, .int y_44), (3, .int i3_21), (4, .int x4_39), (5, .int x5_42), (6, .int r_43.1)]) rfl ?_
            obtain ⟨x3_45, ex3_45, h⟩ := lt_e (g := (lpk (lp (b_X11_best_23 o_names o_rows o_strength o_most o_toldGraph o_toldArc fvalues fcells i1_2 fbests_13) nn))) h
            refine v_iinc (v := x3_45) hk dX11_best_111 rfl (by rw [ex3_45]; rfl) (by decide) [1, 2, 3, 0, 4, 5, 6] (lv' := [(0, .ref adm), (1, .int i1_2), (2, .int y_44), (3, .int x3_45), (4, .int x4_39), (5, .int x5_42), (6, .int r_43.1)]) rfl ?_
            refine v_goto (tgt := 23) hk dX11_best_114 (by decide) ?_
            refine v_loc [0, 1, 2, 3] (lv' := [(0, .ref adm), (1, .int i1_2), (2, .int y_44), (3, .int x3_45)]) rfl ?_
            refine v_perm [1, 2, 3, 4, 5, 6, 7, 8, 9, 10, 11, 12, 13, 0, 14, 15, 16, 17, 18, 19] (ws' := [(adm, .inr (10, oM adA o_names o_rows o_strength o_most o_toldGraph o_toldArc)), ((adA 1), .inl (gI (kG K), 5, .inl fvalues)), ((adA 3), .inl (gI (kG K), 80, .inl fcells)), ((adA 11), .inl (gZ (kG K), 160, .inl r_43.2.1)), ((adA 12), .inl (gI (kG K), 1280, .inl r_43.2.2.1)), ((adA 13), .inl (gI (kG K), 1280, .inl r_43.2.2.2.1)), ((adA 14), .inl (gI (kG K), 320, .inl r_43.2.2.2.2.1)), ((adA 15), .inl (gI (kG K), 320, .inl r_43.2.2.2.2.2.1)), ((adA 6), .inl (gI (kG K), 320, .inl r_43.2.2.2.2.2.2.1)), ((adA 7), .inl (gI (kG K), 320, .inl r_43.2.2.2.2.2.2.2.1)), ((adA 8), .inl (gI (kG K), 320, .inl r_43.2.2.2.2.2.2.2.2.1)), ((adA 16), .inl (gI (kG K), 320, .inl r_43.2.2.2.2.2.2.2.2.2.1)), ((adA 17), .inl (gI (kG K), 320, .inl r_43.2.2.2.2.2.2.2.2.2.2.1)), ((adA 26), .inl (gI (kG K), 32, .inl fbests_13)), ((adA 18), .inl (gI (kG K), 320, .inl r_43.2.2.2.2.2.2.2.2.2.2.2.1)), ((adA 19), .inl (gI (kG K), 320, .inl r_43.2.2.2.2.2.2.2.2.2.2.2.2.1)), ((adA 20), .inl (gI (kG K), 320, .inl r_43.2.2.2.2.2.2.2.2.2.2.2.2.2.1)), ((adA 21), .inl (gI (kG K), 320, .inl r_43.2.2.2.2.2.2.2.2.2.2.2.2.2.2.1)), ((adA 22), .inl (gI (kG K), 320, .inl r_43.2.2.2.2.2.2.2.2.2.2.2.2.2.2.2.1)), ((adA 23), .inl (gI (kG K), 320, .inl r_43.2.2.2.2.2.2.2.2.2.2.2.2.2.2.2.2))]) rfl rfl (by decide) ?_
            exact ih y_44 x3_45 r_43.2.1 r_43.2.2.1 r_43.2.2.2.1 r_43.2.2.2.2.1 r_43.2.2.2.2.2.1 r_43.2.2.2.2.2.2.1 r_43.2.2.2.2.2.2.2.1 r_43.2.2.2.2.2.2.2.2.1 r_43.2.2.2.2.2.2.2.2.2.1 r_43.2.2.2.2.2.2.2.2.2.2.1 r_43.2.2.2.2.2.2.2.2.2.2.2.1 r_43.2.2.2.2.2.2.2.2.2.2.2.2.1 r_43.2.2.2.2.2.2.2.2.2.2.2.2.2.1 r_43.2.2.2.2.2.2.2.2.2.2.2.2.2.2.1 r_43.2.2.2.2.2.2.2.2.2.2.2.2.2.2.2.1 r_43.2.2.2.2.2.2.2.2.2.2.2.2.2.2.2.2 h
          clear h
          have h := id_e ey_44
          clear ey_44
          refine v_if_gt (tgt := 104) hk dX11_best_90 (by decide) (fun hc => ?_) (fun hc => ?_)
          · replace h := it_t (g := id) h hc
            refine v_iload hk dX11_best_104 rfl ?_
            refine v_goto (tgt := 110) hk dX11_best_106 (by decide) ?_
            replace h : some (x5_42 : Int32) = some y_44 := h
            replace h := Option.some.inj h
            subst h
            exact Jy_44
          · replace h := it_f (g := id) h hc
            refine v_iload hk dX11_best_93 rfl ?_
            obtain ⟨y_46, ey_46, h⟩ := bd_e (g := id) rfl h
            have Jy_46 : V K 7 [((adA 26), .inl (gI (kG K), 32, .inl fbests_13)), (adm, .inr (10, oM adA o_names o_rows o_strength o_most o_toldGraph o_toldArc)), ((adA 1), .inl (gI (kG K), 5, .inl fvalues)), ((adA 3), .inl (gI (kG K), 80, .inl fcells)), ((adA 11), .inl (gZ (kG K), 160, .inl r_43.2.1)), ((adA 12), .inl (gI (kG K), 1280, .inl r_43.2.2.1)), ((adA 13), .inl (gI (kG K), 1280, .inl r_43.2.2.2.1)), ((adA 14), .inl (gI (kG K), 320, .inl r_43.2.2.2.2.1)), ((adA 15), .inl (gI (kG K), 320, .inl r_43.2.2.2.2.2.1)), ((adA 6), .inl (gI (kG K), 320, .inl r_43.2.2.2.2.2.2.1)), ((adA 7), .inl (gI (kG K), 320, .inl r_43.2.2.2.2.2.2.2.1)), ((adA 8), .inl (gI (kG K), 320, .inl r_43.2.2.2.2.2.2.2.2.1)), ((adA 16), .inl (gI (kG K), 320, .inl r_43.2.2.2.2.2.2.2.2.2.1)), ((adA 17), .inl (gI (kG K), 320, .inl r_43.2.2.2.2.2.2.2.2.2.2.1)), ((adA 18), .inl (gI (kG K), 320, .inl r_43.2.2.2.2.2.2.2.2.2.2.2.1)), ((adA 19), .inl (gI (kG K), 320, .inl r_43.2.2.2.2.2.2.2.2.2.2.2.2.1)), ((adA 20), .inl (gI (kG K), 320, .inl r_43.2.2.2.2.2.2.2.2.2.2.2.2.2.1)), ((adA 21), .inl (gI (kG K), 320, .inl r_43.2.2.2.2.2.2.2.2.2.2.2.2.2.2.1)), ((adA 22), .inl (gI (kG K), 320, .inl r_43.2.2.2.2.2.2.2.2.2.2.2.2.2.2.2.1)), ((adA 23), .inl (gI (kG K), 320, .inl r_43.2.2.2.2.2.2.2.2.2.2.2.2.2.2.2.2))] 0 0 110 [(0, .ref adm), (1, .int i1_2), (2, .int i2_20), (3, .int i3_21), (4, .int x4_39), (5, .int x5_42), (6, .int r_43.1)] [.int y_46] := by
              replace h : some (y_46 : Int32) = some y_44 := h
              replace h := Option.some.inj h
              subst h
              exact Jy_44
            clear h
            have h := id_e ey_46
            clear ey_46
            refine v_if_ne (tgt := 109) hk dX11_best_95 (by decide) (fun hc => ?_) (fun hc => ?_)
            · replace h := it_f (g := id) h hc
              refine v_iload_n hk dX11_best_109 rfl ?_
              replace h : some (i2_20 : Int32) = some y_46 := h
              replace h := Option.some.inj h
              subst h
              exact Jy_46
            · replace h := it_t (g := id) h hc
              refine v_iload hk dX11_best_98 rfl ?_
              refine v_iload_n hk dX11_best_100 rfl ?_
              obtain ⟨y_47, ey_47, h⟩ := bd_e (g := id) rfl h
              have Jy_47 : V K 7 [((adA 26), .inl (gI (kG K), 32, .inl fbests_13)), (adm, .inr (10, oM adA o_names o_rows o_strength o_most o_toldGraph o_toldArc)), ((adA 1), .inl (gI (kG K), 5, .inl fvalues)), ((adA 3), .inl (gI (kG K), 80, .inl fcells)), ((adA 11), .inl (gZ (kG K), 160, .inl r_43.2.1)), ((adA 12), .inl (gI (kG K), 1280, .inl r_43.2.2.1)), ((adA 13), .inl (gI (kG K), 1280, .inl r_43.2.2.2.1)), ((adA 14), .inl (gI (kG K), 320, .inl r_43.2.2.2.2.1)), ((adA 15), .inl (gI (kG K), 320, .inl r_43.2.2.2.2.2.1)), ((adA 6), .inl (gI (kG K), 320, .inl r_43.2.2.2.2.2.2.1)), ((adA 7), .inl (gI (kG K), 320, .inl r_43.2.2.2.2.2.2.2.1)), ((adA 8), .inl (gI (kG K), 320, .inl r_43.2.2.2.2.2.2.2.2.1)), ((adA 16), .inl (gI (kG K), 320, .inl r_43.2.2.2.2.2.2.2.2.2.1)), ((adA 17), .inl (gI (kG K), 320, .inl r_43.2.2.2.2.2.2.2.2.2.2.1)), ((adA 18), .inl (gI (kG K), 320, .inl r_43.2.2.2.2.2.2.2.2.2.2.2.1)), ((adA 19), .inl (gI (kG K), 320, .inl r_43.2.2.2.2.2.2.2.2.2.2.2.2.1)), ((adA 20), .inl (gI (kG K), 320, .inl r_43.2.2.2.2.2.2.2.2.2.2.2.2.2.1)), ((adA 21), .inl (gI (kG K), 320, .inl r_43.2.2.2.2.2.2.2.2.2.2.2.2.2.2.1)), ((adA 22), .inl (gI (kG K), 320, .inl r_43.2.2.2.2.2.2.2.2.2.2.2.2.2.2.2.1)), ((adA 23), .inl (gI (kG K), 320, .inl r_43.2.2.2.2.2.2.2.2.2.2.2.2.2.2.2.2))] 0 0 110 [(0, .ref adm), (1, .int i1_2), (2, .int i2_20), (3, .int i3_21), (4, .int x4_39), (5, .int x5_42), (6, .int r_43.1)] [.int y_47] := by
                replace h : some (y_47 : Int32) = some y_46 := h
                replace h := Option.some.inj h
                subst h
                exact Jy_46
              clear h
              have h := id_e ey_47
              clear ey_47
              refine v_icmp_ge (tgt := 109) hk dX11_best_101 (by decide) (fun hc => ?_) (fun hc => ?_)
              · replace h := it_t (g := id) h hc
                refine v_iload_n hk dX11_best_109 rfl ?_
                replace h : some (i2_20 : Int32) = some y_47 := h
                replace h := Option.some.inj h
                subst h
                exact Jy_47
              · replace h := it_f (g := id) h hc
                refine v_iload hk dX11_best_104 rfl ?_
                refine v_goto (tgt := 110) hk dX11_best_106 (by decide) ?_
                replace h : some (x5_42 : Int32) = some y_47 := h
                replace h := Option.some.inj h
                subst h
                exact Jy_47
        · replace h := it_f (g := (lpk (lp (b_X11_best_23 o_names o_rows o_strength o_most o_toldGraph o_toldArc fvalues fcells i1_2 fbests_13) nn))) h hc
          refine v_iconst (v := 1) hk dX11_best_74 (by decide) ?_
          refine v_goto (tgt := 86) hk dX11_best_75 (by decide) ?_
          refine v_istore hk dX11_best_86 (by decide) [1, 2, 3, 4, 5, 6, 0] (lv' := [(0, .ref adm), (1, .int i1_2), (2, .int i2_20), (3, .int i3_21), (4, .int x4_39), (5, .int x5_42), (6, .int 1)]) rfl ?_
          refine v_iload hk dX11_best_88 rfl ?_
          refine v_if_gt (tgt := 104) hk dX11_best_90 (by decide) (fun _ => ?_) (fun hc => absurd hc (by decide))
          refine v_iload hk dX11_best_104 rfl ?_
          refine v_goto (tgt := 110) hk dX11_best_106 (by decide) ?_
          refine v_istore_n hk dX11_best_110 rfl (by decide) [1, 2, 0, 3, 4, 5, 6] (lv' := [(0, .ref adm), (1, .int i1_2), (2, .int x5_42), (3, .int i3_21), (4, .int x4_39), (5, .int x5_42), (6, .int 1)]) rfl ?_
          obtain ⟨x3_48, ex3_48, h⟩ := lt_e (g := (lpk (lp (b_X11_best_23 o_names o_rows o_strength o_most o_toldGraph o_toldArc fvalues fcells i1_2 fbests_13) nn))) h
          refine v_iinc (v := x3_48) hk dX11_best_111 rfl (by rw [ex3_48]; rfl) (by decide) [1, 2, 3, 0, 4, 5, 6] (lv' := [(0, .ref adm), (1, .int i1_2), (2, .int x5_42), (3, .int x3_48), (4, .int x4_39), (5, .int x5_42), (6, .int 1)]) rfl ?_
          refine v_goto (tgt := 23) hk dX11_best_114 (by decide) ?_
          refine v_loc [0, 1, 2, 3] (lv' := [(0, .ref adm), (1, .int i1_2), (2, .int x5_42), (3, .int x3_48)]) rfl ?_
          refine v_perm [3, 4, 5, 6, 7, 8, 9, 10, 11, 12, 13, 0, 1, 2, 14, 15, 16, 17, 18, 19] (ws' := [(adm, .inr (10, oM adA o_names o_rows o_strength o_most o_toldGraph o_toldArc)), ((adA 1), .inl (gI (kG K), 5, .inl fvalues)), ((adA 3), .inl (gI (kG K), 80, .inl fcells)), ((adA 11), .inl (gZ (kG K), 160, .inl r_40.2.1)), ((adA 12), .inl (gI (kG K), 1280, .inl r_40.2.2.1)), ((adA 13), .inl (gI (kG K), 1280, .inl r_40.2.2.2.1)), ((adA 14), .inl (gI (kG K), 320, .inl r_40.2.2.2.2.1)), ((adA 15), .inl (gI (kG K), 320, .inl r_40.2.2.2.2.2.1)), ((adA 6), .inl (gI (kG K), 320, .inl r_40.2.2.2.2.2.2.1)), ((adA 7), .inl (gI (kG K), 320, .inl r_40.2.2.2.2.2.2.2.1)), ((adA 8), .inl (gI (kG K), 320, .inl r_40.2.2.2.2.2.2.2.2.1)), ((adA 16), .inl (gI (kG K), 320, .inl ffactor_30)), ((adA 17), .inl (gI (kG K), 320, .inl fmade_31)), ((adA 26), .inl (gI (kG K), 32, .inl fbests_13)), ((adA 18), .inl (gI (kG K), 320, .inl r_40.2.2.2.2.2.2.2.2.2.1)), ((adA 19), .inl (gI (kG K), 320, .inl r_40.2.2.2.2.2.2.2.2.2.2.1)), ((adA 20), .inl (gI (kG K), 320, .inl r_40.2.2.2.2.2.2.2.2.2.2.2.1)), ((adA 21), .inl (gI (kG K), 320, .inl r_40.2.2.2.2.2.2.2.2.2.2.2.2.1)), ((adA 22), .inl (gI (kG K), 320, .inl r_40.2.2.2.2.2.2.2.2.2.2.2.2.2.1)), ((adA 23), .inl (gI (kG K), 320, .inl r_40.2.2.2.2.2.2.2.2.2.2.2.2.2.2))]) rfl rfl (by decide) ?_
          exact ih x5_42 x3_48 r_40.2.1 r_40.2.2.1 r_40.2.2.2.1 r_40.2.2.2.2.1 r_40.2.2.2.2.2.1 r_40.2.2.2.2.2.2.1 r_40.2.2.2.2.2.2.2.1 r_40.2.2.2.2.2.2.2.2.1 ffactor_30 fmade_31 r_40.2.2.2.2.2.2.2.2.2.1 r_40.2.2.2.2.2.2.2.2.2.2.1 r_40.2.2.2.2.2.2.2.2.2.2.2.1 r_40.2.2.2.2.2.2.2.2.2.2.2.2.1 r_40.2.2.2.2.2.2.2.2.2.2.2.2.2.1 r_40.2.2.2.2.2.2.2.2.2.2.2.2.2.2 h
set_option maxHeartbeats 4000000 in
set_option maxRecDepth 100000 in
theorem L_X11_best_9 {K : Cx} {R9 : Room} (hk : Ok K cX11_best 7 RX11 w2_X11_best R9) (hR9 : RoomGe R9 rm_X11_best) (adm : Nat) (adA : Nat → Nat) (o_names : Int32) (o_rows : Int32) (o_strength : Int32) (o_most : Int32) (o_toldGraph : Int32) (o_toldArc : Int32) (fvalues : Nat → Int32) (fcells : Nat → Int32) (b9 : (Int32 × (Nat → Int32) × (Nat → Int32) × (Nat → Int32) × (Nat → Int32) × (Nat → Int32) × (Nat → Int32) × (Nat → Int32) × (Nat → Int32) × (Nat → Int32) × (Nat → Int32) × (Nat → Int32) × (Nat → Int32) × (Nat → Int32) × (Nat → Int32) × (Nat → Int32) × (Nat → Int32) × (Nat → Int32))) (kk0 : ∀ q9 : (Int32 × (Nat → Int32) × (Nat → Int32) × (Nat → Int32) × (Nat → Int32) × (Nat → Int32) × (Nat → Int32) × (Nat → Int32) × (Nat → Int32) × (Nat → Int32) × (Nat → Int32) × (Nat → Int32) × (Nat → Int32) × (Nat → Int32) × (Nat → Int32) × (Nat → Int32) × (Nat → Int32) × (Nat → Int32)), b9 = q9 → V K 7 [(adm, .inr (10, oM adA o_names o_rows o_strength o_most o_toldGraph o_toldArc)), ((adA 1), .inl (gI (kG K), 5, .inl fvalues)), ((adA 3), .inl (gI (kG K), 80, .inl fcells)), ((adA 11), .inl (gZ (kG K), 160, .inl q9.2.1)), ((adA 12), .inl (gI (kG K), 1280, .inl q9.2.2.1)), ((adA 13), .inl (gI (kG K), 1280, .inl q9.2.2.2.1)), ((adA 14), .inl (gI (kG K), 320, .inl q9.2.2.2.2.1)), ((adA 15), .inl (gI (kG K), 320, .inl q9.2.2.2.2.2.1)), ((adA 6), .inl (gI (kG K), 320, .inl q9.2.2.2.2.2.2.1)), ((adA 7), .inl (gI (kG K), 320, .inl q9.2.2.2.2.2.2.2.1)), ((adA 8), .inl (gI (kG K), 320, .inl q9.2.2.2.2.2.2.2.2.1)), ((adA 16), .inl (gI (kG K), 320, .inl q9.2.2.2.2.2.2.2.2.2.1)), ((adA 17), .inl (gI (kG K), 320, .inl q9.2.2.2.2.2.2.2.2.2.2.1)), ((adA 26), .inl (gI (kG K), 32, .inl q9.2.2.2.2.2.2.2.2.2.2.2.1)), ((adA 18), .inl (gI (kG K), 320, .inl q9.2.2.2.2.2.2.2.2.2.2.2.2.1)), ((adA 19), .inl (gI (kG K), 320, .inl q9.2.2.2.2.2.2.2.2.2.2.2.2.2.1)), ((adA 20), .inl (gI (kG K), 320, .inl q9.2.2.2.2.2.2.2.2.2.2.2.2.2.2.1)), ((adA 21), .inl (gI (kG K), 320, .inl q9.2.2.2.2.2.2.2.2.2.2.2.2.2.2.2.1)), ((adA 22), .inl (gI (kG K), 320, .inl q9.2.2.2.2.2.2.2.2.2.2.2.2.2.2.2.2.1)), ((adA 23), .inl (gI (kG K), 320, .inl q9.2.2.2.2.2.2.2.2.2.2.2.2.2.2.2.2.2))] 0 0 130 [(0, .ref adm), (1, .int q9.1)] []) : ∀ (nn : Nat) (i1_2 : Int32) (fisKnown_3 : Nat → Int32) (ftops_4 : Nat → Int32) (flows_5 : Nat → Int32) (fsmall_6 : Nat → Int32) (flarge_7 : Nat → Int32) (fone_8 : Nat → Int32) (ftwo_9 : Nat → Int32) (frest_10 : Nat → Int32) (ffactor_11 : Nat → Int32) (fmade_12 : Nat → Int32) (fbests_13 : Nat → Int32) (ftopA_14 : Nat → Int32) (flowA_15 : Nat → Int32) (ftopB_16 : Nat → Int32) (flowB_17 : Nat → Int32) (fleft_18 : Nat → Int32) (fright_19 : Nat → Int32), lp (b_X11_best_9 o_names o_rows o_strength o_most o_toldGraph o_toldArc fvalues fcells) nn (i1_2, fisKnown_3, ftops_4, flows_5, fsmall_6, flarge_7, fone_8, ftwo_9, frest_10, ffactor_11, fmade_12, fbests_13, ftopA_14, flowA_15, ftopB_16, flowB_17, fleft_18, fright_19) = some b9 → V K 7 [(adm, .inr (10, oM adA o_names o_rows o_strength o_most o_toldGraph o_toldArc)), ((adA 1), .inl (gI (kG K), 5, .inl fvalues)), ((adA 3), .inl (gI (kG K), 80, .inl fcells)), ((adA 11), .inl (gZ (kG K), 160, .inl fisKnown_3)), ((adA 12), .inl (gI (kG K), 1280, .inl ftops_4)), ((adA 13), .inl (gI (kG K), 1280, .inl flows_5)), ((adA 14), .inl (gI (kG K), 320, .inl fsmall_6)), ((adA 15), .inl (gI (kG K), 320, .inl flarge_7)), ((adA 6), .inl (gI (kG K), 320, .inl fone_8)), ((adA 7), .inl (gI (kG K), 320, .inl ftwo_9)), ((adA 8), .inl (gI (kG K), 320, .inl frest_10)), ((adA 16), .inl (gI (kG K), 320, .inl ffactor_11)), ((adA 17), .inl (gI (kG K), 320, .inl fmade_12)), ((adA 26), .inl (gI (kG K), 32, .inl fbests_13)), ((adA 18), .inl (gI (kG K), 320, .inl ftopA_14)), ((adA 19), .inl (gI (kG K), 320, .inl flowA_15)), ((adA 20), .inl (gI (kG K), 320, .inl ftopB_16)), ((adA 21), .inl (gI (kG K), 320, .inl flowB_17)), ((adA 22), .inl (gI (kG K), 320, .inl fleft_18)), ((adA 23), .inl (gI (kG K), 320, .inl fright_19))] 0 0 9 [(0, .ref adm), (1, .int i1_2)] [] := by
  intro nn
  induction nn with
  | zero => intro i1_2 fisKnown_3 ftops_4 flows_5 fsmall_6 flarge_7 fone_8 ftwo_9 frest_10 ffactor_11 fmade_12 fbests_13 ftopA_14 flowA_15 ftopB_16 flowB_17 fleft_18 fright_19 h; exact absurd h (by simp [lp])
  | succ nn ih =>
    intro i1_2 fisKnown_3 ftops_4 flows_5 fsmall_6 flarge_7 fone_8 ftwo_9 frest_10 ffactor_11 fmade_12 fbests_13 ftopA_14 flowA_15 ftopB_16 flowB_17 fleft_18 fright_19 h
    replace h := lp_s h
    rw [eb_X11_best_9] at h
    refine v_iload_n hk dX11_best_9 rfl ?_
    refine v_iconst (v := 1) hk dX11_best_10 (by decide) ?_
    refine v_aload_n hk dX11_best_11 rfl ?_
    refine v_get (C := RX11) (T := TX11) (N := 39) (ci := 10) (v := .int o_names) hk dX11_best_12 w2i_X11_best_X110 0 rfl rfl 0 (by decide) (by decide +kernel) rfl rfl ?_
    refine v_ishl hk dX11_best_15 ?_
    refine v_icmp_ge (tgt := 130) hk dX11_best_16 (by decide) (fun hc => ?_) (fun hc => ?_)
    · replace h := it_t (g := (lpk (lp (b_X11_best_9 o_names o_rows o_strength o_most o_toldGraph o_toldArc fvalues fcells) nn))) h hc
      replace h : some (i1_2, fisKnown_3, ftops_4, flows_5, fsmall_6, flarge_7, fone_8, ftwo_9, frest_10, ffactor_11, fmade_12, fbests_13, ftopA_14, flowA_15, ftopB_16, flowB_17, fleft_18, fright_19) = some b9 := h
      replace h := Option.some.inj h
      subst h
      exact kk0 _ rfl
    · replace h := it_f (g := (lpk (lp (b_X11_best_9 o_names o_rows o_strength o_most o_toldGraph o_toldArc fvalues fcells) nn))) h hc
      refine v_iconst (v := (-1)) hk dX11_best_19 (by decide) ?_
      refine v_istore_n hk dX11_best_20 rfl (by decide) [1, 2, 0] (lv' := [(0, .ref adm), (1, .int i1_2), (2, .int (-1))]) rfl ?_
      refine v_iconst (v := 0) hk dX11_best_21 (by decide) ?_
      refine v_istore_n hk dX11_best_22 rfl (by decide) [1, 2, 3, 0] (lv' := [(0, .ref adm), (1, .int i1_2), (2, .int (-1)), (3, .int 0)]) rfl ?_
      obtain ⟨b_52, eb_52, h⟩ := bd_e (g := (lpk (lp (b_X11_best_9 o_names o_rows o_strength o_most o_toldGraph o_toldArc fvalues fcells) nn))) rfl h
      refine L_X11_best_23 hk hR9 adm adA o_names o_rows o_strength o_most o_toldGraph o_toldArc fvalues fcells i1_2 fbests_13 b_52 (fun q_49 eq_49 => ?_) FU (-1) 0 fisKnown_3 ftops_4 flows_5 fsmall_6 flarge_7 fone_8 ftwo_9 frest_10 ffactor_11 fmade_12 ftopA_14 flowA_15 ftopB_16 flowB_17 fleft_18 fright_19 eb_52
      · replace eq_49 := eq_49.symm
        subst eq_49
        refine v_aload_n hk dX11_best_117 rfl ?_
        refine v_get (C := RX11) (T := TX11) (N := 39) (ci := 10) (v := .ref (adA 26)) hk dX11_best_118 w2i_X11_best_X110 0 rfl rfl 26 (by decide) (by decide +kernel) rfl rfl ?_
        refine v_iload_n hk dX11_best_121 rfl ?_
        refine v_iload_n hk dX11_best_122 rfl ?_
        obtain ⟨hi, h⟩ := ok_e (g := (lpk (lp (b_X11_best_9 o_names o_rows o_strength o_most o_toldGraph o_toldArc fvalues fcells) nn))) rfl h
        obtain ⟨fbests_50, efbests_50, h⟩ := lt_e (g := (lpk (lp (b_X11_best_9 o_names o_rows o_strength o_most o_toldGraph o_toldArc fvalues fcells) nn))) h
        refine v_iastV hk dX11_best_123 13 rfl (ix_in hi) (ws' := [(adm, .inr (10, oM adA o_names o_rows o_strength o_most o_toldGraph o_toldArc)), ((adA 1), .inl (gI (kG K), 5, .inl fvalues)), ((adA 3), .inl (gI (kG K), 80, .inl fcells)), ((adA 11), .inl (gZ (kG K), 160, .inl q_49.2.2.1)), ((adA 12), .inl (gI (kG K), 1280, .inl q_49.2.2.2.1)), ((adA 13), .inl (gI (kG K), 1280, .inl q_49.2.2.2.2.1)), ((adA 14), .inl (gI (kG K), 320, .inl q_49.2.2.2.2.2.1)), ((adA 15), .inl (gI (kG K), 320, .inl q_49.2.2.2.2.2.2.1)), ((adA 6), .inl (gI (kG K), 320, .inl q_49.2.2.2.2.2.2.2.1)), ((adA 7), .inl (gI (kG K), 320, .inl q_49.2.2.2.2.2.2.2.2.1)), ((adA 8), .inl (gI (kG K), 320, .inl q_49.2.2.2.2.2.2.2.2.2.1)), ((adA 16), .inl (gI (kG K), 320, .inl q_49.2.2.2.2.2.2.2.2.2.2.1)), ((adA 17), .inl (gI (kG K), 320, .inl q_49.2.2.2.2.2.2.2.2.2.2.2.1)), ((adA 26), .inl (gI (kG K), 32, .inl fbests_50)), ((adA 18), .inl (gI (kG K), 320, .inl q_49.2.2.2.2.2.2.2.2.2.2.2.2.1)), ((adA 19), .inl (gI (kG K), 320, .inl q_49.2.2.2.2.2.2.2.2.2.2.2.2.2.1)), ((adA 20), .inl (gI (kG K), 320, .inl q_49.2.2.2.2.2.2.2.2.2.2.2.2.2.2.1)), ((adA 21), .inl (gI (kG K), 320, .inl q_49.2.2.2.2.2.2.2.2.2.2.2.2.2.2.2.1)), ((adA 22), .inl (gI (kG K), 320, .inl q_49.2.2.2.2.2.2.2.2.2.2.2.2.2.2.2.2.1)), ((adA 23), .inl (gI (kG K), 320, .inl q_49.2.2.2.2.2.2.2.2.2.2.2.2.2.2.2.2.2))]) (by rw [efbests_50]; rfl) ?_
        obtain ⟨x1_51, ex1_51, h⟩ := lt_e (g := (lpk (lp (b_X11_best_9 o_names o_rows o_strength o_most o_toldGraph o_toldArc fvalues fcells) nn))) h
        refine v_iinc (v := x1_51) hk dX11_best_124 rfl (by rw [ex1_51]; rfl) (by decide) [1, 0, 2, 3] (lv' := [(0, .ref adm), (1, .int x1_51), (2, .int q_49.1), (3, .int q_49.2.1)]) rfl ?_
        refine v_goto (tgt := 9) hk dX11_best_127 (by decide) ?_
        refine v_loc [0, 1] (lv' := [(0, .ref adm), (1, .int x1_51)]) rfl ?_
        exact ih x1_51 q_49.2.2.1 q_49.2.2.2.1 q_49.2.2.2.2.1 q_49.2.2.2.2.2.1 q_49.2.2.2.2.2.2.1 q_49.2.2.2.2.2.2.2.1 q_49.2.2.2.2.2.2.2.2.1 q_49.2.2.2.2.2.2.2.2.2.1 q_49.2.2.2.2.2.2.2.2.2.2.1 q_49.2.2.2.2.2.2.2.2.2.2.2.1 fbests_50 q_49.2.2.2.2.2.2.2.2.2.2.2.2.1 q_49.2.2.2.2.2.2.2.2.2.2.2.2.2.1 q_49.2.2.2.2.2.2.2.2.2.2.2.2.2.2.1 q_49.2.2.2.2.2.2.2.2.2.2.2.2.2.2.2.1 q_49.2.2.2.2.2.2.2.2.2.2.2.2.2.2.2.2.1 q_49.2.2.2.2.2.2.2.2.2.2.2.2.2.2.2.2.2 h
set_option maxHeartbeats 4000000 in
set_option maxRecDepth 100000 in
theorem c_X11_best (l : Launch) (G : GG) (adm : Nat) (adA : Nat → Nat) (o_names : Int32) (o_rows : Int32) (o_strength : Int32) (o_most : Int32) (o_toldGraph : Int32) (o_toldArc : Int32) (fvalues : Nat → Int32) (fcells : Nat → Int32) (fisKnown : Nat → Int32) (ftops : Nat → Int32) (flows : Nat → Int32) (fsmall : Nat → Int32) (flarge : Nat → Int32) (fone : Nat → Int32) (ftwo : Nat → Int32) (frest : Nat → Int32) (ffactor : Nat → Int32) (fmade : Nat → Int32) (fbests : Nat → Int32) (ftopA : Nat → Int32) (flowA : Nat → Int32) (ftopB : Nat → Int32) (flowB : Nat → Int32) (fleft : Nat → Int32) (fright : Nat → Int32) (r : Int32 × (Nat → Int32) × (Nat → Int32) × (Nat → Int32) × (Nat → Int32) × (Nat → Int32) × (Nat → Int32) × (Nat → Int32) × (Nat → Int32) × (Nat → Int32) × (Nat → Int32) × (Nat → Int32) × (Nat → Int32) × (Nat → Int32) × (Nat → Int32) × (Nat → Int32) × (Nat → Int32) × (Nat → Int32)) (h : m_X11_best o_names o_rows o_strength o_most o_toldGraph o_toldArc fvalues fcells fisKnown ftops flows fsmall flarge fone ftwo frest ffactor fmade fbests ftopA flowA ftopB flowB fleft fright = some r) : Ctr l G yX11_best w2_X11_best rm_X11_best [.ref adm] [(adm, .inr (10, oM adA o_names o_rows o_strength o_most o_toldGraph o_toldArc)), ((adA 1), .inl (gI G, 5, .inl fvalues)), ((adA 3), .inl (gI G, 80, .inl fcells)), ((adA 11), .inl (gZ G, 160, .inl fisKnown)), ((adA 12), .inl (gI G, 1280, .inl ftops)), ((adA 13), .inl (gI G, 1280, .inl flows)), ((adA 14), .inl (gI G, 320, .inl fsmall)), ((adA 15), .inl (gI G, 320, .inl flarge)), ((adA 6), .inl (gI G, 320, .inl fone)), ((adA 7), .inl (gI G, 320, .inl ftwo)), ((adA 8), .inl (gI G, 320, .inl frest)), ((adA 16), .inl (gI G, 320, .inl ffactor)), ((adA 17), .inl (gI G, 320, .inl fmade)), ((adA 26), .inl (gI G, 32, .inl fbests)), ((adA 18), .inl (gI G, 320, .inl ftopA)), ((adA 19), .inl (gI G, 320, .inl flowA)), ((adA 20), .inl (gI G, 320, .inl ftopB)), ((adA 21), .inl (gI G, 320, .inl flowB)), ((adA 22), .inl (gI G, 320, .inl fleft)), ((adA 23), .inl (gI G, 320, .inl fright))] (fun v w => v = some (.int r.1) ∧ w = [(adm, .inr (10, oM adA o_names o_rows o_strength o_most o_toldGraph o_toldArc)), ((adA 1), .inl (gI G, 5, .inl fvalues)), ((adA 3), .inl (gI G, 80, .inl fcells)), ((adA 11), .inl (gZ G, 160, .inl r.2.1)), ((adA 12), .inl (gI G, 1280, .inl r.2.2.1)), ((adA 13), .inl (gI G, 1280, .inl r.2.2.2.1)), ((adA 14), .inl (gI G, 320, .inl r.2.2.2.2.1)), ((adA 15), .inl (gI G, 320, .inl r.2.2.2.2.2.1)), ((adA 6), .inl (gI G, 320, .inl r.2.2.2.2.2.2.1)), ((adA 7), .inl (gI G, 320, .inl r.2.2.2.2.2.2.2.1)), ((adA 8), .inl (gI G, 320, .inl r.2.2.2.2.2.2.2.2.1)), ((adA 16), .inl (gI G, 320, .inl r.2.2.2.2.2.2.2.2.2.1)), ((adA 17), .inl (gI G, 320, .inl r.2.2.2.2.2.2.2.2.2.2.1)), ((adA 26), .inl (gI G, 32, .inl r.2.2.2.2.2.2.2.2.2.2.2.1)), ((adA 18), .inl (gI G, 320, .inl r.2.2.2.2.2.2.2.2.2.2.2.2.1)), ((adA 19), .inl (gI G, 320, .inl r.2.2.2.2.2.2.2.2.2.2.2.2.2.1)), ((adA 20), .inl (gI G, 320, .inl r.2.2.2.2.2.2.2.2.2.2.2.2.2.2.1)), ((adA 21), .inl (gI G, 320, .inl r.2.2.2.2.2.2.2.2.2.2.2.2.2.2.2.1)), ((adA 22), .inl (gI G, 320, .inl r.2.2.2.2.2.2.2.2.2.2.2.2.2.2.2.2.1)), ((adA 23), .inl (gI G, 320, .inl r.2.2.2.2.2.2.2.2.2.2.2.2.2.2.2.2.2))]) := by
  refine ctr_entry (cc := cX11_best) (maxL := 7) (ret := some .int) (lv0 := [(0, .ref adm)]) (by decide) rfl (Nat.le_of_ble_eq_true rfl) (rfl) ?_
  intro K hl9 hG9 hk hn9 hrt
  subst hl9
  subst hG9
  have hR9 : RoomGe rm_X11_best rm_X11_best := RoomGe.rf
  replace h := id_e h
  rw [em_X11_best] at h
  refine v_aload_n hk dX11_best_0 rfl ?_
  refine v_get (C := RX11) (T := TX11) (N := 39) (ci := 10) (v := .ref (adA 26)) hk dX11_best_1 w2i_X11_best_X110 0 rfl rfl 26 (by decide) (by decide +kernel) rfl rfl ?_
  refine v_iconst (v := 0) hk dX11_best_4 (by decide) ?_
  refine v_iconst (v := 0) hk dX11_best_5 (by decide) ?_
  obtain ⟨hi, h⟩ := ok_e (g := id) rfl h
  obtain ⟨fbests_1, efbests_1, h⟩ := lt_e (g := id) h
  refine v_iastV hk dX11_best_6 13 rfl (ix_in hi) (ws' := [(adm, .inr (10, oM adA o_names o_rows o_strength o_most o_toldGraph o_toldArc)), ((adA 1), .inl (gI (kG K), 5, .inl fvalues)), ((adA 3), .inl (gI (kG K), 80, .inl fcells)), ((adA 11), .inl (gZ (kG K), 160, .inl fisKnown)), ((adA 12), .inl (gI (kG K), 1280, .inl ftops)), ((adA 13), .inl (gI (kG K), 1280, .inl flows)), ((adA 14), .inl (gI (kG K), 320, .inl fsmall)), ((adA 15), .inl (gI (kG K), 320, .inl flarge)), ((adA 6), .inl (gI (kG K), 320, .inl fone)), ((adA 7), .inl (gI (kG K), 320, .inl ftwo)), ((adA 8), .inl (gI (kG K), 320, .inl frest)), ((adA 16), .inl (gI (kG K), 320, .inl ffactor)), ((adA 17), .inl (gI (kG K), 320, .inl fmade)), ((adA 26), .inl (gI (kG K), 32, .inl fbests_1)), ((adA 18), .inl (gI (kG K), 320, .inl ftopA)), ((adA 19), .inl (gI (kG K), 320, .inl flowA)), ((adA 20), .inl (gI (kG K), 320, .inl ftopB)), ((adA 21), .inl (gI (kG K), 320, .inl flowB)), ((adA 22), .inl (gI (kG K), 320, .inl fleft)), ((adA 23), .inl (gI (kG K), 320, .inl fright))]) (by rw [efbests_1]; rfl) ?_
  refine v_iconst (v := 1) hk dX11_best_7 (by decide) ?_
  refine v_istore_n hk dX11_best_8 rfl (by decide) [1, 0] (lv' := [(0, .ref adm), (1, .int 1)]) rfl ?_
  obtain ⟨b_54, eb_54, h⟩ := bd_e (g := id) rfl h
  refine L_X11_best_9 hk hR9 adm adA o_names o_rows o_strength o_most o_toldGraph o_toldArc fvalues fcells b_54 (fun q_53 eq_53 => ?_) FU 1 fisKnown ftops flows fsmall flarge fone ftwo frest ffactor fmade fbests_1 ftopA flowA ftopB flowB fleft fright eb_54
  · replace eq_53 := eq_53.symm
    subst eq_53
    refine v_aload_n hk dX11_best_130 rfl ?_
    refine v_get (C := RX11) (T := TX11) (N := 39) (ci := 10) (v := .ref (adA 26)) hk dX11_best_131 w2i_X11_best_X110 0 rfl rfl 26 (by decide) (by decide +kernel) rfl rfl ?_
    refine v_iconst (v := 1) hk dX11_best_134 (by decide) ?_
    refine v_aload_n hk dX11_best_135 rfl ?_
    refine v_get (C := RX11) (T := TX11) (N := 39) (ci := 10) (v := .int o_names) hk dX11_best_136 w2i_X11_best_X110 0 rfl rfl 0 (by decide) (by decide +kernel) rfl rfl ?_
    refine v_ishl hk dX11_best_139 ?_
    refine v_iconst (v := 1) hk dX11_best_140 (by decide) ?_
    refine v_isub hk dX11_best_141 ?_
    obtain ⟨hi, h⟩ := ok_e (g := id) rfl h
    refine v_ialdV hk dX11_best_142 13 rfl (ix_in hi) ?_
    replace h : some (q_53.2.2.2.2.2.2.2.2.2.2.2.1 ((1 <<< (o_names &&& 31)) - 1).toNatClampNeg, q_53.2.1, q_53.2.2.1, q_53.2.2.2.1, q_53.2.2.2.2.1, q_53.2.2.2.2.2.1, q_53.2.2.2.2.2.2.1, q_53.2.2.2.2.2.2.2.1, q_53.2.2.2.2.2.2.2.2.1, q_53.2.2.2.2.2.2.2.2.2.1, q_53.2.2.2.2.2.2.2.2.2.2.1, q_53.2.2.2.2.2.2.2.2.2.2.2.1, q_53.2.2.2.2.2.2.2.2.2.2.2.2.1, q_53.2.2.2.2.2.2.2.2.2.2.2.2.2.1, q_53.2.2.2.2.2.2.2.2.2.2.2.2.2.2.1, q_53.2.2.2.2.2.2.2.2.2.2.2.2.2.2.2.1, q_53.2.2.2.2.2.2.2.2.2.2.2.2.2.2.2.2.1, q_53.2.2.2.2.2.2.2.2.2.2.2.2.2.2.2.2.2) = some r := h
    replace h := Option.some.inj h
    subst h
    refine hrt (some (.int (q_53.2.2.2.2.2.2.2.2.2.2.2.1 ((1 <<< (o_names &&& 31)) - 1).toNatClampNeg))) _ _ _ _ _ (⟨rfl, rfl⟩) (Nat.zero_le _) (Nat.zero_le _) (dX11_best_143)
abbrev rm_X11_better : Room := { frames := 6, cells := 0, slots := 0, locals := 144 }
set_option maxHeartbeats 4000000 in
set_option maxRecDepth 100000 in
theorem c_X11_better (l : Launch) (G : GG) (adm : Nat) (adA : Nat → Nat) (o_names : Int32) (o_rows : Int32) (o_strength : Int32) (o_most : Int32) (o_toldGraph : Int32) (o_toldArc : Int32) (fvalues : Nat → Int32) (fcells : Nat → Int32) (fisKnown : Nat → Int32) (ftops : Nat → Int32) (flows : Nat → Int32) (fsmall : Nat → Int32) (flarge : Nat → Int32) (fone : Nat → Int32) (ftwo : Nat → Int32) (frest : Nat → Int32) (ffactor : Nat → Int32) (fmade : Nat → Int32) (ftopA : Nat → Int32) (flowA : Nat → Int32) (ftopB : Nat → Int32) (flowB : Nat → Int32) (fleft : Nat → Int32) (fright : Nat → Int32) (bs : Int32) (gr : Int32) (r : Int32 × (Nat → Int32) × (Nat → Int32) × (Nat → Int32) × (Nat → Int32) × (Nat → Int32) × (Nat → Int32) × (Nat → Int32) × (Nat → Int32) × (Nat → Int32) × (Nat → Int32) × (Nat → Int32) × (Nat → Int32) × (Nat → Int32) × (Nat → Int32) × (Nat → Int32) × (Nat → Int32)) (h : m_X11_better o_names o_rows o_strength o_most o_toldGraph o_toldArc fvalues fcells fisKnown ftops flows fsmall flarge fone ftwo frest ffactor fmade ftopA flowA ftopB flowB fleft fright bs gr = some r) : Ctr l G yX11_better w2_X11_better rm_X11_better [.ref adm, .int bs, .int gr] [(adm, .inr (10, oM adA o_names o_rows o_strength o_most o_toldGraph o_toldArc)), ((adA 1), .inl (gI G, 5, .inl fvalues)), ((adA 3), .inl (gI G, 80, .inl fcells)), ((adA 11), .inl (gZ G, 160, .inl fisKnown)), ((adA 12), .inl (gI G, 1280, .inl ftops)), ((adA 13), .inl (gI G, 1280, .inl flows)), ((adA 14), .inl (gI G, 320, .inl fsmall)), ((adA 15), .inl (gI G, 320, .inl flarge)), ((adA 6), .inl (gI G, 320, .inl fone)), ((adA 7), .inl (gI G, 320, .inl ftwo)), ((adA 8), .inl (gI G, 320, .inl frest)), ((adA 16), .inl (gI G, 320, .inl ffactor)), ((adA 17), .inl (gI G, 320, .inl fmade)), ((adA 18), .inl (gI G, 320, .inl ftopA)), ((adA 19), .inl (gI G, 320, .inl flowA)), ((adA 20), .inl (gI G, 320, .inl ftopB)), ((adA 21), .inl (gI G, 320, .inl flowB)), ((adA 22), .inl (gI G, 320, .inl fleft)), ((adA 23), .inl (gI G, 320, .inl fright))] (fun v w => v = some (.int r.1) ∧ w = [(adm, .inr (10, oM adA o_names o_rows o_strength o_most o_toldGraph o_toldArc)), ((adA 1), .inl (gI G, 5, .inl fvalues)), ((adA 3), .inl (gI G, 80, .inl fcells)), ((adA 11), .inl (gZ G, 160, .inl r.2.1)), ((adA 12), .inl (gI G, 1280, .inl r.2.2.1)), ((adA 13), .inl (gI G, 1280, .inl r.2.2.2.1)), ((adA 14), .inl (gI G, 320, .inl r.2.2.2.2.1)), ((adA 15), .inl (gI G, 320, .inl r.2.2.2.2.2.1)), ((adA 6), .inl (gI G, 320, .inl r.2.2.2.2.2.2.1)), ((adA 7), .inl (gI G, 320, .inl r.2.2.2.2.2.2.2.1)), ((adA 8), .inl (gI G, 320, .inl r.2.2.2.2.2.2.2.2.1)), ((adA 16), .inl (gI G, 320, .inl r.2.2.2.2.2.2.2.2.2.1)), ((adA 17), .inl (gI G, 320, .inl r.2.2.2.2.2.2.2.2.2.2.1)), ((adA 18), .inl (gI G, 320, .inl r.2.2.2.2.2.2.2.2.2.2.2.1)), ((adA 19), .inl (gI G, 320, .inl r.2.2.2.2.2.2.2.2.2.2.2.2.1)), ((adA 20), .inl (gI G, 320, .inl r.2.2.2.2.2.2.2.2.2.2.2.2.2.1)), ((adA 21), .inl (gI G, 320, .inl r.2.2.2.2.2.2.2.2.2.2.2.2.2.2.1)), ((adA 22), .inl (gI G, 320, .inl r.2.2.2.2.2.2.2.2.2.2.2.2.2.2.2.1)), ((adA 23), .inl (gI G, 320, .inl r.2.2.2.2.2.2.2.2.2.2.2.2.2.2.2.2))]) := by
  refine ctr_entry (cc := cX11_better) (maxL := 4) (ret := some .int) (lv0 := [(0, .ref adm), (1, .int bs), (2, .int gr)]) (by decide) rfl (Nat.le_of_ble_eq_true rfl) (rfl) ?_
  intro K hl9 hG9 hk hn9 hrt
  subst hl9
  subst hG9
  have hR9 : RoomGe rm_X11_better rm_X11_better := RoomGe.rf
  replace h := id_e h
  rw [em_X11_better] at h
  refine v_aload_n hk dX11_better_0 rfl ?_
  refine v_iload_n hk dX11_better_1 rfl ?_
  obtain ⟨r_1, er_1, h⟩ := bd_e (g := id) rfl h
  refine v_callV (n := 1) (st := []) (b := adm) (T := TX11) (N := 39) hk dX11_better_2 (c_X11_isGraph (kl K) (kG K) adm adA o_names o_rows o_strength o_most o_toldGraph o_toldArc gr r_1 er_1) rfl gd_X11_better_X11_isGraph rfl (by decide +kernel) (frok hR9 (Nat.le_of_ble_eq_true rfl) (Nat.le_of_ble_eq_true rfl)) (roomk hR9 (Nat.le_of_ble_eq_true rfl) (Nat.le_of_ble_eq_true rfl)) rfl rfl (Nat.le_of_ble_eq_true rfl) 0 rfl rfl [0] [1, 2, 3, 4, 5, 6, 7, 8, 9, 10, 11, 12, 13, 14, 15, 16, 17, 18] (wr := [((adA 1), .inl (gI (kG K), 5, .inl fvalues)), ((adA 3), .inl (gI (kG K), 80, .inl fcells)), ((adA 11), .inl (gZ (kG K), 160, .inl fisKnown)), ((adA 12), .inl (gI (kG K), 1280, .inl ftops)), ((adA 13), .inl (gI (kG K), 1280, .inl flows)), ((adA 14), .inl (gI (kG K), 320, .inl fsmall)), ((adA 15), .inl (gI (kG K), 320, .inl flarge)), ((adA 6), .inl (gI (kG K), 320, .inl fone)), ((adA 7), .inl (gI (kG K), 320, .inl ftwo)), ((adA 8), .inl (gI (kG K), 320, .inl frest)), ((adA 16), .inl (gI (kG K), 320, .inl ffactor)), ((adA 17), .inl (gI (kG K), 320, .inl fmade)), ((adA 18), .inl (gI (kG K), 320, .inl ftopA)), ((adA 19), .inl (gI (kG K), 320, .inl flowA)), ((adA 20), .inl (gI (kG K), 320, .inl ftopB)), ((adA 21), .inl (gI (kG K), 320, .inl flowB)), ((adA 22), .inl (gI (kG K), 320, .inl fleft)), ((adA 23), .inl (gI (kG K), 320, .inl fright))]) rfl rfl (by decide) (by decide) (by decide) ?_
  intro v9 w9 hp9
  obtain ⟨rfl, rfl⟩ := hp9
  show V K 4 [((adA 1), .inl (gI (kG K), 5, .inl fvalues)), ((adA 3), .inl (gI (kG K), 80, .inl fcells)), ((adA 11), .inl (gZ (kG K), 160, .inl fisKnown)), ((adA 12), .inl (gI (kG K), 1280, .inl ftops)), ((adA 13), .inl (gI (kG K), 1280, .inl flows)), ((adA 14), .inl (gI (kG K), 320, .inl fsmall)), ((adA 15), .inl (gI (kG K), 320, .inl flarge)), ((adA 6), .inl (gI (kG K), 320, .inl fone)), ((adA 7), .inl (gI (kG K), 320, .inl ftwo)), ((adA 8), .inl (gI (kG K), 320, .inl frest)), ((adA 16), .inl (gI (kG K), 320, .inl ffactor)), ((adA 17), .inl (gI (kG K), 320, .inl fmade)), ((adA 18), .inl (gI (kG K), 320, .inl ftopA)), ((adA 19), .inl (gI (kG K), 320, .inl flowA)), ((adA 20), .inl (gI (kG K), 320, .inl ftopB)), ((adA 21), .inl (gI (kG K), 320, .inl flowB)), ((adA 22), .inl (gI (kG K), 320, .inl fleft)), ((adA 23), .inl (gI (kG K), 320, .inl fright)), (adm, .inr (10, oM adA o_names o_rows o_strength o_most o_toldGraph o_toldArc))] 0 0 5 [(0, .ref adm), (1, .int bs), (2, .int gr)] [.int r_1]
  refine v_if_eq (tgt := 16) hk dX11_better_5 (by decide) (fun hc => ?_) (fun hc => ?_)
  · replace h := it_t (g := id) h hc
    refine v_iload_n hk dX11_better_16 rfl ?_
    replace h : some (bs, fisKnown, ftops, flows, fsmall, flarge, fone, ftwo, frest, ffactor, fmade, ftopA, flowA, ftopB, flowB, fleft, fright) = some r := h
    replace h := Option.some.inj h
    subst h
    refine v_perm [18, 0, 1, 2, 3, 4, 5, 6, 7, 8, 9, 10, 11, 12, 13, 14, 15, 16, 17] (ws' := [(adm, .inr (10, oM adA o_names o_rows o_strength o_most o_toldGraph o_toldArc)), ((adA 1), .inl (gI (kG K), 5, .inl fvalues)), ((adA 3), .inl (gI (kG K), 80, .inl fcells)), ((adA 11), .inl (gZ (kG K), 160, .inl fisKnown)), ((adA 12), .inl (gI (kG K), 1280, .inl ftops)), ((adA 13), .inl (gI (kG K), 1280, .inl flows)), ((adA 14), .inl (gI (kG K), 320, .inl fsmall)), ((adA 15), .inl (gI (kG K), 320, .inl flarge)), ((adA 6), .inl (gI (kG K), 320, .inl fone)), ((adA 7), .inl (gI (kG K), 320, .inl ftwo)), ((adA 8), .inl (gI (kG K), 320, .inl frest)), ((adA 16), .inl (gI (kG K), 320, .inl ffactor)), ((adA 17), .inl (gI (kG K), 320, .inl fmade)), ((adA 18), .inl (gI (kG K), 320, .inl ftopA)), ((adA 19), .inl (gI (kG K), 320, .inl flowA)), ((adA 20), .inl (gI (kG K), 320, .inl ftopB)), ((adA 21), .inl (gI (kG K), 320, .inl flowB)), ((adA 22), .inl (gI (kG K), 320, .inl fleft)), ((adA 23), .inl (gI (kG K), 320, .inl fright))]) rfl rfl (by decide) ?_
    refine hrt (some (.int bs)) _ _ _ _ _ (⟨rfl, rfl⟩) (Nat.zero_le _) (Nat.zero_le _) (dX11_better_17)
  · replace h := it_f (g := id) h hc
    refine v_aload_n hk dX11_better_8 rfl ?_
    refine v_iload_n hk dX11_better_9 rfl ?_
    obtain ⟨r_2, er_2, h⟩ := bd_e (g := id) rfl h
    refine v_callV (n := 1) (st := []) (b := adm) (T := TX11) (N := 39) hk dX11_better_10 (c_X11_isBounded (kl K) (kG K) adm adA o_names o_rows o_strength o_most o_toldGraph o_toldArc gr r_2 er_2) rfl gd_X11_better_X11_isBounded rfl (by decide +kernel) (frok hR9 (Nat.le_of_ble_eq_true rfl) (Nat.le_of_ble_eq_true rfl)) (roomk hR9 (Nat.le_of_ble_eq_true rfl) (Nat.le_of_ble_eq_true rfl)) rfl rfl (Nat.le_of_ble_eq_true rfl) 18 rfl rfl [18] [0, 1, 2, 3, 4, 5, 6, 7, 8, 9, 10, 11, 12, 13, 14, 15, 16, 17] (wr := [((adA 1), .inl (gI (kG K), 5, .inl fvalues)), ((adA 3), .inl (gI (kG K), 80, .inl fcells)), ((adA 11), .inl (gZ (kG K), 160, .inl fisKnown)), ((adA 12), .inl (gI (kG K), 1280, .inl ftops)), ((adA 13), .inl (gI (kG K), 1280, .inl flows)), ((adA 14), .inl (gI (kG K), 320, .inl fsmall)), ((adA 15), .inl (gI (kG K), 320, .inl flarge)), ((adA 6), .inl (gI (kG K), 320, .inl fone)), ((adA 7), .inl (gI (kG K), 320, .inl ftwo)), ((adA 8), .inl (gI (kG K), 320, .inl frest)), ((adA 16), .inl (gI (kG K), 320, .inl ffactor)), ((adA 17), .inl (gI (kG K), 320, .inl fmade)), ((adA 18), .inl (gI (kG K), 320, .inl ftopA)), ((adA 19), .inl (gI (kG K), 320, .inl flowA)), ((adA 20), .inl (gI (kG K), 320, .inl ftopB)), ((adA 21), .inl (gI (kG K), 320, .inl flowB)), ((adA 22), .inl (gI (kG K), 320, .inl fleft)), ((adA 23), .inl (gI (kG K), 320, .inl fright))]) rfl rfl (by decide) (by decide) (by decide) ?_
    intro v9 w9 hp9
    obtain ⟨rfl, rfl⟩ := hp9
    show V K 4 [((adA 1), .inl (gI (kG K), 5, .inl fvalues)), ((adA 3), .inl (gI (kG K), 80, .inl fcells)), ((adA 11), .inl (gZ (kG K), 160, .inl fisKnown)), ((adA 12), .inl (gI (kG K), 1280, .inl ftops)), ((adA 13), .inl (gI (kG K), 1280, .inl flows)), ((adA 14), .inl (gI (kG K), 320, .inl fsmall)), ((adA 15), .inl (gI (kG K), 320, .inl flarge)), ((adA 6), .inl (gI (kG K), 320, .inl fone)), ((adA 7), .inl (gI (kG K), 320, .inl ftwo)), ((adA 8), .inl (gI (kG K), 320, .inl frest)), ((adA 16), .inl (gI (kG K), 320, .inl ffactor)), ((adA 17), .inl (gI (kG K), 320, .inl fmade)), ((adA 18), .inl (gI (kG K), 320, .inl ftopA)), ((adA 19), .inl (gI (kG K), 320, .inl flowA)), ((adA 20), .inl (gI (kG K), 320, .inl ftopB)), ((adA 21), .inl (gI (kG K), 320, .inl flowB)), ((adA 22), .inl (gI (kG K), 320, .inl fleft)), ((adA 23), .inl (gI (kG K), 320, .inl fright)), (adm, .inr (10, oM adA o_names o_rows o_strength o_most o_toldGraph o_toldArc))] 0 0 13 [(0, .ref adm), (1, .int bs), (2, .int gr)] [.int r_2]
    refine v_if_ne (tgt := 18) hk dX11_better_13 (by decide) (fun hc => ?_) (fun hc => ?_)
    · replace h := it_f (g := id) h hc
      refine v_iload_n hk dX11_better_18 rfl ?_
      refine v_if_ge (tgt := 24) hk dX11_better_19 (by decide) (fun hc => ?_) (fun hc => ?_)
      · replace h := it_t (g := id) h hc
        refine v_aload_n hk dX11_better_24 rfl ?_
        refine v_iload_n hk dX11_better_25 rfl ?_
        refine v_iload_n hk dX11_better_26 rfl ?_
        obtain ⟨r_3, er_3, h⟩ := bd_e (g := id) rfl h
        refine v_callV (n := 2) (st := []) (b := adm) (T := TX11) (N := 39) hk dX11_better_27 (c_X11_signOf (kl K) (kG K) adm adA o_names o_rows o_strength o_most o_toldGraph o_toldArc fvalues fcells fisKnown ftops flows fsmall flarge fone ftwo frest ffactor fmade ftopA flowA ftopB flowB fleft fright gr bs r_3 er_3) rfl gd_X11_better_X11_signOf rfl (by decide +kernel) (frok hR9 (Nat.le_of_ble_eq_true rfl) (Nat.le_of_ble_eq_true rfl)) (roomk hR9 (Nat.le_of_ble_eq_true rfl) (Nat.le_of_ble_eq_true rfl)) rfl rfl (Nat.le_of_ble_eq_true rfl) 18 rfl rfl [18, 0, 1, 2, 3, 4, 5, 6, 7, 8, 9, 10, 11, 12, 13, 14, 15, 16, 17] [] (wr := []) rfl rfl (by decide) (by decide) (by decide) ?_
        intro v9 w9 hp9
        obtain ⟨rfl, rfl⟩ := hp9
        show V K 4 [(adm, .inr (10, oM adA o_names o_rows o_strength o_most o_toldGraph o_toldArc)), ((adA 1), .inl (gI (kG K), 5, .inl fvalues)), ((adA 3), .inl (gI (kG K), 80, .inl fcells)), ((adA 11), .inl (gZ (kG K), 160, .inl r_3.2.1)), ((adA 12), .inl (gI (kG K), 1280, .inl r_3.2.2.1)), ((adA 13), .inl (gI (kG K), 1280, .inl r_3.2.2.2.1)), ((adA 14), .inl (gI (kG K), 320, .inl r_3.2.2.2.2.1)), ((adA 15), .inl (gI (kG K), 320, .inl r_3.2.2.2.2.2.1)), ((adA 6), .inl (gI (kG K), 320, .inl r_3.2.2.2.2.2.2.1)), ((adA 7), .inl (gI (kG K), 320, .inl r_3.2.2.2.2.2.2.2.1)), ((adA 8), .inl (gI (kG K), 320, .inl r_3.2.2.2.2.2.2.2.2.1)), ((adA 16), .inl (gI (kG K), 320, .inl r_3.2.2.2.2.2.2.2.2.2.1)), ((adA 17), .inl (gI (kG K), 320, .inl r_3.2.2.2.2.2.2.2.2.2.2.1)), ((adA 18), .inl (gI (kG K), 320, .inl r_3.2.2.2.2.2.2.2.2.2.2.2.1)), ((adA 19), .inl (gI (kG K), 320, .inl r_3.2.2.2.2.2.2.2.2.2.2.2.2.1)), ((adA 20), .inl (gI (kG K), 320, .inl r_3.2.2.2.2.2.2.2.2.2.2.2.2.2.1)), ((adA 21), .inl (gI (kG K), 320, .inl r_3.2.2.2.2.2.2.2.2.2.2.2.2.2.2.1)), ((adA 22), .inl (gI (kG K), 320, .inl r_3.2.2.2.2.2.2.2.2.2.2.2.2.2.2.2.1)), ((adA 23), .inl (gI (kG K), 320, .inl r_3.2.2.2.2.2.2.2.2.2.2.2.2.2.2.2.2))] 0 0 30 [(0, .ref adm), (1, .int bs), (2, .int gr)] [.int r_3.1]
        refine v_istore_n hk dX11_better_30 rfl (by decide) [1, 2, 3, 0] (lv' := [(0, .ref adm), (1, .int bs), (2, .int gr), (3, .int r_3.1)]) rfl ?_
        refine v_iload_n hk dX11_better_31 rfl ?_
        obtain ⟨y_4, ey_4, h⟩ := bd_e (g := id) rfl h
        have Jy_4 : V K 4 [(adm, .inr (10, oM adA o_names o_rows o_strength o_most o_toldGraph o_toldArc)), ((adA 1), .inl (gI (kG K), 5, .inl fvalues)), ((adA 3), .inl (gI (kG K), 80, .inl fcells)), ((adA 11), .inl (gZ (kG K), 160, .inl r_3.2.1)), ((adA 12), .inl (gI (kG K), 1280, .inl r_3.2.2.1)), ((adA 13), .inl (gI (kG K), 1280, .inl r_3.2.2.2.1)), ((adA 14), .inl (gI (kG K), 320, .inl r_3.2.2.2.2.1)), ((adA 15), .inl (gI (kG K), 320, .inl r_3.2.2.2.2.2.1)), ((adA 6), .inl (gI (kG K), 320, .inl r_3.2.2.2.2.2.2.1)), ((adA 7), .inl (gI (kG K), 320, .inl r_3.2.2.2.2.2.2.2.1)), ((adA 8), .inl (gI (kG K), 320, .inl r_3.2.2.2.2.2.2.2.2.1)), ((adA 16), .inl (gI (kG K), 320, .inl r_3.2.2.2.2.2.2.2.2.2.1)), ((adA 17), .inl (gI (kG K), 320, .inl r_3.2.2.2.2.2.2.2.2.2.2.1)), ((adA 18), .inl (gI (kG K), 320, .inl r_3.2.2.2.2.2.2.2.2.2.2.2.1)), ((adA 19), .inl (gI (kG K), 320, .inl r_3.2.2.2.2.2.2.2.2.2.2.2.2.1)), ((adA 20), .inl (gI (kG K), 320, .inl r_3.2.2.2.2.2.2.2.2.2.2.2.2.2.1)), ((adA 21), .inl (gI (kG K), 320, .inl r_3.2.2.2.2.2.2.2.2.2.2.2.2.2.2.1)), ((adA 22), .inl (gI (kG K), 320, .inl r_3.2.2.2.2.2.2.2.2.2.2.2.2.2.2.2.1)), ((adA 23), .inl (gI (kG K), 320, .inl r_3.2.2.2.2.2.2.2.2.2.2.2.2.2.2.2.2))] 0 0 49 [(0, .ref adm), (1, .int bs), (2, .int gr), (3, .int r_3.1)] [.int y_4] := by
          replace h : some (y_4, r_3.2.1, r_3.2.2.1, r_3.2.2.2.1, r_3.2.2.2.2.1, r_3.2.2.2.2.2.1, r_3.2.2.2.2.2.2.1, r_3.2.2.2.2.2.2.2.1, r_3.2.2.2.2.2.2.2.2.1, r_3.2.2.2.2.2.2.2.2.2.1, r_3.2.2.2.2.2.2.2.2.2.2.1, r_3.2.2.2.2.2.2.2.2.2.2.2.1, r_3.2.2.2.2.2.2.2.2.2.2.2.2.1, r_3.2.2.2.2.2.2.2.2.2.2.2.2.2.1, r_3.2.2.2.2.2.2.2.2.2.2.2.2.2.2.1, r_3.2.2.2.2.2.2.2.2.2.2.2.2.2.2.2.1, r_3.2.2.2.2.2.2.2.2.2.2.2.2.2.2.2.2) = some r := h
          replace h := Option.some.inj h
          subst h
          refine hrt (some (.int y_4)) _ _ _ _ _ (⟨rfl, rfl⟩) (Nat.zero_le _) (Nat.zero_le _) (dX11_better_49)
        clear h
        have h := id_e ey_4
        clear ey_4
        refine v_if_gt (tgt := 44) hk dX11_better_32 (by decide) (fun hc => ?_) (fun hc => ?_)
        · replace h := it_t (g := id) h hc
          refine v_iload_n hk dX11_better_44 rfl ?_
          refine v_goto (tgt := 49) hk dX11_better_45 (by decide) ?_
          replace h : some (gr : Int32) = some y_4 := h
          replace h := Option.some.inj h
          subst h
          exact Jy_4
        · replace h := it_f (g := id) h hc
          refine v_iload_n hk dX11_better_35 rfl ?_
          obtain ⟨y_5, ey_5, h⟩ := bd_e (g := id) rfl h
          have Jy_5 : V K 4 [(adm, .inr (10, oM adA o_names o_rows o_strength o_most o_toldGraph o_toldArc)), ((adA 1), .inl (gI (kG K), 5, .inl fvalues)), ((adA 3), .inl (gI (kG K), 80, .inl fcells)), ((adA 11), .inl (gZ (kG K), 160, .inl r_3.2.1)), ((adA 12), .inl (gI (kG K), 1280, .inl r_3.2.2.1)), ((adA 13), .inl (gI (kG K), 1280, .inl r_3.2.2.2.1)), ((adA 14), .inl (gI (kG K), 320, .inl r_3.2.2.2.2.1)), ((adA 15), .inl (gI (kG K), 320, .inl r_3.2.2.2.2.2.1)), ((adA 6), .inl (gI (kG K), 320, .inl r_3.2.2.2.2.2.2.1)), ((adA 7), .inl (gI (kG K), 320, .inl r_3.2.2.2.2.2.2.2.1)), ((adA 8), .inl (gI (kG K), 320, .inl r_3.2.2.2.2.2.2.2.2.1)), ((adA 16), .inl (gI (kG K), 320, .inl r_3.2.2.2.2.2.2.2.2.2.1)), ((adA 17), .inl (gI (kG K), 320, .inl r_3.2.2.2.2.2.2.2.2.2.2.1)), ((adA 18), .inl (gI (kG K), 320, .inl r_3.2.2.2.2.2.2.2.2.2.2.2.1)), ((adA 19), .inl (gI (kG K), 320, .inl r_3.2.2.2.2.2.2.2.2.2.2.2.2.1)), ((adA 20), .inl (gI (kG K), 320, .inl r_3.2.2.2.2.2.2.2.2.2.2.2.2.2.1)), ((adA 21), .inl (gI (kG K), 320, .inl r_3.2.2.2.2.2.2.2.2.2.2.2.2.2.2.1)), ((adA 22), .inl (gI (kG K), 320, .inl r_3.2.2.2.2.2.2.2.2.2.2.2.2.2.2.2.1)), ((adA 23), .inl (gI (kG K), 320, .inl r_3.2.2.2.2.2.2.2.2.2.2.2.2.2.2.2.2))] 0 0 49 [(0, .ref adm), (1, .int bs), (2, .int gr), (3, .int r_3.1)] [.int y_5] := by
            replace h : some (y_5 : Int32) = some y_4 := h
            replace h := Option.some.inj h
            subst h
            exact Jy_4
          clear h
          have h := id_e ey_5
          clear ey_5
          refine v_if_ne (tgt := 48) hk dX11_better_36 (by decide) (fun hc => ?_) (fun hc => ?_)
          · replace h := it_f (g := id) h hc
            refine v_iload_n hk dX11_better_48 rfl ?_
            replace h : some (bs : Int32) = some y_5 := h
            replace h := Option.some.inj h
            subst h
            exact Jy_5
          · replace h := it_t (g := id) h hc
            refine v_iload_n hk dX11_better_39 rfl ?_
            refine v_iload_n hk dX11_better_40 rfl ?_
            obtain ⟨y_6, ey_6, h⟩ := bd_e (g := id) rfl h
            have Jy_6 : V K 4 [(adm, .inr (10, oM adA o_names o_rows o_strength o_most o_toldGraph o_toldArc)), ((adA 1), .inl (gI (kG K), 5, .inl fvalues)), ((adA 3), .inl (gI (kG K), 80, .inl fcells)), ((adA 11), .inl (gZ (kG K), 160, .inl r_3.2.1)), ((adA 12), .inl (gI (kG K), 1280, .inl r_3.2.2.1)), ((adA 13), .inl (gI (kG K), 1280, .inl r_3.2.2.2.1)), ((adA 14), .inl (gI (kG K), 320, .inl r_3.2.2.2.2.1)), ((adA 15), .inl (gI (kG K), 320, .inl r_3.2.2.2.2.2.1)), ((adA 6), .inl (gI (kG K), 320, .inl r_3.2.2.2.2.2.2.1)), ((adA 7), .inl (gI (kG K), 320, .inl r_3.2.2.2.2.2.2.2.1)), ((adA 8), .inl (gI (kG K), 320, .inl r_3.2.2.2.2.2.2.2.2.1)), ((adA 16), .inl (gI (kG K), 320, .inl r_3.2.2.2.2.2.2.2.2.2.1)), ((adA 17), .inl (gI (kG K), 320, .inl r_3.2.2.2.2.2.2.2.2.2.2.1)), ((adA 18), .inl (gI (kG K), 320, .inl r_3.2.2.2.2.2.2.2.2.2.2.2.1)), ((adA 19), .inl (gI (kG K), 320, .inl r_3.2.2.2.2.2.2.2.2.2.2.2.2.1)), ((adA 20), .inl (gI (kG K), 320, .inl r_3.2.2.2.2.2.2.2.2.2.2.2.2.2.1)), ((adA 21), .inl (gI (kG K), 320, .inl r_3.2.2.2.2.2.2.2.2.2.2.2.2.2.2.1)), ((adA 22), .inl (gI (kG K), 320, .inl r_3.2.2.2.2.2.2.2.2.2.2.2.2.2.2.2.1)), ((adA 23), .inl (gI (kG K), 320, .inl r_3.2.2.2.2.2.2.2.2.2.2.2.2.2.2.2.2))] 0 0 49 [(0, .ref adm), (1, .int bs), (2, .int gr), (3, .int r_3.1)] [.int y_6] := by
              replace h : some (y_6 : Int32) = some y_5 := h
              replace h := Option.some.inj h
              subst h
              exact Jy_5
            clear h
            have h := id_e ey_6
            clear ey_6
            refine v_icmp_ge (tgt := 48) hk dX11_better_41 (by decide) (fun hc => ?_) (fun hc => ?_)
            · replace h := it_t (g := id) h hc
              refine v_iload_n hk dX11_better_48 rfl ?_
              replace h : some (bs : Int32) = some y_6 := h
              replace h := Option.some.inj h
              subst h
              exact Jy_6
            · replace h := it_f (g := id) h hc
              refine v_iload_n hk dX11_better_44 rfl ?_
              refine v_goto (tgt := 49) hk dX11_better_45 (by decide) ?_
              replace h : some (gr : Int32) = some y_6 := h
              replace h := Option.some.inj h
              subst h
              exact Jy_6
      · replace h := it_f (g := id) h hc
        refine v_iload_n hk dX11_better_22 rfl ?_
        replace h : some (gr, fisKnown, ftops, flows, fsmall, flarge, fone, ftwo, frest, ffactor, fmade, ftopA, flowA, ftopB, flowB, fleft, fright) = some r := h
        replace h := Option.some.inj h
        subst h
        refine v_perm [18, 0, 1, 2, 3, 4, 5, 6, 7, 8, 9, 10, 11, 12, 13, 14, 15, 16, 17] (ws' := [(adm, .inr (10, oM adA o_names o_rows o_strength o_most o_toldGraph o_toldArc)), ((adA 1), .inl (gI (kG K), 5, .inl fvalues)), ((adA 3), .inl (gI (kG K), 80, .inl fcells)), ((adA 11), .inl (gZ (kG K), 160, .inl fisKnown)), ((adA 12), .inl (gI (kG K), 1280, .inl ftops)), ((adA 13), .inl (gI (kG K), 1280, .inl flows)), ((adA 14), .inl (gI (kG K), 320, .inl fsmall)), ((adA 15), .inl (gI (kG K), 320, .inl flarge)), ((adA 6), .inl (gI (kG K), 320, .inl fone)), ((adA 7), .inl (gI (kG K), 320, .inl ftwo)), ((adA 8), .inl (gI (kG K), 320, .inl frest)), ((adA 16), .inl (gI (kG K), 320, .inl ffactor)), ((adA 17), .inl (gI (kG K), 320, .inl fmade)), ((adA 18), .inl (gI (kG K), 320, .inl ftopA)), ((adA 19), .inl (gI (kG K), 320, .inl flowA)), ((adA 20), .inl (gI (kG K), 320, .inl ftopB)), ((adA 21), .inl (gI (kG K), 320, .inl flowB)), ((adA 22), .inl (gI (kG K), 320, .inl fleft)), ((adA 23), .inl (gI (kG K), 320, .inl fright))]) rfl rfl (by decide) ?_
        refine hrt (some (.int gr)) _ _ _ _ _ (⟨rfl, rfl⟩) (Nat.zero_le _) (Nat.zero_le _) (dX11_better_23)
    · replace h := it_t (g := id) h hc
      refine v_iload_n hk dX11_better_16 rfl ?_
      replace h : some (bs, fisKnown, ftops, flows, fsmall, flarge, fone, ftwo, frest, ffactor, fmade, ftopA, flowA, ftopB, flowB, fleft, fright) = some r := h
      replace h := Option.some.inj h
      subst h
      refine v_perm [18, 0, 1, 2, 3, 4, 5, 6, 7, 8, 9, 10, 11, 12, 13, 14, 15, 16, 17] (ws' := [(adm, .inr (10, oM adA o_names o_rows o_strength o_most o_toldGraph o_toldArc)), ((adA 1), .inl (gI (kG K), 5, .inl fvalues)), ((adA 3), .inl (gI (kG K), 80, .inl fcells)), ((adA 11), .inl (gZ (kG K), 160, .inl fisKnown)), ((adA 12), .inl (gI (kG K), 1280, .inl ftops)), ((adA 13), .inl (gI (kG K), 1280, .inl flows)), ((adA 14), .inl (gI (kG K), 320, .inl fsmall)), ((adA 15), .inl (gI (kG K), 320, .inl flarge)), ((adA 6), .inl (gI (kG K), 320, .inl fone)), ((adA 7), .inl (gI (kG K), 320, .inl ftwo)), ((adA 8), .inl (gI (kG K), 320, .inl frest)), ((adA 16), .inl (gI (kG K), 320, .inl ffactor)), ((adA 17), .inl (gI (kG K), 320, .inl fmade)), ((adA 18), .inl (gI (kG K), 320, .inl ftopA)), ((adA 19), .inl (gI (kG K), 320, .inl flowA)), ((adA 20), .inl (gI (kG K), 320, .inl ftopB)), ((adA 21), .inl (gI (kG K), 320, .inl flowB)), ((adA 22), .inl (gI (kG K), 320, .inl fleft)), ((adA 23), .inl (gI (kG K), 320, .inl fright))]) rfl rfl (by decide) ?_
      refine hrt (some (.int bs)) _ _ _ _ _ (⟨rfl, rfl⟩) (Nat.zero_le _) (Nat.zero_le _) (dX11_better_17)
abbrev rm_X11_climb : Room := { frames := 7, cells := 0, slots := 0, locals := 167 }
set_option maxHeartbeats 4000000 in
set_option maxRecDepth 100000 in
theorem L_X11_climb_65 {K : Cx} {R9 : Room} (hk : Ok K cX11_climb 11 RX11 w2_X11_climb R9) (hR9 : RoomGe R9 rm_X11_climb) (adm : Nat) (adA : Nat → Nat) (o_names : Int32) (o_rows : Int32) (o_strength : Int32) (o_most : Int32) (o_toldGraph : Int32) (o_toldArc : Int32) (fvalues : Nat → Int32) (fcells : Nat → Int32) (gr : Int32) (steps : Int32) (i3_3 : Int32) (i4_4 : Int32) (i5_5 : Int32) (i7_23 : Int32) (b9 : (Int32 × Int32 × (Nat → Int32) × (Nat → Int32) × (Nat → Int32) × (Nat → Int32) × (Nat → Int32) × (Nat → Int32) × (Nat → Int32) × (Nat → Int32) × (Nat → Int32) × (Nat → Int32) × (Nat → Int32) × (Nat → Int32) × (Nat → Int32) × (Nat → Int32) × (Nat → Int32) × (Nat → Int32))) (kk0 : ∀ q9 : (Int32 × Int32 × (Nat → Int32) × (Nat → Int32) × (Nat → Int32) × (Nat → Int32) × (Nat → Int32) × (Nat → Int32) × (Nat → Int32) × (Nat → Int32) × (Nat → Int32) × (Nat → Int32) × (Nat → Int32) × (Nat → Int32) × (Nat → Int32) × (Nat → Int32) × (Nat → Int32) × (Nat → Int32)), b9 = q9 → V K 11 [((adA 1), .inl (gI (kG K), 5, .inl fvalues)), ((adA 3), .inl (gI (kG K), 80, .inl fcells)), ((adA 11), .inl (gZ (kG K), 160, .inl q9.2.2.1)), ((adA 12), .inl (gI (kG K), 1280, .inl q9.2.2.2.1)), ((adA 13), .inl (gI (kG K), 1280, .inl q9.2.2.2.2.1)), ((adA 14), .inl (gI (kG K), 320, .inl q9.2.2.2.2.2.1)), ((adA 15), .inl (gI (kG K), 320, .inl q9.2.2.2.2.2.2.1)), ((adA 6), .inl (gI (kG K), 320, .inl q9.2.2.2.2.2.2.2.1)), ((adA 7), .inl (gI (kG K), 320, .inl q9.2.2.2.2.2.2.2.2.1)), ((adA 8), .inl (gI (kG K), 320, .inl q9.2.2.2.2.2.2.2.2.2.1)), ((adA 16), .inl (gI (kG K), 320, .inl q9.2.2.2.2.2.2.2.2.2.2.1)), ((adA 17), .inl (gI (kG K), 320, .inl q9.2.2.2.2.2.2.2.2.2.2.2.1)), ((adA 18), .inl (gI (kG K), 320, .inl q9.2.2.2.2.2.2.2.2.2.2.2.2.1)), ((adA 19), .inl (gI (kG K), 320, .inl q9.2.2.2.2.2.2.2.2.2.2.2.2.2.1)), ((adA 20), .inl (gI (kG K), 320, .inl q9.2.2.2.2.2.2.2.2.2.2.2.2.2.2.1)), ((adA 21), .inl (gI (kG K), 320, .inl q9.2.2.2.2.2.2.2.2.2.2.2.2.2.2.2.1)), ((adA 22), .inl (gI (kG K), 320, .inl q9.2.2.2.2.2.2.2.2.2.2.2.2.2.2.2.2.1)), ((adA 23), .inl (gI (kG K), 320, .inl q9.2.2.2.2.2.2.2.2.2.2.2.2.2.2.2.2.2)), (adm, .inr (10, oM adA o_names o_rows o_strength o_most o_toldGraph o_toldArc))] 0 0 148 [(0, .ref adm), (1, .int gr), (2, .int steps), (3, .int i3_3), (4, .int i4_4), (5, .int i5_5), (6, .int q9.1), (7, .int i7_23), (8, .int q9.2.1)] []) : ∀ (nn : Nat) (i6_40 : Int32) (i8_41 : Int32) (fisKnown_42 : Nat → Int32) (ftops_43 : Nat → Int32) (flows_44 : Nat → Int32) (fsmall_45 : Nat → Int32) (flarge_46 : Nat → Int32) (fone_47 : Nat → Int32) (ftwo_48 : Nat → Int32) (frest_49 : Nat → Int32) (ffactor_50 : Nat → Int32) (fmade_51 : Nat → Int32) (ftopA_52 : Nat → Int32) (flowA_53 : Nat → Int32) (ftopB_54 : Nat → Int32) (flowB_55 : Nat → Int32) (fleft_56 : Nat → Int32) (fright_57 : Nat → Int32), lp (b_X11_climb_65 o_names o_rows o_strength o_most o_toldGraph o_toldArc fvalues fcells i3_3 i7_23) nn (i6_40, i8_41, fisKnown_42, ftops_43, flows_44, fsmall_45, flarge_46, fone_47, ftwo_48, frest_49, ffactor_50, fmade_51, ftopA_52, flowA_53, ftopB_54, flowB_55, fleft_56, fright_57) = some b9 → V K 11 [((adA 1), .inl (gI (kG K), 5, .inl fvalues)), ((adA 3), .inl (gI (kG K), 80, .inl fcells)), ((adA 11), .inl (gZ (kG K), 160, .inl fisKnown_42)), ((adA 12), .inl (gI (kG K), 1280, .inl ftops_43)), ((adA 13), .inl (gI (kG K), 1280, .inl flows_44)), ((adA 14), .inl (gI (kG K), 320, .inl fsmall_45)), ((adA 15), .inl (gI (kG K), 320, .inl flarge_46)), ((adA 6), .inl (gI (kG K), 320, .inl fone_47)), ((adA 7), .inl (gI (kG K), 320, .inl ftwo_48)), ((adA 8), .inl (gI (kG K), 320, .inl frest_49)), ((adA 16), .inl (gI (kG K), 320, .inl ffactor_50)), ((adA 17), .inl (gI (kG K), 320, .inl fmade_51)), ((adA 18), .inl (gI (kG K), 320, .inl ftopA_52)), ((adA 19), .inl (gI (kG K), 320, .inl flowA_53)), ((adA 20), .inl (gI (kG K), 320, .inl ftopB_54)), ((adA 21), .inl (gI (kG K), 320, .inl flowB_55)), ((adA 22), .inl (gI (kG K), 320, .inl fleft_56)), ((adA 23), .inl (gI (kG K), 320, .inl fright_57)), (adm, .inr (10, oM adA o_names o_rows o_strength o_most o_toldGraph o_toldArc))] 0 0 65 [(0, .ref adm), (1, .int gr), (2, .int steps), (3, .int i3_3), (4, .int i4_4), (5, .int i5_5), (6, .int i6_40), (7, .int i7_23), (8, .int i8_41)] [] := by
  intro nn
  induction nn with
  | zero => intro i6_40 i8_41 fisKnown_42 ftops_43 flows_44 fsmall_45 flarge_46 fone_47 ftwo_48 frest_49 ffactor_50 fmade_51 ftopA_52 flowA_53 ftopB_54 flowB_55 fleft_56 fright_57 h; exact absurd h (by simp [lp])
  | succ nn ih =>
    intro i6_40 i8_41 fisKnown_42 ftops_43 flows_44 fsmall_45 flarge_46 fone_47 ftwo_48 frest_49 ffactor_50 fmade_51 ftopA_52 flowA_53 ftopB_54 flowB_55 fleft_56 fright_57 h
    replace h := lp_s h
    rw [eb_X11_climb_65] at h
    refine v_iload hk dX11_climb_65 rfl ?_
    refine v_aload_n hk dX11_climb_67 rfl ?_
    refine v_get (C := RX11) (T := TX11) (N := 39) (ci := 10) (v := .int o_names) hk dX11_climb_68 w2i_X11_climb_X110 18 rfl rfl 0 (by decide) (by decide +kernel) rfl rfl ?_
    refine v_icmp_ge (tgt := 148) hk dX11_climb_71 (by decide) (fun hc => ?_) (fun hc => ?_)
    · replace h := it_t (g := (lpk (lp (b_X11_climb_65 o_names o_rows o_strength o_most o_toldGraph o_toldArc fvalues fcells i3_3 i7_23) nn))) h hc
      replace h : some (i6_40, i8_41, fisKnown_42, ftops_43, flows_44, fsmall_45, flarge_46, fone_47, ftwo_48, frest_49, ffactor_50, fmade_51, ftopA_52, flowA_53, ftopB_54, flowB_55, fleft_56, fright_57) = some b9 := h
      replace h := Option.some.inj h
      subst h
      exact kk0 _ rfl
    · replace h := it_f (g := (lpk (lp (b_X11_climb_65 o_names o_rows o_strength o_most o_toldGraph o_toldArc fvalues fcells i3_3 i7_23) nn))) h hc
      refine v_iconst (v := 1) hk dX11_climb_74 (by decide) ?_
      refine v_iconst (v := 5) hk dX11_climb_75 (by decide) ?_
      refine v_iload hk dX11_climb_76 rfl ?_
      refine v_imul hk dX11_climb_78 ?_
      refine v_iload hk dX11_climb_79 rfl ?_
      refine v_iadd hk dX11_climb_81 ?_
      refine v_ishl hk dX11_climb_82 ?_
      obtain ⟨x9_58, ex9_58, h⟩ := lt_e (g := (lpk (lp (b_X11_climb_65 o_names o_rows o_strength o_most o_toldGraph o_toldArc fvalues fcells i3_3 i7_23) nn))) h
      refine v_topi ex9_58.symm ?_
      refine v_istore hk dX11_climb_83 (by decide) [1, 2, 3, 4, 5, 6, 7, 8, 9, 0] (lv' := [(0, .ref adm), (1, .int gr), (2, .int steps), (3, .int i3_3), (4, .int i4_4), (5, .int i5_5), (6, .int i6_40), (7, .int i7_23), (8, .int i8_41), (9, .int x9_58)]) rfl ?_
      refine v_iconst (v := 1) hk dX11_climb_85 (by decide) ?_
      refine v_iconst (v := 5) hk dX11_climb_86 (by decide) ?_
      refine v_iload hk dX11_climb_87 rfl ?_
      refine v_imul hk dX11_climb_89 ?_
      refine v_iload hk dX11_climb_90 rfl ?_
      refine v_iadd hk dX11_climb_92 ?_
      refine v_ishl hk dX11_climb_93 ?_
      obtain ⟨x10_59, ex10_59, h⟩ := lt_e (g := (lpk (lp (b_X11_climb_65 o_names o_rows o_strength o_most o_toldGraph o_toldArc fvalues fcells i3_3 i7_23) nn))) h
      refine v_topi ex10_59.symm ?_
      refine v_istore hk dX11_climb_94 (by decide) [1, 2, 3, 4, 5, 6, 7, 8, 9, 10, 0] (lv' := [(0, .ref adm), (1, .int gr), (2, .int steps), (3, .int i3_3), (4, .int i4_4), (5, .int i5_5), (6, .int i6_40), (7, .int i7_23), (8, .int i8_41), (9, .int x9_58), (10, .int x10_59)]) rfl ?_
      refine v_iload hk dX11_climb_96 rfl ?_
      refine v_iload hk dX11_climb_98 rfl ?_
      refine v_icmp_eq (tgt := 142) hk dX11_climb_100 (by decide) (fun hc => ?_) (fun hc => ?_)
      · replace h := it_t (g := (lpk (lp (b_X11_climb_65 o_names o_rows o_strength o_most o_toldGraph o_toldArc fvalues fcells i3_3 i7_23) nn))) h hc
        obtain ⟨x8_60, ex8_60, h⟩ := lt_e (g := (lpk (lp (b_X11_climb_65 o_names o_rows o_strength o_most o_toldGraph o_toldArc fvalues fcells i3_3 i7_23) nn))) h
        refine v_iinc (v := x8_60) hk dX11_climb_142 rfl (by rw [ex8_60]; rfl) (by decide) [1, 2, 3, 4, 5, 6, 7, 8, 0, 9, 10] (lv' := [(0, .ref adm), (1, .int gr), (2, .int steps), (3, .int i3_3), (4, .int i4_4), (5, .int i5_5), (6, .int i6_40), (7, .int i7_23), (8, .int x8_60), (9, .int x9_58), (10, .int x10_59)]) rfl ?_
        refine v_goto (tgt := 65) hk dX11_climb_145 (by decide) ?_
        refine v_loc [0, 1, 2, 3, 4, 5, 6, 7, 8] (lv' := [(0, .ref adm), (1, .int gr), (2, .int steps), (3, .int i3_3), (4, .int i4_4), (5, .int i5_5), (6, .int i6_40), (7, .int i7_23), (8, .int x8_60)]) rfl ?_
        exact ih i6_40 x8_60 fisKnown_42 ftops_43 flows_44 fsmall_45 flarge_46 fone_47 ftwo_48 frest_49 ffactor_50 fmade_51 ftopA_52 flowA_53 ftopB_54 flowB_55 fleft_56 fright_57 h
      · replace h := it_f (g := (lpk (lp (b_X11_climb_65 o_names o_rows o_strength o_most o_toldGraph o_toldArc fvalues fcells i3_3 i7_23) nn))) h hc
        refine v_aload_n hk dX11_climb_103 rfl ?_
        refine v_iload hk dX11_climb_104 rfl ?_
        refine v_iload_n hk dX11_climb_106 rfl ?_
        refine v_iload hk dX11_climb_107 rfl ?_
        refine v_ixor hk dX11_climb_109 ?_
        obtain ⟨r_61, er_61, h⟩ := bd_e (g := (lpk (lp (b_X11_climb_65 o_names o_rows o_strength o_most o_toldGraph o_toldArc fvalues fcells i3_3 i7_23) nn))) rfl h
        refine v_callV (n := 2) (st := []) (b := adm) (T := TX11) (N := 39) hk dX11_climb_110 (c_X11_better (kl K) (kG K) adm adA o_names o_rows o_strength o_most o_toldGraph o_toldArc fvalues fcells fisKnown_42 ftops_43 flows_44 fsmall_45 flarge_46 fone_47 ftwo_48 frest_49 ffactor_50 fmade_51 ftopA_52 flowA_53 ftopB_54 flowB_55 fleft_56 fright_57 i6_40 (i3_3 ^^^ x9_58) r_61 er_61) rfl gd_X11_climb_X11_better rfl (by decide +kernel) (frok hR9 (Nat.le_of_ble_eq_true rfl) (Nat.le_of_ble_eq_true rfl)) (roomk hR9 (Nat.le_of_ble_eq_true rfl) (Nat.le_of_ble_eq_true rfl)) rfl rfl (Nat.le_of_ble_eq_true rfl) 18 rfl rfl [18, 0, 1, 2, 3, 4, 5, 6, 7, 8, 9, 10, 11, 12, 13, 14, 15, 16, 17] [] (wr := []) rfl rfl (by decide) (by decide) (by decide) ?_
        intro v9 w9 hp9
        obtain ⟨rfl, rfl⟩ := hp9
        show V K 11 [(adm, .inr (10, oM adA o_names o_rows o_strength o_most o_toldGraph o_toldArc)), ((adA 1), .inl (gI (kG K), 5, .inl fvalues)), ((adA 3), .inl (gI (kG K), 80, .inl fcells)), ((adA 11), .inl (gZ (kG K), 160, .inl r_61.2.1)), ((adA 12), .inl (gI (kG K), 1280, .inl r_61.2.2.1)), ((adA 13), .inl (gI (kG K), 1280, .inl r_61.2.2.2.1)), ((adA 14), .inl (gI (kG K), 320, .inl r_61.2.2.2.2.1)), ((adA 15), .inl (gI (kG K), 320, .inl r_61.2.2.2.2.2.1)), ((adA 6), .inl (gI (kG K), 320, .inl r_61.2.2.2.2.2.2.1)), ((adA 7), .inl (gI (kG K), 320, .inl r_61.2.2.2.2.2.2.2.1)), ((adA 8), .inl (gI (kG K), 320, .inl r_61.2.2.2.2.2.2.2.2.1)), ((adA 16), .inl (gI (kG K), 320, .inl r_61.2.2.2.2.2.2.2.2.2.1)), ((adA 17), .inl (gI (kG K), 320, .inl r_61.2.2.2.2.2.2.2.2.2.2.1)), ((adA 18), .inl (gI (kG K), 320, .inl r_61.2.2.2.2.2.2.2.2.2.2.2.1)), ((adA 19), .inl (gI (kG K), 320, .inl r_61.2.2.2.2.2.2.2.2.2.2.2.2.1)), ((adA 20), .inl (gI (kG K), 320, .inl r_61.2.2.2.2.2.2.2.2.2.2.2.2.2.1)), ((adA 21), .inl (gI (kG K), 320, .inl r_61.2.2.2.2.2.2.2.2.2.2.2.2.2.2.1)), ((adA 22), .inl (gI (kG K), 320, .inl r_61.2.2.2.2.2.2.2.2.2.2.2.2.2.2.2.1)), ((adA 23), .inl (gI (kG K), 320, .inl r_61.2.2.2.2.2.2.2.2.2.2.2.2.2.2.2.2))] 0 0 113 [(0, .ref adm), (1, .int gr), (2, .int steps), (3, .int i3_3), (4, .int i4_4), (5, .int i5_5), (6, .int i6_40), (7, .int i7_23), (8, .int i8_41), (9, .int x9_58), (10, .int x10_59)] [.int r_61.1]
        refine v_istore hk dX11_climb_113 (by decide) [1, 2, 3, 4, 5, 6, 0, 7, 8, 9, 10] (lv' := [(0, .ref adm), (1, .int gr), (2, .int steps), (3, .int i3_3), (4, .int i4_4), (5, .int i5_5), (6, .int r_61.1), (7, .int i7_23), (8, .int i8_41), (9, .int x9_58), (10, .int x10_59)]) rfl ?_
        refine v_iload_n hk dX11_climb_115 rfl ?_
        refine v_iload hk dX11_climb_116 rfl ?_
        refine v_iand hk dX11_climb_118 ?_
        refine v_if_eq (tgt := 138) hk dX11_climb_119 (by decide) (fun hc => ?_) (fun hc => ?_)
        · replace h := it_t (g := (lpk (lp (b_X11_climb_65 o_names o_rows o_strength o_most o_toldGraph o_toldArc fvalues fcells i3_3 i7_23) nn))) h hc
          refine v_iload hk dX11_climb_138 rfl ?_
          refine v_istore hk dX11_climb_140 (by decide) [1, 2, 3, 4, 5, 6, 0, 7, 8, 9, 10] (lv' := [(0, .ref adm), (1, .int gr), (2, .int steps), (3, .int i3_3), (4, .int i4_4), (5, .int i5_5), (6, .int r_61.1), (7, .int i7_23), (8, .int i8_41), (9, .int x9_58), (10, .int x10_59)]) rfl ?_
          obtain ⟨x8_62, ex8_62, h⟩ := lt_e (g := (lpk (lp (b_X11_climb_65 o_names o_rows o_strength o_most o_toldGraph o_toldArc fvalues fcells i3_3 i7_23) nn))) h
          refine v_iinc (v := x8_62) hk dX11_climb_142 rfl (by rw [ex8_62]; rfl) (by decide) [1, 2, 3, 4, 5, 6, 7, 8, 0, 9, 10] (lv' := [(0, .ref adm), (1, .int gr), (2, .int steps), (3, .int i3_3), (4, .int i4_4), (5, .int i5_5), (6, .int r_61.1), (7, .int i7_23), (8, .int x8_62), (9, .int x9_58), (10, .int x10_59)]) rfl ?_
          refine v_goto (tgt := 65) hk dX11_climb_145 (by decide) ?_
          refine v_loc [0, 1, 2, 3, 4, 5, 6, 7, 8] (lv' := [(0, .ref adm), (1, .int gr), (2, .int steps), (3, .int i3_3), (4, .int i4_4), (5, .int i5_5), (6, .int r_61.1), (7, .int i7_23), (8, .int x8_62)]) rfl ?_
          refine v_perm [1, 2, 3, 4, 5, 6, 7, 8, 9, 10, 11, 12, 13, 14, 15, 16, 17, 18, 0] (ws' := [((adA 1), .inl (gI (kG K), 5, .inl fvalues)), ((adA 3), .inl (gI (kG K), 80, .inl fcells)), ((adA 11), .inl (gZ (kG K), 160, .inl r_61.2.1)), ((adA 12), .inl (gI (kG K), 1280, .inl r_61.2.2.1)), ((adA 13), .inl (gI (kG K), 1280, .inl r_61.2.2.2.1)), ((adA 14), .inl (gI (kG K), 320, .inl r_61.2.2.2.2.1)), ((adA 15), .inl (gI (kG K), 320, .inl r_61.2.2.2.2.2.1)), ((adA 6), .inl (gI (kG K), 320, .inl r_61.2.2.2.2.2.2.1)), ((adA 7), .inl (gI (kG K), 320, .inl r_61.2.2.2.2.2.2.2.1)), ((adA 8), .inl (gI (kG K), 320, .inl r_61.2.2.2.2.2.2.2.2.1)), ((adA 16), .inl (gI (kG K), 320, .inl r_61.2.2.2.2.2.2.2.2.2.1)), ((adA 17), .inl (gI (kG K), 320, .inl r_61.2.2.2.2.2.2.2.2.2.2.1)), ((adA 18), .inl (gI (kG K), 320, .inl r_61.2.2.2.2.2.2.2.2.2.2.2.1)), ((adA 19), .inl (gI (kG K), 320, .inl r_61.2.2.2.2.2.2.2.2.2.2.2.2.1)), ((adA 20), .inl (gI (kG K), 320, .inl r_61.2.2.2.2.2.2.2.2.2.2.2.2.2.1)), ((adA 21), .inl (gI (kG K), 320, .inl r_61.2.2.2.2.2.2.2.2.2.2.2.2.2.2.1)), ((adA 22), .inl (gI (kG K), 320, .inl r_61.2.2.2.2.2.2.2.2.2.2.2.2.2.2.2.1)), ((adA 23), .inl (gI (kG K), 320, .inl r_61.2.2.2.2.2.2.2.2.2.2.2.2.2.2.2.2)), (adm, .inr (10, oM adA o_names o_rows o_strength o_most o_toldGraph o_toldArc))]) rfl rfl (by decide) ?_
          exact ih r_61.1 x8_62 r_61.2.1 r_61.2.2.1 r_61.2.2.2.1 r_61.2.2.2.2.1 r_61.2.2.2.2.2.1 r_61.2.2.2.2.2.2.1 r_61.2.2.2.2.2.2.2.1 r_61.2.2.2.2.2.2.2.2.1 r_61.2.2.2.2.2.2.2.2.2.1 r_61.2.2.2.2.2.2.2.2.2.2.1 r_61.2.2.2.2.2.2.2.2.2.2.2.1 r_61.2.2.2.2.2.2.2.2.2.2.2.2.1 r_61.2.2.2.2.2.2.2.2.2.2.2.2.2.1 r_61.2.2.2.2.2.2.2.2.2.2.2.2.2.2.1 r_61.2.2.2.2.2.2.2.2.2.2.2.2.2.2.2.1 r_61.2.2.2.2.2.2.2.2.2.2.2.2.2.2.2.2 h
        · replace h := it_f (g := (lpk (lp (b_X11_climb_65 o_names o_rows o_strength o_most o_toldGraph o_toldArc fvalues fcells i3_3 i7_23) nn))) h hc
          refine v_aload_n hk dX11_climb_122 rfl ?_
          refine v_iload hk dX11_climb_123 rfl ?_
          refine v_iload_n hk dX11_climb_125 rfl ?_
          refine v_iload hk dX11_climb_126 rfl ?_
          refine v_ixor hk dX11_climb_128 ?_
          refine v_iload hk dX11_climb_129 rfl ?_
          refine v_ixor hk dX11_climb_131 ?_
          obtain ⟨r_63, er_63, h⟩ := bd_e (g := (lpk (lp (b_X11_climb_65 o_names o_rows o_strength o_most o_toldGraph o_toldArc fvalues fcells i3_3 i7_23) nn))) rfl h
          refine v_callV (n := 2) (st := []) (b := adm) (T := TX11) (N := 39) hk dX11_climb_132 (c_X11_better (kl K) (kG K) adm adA o_names o_rows o_strength o_most o_toldGraph o_toldArc fvalues fcells r_61.2.1 r_61.2.2.1 r_61.2.2.2.1 r_61.2.2.2.2.1 r_61.2.2.2.2.2.1 r_61.2.2.2.2.2.2.1 r_61.2.2.2.2.2.2.2.1 r_61.2.2.2.2.2.2.2.2.1 r_61.2.2.2.2.2.2.2.2.2.1 r_61.2.2.2.2.2.2.2.2.2.2.1 r_61.2.2.2.2.2.2.2.2.2.2.2.1 r_61.2.2.2.2.2.2.2.2.2.2.2.2.1 r_61.2.2.2.2.2.2.2.2.2.2.2.2.2.1 r_61.2.2.2.2.2.2.2.2.2.2.2.2.2.2.1 r_61.2.2.2.2.2.2.2.2.2.2.2.2.2.2.2.1 r_61.2.2.2.2.2.2.2.2.2.2.2.2.2.2.2.2 r_61.1 ((i3_3 ^^^ x9_58) ^^^ x10_59) r_63 er_63) rfl gd_X11_climb_X11_better rfl (by decide +kernel) (frok hR9 (Nat.le_of_ble_eq_true rfl) (Nat.le_of_ble_eq_true rfl)) (roomk hR9 (Nat.le_of_ble_eq_true rfl) (Nat.le_of_ble_eq_true rfl)) rfl rfl (Nat.le_of_ble_eq_true rfl) 0 rfl rfl [0, 1, 2, 3, 4, 5, 6, 7, 8, 9, 10, 11, 12, 13, 14, 15, 16, 17, 18] [] (wr := []) rfl rfl (by decide) (by decide) (by decide) ?_
          intro v9 w9 hp9
          obtain ⟨rfl, rfl⟩ := hp9
          show V K 11 [(adm, .inr (10, oM adA o_names o_rows o_strength o_most o_toldGraph o_toldArc)), ((adA 1), .inl (gI (kG K), 5, .inl fvalues)), ((adA 3), .inl (gI (kG K), 80, .inl fcells)), ((adA 11), .inl (gZ (kG K), 160, .inl r_63.2.1)), ((adA 12), .inl (gI (kG K), 1280, .inl r_63.2.2.1)), ((adA 13), .inl (gI (kG K), 1280, .inl r_63.2.2.2.1)), ((adA 14), .inl (gI (kG K), 320, .inl r_63.2.2.2.2.1)), ((adA 15), .inl (gI (kG K), 320, .inl r_63.2.2.2.2.2.1)), ((adA 6), .inl (gI (kG K), 320, .inl r_63.2.2.2.2.2.2.1)), ((adA 7), .inl (gI (kG K), 320, .inl r_63.2.2.2.2.2.2.2.1)), ((adA 8), .inl (gI (kG K), 320, .inl r_63.2.2.2.2.2.2.2.2.1)), ((adA 16), .inl (gI (kG K), 320, .inl r_63.2.2.2.2.2.2.2.2.2.1)), ((adA 17), .inl (gI (kG K), 320, .inl r_63.2.2.2.2.2.2.2.2.2.2.1)), ((adA 18), .inl (gI (kG K), 320, .inl r_63.2.2.2.2.2.2.2.2.2.2.2.1)), ((adA 19), .inl (gI (kG K), 320, .inl r_63.2.2.2.2.2.2.2.2.2.2.2.2.1)), ((adA 20), .inl (gI (kG K), 320, .inl r_63.2.2.2.2.2.2.2.2.2.2.2.2.2.1)), ((adA 21), .inl (gI (kG K), 320, .inl r_63.2.2.2.2.2.2.2.2.2.2.2.2.2.2.1)), ((adA 22), .inl (gI (kG K), 320, .inl r_63.2.2.2.2.2.2.2.2.2.2.2.2.2.2.2.1)), ((adA 23), .inl (gI (kG K), 320, .inl r_63.2.2.2.2.2.2.2.2.2.2.2.2.2.2.2.2))] 0 0 135 [(0, .ref adm), (1, .int gr), (2, .int steps), (3, .int i3_3), (4, .int i4_4), (5, .int i5_5), (6, .int r_61.1), (7, .int i7_23), (8, .int i8_41), (9, .int x9_58), (10, .int x10_59)] [.int r_63.1]
          refine v_goto (tgt := 140) hk dX11_climb_135 (by decide) ?_
          refine v_istore hk dX11_climb_140 (by decide) [1, 2, 3, 4, 5, 6, 0, 7, 8, 9, 10] (lv' := [(0, .ref adm), (1, .int gr), (2, .int steps), (3, .int i3_3), (4, .int i4_4), (5, .int i5_5), (6, .int r_63.1), (7, .int i7_23), (8, .int i8_41), (9, .int x9_58), (10, .int x10_59)]) rfl ?_
          obtain ⟨x8_64, ex8_64, h⟩ := lt_e (g := (lpk (lp (b_X11_climb_65 o_names o_rows o_strength o_most o_toldGraph o_toldArc fvalues fcells i3_3 i7_23) nn))) h
          refine v_iinc (v := x8_64) hk dX11_climb_142 rfl (by rw [ex8_64]; rfl) (by decide) [1, 2, 3, 4, 5, 6, 7, 8, 0, 9, 10] (lv' := [(0, .ref adm), (1, .int gr), (2, .int steps), (3, .int i3_3), (4, .int i4_4), (5, .int i5_5), (6, .int r_63.1), (7, .int i7_23), (8, .int x8_64), (9, .int x9_58), (10, .int x10_59)]) rfl ?_
          refine v_goto (tgt := 65) hk dX11_climb_145 (by decide) ?_
          refine v_loc [0, 1, 2, 3, 4, 5, 6, 7, 8] (lv' := [(0, .ref adm), (1, .int gr), (2, .int steps), (3, .int i3_3), (4, .int i4_4), (5, .int i5_5), (6, .int r_63.1), (7, .int i7_23), (8, .int x8_64)]) rfl ?_
          refine v_perm [1, 2, 3, 4, 5, 6, 7, 8, 9, 10, 11, 12, 13, 14, 15, 16, 17, 18, 0] (ws' := [((adA 1), .inl (gI (kG K), 5, .inl fvalues)), ((adA 3), .inl (gI (kG K), 80, .inl fcells)), ((adA 11), .inl (gZ (kG K), 160, .inl r_63.2.1)), ((adA 12), .inl (gI (kG K), 1280, .inl r_63.2.2.1)), ((adA 13), .inl (gI (kG K), 1280, .inl r_63.2.2.2.1)), ((adA 14), .inl (gI (kG K), 320, .inl r_63.2.2.2.2.1)), ((adA 15), .inl (gI (kG K), 320, .inl r_63.2.2.2.2.2.1)), ((adA 6), .inl (gI (kG K), 320, .inl r_63.2.2.2.2.2.2.1)), ((adA 7), .inl (gI (kG K), 320, .inl r_63.2.2.2.2.2.2.2.1)), ((adA 8), .inl (gI (kG K), 320, .inl r_63.2.2.2.2.2.2.2.2.1)), ((adA 16), .inl (gI (kG K), 320, .inl r_63.2.2.2.2.2.2.2.2.2.1)), ((adA 17), .inl (gI (kG K), 320, .inl r_63.2.2.2.2.2.2.2.2.2.2.1)), ((adA 18), .inl (gI (kG K), 320, .inl r_63.2.2.2.2.2.2.2.2.2.2.2.1)), ((adA 19), .inl (gI (kG K), 320, .inl r_63.2.2.2.2.2.2.2.2.2.2.2.2.1)), ((adA 20), .inl (gI (kG K), 320, .inl r_63.2.2.2.2.2.2.2.2.2.2.2.2.2.1)), ((adA 21), .inl (gI (kG K), 320, .inl r_63.2.2.2.2.2.2.2.2.2.2.2.2.2.2.1)), ((adA 22), .inl (gI (kG K), 320, .inl r_63.2.2.2.2.2.2.2.2.2.2.2.2.2.2.2.1)), ((adA 23), .inl (gI (kG K), 320, .inl r_63.2.2.2.2.2.2.2.2.2.2.2.2.2.2.2.2)), (adm, .inr (10, oM adA o_names o_rows o_strength o_most o_toldGraph o_toldArc))]) rfl rfl (by decide) ?_
          exact ih r_63.1 x8_64 r_63.2.1 r_63.2.2.1 r_63.2.2.2.1 r_63.2.2.2.2.1 r_63.2.2.2.2.2.1 r_63.2.2.2.2.2.2.1 r_63.2.2.2.2.2.2.2.1 r_63.2.2.2.2.2.2.2.2.1 r_63.2.2.2.2.2.2.2.2.2.1 r_63.2.2.2.2.2.2.2.2.2.2.1 r_63.2.2.2.2.2.2.2.2.2.2.2.1 r_63.2.2.2.2.2.2.2.2.2.2.2.2.1 r_63.2.2.2.2.2.2.2.2.2.2.2.2.2.1 r_63.2.2.2.2.2.2.2.2.2.2.2.2.2.2.1 r_63.2.2.2.2.2.2.2.2.2.2.2.2.2.2.2.1 r_63.2.2.2.2.2.2.2.2.2.2.2.2.2.2.2.2 h
set_option maxHeartbeats 4000000 in
set_option maxRecDepth 100000 in
theorem L_X11_climb_53 {K : Cx} {R9 : Room} (hk : Ok K cX11_climb 11 RX11 w2_X11_climb R9) (hR9 : RoomGe R9 rm_X11_climb) (adm : Nat) (adA : Nat → Nat) (o_names : Int32) (o_rows : Int32) (o_strength : Int32) (o_most : Int32) (o_toldGraph : Int32) (o_toldArc : Int32) (fvalues : Nat → Int32) (fcells : Nat → Int32) (gr : Int32) (steps : Int32) (i3_3 : Int32) (i4_4 : Int32) (i5_5 : Int32) (b9 : (Int32 × Int32 × (Nat → Int32) × (Nat → Int32) × (Nat → Int32) × (Nat → Int32) × (Nat → Int32) × (Nat → Int32) × (Nat → Int32) × (Nat → Int32) × (Nat → Int32) × (Nat → Int32) × (Nat → Int32) × (Nat → Int32) × (Nat → Int32) × (Nat → Int32) × (Nat → Int32) × (Nat → Int32))) (kk0 : ∀ q9 : (Int32 × Int32 × (Nat → Int32) × (Nat → Int32) × (Nat → Int32) × (Nat → Int32) × (Nat → Int32) × (Nat → Int32) × (Nat → Int32) × (Nat → Int32) × (Nat → Int32) × (Nat → Int32) × (Nat → Int32) × (Nat → Int32) × (Nat → Int32) × (Nat → Int32) × (Nat → Int32) × (Nat → Int32)), b9 = q9 → V K 11 [((adA 1), .inl (gI (kG K), 5, .inl fvalues)), ((adA 3), .inl (gI (kG K), 80, .inl fcells)), ((adA 11), .inl (gZ (kG K), 160, .inl q9.2.2.1)), ((adA 12), .inl (gI (kG K), 1280, .inl q9.2.2.2.1)), ((adA 13), .inl (gI (kG K), 1280, .inl q9.2.2.2.2.1)), ((adA 14), .inl (gI (kG K), 320, .inl q9.2.2.2.2.2.1)), ((adA 15), .inl (gI (kG K), 320, .inl q9.2.2.2.2.2.2.1)), ((adA 6), .inl (gI (kG K), 320, .inl q9.2.2.2.2.2.2.2.1)), ((adA 7), .inl (gI (kG K), 320, .inl q9.2.2.2.2.2.2.2.2.1)), ((adA 8), .inl (gI (kG K), 320, .inl q9.2.2.2.2.2.2.2.2.2.1)), ((adA 16), .inl (gI (kG K), 320, .inl q9.2.2.2.2.2.2.2.2.2.2.1)), ((adA 17), .inl (gI (kG K), 320, .inl q9.2.2.2.2.2.2.2.2.2.2.2.1)), ((adA 18), .inl (gI (kG K), 320, .inl q9.2.2.2.2.2.2.2.2.2.2.2.2.1)), ((adA 19), .inl (gI (kG K), 320, .inl q9.2.2.2.2.2.2.2.2.2.2.2.2.2.1)), ((adA 20), .inl (gI (kG K), 320, .inl q9.2.2.2.2.2.2.2.2.2.2.2.2.2.2.1)), ((adA 21), .inl (gI (kG K), 320, .inl q9.2.2.2.2.2.2.2.2.2.2.2.2.2.2.2.1)), ((adA 22), .inl (gI (kG K), 320, .inl q9.2.2.2.2.2.2.2.2.2.2.2.2.2.2.2.2.1)), ((adA 23), .inl (gI (kG K), 320, .inl q9.2.2.2.2.2.2.2.2.2.2.2.2.2.2.2.2.2)), (adm, .inr (10, oM adA o_names o_rows o_strength o_most o_toldGraph o_toldArc))] 0 0 154 [(0, .ref adm), (1, .int gr), (2, .int steps), (3, .int i3_3), (4, .int i4_4), (5, .int i5_5), (6, .int q9.1), (7, .int q9.2.1)] []) : ∀ (nn : Nat) (i6_22 : Int32) (i7_23 : Int32) (fisKnown_24 : Nat → Int32) (ftops_25 : Nat → Int32) (flows_26 : Nat → Int32) (fsmall_27 : Nat → Int32) (flarge_28 : Nat → Int32) (fone_29 : Nat → Int32) (ftwo_30 : Nat → Int32) (frest_31 : Nat → Int32) (ffactor_32 : Nat → Int32) (fmade_33 : Nat → Int32) (ftopA_34 : Nat → Int32) (flowA_35 : Nat → Int32) (ftopB_36 : Nat → Int32) (flowB_37 : Nat → Int32) (fleft_38 : Nat → Int32) (fright_39 : Nat → Int32), lp (b_X11_climb_53 o_names o_rows o_strength o_most o_toldGraph o_toldArc fvalues fcells i3_3) nn (i6_22, i7_23, fisKnown_24, ftops_25, flows_26, fsmall_27, flarge_28, fone_29, ftwo_30, frest_31, ffactor_32, fmade_33, ftopA_34, flowA_35, ftopB_36, flowB_37, fleft_38, fright_39) = some b9 → V K 11 [((adA 1), .inl (gI (kG K), 5, .inl fvalues)), ((adA 3), .inl (gI (kG K), 80, .inl fcells)), ((adA 11), .inl (gZ (kG K), 160, .inl fisKnown_24)), ((adA 12), .inl (gI (kG K), 1280, .inl ftops_25)), ((adA 13), .inl (gI (kG K), 1280, .inl flows_26)), ((adA 14), .inl (gI (kG K), 320, .inl fsmall_27)), ((adA 15), .inl (gI (kG K), 320, .inl flarge_28)), ((adA 6), .inl (gI (kG K), 320, .inl fone_29)), ((adA 7), .inl (gI (kG K), 320, .inl ftwo_30)), ((adA 8), .inl (gI (kG K), 320, .inl frest_31)), ((adA 16), .inl (gI (kG K), 320, .inl ffactor_32)), ((adA 17), .inl (gI (kG K), 320, .inl fmade_33)), ((adA 18), .inl (gI (kG K), 320, .inl ftopA_34)), ((adA 19), .inl (gI (kG K), 320, .inl flowA_35)), ((adA 20), .inl (gI (kG K), 320, .inl ftopB_36)), ((adA 21), .inl (gI (kG K), 320, .inl flowB_37)), ((adA 22), .inl (gI (kG K), 320, .inl fleft_38)), ((adA 23), .inl (gI (kG K), 320, .inl fright_39)), (adm, .inr (10, oM adA o_names o_rows o_strength o_most o_toldGraph o_toldArc))] 0 0 53 [(0, .ref adm), (1, .int gr), (2, .int steps), (3, .int i3_3), (4, .int i4_4), (5, .int i5_5), (6, .int i6_22), (7, .int i7_23)] [] := by
  intro nn
  induction nn with
  | zero => intro i6_22 i7_23 fisKnown_24 ftops_25 flows_26 fsmall_27 flarge_28 fone_29 ftwo_30 frest_31 ffactor_32 fmade_33 ftopA_34 flowA_35 ftopB_36 flowB_37 fleft_38 fright_39 h; exact absurd h (by simp [lp])
  | succ nn ih =>
    intro i6_22 i7_23 fisKnown_24 ftops_25 flows_26 fsmall_27 flarge_28 fone_29 ftwo_30 frest_31 ffactor_32 fmade_33 ftopA_34 flowA_35 ftopB_36 flowB_37 fleft_38 fright_39 h
    replace h := lp_s h
    rw [eb_X11_climb_53] at h
    refine v_iload hk dX11_climb_53 rfl ?_
    refine v_aload_n hk dX11_climb_55 rfl ?_
    refine v_get (C := RX11) (T := TX11) (N := 39) (ci := 10) (v := .int o_names) hk dX11_climb_56 w2i_X11_climb_X110 18 rfl rfl 0 (by decide) (by decide +kernel) rfl rfl ?_
    refine v_icmp_ge (tgt := 154) hk dX11_climb_59 (by decide) (fun hc => ?_) (fun hc => ?_)
    · replace h := it_t (g := (lpk (lp (b_X11_climb_53 o_names o_rows o_strength o_most o_toldGraph o_toldArc fvalues fcells i3_3) nn))) h hc
      replace h : some (i6_22, i7_23, fisKnown_24, ftops_25, flows_26, fsmall_27, flarge_28, fone_29, ftwo_30, frest_31, ffactor_32, fmade_33, ftopA_34, flowA_35, ftopB_36, flowB_37, fleft_38, fright_39) = some b9 := h
      replace h := Option.some.inj h
      subst h
      exact kk0 _ rfl
    · replace h := it_f (g := (lpk (lp (b_X11_climb_53 o_names o_rows o_strength o_most o_toldGraph o_toldArc fvalues fcells i3_3) nn))) h hc
      refine v_iconst (v := 0) hk dX11_climb_62 (by decide) ?_
      refine v_istore hk dX11_climb_63 (by decide) [1, 2, 3, 4, 5, 6, 7, 8, 0] (lv' := [(0, .ref adm), (1, .int gr), (2, .int steps), (3, .int i3_3), (4, .int i4_4), (5, .int i5_5), (6, .int i6_22), (7, .int i7_23), (8, .int 0)]) rfl ?_
      obtain ⟨b_67, eb_67, h⟩ := bd_e (g := (lpk (lp (b_X11_climb_53 o_names o_rows o_strength o_most o_toldGraph o_toldArc fvalues fcells i3_3) nn))) rfl h
      refine L_X11_climb_65 hk hR9 adm adA o_names o_rows o_strength o_most o_toldGraph o_toldArc fvalues fcells gr steps i3_3 i4_4 i5_5 i7_23 b_67 (fun q_65 eq_65 => ?_) FU i6_22 0 fisKnown_24 ftops_25 flows_26 fsmall_27 flarge_28 fone_29 ftwo_30 frest_31 ffactor_32 fmade_33 ftopA_34 flowA_35 ftopB_36 flowB_37 fleft_38 fright_39 eb_67
      · replace eq_65 := eq_65.symm
        subst eq_65
        obtain ⟨x7_66, ex7_66, h⟩ := lt_e (g := (lpk (lp (b_X11_climb_53 o_names o_rows o_strength o_most o_toldGraph o_toldArc fvalues fcells i3_3) nn))) h
        refine v_iinc (v := x7_66) hk dX11_climb_148 rfl (by rw [ex7_66]; rfl) (by decide) [1, 2, 3, 4, 5, 6, 7, 0, 8] (lv' := [(0, .ref adm), (1, .int gr), (2, .int steps), (3, .int i3_3), (4, .int i4_4), (5, .int i5_5), (6, .int q_65.1), (7, .int x7_66), (8, .int q_65.2.1)]) rfl ?_
        refine v_goto (tgt := 53) hk dX11_climb_151 (by decide) ?_
        refine v_loc [0, 1, 2, 3, 4, 5, 6, 7] (lv' := [(0, .ref adm), (1, .int gr), (2, .int steps), (3, .int i3_3), (4, .int i4_4), (5, .int i5_5), (6, .int q_65.1), (7, .int x7_66)]) rfl ?_
        exact ih q_65.1 x7_66 q_65.2.2.1 q_65.2.2.2.1 q_65.2.2.2.2.1 q_65.2.2.2.2.2.1 q_65.2.2.2.2.2.2.1 q_65.2.2.2.2.2.2.2.1 q_65.2.2.2.2.2.2.2.2.1 q_65.2.2.2.2.2.2.2.2.2.1 q_65.2.2.2.2.2.2.2.2.2.2.1 q_65.2.2.2.2.2.2.2.2.2.2.2.1 q_65.2.2.2.2.2.2.2.2.2.2.2.2.1 q_65.2.2.2.2.2.2.2.2.2.2.2.2.2.1 q_65.2.2.2.2.2.2.2.2.2.2.2.2.2.2.1 q_65.2.2.2.2.2.2.2.2.2.2.2.2.2.2.2.1 q_65.2.2.2.2.2.2.2.2.2.2.2.2.2.2.2.2.1 q_65.2.2.2.2.2.2.2.2.2.2.2.2.2.2.2.2.2 h
set_option maxHeartbeats 4000000 in
set_option maxRecDepth 100000 in
theorem L_X11_climb_36 {K : Cx} {R9 : Room} (hk : Ok K cX11_climb 11 RX11 w2_X11_climb R9) (hR9 : RoomGe R9 rm_X11_climb) (adm : Nat) (adA : Nat → Nat) (o_names : Int32) (o_rows : Int32) (o_strength : Int32) (o_most : Int32) (o_toldGraph : Int32) (o_toldArc : Int32) (fvalues : Nat → Int32) (fcells : Nat → Int32) (gr : Int32) (steps : Int32) (b9 : (Int32 × Int32 × Int32 × (Nat → Int32) × (Nat → Int32) × (Nat → Int32) × (Nat → Int32) × (Nat → Int32) × (Nat → Int32) × (Nat → Int32) × (Nat → Int32) × (Nat → Int32) × (Nat → Int32) × (Nat → Int32) × (Nat → Int32) × (Nat → Int32) × (Nat → Int32) × (Nat → Int32) × (Nat → Int32))) (kk0 : ∀ q9 : (Int32 × Int32 × Int32 × (Nat → Int32) × (Nat → Int32) × (Nat → Int32) × (Nat → Int32) × (Nat → Int32) × (Nat → Int32) × (Nat → Int32) × (Nat → Int32) × (Nat → Int32) × (Nat → Int32) × (Nat → Int32) × (Nat → Int32) × (Nat → Int32) × (Nat → Int32) × (Nat → Int32) × (Nat → Int32)), b9 = q9 → V K 11 [((adA 1), .inl (gI (kG K), 5, .inl fvalues)), ((adA 3), .inl (gI (kG K), 80, .inl fcells)), ((adA 11), .inl (gZ (kG K), 160, .inl q9.2.2.2.1)), ((adA 12), .inl (gI (kG K), 1280, .inl q9.2.2.2.2.1)), ((adA 13), .inl (gI (kG K), 1280, .inl q9.2.2.2.2.2.1)), ((adA 14), .inl (gI (kG K), 320, .inl q9.2.2.2.2.2.2.1)), ((adA 15), .inl (gI (kG K), 320, .inl q9.2.2.2.2.2.2.2.1)), ((adA 6), .inl (gI (kG K), 320, .inl q9.2.2.2.2.2.2.2.2.1)), ((adA 7), .inl (gI (kG K), 320, .inl q9.2.2.2.2.2.2.2.2.2.1)), ((adA 8), .inl (gI (kG K), 320, .inl q9.2.2.2.2.2.2.2.2.2.2.1)), ((adA 16), .inl (gI (kG K), 320, .inl q9.2.2.2.2.2.2.2.2.2.2.2.1)), ((adA 17), .inl (gI (kG K), 320, .inl q9.2.2.2.2.2.2.2.2.2.2.2.2.1)), ((adA 18), .inl (gI (kG K), 320, .inl q9.2.2.2.2.2.2.2.2.2.2.2.2.2.1)), ((adA 19), .inl (gI (kG K), 320, .inl q9.2.2.2.2.2.2.2.2.2.2.2.2.2.2.1)), ((adA 20), .inl (gI (kG K), 320, .inl q9.2.2.2.2.2.2.2.2.2.2.2.2.2.2.2.1)), ((adA 21), .inl (gI (kG K), 320, .inl q9.2.2.2.2.2.2.2.2.2.2.2.2.2.2.2.2.1)), ((adA 22), .inl (gI (kG K), 320, .inl q9.2.2.2.2.2.2.2.2.2.2.2.2.2.2.2.2.2.1)), ((adA 23), .inl (gI (kG K), 320, .inl q9.2.2.2.2.2.2.2.2.2.2.2.2.2.2.2.2.2.2)), (adm, .inr (10, oM adA o_names o_rows o_strength o_most o_toldGraph o_toldArc))] 0 0 194 [(0, .ref adm), (1, .int gr), (2, .int steps), (3, .int q9.1), (4, .int q9.2.1), (5, .int q9.2.2.1)] []) : ∀ (nn : Nat) (i3_3 : Int32) (i4_4 : Int32) (i5_5 : Int32) (fisKnown_6 : Nat → Int32) (ftops_7 : Nat → Int32) (flows_8 : Nat → Int32) (fsmall_9 : Nat → Int32) (flarge_10 : Nat → Int32) (fone_11 : Nat → Int32) (ftwo_12 : Nat → Int32) (frest_13 : Nat → Int32) (ffactor_14 : Nat → Int32) (fmade_15 : Nat → Int32) (ftopA_16 : Nat → Int32) (flowA_17 : Nat → Int32) (ftopB_18 : Nat → Int32) (flowB_19 : Nat → Int32) (fleft_20 : Nat → Int32) (fright_21 : Nat → Int32), lp (b_X11_climb_36 o_names o_rows o_strength o_most o_toldGraph o_toldArc fvalues fcells steps) nn (i3_3, i4_4, i5_5, fisKnown_6, ftops_7, flows_8, fsmall_9, flarge_10, fone_11, ftwo_12, frest_13, ffactor_14, fmade_15, ftopA_16, flowA_17, ftopB_18, flowB_19, fleft_20, fright_21) = some b9 → V K 11 [((adA 1), .inl (gI (kG K), 5, .inl fvalues)), ((adA 3), .inl (gI (kG K), 80, .inl fcells)), ((adA 11), .inl (gZ (kG K), 160, .inl fisKnown_6)), ((adA 12), .inl (gI (kG K), 1280, .inl ftops_7)), ((adA 13), .inl (gI (kG K), 1280, .inl flows_8)), ((adA 14), .inl (gI (kG K), 320, .inl fsmall_9)), ((adA 15), .inl (gI (kG K), 320, .inl flarge_10)), ((adA 6), .inl (gI (kG K), 320, .inl fone_11)), ((adA 7), .inl (gI (kG K), 320, .inl ftwo_12)), ((adA 8), .inl (gI (kG K), 320, .inl frest_13)), ((adA 16), .inl (gI (kG K), 320, .inl ffactor_14)), ((adA 17), .inl (gI (kG K), 320, .inl fmade_15)), ((adA 18), .inl (gI (kG K), 320, .inl ftopA_16)), ((adA 19), .inl (gI (kG K), 320, .inl flowA_17)), ((adA 20), .inl (gI (kG K), 320, .inl ftopB_18)), ((adA 21), .inl (gI (kG K), 320, .inl flowB_19)), ((adA 22), .inl (gI (kG K), 320, .inl fleft_20)), ((adA 23), .inl (gI (kG K), 320, .inl fright_21)), (adm, .inr (10, oM adA o_names o_rows o_strength o_most o_toldGraph o_toldArc))] 0 0 36 [(0, .ref adm), (1, .int gr), (2, .int steps), (3, .int i3_3), (4, .int i4_4), (5, .int i5_5)] [] := by
  intro nn
  induction nn with
  | zero => intro i3_3 i4_4 i5_5 fisKnown_6 ftops_7 flows_8 fsmall_9 flarge_10 fone_11 ftwo_12 frest_13 ffactor_14 fmade_15 ftopA_16 flowA_17 ftopB_18 flowB_19 fleft_20 fright_21 h; exact absurd h (by simp [lp])
  | succ nn ih =>
    intro i3_3 i4_4 i5_5 fisKnown_6 ftops_7 flows_8 fsmall_9 flarge_10 fone_11 ftwo_12 frest_13 ffactor_14 fmade_15 ftopA_16 flowA_17 ftopB_18 flowB_19 fleft_20 fright_21 h
    replace h := lp_s h
    rw [eb_X11_climb_36] at h
    refine v_iload hk dX11_climb_36 rfl ?_
    refine v_iload_n hk dX11_climb_38 rfl ?_
    refine v_icmp_ge (tgt := 194) hk dX11_climb_39 (by decide) (fun hc => ?_) (fun hc => ?_)
    · replace h := it_t (g := (lpk (lp (b_X11_climb_36 o_names o_rows o_strength o_most o_toldGraph o_toldArc fvalues fcells steps) nn))) h hc
      replace h : some (i3_3, i4_4, i5_5, fisKnown_6, ftops_7, flows_8, fsmall_9, flarge_10, fone_11, ftwo_12, frest_13, ffactor_14, fmade_15, ftopA_16, flowA_17, ftopB_18, flowB_19, fleft_20, fright_21) = some b9 := h
      replace h := Option.some.inj h
      subst h
      exact kk0 _ rfl
    · replace h := it_f (g := (lpk (lp (b_X11_climb_36 o_names o_rows o_strength o_most o_toldGraph o_toldArc fvalues fcells steps) nn))) h hc
      refine v_iload hk dX11_climb_42 rfl ?_
      refine v_if_eq (tgt := 194) hk dX11_climb_44 (by decide) (fun hc => ?_) (fun hc => ?_)
      · replace h := it_t (g := (lpk (lp (b_X11_climb_36 o_names o_rows o_strength o_most o_toldGraph o_toldArc fvalues fcells steps) nn))) h hc
        replace h : some (i3_3, i4_4, i5_5, fisKnown_6, ftops_7, flows_8, fsmall_9, flarge_10, fone_11, ftwo_12, frest_13, ffactor_14, fmade_15, ftopA_16, flowA_17, ftopB_18, flowB_19, fleft_20, fright_21) = some b9 := h
        replace h := Option.some.inj h
        subst h
        exact kk0 _ rfl
      · replace h := it_f (g := (lpk (lp (b_X11_climb_36 o_names o_rows o_strength o_most o_toldGraph o_toldArc fvalues fcells steps) nn))) h hc
        refine v_iconst (v := (-1)) hk dX11_climb_47 (by decide) ?_
        refine v_istore hk dX11_climb_48 (by decide) [1, 2, 3, 4, 5, 6, 0] (lv' := [(0, .ref adm), (1, .int gr), (2, .int steps), (3, .int i3_3), (4, .int i4_4), (5, .int i5_5), (6, .int (-1))]) rfl ?_
        refine v_iconst (v := 0) hk dX11_climb_50 (by decide) ?_
        refine v_istore hk dX11_climb_51 (by decide) [1, 2, 3, 4, 5, 6, 7, 0] (lv' := [(0, .ref adm), (1, .int gr), (2, .int steps), (3, .int i3_3), (4, .int i4_4), (5, .int i5_5), (6, .int (-1)), (7, .int 0)]) rfl ?_
        obtain ⟨b_74, eb_74, h⟩ := bd_e (g := (lpk (lp (b_X11_climb_36 o_names o_rows o_strength o_most o_toldGraph o_toldArc fvalues fcells steps) nn))) rfl h
        refine L_X11_climb_53 hk hR9 adm adA o_names o_rows o_strength o_most o_toldGraph o_toldArc fvalues fcells gr steps i3_3 i4_4 i5_5 b_74 (fun q_68 eq_68 => ?_) FU (-1) 0 fisKnown_6 ftops_7 flows_8 fsmall_9 flarge_10 fone_11 ftwo_12 frest_13 ffactor_14 fmade_15 ftopA_16 flowA_17 ftopB_18 flowB_19 fleft_20 fright_21 eb_74
        · replace eq_68 := eq_68.symm
          subst eq_68
          refine v_iload hk dX11_climb_154 rfl ?_
          refine v_if_lt (tgt := 173) hk dX11_climb_156 (by decide) (fun hc => ?_) (fun hc => ?_)
          · replace h := it_t (g := (lpk (lp (b_X11_climb_36 o_names o_rows o_strength o_most o_toldGraph o_toldArc fvalues fcells steps) nn))) h hc
            refine v_iconst (v := 0) hk dX11_climb_173 (by decide) ?_
            refine v_istore hk dX11_climb_174 (by decide) [1, 2, 3, 4, 0, 5, 6, 7] (lv' := [(0, .ref adm), (1, .int gr), (2, .int steps), (3, .int i3_3), (4, .int 0), (5, .int i5_5), (6, .int q_68.1), (7, .int q_68.2.1)]) rfl ?_
            refine v_iload hk dX11_climb_176 rfl ?_
            refine v_if_eq (tgt := 186) hk dX11_climb_178 (by decide) (fun _ => ?_) (fun hc => absurd hc (by decide))
            refine v_iload_n hk dX11_climb_186 rfl ?_
            refine v_istore_n hk dX11_climb_187 rfl (by decide) [1, 2, 3, 0, 4, 5, 6, 7] (lv' := [(0, .ref adm), (1, .int gr), (2, .int steps), (3, .int i3_3), (4, .int 0), (5, .int i5_5), (6, .int q_68.1), (7, .int q_68.2.1)]) rfl ?_
            obtain ⟨x5_69, ex5_69, h⟩ := lt_e (g := (lpk (lp (b_X11_climb_36 o_names o_rows o_strength o_most o_toldGraph o_toldArc fvalues fcells steps) nn))) h
            refine v_iinc (v := x5_69) hk dX11_climb_188 rfl (by rw [ex5_69]; rfl) (by decide) [1, 2, 3, 4, 5, 0, 6, 7] (lv' := [(0, .ref adm), (1, .int gr), (2, .int steps), (3, .int i3_3), (4, .int 0), (5, .int x5_69), (6, .int q_68.1), (7, .int q_68.2.1)]) rfl ?_
            refine v_goto (tgt := 36) hk dX11_climb_191 (by decide) ?_
            refine v_loc [0, 1, 2, 3, 4, 5] (lv' := [(0, .ref adm), (1, .int gr), (2, .int steps), (3, .int i3_3), (4, .int 0), (5, .int x5_69)]) rfl ?_
            exact ih i3_3 0 x5_69 q_68.2.2.1 q_68.2.2.2.1 q_68.2.2.2.2.1 q_68.2.2.2.2.2.1 q_68.2.2.2.2.2.2.1 q_68.2.2.2.2.2.2.2.1 q_68.2.2.2.2.2.2.2.2.1 q_68.2.2.2.2.2.2.2.2.2.1 q_68.2.2.2.2.2.2.2.2.2.2.1 q_68.2.2.2.2.2.2.2.2.2.2.2.1 q_68.2.2.2.2.2.2.2.2.2.2.2.2.1 q_68.2.2.2.2.2.2.2.2.2.2.2.2.2.1 q_68.2.2.2.2.2.2.2.2.2.2.2.2.2.2.1 q_68.2.2.2.2.2.2.2.2.2.2.2.2.2.2.2.1 q_68.2.2.2.2.2.2.2.2.2.2.2.2.2.2.2.2.1 q_68.2.2.2.2.2.2.2.2.2.2.2.2.2.2.2.2.2 h
          · replace h := it_f (g := (lpk (lp (b_X11_climb_36 o_names o_rows o_strength o_most o_toldGraph o_toldArc fvalues fcells steps) nn))) h hc
            refine v_aload_n hk dX11_climb_159 rfl ?_
            refine v_iload hk dX11_climb_160 rfl ?_
            refine v_iload_n hk dX11_climb_162 rfl ?_
            obtain ⟨r_70, er_70, h⟩ := bd_e (g := (lpk (lp (b_X11_climb_36 o_names o_rows o_strength o_most o_toldGraph o_toldArc fvalues fcells steps) nn))) rfl h
            refine v_callV (n := 2) (st := []) (b := adm) (T := TX11) (N := 39) hk dX11_climb_163 (c_X11_signOf (kl K) (kG K) adm adA o_names o_rows o_strength o_most o_toldGraph o_toldArc fvalues fcells q_68.2.2.1 q_68.2.2.2.1 q_68.2.2.2.2.1 q_68.2.2.2.2.2.1 q_68.2.2.2.2.2.2.1 q_68.2.2.2.2.2.2.2.1 q_68.2.2.2.2.2.2.2.2.1 q_68.2.2.2.2.2.2.2.2.2.1 q_68.2.2.2.2.2.2.2.2.2.2.1 q_68.2.2.2.2.2.2.2.2.2.2.2.1 q_68.2.2.2.2.2.2.2.2.2.2.2.2.1 q_68.2.2.2.2.2.2.2.2.2.2.2.2.2.1 q_68.2.2.2.2.2.2.2.2.2.2.2.2.2.2.1 q_68.2.2.2.2.2.2.2.2.2.2.2.2.2.2.2.1 q_68.2.2.2.2.2.2.2.2.2.2.2.2.2.2.2.2.1 q_68.2.2.2.2.2.2.2.2.2.2.2.2.2.2.2.2.2 q_68.1 i3_3 r_70 er_70) rfl gd_X11_climb_X11_signOf rfl (by decide +kernel) (frok hR9 (Nat.le_of_ble_eq_true rfl) (Nat.le_of_ble_eq_true rfl)) (roomk hR9 (Nat.le_of_ble_eq_true rfl) (Nat.le_of_ble_eq_true rfl)) rfl rfl (Nat.le_of_ble_eq_true rfl) 18 rfl rfl [18, 0, 1, 2, 3, 4, 5, 6, 7, 8, 9, 10, 11, 12, 13, 14, 15, 16, 17] [] (wr := []) rfl rfl (by decide) (by decide) (by decide) ?_
            intro v9 w9 hp9
            obtain ⟨rfl, rfl⟩ := hp9
            show V K 11 [(adm, .inr (10, oM adA o_names o_rows o_strength o_most o_toldGraph o_toldArc)), ((adA 1), .inl (gI (kG K), 5, .inl fvalues)), ((adA 3), .inl (gI (kG K), 80, .inl fcells)), ((adA 11), .inl (gZ (kG K), 160, .inl r_70.2.1)), ((adA 12), .inl (gI (kG K), 1280, .inl r_70.2.2.1)), ((adA 13), .inl (gI (kG K), 1280, .inl r_70.2.2.2.1)), ((adA 14), .inl (gI (kG K), 320, .inl r_70.2.2.2.2.1)), ((adA 15), .inl (gI (kG K), 320, .inl r_70.2.2.2.2.2.1)), ((adA 6), .inl (gI (kG K), 320, .inl r_70.2.2.2.2.2.2.1)), ((adA 7), .inl (gI (kG K), 320, .inl r_70.2.2.2.2.2.2.2.1)), ((adA 8), .inl (gI (kG K), 320, .inl r_70.2.2.2.2.2.2.2.2.1)), ((adA 16), .inl (gI (kG K), 320, .inl r_70.2.2.2.2.2.2.2.2.2.1)), ((adA 17), .inl (gI (kG K), 320, .inl r_70.2.2.2.2.2.2.2.2.2.2.1)), ((adA 18), .inl (gI (kG K), 320, .inl r_70.2.2.2.2.2.2.2.2.2.2.2.1)), ((adA 19), .inl (gI (kG K), 320, .inl r_70.2.2.2.2.2.2.2.2.2.2.2.2.1)), ((adA 20), .inl (gI (kG K), 320, .inl r_70.2.2.2.2.2.2.2.2.2.2.2.2.2.1)), ((adA 21), .inl (gI (kG K), 320, .inl r_70.2.2.2.2.2.2.2.2.2.2.2.2.2.2.1)), ((adA 22), .inl (gI (kG K), 320, .inl r_70.2.2.2.2.2.2.2.2.2.2.2.2.2.2.2.1)), ((adA 23), .inl (gI (kG K), 320, .inl r_70.2.2.2.2.2.2.2.2.2.2.2.2.2.2.2.2))] 0 0 166 [(0, .ref adm), (1, .int gr), (2, .int steps), (3, .int i3_3), (4, .int i4_4), (5, .int i5_5), (6, .int q_68.1), (7, .int q_68.2.1)] [.int r_70.1]
            obtain ⟨z_71, ez_71, h⟩ := lt_e (g := (lpk (lp (b_X11_climb_36 o_names o_rows o_strength o_most o_toldGraph o_toldArc fvalues fcells steps) nn))) h
            have Jz_71 : V K 11 [(adm, .inr (10, oM adA o_names o_rows o_strength o_most o_toldGraph o_toldArc)), ((adA 1), .inl (gI (kG K), 5, .inl fvalues)), ((adA 3), .inl (gI (kG K), 80, .inl fcells)), ((adA 11), .inl (gZ (kG K), 160, .inl r_70.2.1)), ((adA 12), .inl (gI (kG K), 1280, .inl r_70.2.2.1)), ((adA 13), .inl (gI (kG K), 1280, .inl r_70.2.2.2.1)), ((adA 14), .inl (gI (kG K), 320, .inl r_70.2.2.2.2.1)), ((adA 15), .inl (gI (kG K), 320, .inl r_70.2.2.2.2.2.1)), ((adA 6), .inl (gI (kG K), 320, .inl r_70.2.2.2.2.2.2.1)), ((adA 7), .inl (gI (kG K), 320, .inl r_70.2.2.2.2.2.2.2.1)), ((adA 8), .inl (gI (kG K), 320, .inl r_70.2.2.2.2.2.2.2.2.1)), ((adA 16), .inl (gI (kG K), 320, .inl r_70.2.2.2.2.2.2.2.2.2.1)), ((adA 17), .inl (gI (kG K), 320, .inl r_70.2.2.2.2.2.2.2.2.2.2.1)), ((adA 18), .inl (gI (kG K), 320, .inl r_70.2.2.2.2.2.2.2.2.2.2.2.1)), ((adA 19), .inl (gI (kG K), 320, .inl r_70.2.2.2.2.2.2.2.2.2.2.2.2.1)), ((adA 20), .inl (gI (kG K), 320, .inl r_70.2.2.2.2.2.2.2.2.2.2.2.2.2.1)), ((adA 21), .inl (gI (kG K), 320, .inl r_70.2.2.2.2.2.2.2.2.2.2.2.2.2.2.1)), ((adA 22), .inl (gI (kG K), 320, .inl r_70.2.2.2.2.2.2.2.2.2.2.2.2.2.2.2.1)), ((adA 23), .inl (gI (kG K), 320, .inl r_70.2.2.2.2.2.2.2.2.2.2.2.2.2.2.2.2))] 0 0 174 [(0, .ref adm), (1, .int gr), (2, .int steps), (3, .int i3_3), (4, .int i4_4), (5, .int i5_5), (6, .int q_68.1), (7, .int q_68.2.1)] (.int z_71 :: []) := by
              refine v_istore hk dX11_climb_174 (by decide) [1, 2, 3, 4, 0, 5, 6, 7] (lv' := [(0, .ref adm), (1, .int gr), (2, .int steps), (3, .int i3_3), (4, .int z_71), (5, .int i5_5), (6, .int q_68.1), (7, .int q_68.2.1)]) rfl ?_
              refine v_iload hk dX11_climb_176 rfl ?_
              obtain ⟨y_72, ey_72, h⟩ := bd_e (g := (lpk (lp (b_X11_climb_36 o_names o_rows o_strength o_most o_toldGraph o_toldArc fvalues fcells steps) nn))) rfl h
              have Jy_72 : V K 11 [(adm, .inr (10, oM adA o_names o_rows o_strength o_most o_toldGraph o_toldArc)), ((adA 1), .inl (gI (kG K), 5, .inl fvalues)), ((adA 3), .inl (gI (kG K), 80, .inl fcells)), ((adA 11), .inl (gZ (kG K), 160, .inl r_70.2.1)), ((adA 12), .inl (gI (kG K), 1280, .inl r_70.2.2.1)), ((adA 13), .inl (gI (kG K), 1280, .inl r_70.2.2.2.1)), ((adA 14), .inl (gI (kG K), 320, .inl r_70.2.2.2.2.1)), ((adA 15), .inl (gI (kG K), 320, .inl r_70.2.2.2.2.2.1)), ((adA 6), .inl (gI (kG K), 320, .inl r_70.2.2.2.2.2.2.1)), ((adA 7), .inl (gI (kG K), 320, .inl r_70.2.2.2.2.2.2.2.1)), ((adA 8), .inl (gI (kG K), 320, .inl r_70.2.2.2.2.2.2.2.2.1)), ((adA 16), .inl (gI (kG K), 320, .inl r_70.2.2.2.2.2.2.2.2.2.1)), ((adA 17), .inl (gI (kG K), 320, .inl r_70.2.2.2.2.2.2.2.2.2.2.1)), ((adA 18), .inl (gI (kG K), 320, .inl r_70.2.2.2.2.2.2.2.2.2.2.2.1)), ((adA 19), .inl (gI (kG K), 320, .inl r_70.2.2.2.2.2.2.2.2.2.2.2.2.1)), ((adA 20), .inl (gI (kG K), 320, .inl r_70.2.2.2.2.2.2.2.2.2.2.2.2.2.1)), ((adA 21), .inl (gI (kG K), 320, .inl r_70.2.2.2.2.2.2.2.2.2.2.2.2.2.2.1)), ((adA 22), .inl (gI (kG K), 320, .inl r_70.2.2.2.2.2.2.2.2.2.2.2.2.2.2.2.1)), ((adA 23), .inl (gI (kG K), 320, .inl r_70.2.2.2.2.2.2.2.2.2.2.2.2.2.2.2.2))] 0 0 187 [(0, .ref adm), (1, .int gr), (2, .int steps), (3, .int i3_3), (4, .int z_71), (5, .int i5_5), (6, .int q_68.1), (7, .int q_68.2.1)] [.int y_72] := by
                refine v_istore_n hk dX11_climb_187 rfl (by decide) [1, 2, 3, 0, 4, 5, 6, 7] (lv' := [(0, .ref adm), (1, .int gr), (2, .int steps), (3, .int y_72), (4, .int z_71), (5, .int i5_5), (6, .int q_68.1), (7, .int q_68.2.1)]) rfl ?_
                obtain ⟨x5_73, ex5_73, h⟩ := lt_e (g := (lpk (lp (b_X11_climb_36 o_names o_rows o_strength o_most o_toldGraph o_toldArc fvalues fcells steps) nn))) h
                refine v_iinc (v := x5_73) hk dX11_climb_188 rfl (by rw [ex5_73]; rfl) (by decide) [1, 2, 3, 4, 5, 0, 6, 7] (lv' := [(0, .ref adm), (1, .int gr), (2, .int steps), (3, .int y_72), (4, .int z_71), (5, .int x5_73), (6, .int q_68.1), (7, .int q_68.2.1)]) rfl ?_
                refine v_goto (tgt := 36) hk dX11_climb_191 (by decide) ?_
                refine v_loc [0, 1, 2, 3, 4, 5] (lv' := [(0, .ref adm), (1, .int gr), (2, .int steps), (3, .int y_72), (4, .int z_71), (5, .int x5_73)]) rfl ?_
                refine v_perm [1, 2, 3, 4, 5, 6, 7, 8, 9, 10, 11, 12, 13, 14, 15, 16, 17, 18, 0] (ws' := [((adA 1), .inl (gI (kG K), 5, .inl fvalues)), ((adA 3), .inl (gI (kG K), 80, .inl fcells)), ((adA 11), .inl (gZ (kG K), 160, .inl r_70.2.1)), ((adA 12), .inl (gI (kG K), 1280, .inl r_70.2.2.1)), ((adA 13), .inl (gI (kG K), 1280, .inl r_70.2.2.2.1)), ((adA 14), .inl (gI (kG K), 320, .inl r_70.2.2.2.2.1)), ((adA 15), .inl (gI (kG K), 320, .inl r_70.2.2.2.2.2.1)), ((adA 6), .inl (gI (kG K), 320, .inl r_70.2.2.2.2.2.2.1)), ((adA 7), .inl (gI (kG K), 320, .inl r_70.2.2.2.2.2.2.2.1)), ((adA 8), .inl (gI (kG K), 320, .inl r_70.2.2.2.2.2.2.2.2.1)), ((adA 16), .inl (gI (kG K), 320, .inl r_70.2.2.2.2.2.2.2.2.2.1)), ((adA 17), .inl (gI (kG K), 320, .inl r_70.2.2.2.2.2.2.2.2.2.2.1)), ((adA 18), .inl (gI (kG K), 320, .inl r_70.2.2.2.2.2.2.2.2.2.2.2.1)), ((adA 19), .inl (gI (kG K), 320, .inl r_70.2.2.2.2.2.2.2.2.2.2.2.2.1)), ((adA 20), .inl (gI (kG K), 320, .inl r_70.2.2.2.2.2.2.2.2.2.2.2.2.2.1)), ((adA 21), .inl (gI (kG K), 320, .inl r_70.2.2.2.2.2.2.2.2.2.2.2.2.2.2.1)), ((adA 22), .inl (gI (kG K), 320, .inl r_70.2.2.2.2.2.2.2.2.2.2.2.2.2.2.2.1)), ((adA 23), .inl (gI (kG K), 320, .inl r_70.2.2.2.2.2.2.2.2.2.2.2.2.2.2.2.2)), (adm, .inr (10, oM adA o_names o_rows o_strength o_most o_toldGraph o_toldArc))]) rfl rfl (by decide) ?_
                exact ih y_72 z_71 x5_73 r_70.2.1 r_70.2.2.1 r_70.2.2.2.1 r_70.2.2.2.2.1 r_70.2.2.2.2.2.1 r_70.2.2.2.2.2.2.1 r_70.2.2.2.2.2.2.2.1 r_70.2.2.2.2.2.2.2.2.1 r_70.2.2.2.2.2.2.2.2.2.1 r_70.2.2.2.2.2.2.2.2.2.2.1 r_70.2.2.2.2.2.2.2.2.2.2.2.1 r_70.2.2.2.2.2.2.2.2.2.2.2.2.1 r_70.2.2.2.2.2.2.2.2.2.2.2.2.2.1 r_70.2.2.2.2.2.2.2.2.2.2.2.2.2.2.1 r_70.2.2.2.2.2.2.2.2.2.2.2.2.2.2.2.1 r_70.2.2.2.2.2.2.2.2.2.2.2.2.2.2.2.2 h
              clear h
              have h := id_e ey_72
              clear ey_72
              refine v_if_eq (tgt := 186) hk dX11_climb_178 (by decide) (fun hc => ?_) (fun hc => ?_)
              · replace h := it_t (g := id) h hc
                refine v_iload_n hk dX11_climb_186 rfl ?_
                replace h : some (i3_3 : Int32) = some y_72 := h
                replace h := Option.some.inj h
                subst h
                exact Jy_72
              · replace h := it_f (g := id) h hc
                refine v_iload hk dX11_climb_181 rfl ?_
                refine v_goto (tgt := 187) hk dX11_climb_183 (by decide) ?_
                replace h : some (q_68.1 : Int32) = some y_72 := h
                replace h := Option.some.inj h
                subst h
                exact Jy_72
            refine v_if_le (tgt := 173) hk dX11_climb_166 (by decide) (fun hc => ?_) (fun hc => ?_)
            · rw [if_pos hc] at ez_71
              subst ez_71
              refine v_iconst (v := 0) hk dX11_climb_173 (by decide) ?_
              exact Jz_71
            · rw [if_neg hc] at ez_71
              subst ez_71
              refine v_iconst (v := 1) hk dX11_climb_169 (by decide) ?_
              refine v_goto (tgt := 174) hk dX11_climb_170 (by decide) ?_
              exact Jz_71
set_option maxHeartbeats 4000000 in
set_option maxRecDepth 100000 in
theorem c_X11_climb (l : Launch) (G : GG) (adm : Nat) (adA : Nat → Nat) (o_names : Int32) (o_rows : Int32) (o_strength : Int32) (o_most : Int32) (o_toldGraph : Int32) (o_toldArc : Int32) (fvalues : Nat → Int32) (fcells : Nat → Int32) (fisKnown : Nat → Int32) (ftops : Nat → Int32) (flows : Nat → Int32) (fsmall : Nat → Int32) (flarge : Nat → Int32) (fone : Nat → Int32) (ftwo : Nat → Int32) (frest : Nat → Int32) (ffactor : Nat → Int32) (fmade : Nat → Int32) (ftopA : Nat → Int32) (flowA : Nat → Int32) (ftopB : Nat → Int32) (flowB : Nat → Int32) (fleft : Nat → Int32) (fright : Nat → Int32) (gr : Int32) (steps : Int32) (r : Int32 × (Nat → Int32) × (Nat → Int32) × (Nat → Int32) × (Nat → Int32) × (Nat → Int32) × (Nat → Int32) × (Nat → Int32) × (Nat → Int32) × (Nat → Int32) × (Nat → Int32) × (Nat → Int32) × (Nat → Int32) × (Nat → Int32) × (Nat → Int32) × (Nat → Int32) × (Nat → Int32)) (h : m_X11_climb o_names o_rows o_strength o_most o_toldGraph o_toldArc fvalues fcells fisKnown ftops flows fsmall flarge fone ftwo frest ffactor fmade ftopA flowA ftopB flowB fleft fright gr steps = some r) : Ctr l G yX11_climb w2_X11_climb rm_X11_climb [.ref adm, .int gr, .int steps] [(adm, .inr (10, oM adA o_names o_rows o_strength o_most o_toldGraph o_toldArc)), ((adA 1), .inl (gI G, 5, .inl fvalues)), ((adA 3), .inl (gI G, 80, .inl fcells)), ((adA 11), .inl (gZ G, 160, .inl fisKnown)), ((adA 12), .inl (gI G, 1280, .inl ftops)), ((adA 13), .inl (gI G, 1280, .inl flows)), ((adA 14), .inl (gI G, 320, .inl fsmall)), ((adA 15), .inl (gI G, 320, .inl flarge)), ((adA 6), .inl (gI G, 320, .inl fone)), ((adA 7), .inl (gI G, 320, .inl ftwo)), ((adA 8), .inl (gI G, 320, .inl frest)), ((adA 16), .inl (gI G, 320, .inl ffactor)), ((adA 17), .inl (gI G, 320, .inl fmade)), ((adA 18), .inl (gI G, 320, .inl ftopA)), ((adA 19), .inl (gI G, 320, .inl flowA)), ((adA 20), .inl (gI G, 320, .inl ftopB)), ((adA 21), .inl (gI G, 320, .inl flowB)), ((adA 22), .inl (gI G, 320, .inl fleft)), ((adA 23), .inl (gI G, 320, .inl fright))] (fun v w => v = some (.int r.1) ∧ w = [(adm, .inr (10, oM adA o_names o_rows o_strength o_most o_toldGraph o_toldArc)), ((adA 1), .inl (gI G, 5, .inl fvalues)), ((adA 3), .inl (gI G, 80, .inl fcells)), ((adA 11), .inl (gZ G, 160, .inl r.2.1)), ((adA 12), .inl (gI G, 1280, .inl r.2.2.1)), ((adA 13), .inl (gI G, 1280, .inl r.2.2.2.1)), ((adA 14), .inl (gI G, 320, .inl r.2.2.2.2.1)), ((adA 15), .inl (gI G, 320, .inl r.2.2.2.2.2.1)), ((adA 6), .inl (gI G, 320, .inl r.2.2.2.2.2.2.1)), ((adA 7), .inl (gI G, 320, .inl r.2.2.2.2.2.2.2.1)), ((adA 8), .inl (gI G, 320, .inl r.2.2.2.2.2.2.2.2.1)), ((adA 16), .inl (gI G, 320, .inl r.2.2.2.2.2.2.2.2.2.1)), ((adA 17), .inl (gI G, 320, .inl r.2.2.2.2.2.2.2.2.2.2.1)), ((adA 18), .inl (gI G, 320, .inl r.2.2.2.2.2.2.2.2.2.2.2.1)), ((adA 19), .inl (gI G, 320, .inl r.2.2.2.2.2.2.2.2.2.2.2.2.1)), ((adA 20), .inl (gI G, 320, .inl r.2.2.2.2.2.2.2.2.2.2.2.2.2.1)), ((adA 21), .inl (gI G, 320, .inl r.2.2.2.2.2.2.2.2.2.2.2.2.2.2.1)), ((adA 22), .inl (gI G, 320, .inl r.2.2.2.2.2.2.2.2.2.2.2.2.2.2.2.1)), ((adA 23), .inl (gI G, 320, .inl r.2.2.2.2.2.2.2.2.2.2.2.2.2.2.2.2))]) := by
  refine ctr_entry (cc := cX11_climb) (maxL := 11) (ret := some .int) (lv0 := [(0, .ref adm), (1, .int gr), (2, .int steps)]) (by decide) rfl (Nat.le_of_ble_eq_true rfl) (rfl) ?_
  intro K hl9 hG9 hk hn9 hrt
  subst hl9
  subst hG9
  have hR9 : RoomGe rm_X11_climb rm_X11_climb := RoomGe.rf
  replace h := id_e h
  rw [em_X11_climb] at h
  refine v_aload_n hk dX11_climb_0 rfl ?_
  refine v_iload_n hk dX11_climb_1 rfl ?_
  obtain ⟨r_1, er_1, h⟩ := bd_e (g := id) rfl h
  refine v_callV (n := 1) (st := []) (b := adm) (T := TX11) (N := 39) hk dX11_climb_2 (c_X11_isGraph (kl K) (kG K) adm adA o_names o_rows o_strength o_most o_toldGraph o_toldArc gr r_1 er_1) rfl gd_X11_climb_X11_isGraph rfl (by decide +kernel) (frok hR9 (Nat.le_of_ble_eq_true rfl) (Nat.le_of_ble_eq_true rfl)) (roomk hR9 (Nat.le_of_ble_eq_true rfl) (Nat.le_of_ble_eq_true rfl)) rfl rfl (Nat.le_of_ble_eq_true rfl) 0 rfl rfl [0] [1, 2, 3, 4, 5, 6, 7, 8, 9, 10, 11, 12, 13, 14, 15, 16, 17, 18] (wr := [((adA 1), .inl (gI (kG K), 5, .inl fvalues)), ((adA 3), .inl (gI (kG K), 80, .inl fcells)), ((adA 11), .inl (gZ (kG K), 160, .inl fisKnown)), ((adA 12), .inl (gI (kG K), 1280, .inl ftops)), ((adA 13), .inl (gI (kG K), 1280, .inl flows)), ((adA 14), .inl (gI (kG K), 320, .inl fsmall)), ((adA 15), .inl (gI (kG K), 320, .inl flarge)), ((adA 6), .inl (gI (kG K), 320, .inl fone)), ((adA 7), .inl (gI (kG K), 320, .inl ftwo)), ((adA 8), .inl (gI (kG K), 320, .inl frest)), ((adA 16), .inl (gI (kG K), 320, .inl ffactor)), ((adA 17), .inl (gI (kG K), 320, .inl fmade)), ((adA 18), .inl (gI (kG K), 320, .inl ftopA)), ((adA 19), .inl (gI (kG K), 320, .inl flowA)), ((adA 20), .inl (gI (kG K), 320, .inl ftopB)), ((adA 21), .inl (gI (kG K), 320, .inl flowB)), ((adA 22), .inl (gI (kG K), 320, .inl fleft)), ((adA 23), .inl (gI (kG K), 320, .inl fright))]) rfl rfl (by decide) (by decide) (by decide) ?_
  intro v9 w9 hp9
  obtain ⟨rfl, rfl⟩ := hp9
  show V K 11 [((adA 1), .inl (gI (kG K), 5, .inl fvalues)), ((adA 3), .inl (gI (kG K), 80, .inl fcells)), ((adA 11), .inl (gZ (kG K), 160, .inl fisKnown)), ((adA 12), .inl (gI (kG K), 1280, .inl ftops)), ((adA 13), .inl (gI (kG K), 1280, .inl flows)), ((adA 14), .inl (gI (kG K), 320, .inl fsmall)), ((adA 15), .inl (gI (kG K), 320, .inl flarge)), ((adA 6), .inl (gI (kG K), 320, .inl fone)), ((adA 7), .inl (gI (kG K), 320, .inl ftwo)), ((adA 8), .inl (gI (kG K), 320, .inl frest)), ((adA 16), .inl (gI (kG K), 320, .inl ffactor)), ((adA 17), .inl (gI (kG K), 320, .inl fmade)), ((adA 18), .inl (gI (kG K), 320, .inl ftopA)), ((adA 19), .inl (gI (kG K), 320, .inl flowA)), ((adA 20), .inl (gI (kG K), 320, .inl ftopB)), ((adA 21), .inl (gI (kG K), 320, .inl flowB)), ((adA 22), .inl (gI (kG K), 320, .inl fleft)), ((adA 23), .inl (gI (kG K), 320, .inl fright)), (adm, .inr (10, oM adA o_names o_rows o_strength o_most o_toldGraph o_toldArc))] 0 0 5 [(0, .ref adm), (1, .int gr), (2, .int steps)] [.int r_1]
  refine v_if_eq (tgt := 26) hk dX11_climb_5 (by decide) (fun hc => ?_) (fun hc => ?_)
  · replace h := it_t (g := id) h hc
    refine v_iconst (v := (-1)) hk dX11_climb_26 (by decide) ?_
    replace h : some ((-1), fisKnown, ftops, flows, fsmall, flarge, fone, ftwo, frest, ffactor, fmade, ftopA, flowA, ftopB, flowB, fleft, fright) = some r := h
    replace h := Option.some.inj h
    subst h
    refine v_perm [18, 0, 1, 2, 3, 4, 5, 6, 7, 8, 9, 10, 11, 12, 13, 14, 15, 16, 17] (ws' := [(adm, .inr (10, oM adA o_names o_rows o_strength o_most o_toldGraph o_toldArc)), ((adA 1), .inl (gI (kG K), 5, .inl fvalues)), ((adA 3), .inl (gI (kG K), 80, .inl fcells)), ((adA 11), .inl (gZ (kG K), 160, .inl fisKnown)), ((adA 12), .inl (gI (kG K), 1280, .inl ftops)), ((adA 13), .inl (gI (kG K), 1280, .inl flows)), ((adA 14), .inl (gI (kG K), 320, .inl fsmall)), ((adA 15), .inl (gI (kG K), 320, .inl flarge)), ((adA 6), .inl (gI (kG K), 320, .inl fone)), ((adA 7), .inl (gI (kG K), 320, .inl ftwo)), ((adA 8), .inl (gI (kG K), 320, .inl frest)), ((adA 16), .inl (gI (kG K), 320, .inl ffactor)), ((adA 17), .inl (gI (kG K), 320, .inl fmade)), ((adA 18), .inl (gI (kG K), 320, .inl ftopA)), ((adA 19), .inl (gI (kG K), 320, .inl flowA)), ((adA 20), .inl (gI (kG K), 320, .inl ftopB)), ((adA 21), .inl (gI (kG K), 320, .inl flowB)), ((adA 22), .inl (gI (kG K), 320, .inl fleft)), ((adA 23), .inl (gI (kG K), 320, .inl fright))]) rfl rfl (by decide) ?_
    refine hrt (some (.int (-1))) _ _ _ _ _ (⟨rfl, rfl⟩) (Nat.zero_le _) (Nat.zero_le _) (dX11_climb_27)
  · replace h := it_f (g := id) h hc
    refine v_aload_n hk dX11_climb_8 rfl ?_
    refine v_iload_n hk dX11_climb_9 rfl ?_
    obtain ⟨r_2, er_2, h⟩ := bd_e (g := id) rfl h
    refine v_callV (n := 1) (st := []) (b := adm) (T := TX11) (N := 39) hk dX11_climb_10 (c_X11_isBounded (kl K) (kG K) adm adA o_names o_rows o_strength o_most o_toldGraph o_toldArc gr r_2 er_2) rfl gd_X11_climb_X11_isBounded rfl (by decide +kernel) (frok hR9 (Nat.le_of_ble_eq_true rfl) (Nat.le_of_ble_eq_true rfl)) (roomk hR9 (Nat.le_of_ble_eq_true rfl) (Nat.le_of_ble_eq_true rfl)) rfl rfl (Nat.le_of_ble_eq_true rfl) 18 rfl rfl [18] [0, 1, 2, 3, 4, 5, 6, 7, 8, 9, 10, 11, 12, 13, 14, 15, 16, 17] (wr := [((adA 1), .inl (gI (kG K), 5, .inl fvalues)), ((adA 3), .inl (gI (kG K), 80, .inl fcells)), ((adA 11), .inl (gZ (kG K), 160, .inl fisKnown)), ((adA 12), .inl (gI (kG K), 1280, .inl ftops)), ((adA 13), .inl (gI (kG K), 1280, .inl flows)), ((adA 14), .inl (gI (kG K), 320, .inl fsmall)), ((adA 15), .inl (gI (kG K), 320, .inl flarge)), ((adA 6), .inl (gI (kG K), 320, .inl fone)), ((adA 7), .inl (gI (kG K), 320, .inl ftwo)), ((adA 8), .inl (gI (kG K), 320, .inl frest)), ((adA 16), .inl (gI (kG K), 320, .inl ffactor)), ((adA 17), .inl (gI (kG K), 320, .inl fmade)), ((adA 18), .inl (gI (kG K), 320, .inl ftopA)), ((adA 19), .inl (gI (kG K), 320, .inl flowA)), ((adA 20), .inl (gI (kG K), 320, .inl ftopB)), ((adA 21), .inl (gI (kG K), 320, .inl flowB)), ((adA 22), .inl (gI (kG K), 320, .inl fleft)), ((adA 23), .inl (gI (kG K), 320, .inl fright))]) rfl rfl (by decide) (by decide) (by decide) ?_
    intro v9 w9 hp9
    obtain ⟨rfl, rfl⟩ := hp9
    show V K 11 [((adA 1), .inl (gI (kG K), 5, .inl fvalues)), ((adA 3), .inl (gI (kG K), 80, .inl fcells)), ((adA 11), .inl (gZ (kG K), 160, .inl fisKnown)), ((adA 12), .inl (gI (kG K), 1280, .inl ftops)), ((adA 13), .inl (gI (kG K), 1280, .inl flows)), ((adA 14), .inl (gI (kG K), 320, .inl fsmall)), ((adA 15), .inl (gI (kG K), 320, .inl flarge)), ((adA 6), .inl (gI (kG K), 320, .inl fone)), ((adA 7), .inl (gI (kG K), 320, .inl ftwo)), ((adA 8), .inl (gI (kG K), 320, .inl frest)), ((adA 16), .inl (gI (kG K), 320, .inl ffactor)), ((adA 17), .inl (gI (kG K), 320, .inl fmade)), ((adA 18), .inl (gI (kG K), 320, .inl ftopA)), ((adA 19), .inl (gI (kG K), 320, .inl flowA)), ((adA 20), .inl (gI (kG K), 320, .inl ftopB)), ((adA 21), .inl (gI (kG K), 320, .inl flowB)), ((adA 22), .inl (gI (kG K), 320, .inl fleft)), ((adA 23), .inl (gI (kG K), 320, .inl fright)), (adm, .inr (10, oM adA o_names o_rows o_strength o_most o_toldGraph o_toldArc))] 0 0 13 [(0, .ref adm), (1, .int gr), (2, .int steps)] [.int r_2]
    refine v_if_eq (tgt := 26) hk dX11_climb_13 (by decide) (fun hc => ?_) (fun hc => ?_)
    · replace h := it_t (g := id) h hc
      refine v_iconst (v := (-1)) hk dX11_climb_26 (by decide) ?_
      replace h : some ((-1), fisKnown, ftops, flows, fsmall, flarge, fone, ftwo, frest, ffactor, fmade, ftopA, flowA, ftopB, flowB, fleft, fright) = some r := h
      replace h := Option.some.inj h
      subst h
      refine v_perm [18, 0, 1, 2, 3, 4, 5, 6, 7, 8, 9, 10, 11, 12, 13, 14, 15, 16, 17] (ws' := [(adm, .inr (10, oM adA o_names o_rows o_strength o_most o_toldGraph o_toldArc)), ((adA 1), .inl (gI (kG K), 5, .inl fvalues)), ((adA 3), .inl (gI (kG K), 80, .inl fcells)), ((adA 11), .inl (gZ (kG K), 160, .inl fisKnown)), ((adA 12), .inl (gI (kG K), 1280, .inl ftops)), ((adA 13), .inl (gI (kG K), 1280, .inl flows)), ((adA 14), .inl (gI (kG K), 320, .inl fsmall)), ((adA 15), .inl (gI (kG K), 320, .inl flarge)), ((adA 6), .inl (gI (kG K), 320, .inl fone)), ((adA 7), .inl (gI (kG K), 320, .inl ftwo)), ((adA 8), .inl (gI (kG K), 320, .inl frest)), ((adA 16), .inl (gI (kG K), 320, .inl ffactor)), ((adA 17), .inl (gI (kG K), 320, .inl fmade)), ((adA 18), .inl (gI (kG K), 320, .inl ftopA)), ((adA 19), .inl (gI (kG K), 320, .inl flowA)), ((adA 20), .inl (gI (kG K), 320, .inl ftopB)), ((adA 21), .inl (gI (kG K), 320, .inl flowB)), ((adA 22), .inl (gI (kG K), 320, .inl fleft)), ((adA 23), .inl (gI (kG K), 320, .inl fright))]) rfl rfl (by decide) ?_
      refine hrt (some (.int (-1))) _ _ _ _ _ (⟨rfl, rfl⟩) (Nat.zero_le _) (Nat.zero_le _) (dX11_climb_27)
    · replace h := it_f (g := id) h hc
      refine v_iload_n hk dX11_climb_16 rfl ?_
      refine v_if_lt (tgt := 26) hk dX11_climb_17 (by decide) (fun hc => ?_) (fun hc => ?_)
      · replace h := it_t (g := id) h hc
        refine v_iconst (v := (-1)) hk dX11_climb_26 (by decide) ?_
        replace h : some ((-1), fisKnown, ftops, flows, fsmall, flarge, fone, ftwo, frest, ffactor, fmade, ftopA, flowA, ftopB, flowB, fleft, fright) = some r := h
        replace h := Option.some.inj h
        subst h
        refine v_perm [18, 0, 1, 2, 3, 4, 5, 6, 7, 8, 9, 10, 11, 12, 13, 14, 15, 16, 17] (ws' := [(adm, .inr (10, oM adA o_names o_rows o_strength o_most o_toldGraph o_toldArc)), ((adA 1), .inl (gI (kG K), 5, .inl fvalues)), ((adA 3), .inl (gI (kG K), 80, .inl fcells)), ((adA 11), .inl (gZ (kG K), 160, .inl fisKnown)), ((adA 12), .inl (gI (kG K), 1280, .inl ftops)), ((adA 13), .inl (gI (kG K), 1280, .inl flows)), ((adA 14), .inl (gI (kG K), 320, .inl fsmall)), ((adA 15), .inl (gI (kG K), 320, .inl flarge)), ((adA 6), .inl (gI (kG K), 320, .inl fone)), ((adA 7), .inl (gI (kG K), 320, .inl ftwo)), ((adA 8), .inl (gI (kG K), 320, .inl frest)), ((adA 16), .inl (gI (kG K), 320, .inl ffactor)), ((adA 17), .inl (gI (kG K), 320, .inl fmade)), ((adA 18), .inl (gI (kG K), 320, .inl ftopA)), ((adA 19), .inl (gI (kG K), 320, .inl flowA)), ((adA 20), .inl (gI (kG K), 320, .inl ftopB)), ((adA 21), .inl (gI (kG K), 320, .inl flowB)), ((adA 22), .inl (gI (kG K), 320, .inl fleft)), ((adA 23), .inl (gI (kG K), 320, .inl fright))]) rfl rfl (by decide) ?_
        refine hrt (some (.int (-1))) _ _ _ _ _ (⟨rfl, rfl⟩) (Nat.zero_le _) (Nat.zero_le _) (dX11_climb_27)
      · replace h := it_f (g := id) h hc
        refine v_iload_n hk dX11_climb_20 rfl ?_
        refine v_bipush (v := 30) hk dX11_climb_21 (by decide) ?_
        refine v_icmp_le (tgt := 28) hk dX11_climb_23 (by decide) (fun hc => ?_) (fun hc => ?_)
        · replace h := it_t (g := id) h hc
          refine v_iload_n hk dX11_climb_28 rfl ?_
          refine v_istore_n hk dX11_climb_29 rfl (by decide) [1, 2, 3, 0] (lv' := [(0, .ref adm), (1, .int gr), (2, .int steps), (3, .int gr)]) rfl ?_
          refine v_iconst (v := 1) hk dX11_climb_30 (by decide) ?_
          refine v_istore hk dX11_climb_31 (by decide) [1, 2, 3, 4, 0] (lv' := [(0, .ref adm), (1, .int gr), (2, .int steps), (3, .int gr), (4, .int 1)]) rfl ?_
          refine v_iconst (v := 0) hk dX11_climb_33 (by decide) ?_
          refine v_istore hk dX11_climb_34 (by decide) [1, 2, 3, 4, 5, 0] (lv' := [(0, .ref adm), (1, .int gr), (2, .int steps), (3, .int gr), (4, .int 1), (5, .int 0)]) rfl ?_
          obtain ⟨b_76, eb_76, h⟩ := bd_e (g := id) rfl h
          refine L_X11_climb_36 hk hR9 adm adA o_names o_rows o_strength o_most o_toldGraph o_toldArc fvalues fcells gr steps b_76 (fun q_75 eq_75 => ?_) FU gr 1 0 fisKnown ftops flows fsmall flarge fone ftwo frest ffactor fmade ftopA flowA ftopB flowB fleft fright eb_76
          · replace eq_75 := eq_75.symm
            subst eq_75
            refine v_iload_n hk dX11_climb_194 rfl ?_
            replace h : some (q_75.1, q_75.2.2.2.1, q_75.2.2.2.2.1, q_75.2.2.2.2.2.1, q_75.2.2.2.2.2.2.1, q_75.2.2.2.2.2.2.2.1, q_75.2.2.2.2.2.2.2.2.1, q_75.2.2.2.2.2.2.2.2.2.1, q_75.2.2.2.2.2.2.2.2.2.2.1, q_75.2.2.2.2.2.2.2.2.2.2.2.1, q_75.2.2.2.2.2.2.2.2.2.2.2.2.1, q_75.2.2.2.2.2.2.2.2.2.2.2.2.2.1, q_75.2.2.2.2.2.2.2.2.2.2.2.2.2.2.1, q_75.2.2.2.2.2.2.2.2.2.2.2.2.2.2.2.1, q_75.2.2.2.2.2.2.2.2.2.2.2.2.2.2.2.2.1, q_75.2.2.2.2.2.2.2.2.2.2.2.2.2.2.2.2.2.1, q_75.2.2.2.2.2.2.2.2.2.2.2.2.2.2.2.2.2.2) = some r := h
            replace h := Option.some.inj h
            subst h
            refine v_perm [18, 0, 1, 2, 3, 4, 5, 6, 7, 8, 9, 10, 11, 12, 13, 14, 15, 16, 17] (ws' := [(adm, .inr (10, oM adA o_names o_rows o_strength o_most o_toldGraph o_toldArc)), ((adA 1), .inl (gI (kG K), 5, .inl fvalues)), ((adA 3), .inl (gI (kG K), 80, .inl fcells)), ((adA 11), .inl (gZ (kG K), 160, .inl q_75.2.2.2.1)), ((adA 12), .inl (gI (kG K), 1280, .inl q_75.2.2.2.2.1)), ((adA 13), .inl (gI (kG K), 1280, .inl q_75.2.2.2.2.2.1)), ((adA 14), .inl (gI (kG K), 320, .inl q_75.2.2.2.2.2.2.1)), ((adA 15), .inl (gI (kG K), 320, .inl q_75.2.2.2.2.2.2.2.1)), ((adA 6), .inl (gI (kG K), 320, .inl q_75.2.2.2.2.2.2.2.2.1)), ((adA 7), .inl (gI (kG K), 320, .inl q_75.2.2.2.2.2.2.2.2.2.1)), ((adA 8), .inl (gI (kG K), 320, .inl q_75.2.2.2.2.2.2.2.2.2.2.1)), ((adA 16), .inl (gI (kG K), 320, .inl q_75.2.2.2.2.2.2.2.2.2.2.2.1)), ((adA 17), .inl (gI (kG K), 320, .inl q_75.2.2.2.2.2.2.2.2.2.2.2.2.1)), ((adA 18), .inl (gI (kG K), 320, .inl q_75.2.2.2.2.2.2.2.2.2.2.2.2.2.1)), ((adA 19), .inl (gI (kG K), 320, .inl q_75.2.2.2.2.2.2.2.2.2.2.2.2.2.2.1)), ((adA 20), .inl (gI (kG K), 320, .inl q_75.2.2.2.2.2.2.2.2.2.2.2.2.2.2.2.1)), ((adA 21), .inl (gI (kG K), 320, .inl q_75.2.2.2.2.2.2.2.2.2.2.2.2.2.2.2.2.1)), ((adA 22), .inl (gI (kG K), 320, .inl q_75.2.2.2.2.2.2.2.2.2.2.2.2.2.2.2.2.2.1)), ((adA 23), .inl (gI (kG K), 320, .inl q_75.2.2.2.2.2.2.2.2.2.2.2.2.2.2.2.2.2.2))]) rfl rfl (by decide) ?_
            refine hrt (some (.int q_75.1)) _ _ _ _ _ (⟨rfl, rfl⟩) (Nat.zero_le _) (Nat.zero_le _) (dX11_climb_195)
        · replace h := it_f (g := id) h hc
          refine v_iconst (v := (-1)) hk dX11_climb_26 (by decide) ?_
          replace h : some ((-1), fisKnown, ftops, flows, fsmall, flarge, fone, ftwo, frest, ffactor, fmade, ftopA, flowA, ftopB, flowB, fleft, fright) = some r := h
          replace h := Option.some.inj h
          subst h
          refine v_perm [18, 0, 1, 2, 3, 4, 5, 6, 7, 8, 9, 10, 11, 12, 13, 14, 15, 16, 17] (ws' := [(adm, .inr (10, oM adA o_names o_rows o_strength o_most o_toldGraph o_toldArc)), ((adA 1), .inl (gI (kG K), 5, .inl fvalues)), ((adA 3), .inl (gI (kG K), 80, .inl fcells)), ((adA 11), .inl (gZ (kG K), 160, .inl fisKnown)), ((adA 12), .inl (gI (kG K), 1280, .inl ftops)), ((adA 13), .inl (gI (kG K), 1280, .inl flows)), ((adA 14), .inl (gI (kG K), 320, .inl fsmall)), ((adA 15), .inl (gI (kG K), 320, .inl flarge)), ((adA 6), .inl (gI (kG K), 320, .inl fone)), ((adA 7), .inl (gI (kG K), 320, .inl ftwo)), ((adA 8), .inl (gI (kG K), 320, .inl frest)), ((adA 16), .inl (gI (kG K), 320, .inl ffactor)), ((adA 17), .inl (gI (kG K), 320, .inl fmade)), ((adA 18), .inl (gI (kG K), 320, .inl ftopA)), ((adA 19), .inl (gI (kG K), 320, .inl flowA)), ((adA 20), .inl (gI (kG K), 320, .inl ftopB)), ((adA 21), .inl (gI (kG K), 320, .inl flowB)), ((adA 22), .inl (gI (kG K), 320, .inl fleft)), ((adA 23), .inl (gI (kG K), 320, .inl fright))]) rfl rfl (by decide) ?_
          refine hrt (some (.int (-1))) _ _ _ _ _ (⟨rfl, rfl⟩) (Nat.zero_le _) (Nat.zero_le _) (dX11_climb_27)
abbrev rm_X11_alike : Room := { frames := 3, cells := 0, slots := 0, locals := 69 }
set_option maxHeartbeats 4000000 in
set_option maxRecDepth 100000 in
theorem c_X11_alike (l : Launch) (G : GG) (adm : Nat) (adA : Nat → Nat) (o_names : Int32) (o_rows : Int32) (o_strength : Int32) (o_most : Int32) (o_toldGraph : Int32) (o_toldArc : Int32) (gr : Int32) (ot : Int32) (r : Int32) (h : m_X11_alike o_names o_rows o_strength o_most o_toldGraph o_toldArc gr ot = some r) : Ctr l G yX11_alike w2_X11_alike rm_X11_alike [.ref adm, .int gr, .int ot] [(adm, .inr (10, oM adA o_names o_rows o_strength o_most o_toldGraph o_toldArc))] (fun v w => v = some (.int r) ∧ w = [(adm, .inr (10, oM adA o_names o_rows o_strength o_most o_toldGraph o_toldArc))]) := by
  refine ctr_entry (cc := cX11_alike) (maxL := 3) (ret := some .int) (lv0 := [(0, .ref adm), (1, .int gr), (2, .int ot)]) (by decide) rfl (Nat.le_of_ble_eq_true rfl) (rfl) ?_
  intro K hl9 hG9 hk hn9 hrt
  subst hl9
  subst hG9
  have hR9 : RoomGe rm_X11_alike rm_X11_alike := RoomGe.rf
  replace h := id_e h
  rw [em_X11_alike] at h
  refine v_aload_n hk dX11_alike_0 rfl ?_
  refine v_iload_n hk dX11_alike_1 rfl ?_
  obtain ⟨r_1, er_1, h⟩ := bd_e (g := id) rfl h
  refine v_callV (n := 1) (st := []) (b := adm) (T := TX11) (N := 39) hk dX11_alike_2 (c_X11_isGraph (kl K) (kG K) adm adA o_names o_rows o_strength o_most o_toldGraph o_toldArc gr r_1 er_1) rfl gd_X11_alike_X11_isGraph rfl (by decide +kernel) (frok hR9 (Nat.le_of_ble_eq_true rfl) (Nat.le_of_ble_eq_true rfl)) (roomk hR9 (Nat.le_of_ble_eq_true rfl) (Nat.le_of_ble_eq_true rfl)) rfl rfl (Nat.le_of_ble_eq_true rfl) 0 rfl rfl [0] [] (wr := []) rfl rfl (by decide) (by decide) (by decide) ?_
  intro v9 w9 hp9
  obtain ⟨rfl, rfl⟩ := hp9
  show V K 3 [(adm, .inr (10, oM adA o_names o_rows o_strength o_most o_toldGraph o_toldArc))] 0 0 5 [(0, .ref adm), (1, .int gr), (2, .int ot)] [.int r_1]
  refine v_if_eq (tgt := 16) hk dX11_alike_5 (by decide) (fun hc => ?_) (fun hc => ?_)
  · replace h := it_t (g := id) h hc
    refine v_iconst (v := (-1)) hk dX11_alike_16 (by decide) ?_
    refine v_goto (tgt := 33) hk dX11_alike_17 (by decide) ?_
    replace h : some (-1) = some r := h
    replace h := Option.some.inj h
    subst h
    refine hrt (some (.int (-1))) _ _ _ _ _ (⟨rfl, rfl⟩) (Nat.zero_le _) (Nat.zero_le _) (dX11_alike_33)
  · replace h := it_f (g := id) h hc
    refine v_aload_n hk dX11_alike_8 rfl ?_
    refine v_iload_n hk dX11_alike_9 rfl ?_
    obtain ⟨r_2, er_2, h⟩ := bd_e (g := id) rfl h
    refine v_callV (n := 1) (st := []) (b := adm) (T := TX11) (N := 39) hk dX11_alike_10 (c_X11_isGraph (kl K) (kG K) adm adA o_names o_rows o_strength o_most o_toldGraph o_toldArc ot r_2 er_2) rfl gd_X11_alike_X11_isGraph rfl (by decide +kernel) (frok hR9 (Nat.le_of_ble_eq_true rfl) (Nat.le_of_ble_eq_true rfl)) (roomk hR9 (Nat.le_of_ble_eq_true rfl) (Nat.le_of_ble_eq_true rfl)) rfl rfl (Nat.le_of_ble_eq_true rfl) 0 rfl rfl [0] [] (wr := []) rfl rfl (by decide) (by decide) (by decide) ?_
    intro v9 w9 hp9
    obtain ⟨rfl, rfl⟩ := hp9
    show V K 3 [(adm, .inr (10, oM adA o_names o_rows o_strength o_most o_toldGraph o_toldArc))] 0 0 13 [(0, .ref adm), (1, .int gr), (2, .int ot)] [.int r_2]
    refine v_if_ne (tgt := 20) hk dX11_alike_13 (by decide) (fun hc => ?_) (fun hc => ?_)
    · replace h := it_f (g := id) h hc
      refine v_iload_n hk dX11_alike_20 rfl ?_
      refine v_iload_n hk dX11_alike_21 rfl ?_
      obtain ⟨r_3, er_3, h⟩ := bd_e (g := id) rfl h
      refine v_callS (n := 2) (st := []) hk dX11_alike_22 (c_X11_isAlike (kl K) (kG K) gr ot r_3 er_3) gd_X11_alike_X11_isAlike rfl (by decide +kernel) (frok hR9 (Nat.le_of_ble_eq_true rfl) (Nat.le_of_ble_eq_true rfl)) (roomk hR9 (Nat.le_of_ble_eq_true rfl) (Nat.le_of_ble_eq_true rfl)) rfl rfl (Nat.le_of_ble_eq_true rfl) [] [0] (wr := [(adm, .inr (10, oM adA o_names o_rows o_strength o_most o_toldGraph o_toldArc))]) rfl rfl (by decide) (by decide) (by decide) ?_
      intro v9 w9 hp9
      obtain ⟨rfl, rfl⟩ := hp9
      show V K 3 [(adm, .inr (10, oM adA o_names o_rows o_strength o_most o_toldGraph o_toldArc))] 0 0 25 [(0, .ref adm), (1, .int gr), (2, .int ot)] [.int r_3]
      obtain ⟨z_4, ez_4, h⟩ := lt_e (g := id) h
      have Jz_4 : V K 3 [(adm, .inr (10, oM adA o_names o_rows o_strength o_most o_toldGraph o_toldArc))] 0 0 33 [(0, .ref adm), (1, .int gr), (2, .int ot)] (.int z_4 :: []) := by
        replace h : some z_4 = some r := h
        replace h := Option.some.inj h
        subst h
        refine hrt (some (.int z_4)) _ _ _ _ _ (⟨rfl, rfl⟩) (Nat.zero_le _) (Nat.zero_le _) (dX11_alike_33)
      refine v_if_eq (tgt := 32) hk dX11_alike_25 (by decide) (fun hc => ?_) (fun hc => ?_)
      · rw [if_pos hc] at ez_4
        subst ez_4
        refine v_iconst (v := 0) hk dX11_alike_32 (by decide) ?_
        exact Jz_4
      · rw [if_neg hc] at ez_4
        subst ez_4
        refine v_iconst (v := 1) hk dX11_alike_28 (by decide) ?_
        refine v_goto (tgt := 33) hk dX11_alike_29 (by decide) ?_
        exact Jz_4
    · replace h := it_t (g := id) h hc
      refine v_iconst (v := (-1)) hk dX11_alike_16 (by decide) ?_
      refine v_goto (tgt := 33) hk dX11_alike_17 (by decide) ?_
      replace h : some (-1) = some r := h
      replace h := Option.some.inj h
      subst h
      refine hrt (some (.int (-1))) _ _ _ _ _ (⟨rfl, rfl⟩) (Nat.zero_le _) (Nat.zero_le _) (dX11_alike_33)
abbrev rm_X11_kin : Room := { frames := 3, cells := 0, slots := 0, locals := 69 }
set_option maxHeartbeats 4000000 in
set_option maxRecDepth 100000 in
theorem L_X11_kin_36 {K : Cx} {R9 : Room} (hk : Ok K cX11_kin 11 RX11 w2_X11_kin R9) (hR9 : RoomGe R9 rm_X11_kin) (adm : Nat) (adA : Nat → Nat) (o_names : Int32) (o_rows : Int32) (o_strength : Int32) (o_most : Int32) (o_toldGraph : Int32) (o_toldArc : Int32) (gr : Int32) (what : Int32) (i4_3 : Int32) (b9 : (Int32 × Int32 × (Nat → Int32) × (Nat → Int32))) (kk0 : ∀ q9 : (Int32 × Int32 × (Nat → Int32) × (Nat → Int32)), b9 = q9 → V K 11 [((adA 27), .inl (gI (kG K), 10, .inl q9.2.2.1)), ((adA 28), .inl (gI (kG K), 10, .inl q9.2.2.2)), (adm, .inr (10, oM adA o_names o_rows o_strength o_most o_toldGraph o_toldArc))] 0 0 78 [(0, .ref adm), (1, .int gr), (2, .int what), (3, .int q9.1), (4, .int i4_3), (5, .int q9.2.1)] []) : ∀ (nn : Nat) (i3_7 : Int32) (i5_8 : Int32) (ffirst_9 : Nat → Int32) (fsecond_10 : Nat → Int32), lp (b_X11_kin_36 gr i4_3) nn (i3_7, i5_8, ffirst_9, fsecond_10) = some b9 → V K 11 [((adA 27), .inl (gI (kG K), 10, .inl ffirst_9)), ((adA 28), .inl (gI (kG K), 10, .inl fsecond_10)), (adm, .inr (10, oM adA o_names o_rows o_strength o_most o_toldGraph o_toldArc))] 0 0 36 [(0, .ref adm), (1, .int gr), (2, .int what), (3, .int i3_7), (4, .int i4_3), (5, .int i5_8)] [] := by
  intro nn
  induction nn with
  | zero => intro i3_7 i5_8 ffirst_9 fsecond_10 h; exact absurd h (by simp [lp])
  | succ nn ih =>
    intro i3_7 i5_8 ffirst_9 fsecond_10 h
    replace h := lp_s h
    rw [eb_X11_kin_36] at h
    refine v_iload hk dX11_kin_36 rfl ?_
    refine v_iconst (v := 5) hk dX11_kin_38 (by decide) ?_
    refine v_icmp_ge (tgt := 78) hk dX11_kin_39 (by decide) (fun hc => ?_) (fun hc => ?_)
    · replace h := it_t (g := (lpk (lp (b_X11_kin_36 gr i4_3) nn))) h hc
      replace h : some (i3_7, i5_8, ffirst_9, fsecond_10) = some b9 := h
      replace h := Option.some.inj h
      subst h
      exact kk0 _ rfl
    · replace h := it_f (g := (lpk (lp (b_X11_kin_36 gr i4_3) nn))) h hc
      refine v_iload_n hk dX11_kin_42 rfl ?_
      refine v_iload hk dX11_kin_43 rfl ?_
      refine v_iload hk dX11_kin_45 rfl ?_
      obtain ⟨r_11, er_11, h⟩ := bd_e (g := (lpk (lp (b_X11_kin_36 gr i4_3) nn))) rfl h
      refine v_callS (n := 3) (st := []) hk dX11_kin_47 (c_X11_touch (kl K) (kG K) gr i4_3 i5_8 r_11 er_11) gd_X11_kin_X11_touch rfl (by decide +kernel) (frok hR9 (Nat.le_of_ble_eq_true rfl) (Nat.le_of_ble_eq_true rfl)) (roomk hR9 (Nat.le_of_ble_eq_true rfl) (Nat.le_of_ble_eq_true rfl)) rfl rfl (Nat.le_of_ble_eq_true rfl) [] [0, 1, 2] (wr := [((adA 27), .inl (gI (kG K), 10, .inl ffirst_9)), ((adA 28), .inl (gI (kG K), 10, .inl fsecond_10)), (adm, .inr (10, oM adA o_names o_rows o_strength o_most o_toldGraph o_toldArc))]) rfl rfl (by decide) (by decide) (by decide) ?_
      intro v9 w9 hp9
      obtain ⟨rfl, rfl⟩ := hp9
      show V K 11 [((adA 27), .inl (gI (kG K), 10, .inl ffirst_9)), ((adA 28), .inl (gI (kG K), 10, .inl fsecond_10)), (adm, .inr (10, oM adA o_names o_rows o_strength o_most o_toldGraph o_toldArc))] 0 0 50 [(0, .ref adm), (1, .int gr), (2, .int what), (3, .int i3_7), (4, .int i4_3), (5, .int i5_8)] [.int r_11]
      refine v_if_eq (tgt := 72) hk dX11_kin_50 (by decide) (fun hc => ?_) (fun hc => ?_)
      · replace h := it_t (g := (lpk (lp (b_X11_kin_36 gr i4_3) nn))) h hc
        obtain ⟨x5_12, ex5_12, h⟩ := lt_e (g := (lpk (lp (b_X11_kin_36 gr i4_3) nn))) h
        refine v_iinc (v := x5_12) hk dX11_kin_72 rfl (by rw [ex5_12]; rfl) (by decide) [1, 2, 3, 4, 5, 0] (lv' := [(0, .ref adm), (1, .int gr), (2, .int what), (3, .int i3_7), (4, .int i4_3), (5, .int x5_12)]) rfl ?_
        refine v_goto (tgt := 36) hk dX11_kin_75 (by decide) ?_
        exact ih i3_7 x5_12 ffirst_9 fsecond_10 h
      · replace h := it_f (g := (lpk (lp (b_X11_kin_36 gr i4_3) nn))) h hc
        refine v_aload_n hk dX11_kin_53 rfl ?_
        refine v_get (C := RX11) (T := TX11) (N := 39) (ci := 10) (v := .ref (adA 27)) hk dX11_kin_54 w2i_X11_kin_X110 2 rfl rfl 27 (by decide) (by decide +kernel) rfl rfl ?_
        refine v_iload_n hk dX11_kin_57 rfl ?_
        refine v_iload hk dX11_kin_58 rfl ?_
        obtain ⟨hi, h⟩ := ok_e (g := (lpk (lp (b_X11_kin_36 gr i4_3) nn))) rfl h
        obtain ⟨ffirst_13, effirst_13, h⟩ := lt_e (g := (lpk (lp (b_X11_kin_36 gr i4_3) nn))) h
        refine v_iastV hk dX11_kin_60 0 rfl (ix_in hi) (ws' := [((adA 27), .inl (gI (kG K), 10, .inl ffirst_13)), ((adA 28), .inl (gI (kG K), 10, .inl fsecond_10)), (adm, .inr (10, oM adA o_names o_rows o_strength o_most o_toldGraph o_toldArc))]) (by rw [effirst_13]; rfl) ?_
        refine v_aload_n hk dX11_kin_61 rfl ?_
        refine v_get (C := RX11) (T := TX11) (N := 39) (ci := 10) (v := .ref (adA 28)) hk dX11_kin_62 w2i_X11_kin_X110 2 rfl rfl 28 (by decide) (by decide +kernel) rfl rfl ?_
        refine v_iload_n hk dX11_kin_65 rfl ?_
        refine v_iload hk dX11_kin_66 rfl ?_
        obtain ⟨hi, h⟩ := ok_e (g := (lpk (lp (b_X11_kin_36 gr i4_3) nn))) rfl h
        obtain ⟨fsecond_14, efsecond_14, h⟩ := lt_e (g := (lpk (lp (b_X11_kin_36 gr i4_3) nn))) h
        refine v_iastV hk dX11_kin_68 1 rfl (ix_in hi) (ws' := [((adA 27), .inl (gI (kG K), 10, .inl ffirst_13)), ((adA 28), .inl (gI (kG K), 10, .inl fsecond_14)), (adm, .inr (10, oM adA o_names o_rows o_strength o_most o_toldGraph o_toldArc))]) (by rw [efsecond_14]; rfl) ?_
        obtain ⟨x3_15, ex3_15, h⟩ := lt_e (g := (lpk (lp (b_X11_kin_36 gr i4_3) nn))) h
        refine v_iinc (v := x3_15) hk dX11_kin_69 rfl (by rw [ex3_15]; rfl) (by decide) [1, 2, 3, 0, 4, 5] (lv' := [(0, .ref adm), (1, .int gr), (2, .int what), (3, .int x3_15), (4, .int i4_3), (5, .int i5_8)]) rfl ?_
        obtain ⟨x5_16, ex5_16, h⟩ := lt_e (g := (lpk (lp (b_X11_kin_36 gr i4_3) nn))) h
        refine v_iinc (v := x5_16) hk dX11_kin_72 rfl (by rw [ex5_16]; rfl) (by decide) [1, 2, 3, 4, 5, 0] (lv' := [(0, .ref adm), (1, .int gr), (2, .int what), (3, .int x3_15), (4, .int i4_3), (5, .int x5_16)]) rfl ?_
        refine v_goto (tgt := 36) hk dX11_kin_75 (by decide) ?_
        exact ih x3_15 x5_16 ffirst_13 fsecond_14 h
set_option maxHeartbeats 4000000 in
set_option maxRecDepth 100000 in
theorem L_X11_kin_24 {K : Cx} {R9 : Room} (hk : Ok K cX11_kin 11 RX11 w2_X11_kin R9) (hR9 : RoomGe R9 rm_X11_kin) (adm : Nat) (adA : Nat → Nat) (o_names : Int32) (o_rows : Int32) (o_strength : Int32) (o_most : Int32) (o_toldGraph : Int32) (o_toldArc : Int32) (gr : Int32) (what : Int32) (b9 : (Int32 × Int32 × (Nat → Int32) × (Nat → Int32))) (kk0 : ∀ q9 : (Int32 × Int32 × (Nat → Int32) × (Nat → Int32)), b9 = q9 → V K 11 [((adA 27), .inl (gI (kG K), 10, .inl q9.2.2.1)), ((adA 28), .inl (gI (kG K), 10, .inl q9.2.2.2)), (adm, .inr (10, oM adA o_names o_rows o_strength o_most o_toldGraph o_toldArc))] 0 0 84 [(0, .ref adm), (1, .int gr), (2, .int what), (3, .int q9.1), (4, .int q9.2.1)] []) : ∀ (nn : Nat) (i3_2 : Int32) (i4_3 : Int32) (ffirst_4 : Nat → Int32) (fsecond_5 : Nat → Int32), lp (b_X11_kin_24 gr) nn (i3_2, i4_3, ffirst_4, fsecond_5) = some b9 → V K 11 [((adA 27), .inl (gI (kG K), 10, .inl ffirst_4)), ((adA 28), .inl (gI (kG K), 10, .inl fsecond_5)), (adm, .inr (10, oM adA o_names o_rows o_strength o_most o_toldGraph o_toldArc))] 0 0 24 [(0, .ref adm), (1, .int gr), (2, .int what), (3, .int i3_2), (4, .int i4_3)] [] := by
  intro nn
  induction nn with
  | zero => intro i3_2 i4_3 ffirst_4 fsecond_5 h; exact absurd h (by simp [lp])
  | succ nn ih =>
    intro i3_2 i4_3 ffirst_4 fsecond_5 h
    replace h := lp_s h
    rw [eb_X11_kin_24] at h
    refine v_iload hk dX11_kin_24 rfl ?_
    refine v_iconst (v := 5) hk dX11_kin_26 (by decide) ?_
    refine v_icmp_ge (tgt := 84) hk dX11_kin_27 (by decide) (fun hc => ?_) (fun hc => ?_)
    · replace h := it_t (g := (lpk (lp (b_X11_kin_24 gr) nn))) h hc
      replace h : some (i3_2, i4_3, ffirst_4, fsecond_5) = some b9 := h
      replace h := Option.some.inj h
      subst h
      exact kk0 _ rfl
    · replace h := it_f (g := (lpk (lp (b_X11_kin_24 gr) nn))) h hc
      refine v_iload hk dX11_kin_30 rfl ?_
      refine v_iconst (v := 1) hk dX11_kin_32 (by decide) ?_
      refine v_iadd hk dX11_kin_33 ?_
      obtain ⟨x5_6, ex5_6, h⟩ := lt_e (g := (lpk (lp (b_X11_kin_24 gr) nn))) h
      refine v_topi ex5_6.symm ?_
      refine v_istore hk dX11_kin_34 (by decide) [1, 2, 3, 4, 5, 0] (lv' := [(0, .ref adm), (1, .int gr), (2, .int what), (3, .int i3_2), (4, .int i4_3), (5, .int x5_6)]) rfl ?_
      obtain ⟨b_19, eb_19, h⟩ := bd_e (g := (lpk (lp (b_X11_kin_24 gr) nn))) rfl h
      refine L_X11_kin_36 hk hR9 adm adA o_names o_rows o_strength o_most o_toldGraph o_toldArc gr what i4_3 b_19 (fun q_17 eq_17 => ?_) FU i3_2 x5_6 ffirst_4 fsecond_5 eb_19
      · replace eq_17 := eq_17.symm
        subst eq_17
        obtain ⟨x4_18, ex4_18, h⟩ := lt_e (g := (lpk (lp (b_X11_kin_24 gr) nn))) h
        refine v_iinc (v := x4_18) hk dX11_kin_78 rfl (by rw [ex4_18]; rfl) (by decide) [1, 2, 3, 4, 0, 5] (lv' := [(0, .ref adm), (1, .int gr), (2, .int what), (3, .int q_17.1), (4, .int x4_18), (5, .int q_17.2.1)]) rfl ?_
        refine v_goto (tgt := 24) hk dX11_kin_81 (by decide) ?_
        refine v_loc [0, 1, 2, 3, 4] (lv' := [(0, .ref adm), (1, .int gr), (2, .int what), (3, .int q_17.1), (4, .int x4_18)]) rfl ?_
        exact ih q_17.1 x4_18 q_17.2.2.1 q_17.2.2.2 h
set_option maxHeartbeats 4000000 in
set_option maxRecDepth 100000 in
theorem L_X11_kin_116 {K : Cx} {R9 : Room} (hk : Ok K cX11_kin 11 RX11 w2_X11_kin R9) (hR9 : RoomGe R9 rm_X11_kin) (adm : Nat) (adA : Nat → Nat) (o_names : Int32) (o_rows : Int32) (o_strength : Int32) (o_most : Int32) (o_toldGraph : Int32) (o_toldArc : Int32) (gr : Int32) (what : Int32) (q_20 : Int32 × Int32 × (Nat → Int32) × (Nat → Int32)) (i4_21 : Int32) (i5_22 : Int32) (i6_23 : Int32) (i7_24 : Int32) (i8_25 : Int32) (b9 : (Int32 × Int32)) (kk0 : ∀ q9 : (Int32 × Int32), b9 = q9 → V K 11 [((adA 27), .inl (gI (kG K), 10, .inl q_20.2.2.1)), ((adA 28), .inl (gI (kG K), 10, .inl q_20.2.2.2)), (adm, .inr (10, oM adA o_names o_rows o_strength o_most o_toldGraph o_toldArc))] 0 0 182 [(0, .ref adm), (1, .int gr), (2, .int what), (3, .int q_20.1), (4, .int i4_21), (5, .int i5_22), (6, .int i6_23), (7, .int i7_24), (8, .int i8_25), (9, .int q9.1), (10, .int q9.2)] []) : ∀ (nn : Nat) (i9_26 : Int32) (i10_27 : Int32), lp (b_X11_kin_116 q_20 i8_25) nn (i9_26, i10_27) = some b9 → V K 11 [((adA 27), .inl (gI (kG K), 10, .inl q_20.2.2.1)), ((adA 28), .inl (gI (kG K), 10, .inl q_20.2.2.2)), (adm, .inr (10, oM adA o_names o_rows o_strength o_most o_toldGraph o_toldArc))] 0 0 116 [(0, .ref adm), (1, .int gr), (2, .int what), (3, .int q_20.1), (4, .int i4_21), (5, .int i5_22), (6, .int i6_23), (7, .int i7_24), (8, .int i8_25), (9, .int i9_26), (10, .int i10_27)] [] := by
  intro nn
  induction nn with
  | zero => intro i9_26 i10_27 h; exact absurd h (by simp [lp])
  | succ nn ih =>
    intro i9_26 i10_27 h
    replace h := lp_s h
    rw [eb_X11_kin_116] at h
    refine v_iload hk dX11_kin_116 rfl ?_
    refine v_iload_n hk dX11_kin_118 rfl ?_
    refine v_icmp_ge (tgt := 182) hk dX11_kin_119 (by decide) (fun hc => ?_) (fun hc => ?_)
    · replace h := it_t (g := (lpk (lp (b_X11_kin_116 q_20 i8_25) nn))) h hc
      replace h : some (i9_26, i10_27) = some b9 := h
      replace h := Option.some.inj h
      subst h
      exact kk0 _ rfl
    · replace h := it_f (g := (lpk (lp (b_X11_kin_116 q_20 i8_25) nn))) h hc
      refine v_iload hk dX11_kin_122 rfl ?_
      refine v_iconst (v := 1) hk dX11_kin_124 (by decide) ?_
      refine v_iload hk dX11_kin_125 rfl ?_
      refine v_iload hk dX11_kin_127 rfl ?_
      refine v_ishr hk dX11_kin_129 ?_
      refine v_iconst (v := 1) hk dX11_kin_130 (by decide) ?_
      refine v_iand hk dX11_kin_131 ?_
      obtain ⟨y_29, ey_29, h⟩ := bd_e (g := (lpk (lp (b_X11_kin_116 q_20 i8_25) nn))) rfl h
      have Jy_29 : V K 11 [((adA 27), .inl (gI (kG K), 10, .inl q_20.2.2.1)), ((adA 28), .inl (gI (kG K), 10, .inl q_20.2.2.2)), (adm, .inr (10, oM adA o_names o_rows o_strength o_most o_toldGraph o_toldArc))] 0 0 172 [(0, .ref adm), (1, .int gr), (2, .int what), (3, .int q_20.1), (4, .int i4_21), (5, .int i5_22), (6, .int i6_23), (7, .int i7_24), (8, .int i8_25), (9, .int i9_26), (10, .int i10_27)] [.int y_29, .int 1, .int i9_26] := by
        refine v_ishl hk dX11_kin_172 ?_
        refine v_ior hk dX11_kin_173 ?_
        obtain ⟨x9_30, ex9_30, h⟩ := lt_e (g := (lpk (lp (b_X11_kin_116 q_20 i8_25) nn))) h
        refine v_topi ex9_30.symm ?_
        refine v_istore hk dX11_kin_174 (by decide) [1, 2, 3, 4, 5, 6, 7, 8, 9, 0, 10] (lv' := [(0, .ref adm), (1, .int gr), (2, .int what), (3, .int q_20.1), (4, .int i4_21), (5, .int i5_22), (6, .int i6_23), (7, .int i7_24), (8, .int i8_25), (9, .int x9_30), (10, .int i10_27)]) rfl ?_
        obtain ⟨x10_31, ex10_31, h⟩ := lt_e (g := (lpk (lp (b_X11_kin_116 q_20 i8_25) nn))) h
        refine v_iinc (v := x10_31) hk dX11_kin_176 rfl (by rw [ex10_31]; rfl) (by decide) [1, 2, 3, 4, 5, 6, 7, 8, 9, 10, 0] (lv' := [(0, .ref adm), (1, .int gr), (2, .int what), (3, .int q_20.1), (4, .int i4_21), (5, .int i5_22), (6, .int i6_23), (7, .int i7_24), (8, .int i8_25), (9, .int x9_30), (10, .int x10_31)]) rfl ?_
        refine v_goto (tgt := 116) hk dX11_kin_179 (by decide) ?_
        exact ih x9_30 x10_31 h
      clear h
      have h := id_e ey_29
      clear ey_29
      refine v_if_ne (tgt := 155) hk dX11_kin_132 (by decide) (fun hc => ?_) (fun hc => ?_)
      · replace h := it_f (g := id) h hc
        refine v_iconst (v := 5) hk dX11_kin_155 (by decide) ?_
        refine v_aload_n hk dX11_kin_156 rfl ?_
        refine v_get (C := RX11) (T := TX11) (N := 39) (ci := 10) (v := .ref (adA 28)) hk dX11_kin_157 w2i_X11_kin_X110 2 rfl rfl 28 (by decide) (by decide +kernel) rfl rfl ?_
        refine v_iload hk dX11_kin_160 rfl ?_
        obtain ⟨hi, h⟩ := ok_e (g := id) rfl h
        refine v_ialdV hk dX11_kin_162 1 rfl (ix_in hi) ?_
        refine v_imul hk dX11_kin_163 ?_
        refine v_aload_n hk dX11_kin_164 rfl ?_
        refine v_get (C := RX11) (T := TX11) (N := 39) (ci := 10) (v := .ref (adA 27)) hk dX11_kin_165 w2i_X11_kin_X110 2 rfl rfl 27 (by decide) (by decide +kernel) rfl rfl ?_
        refine v_iload hk dX11_kin_168 rfl ?_
        obtain ⟨hi, h⟩ := ok_e (g := id) rfl h
        refine v_ialdV hk dX11_kin_170 0 rfl (ix_in hi) ?_
        refine v_iadd hk dX11_kin_171 ?_
        replace h : some ((5 * (q_20.2.2.2 i10_27.toNatClampNeg)) + (q_20.2.2.1 i10_27.toNatClampNeg) : Int32) = some y_29 := h
        replace h := Option.some.inj h
        subst h
        exact Jy_29
      · replace h := it_t (g := id) h hc
        refine v_iconst (v := 5) hk dX11_kin_135 (by decide) ?_
        refine v_aload_n hk dX11_kin_136 rfl ?_
        refine v_get (C := RX11) (T := TX11) (N := 39) (ci := 10) (v := .ref (adA 27)) hk dX11_kin_137 w2i_X11_kin_X110 2 rfl rfl 27 (by decide) (by decide +kernel) rfl rfl ?_
        refine v_iload hk dX11_kin_140 rfl ?_
        obtain ⟨hi, h⟩ := ok_e (g := id) rfl h
        refine v_ialdV hk dX11_kin_142 0 rfl (ix_in hi) ?_
        refine v_imul hk dX11_kin_143 ?_
        refine v_aload_n hk dX11_kin_144 rfl ?_
        refine v_get (C := RX11) (T := TX11) (N := 39) (ci := 10) (v := .ref (adA 28)) hk dX11_kin_145 w2i_X11_kin_X110 2 rfl rfl 28 (by decide) (by decide +kernel) rfl rfl ?_
        refine v_iload hk dX11_kin_148 rfl ?_
        obtain ⟨hi, h⟩ := ok_e (g := id) rfl h
        refine v_ialdV hk dX11_kin_150 1 rfl (ix_in hi) ?_
        refine v_iadd hk dX11_kin_151 ?_
        refine v_goto (tgt := 172) hk dX11_kin_152 (by decide) ?_
        replace h : some ((5 * (q_20.2.2.1 i10_27.toNatClampNeg)) + (q_20.2.2.2 i10_27.toNatClampNeg) : Int32) = some y_29 := h
        replace h := Option.some.inj h
        subst h
        exact Jy_29
set_option maxHeartbeats 4000000 in
set_option maxRecDepth 100000 in
theorem L_X11_kin_102 {K : Cx} {R9 : Room} (hk : Ok K cX11_kin 11 RX11 w2_X11_kin R9) (hR9 : RoomGe R9 rm_X11_kin) (adm : Nat) (adA : Nat → Nat) (o_names : Int32) (o_rows : Int32) (o_strength : Int32) (o_most : Int32) (o_toldGraph : Int32) (o_toldArc : Int32) (gr : Int32) (what : Int32) (q_20 : Int32 × Int32 × (Nat → Int32) × (Nat → Int32)) (b9 : (Int32 × Int32 × Int32 × Int32 × Int32)) (kk0 : ∀ q9 : (Int32 × Int32 × Int32 × Int32 × Int32), b9 = q9 → V K 11 [((adA 27), .inl (gI (kG K), 10, .inl q_20.2.2.1)), ((adA 28), .inl (gI (kG K), 10, .inl q_20.2.2.2)), (adm, .inr (10, oM adA o_names o_rows o_strength o_most o_toldGraph o_toldArc))] 0 0 248 [(0, .ref adm), (1, .int gr), (2, .int what), (3, .int q_20.1), (4, .int q9.1), (5, .int q9.2.1), (6, .int q9.2.2.1), (7, .int q9.2.2.2.1), (8, .int q9.2.2.2.2)] []) : ∀ (nn : Nat) (i4_21 : Int32) (i5_22 : Int32) (i6_23 : Int32) (i7_24 : Int32) (i8_25 : Int32), lp (b_X11_kin_102 o_names o_rows o_strength o_most o_toldGraph o_toldArc gr q_20) nn (i4_21, i5_22, i6_23, i7_24, i8_25) = some b9 → V K 11 [((adA 27), .inl (gI (kG K), 10, .inl q_20.2.2.1)), ((adA 28), .inl (gI (kG K), 10, .inl q_20.2.2.2)), (adm, .inr (10, oM adA o_names o_rows o_strength o_most o_toldGraph o_toldArc))] 0 0 102 [(0, .ref adm), (1, .int gr), (2, .int what), (3, .int q_20.1), (4, .int i4_21), (5, .int i5_22), (6, .int i6_23), (7, .int i7_24), (8, .int i8_25)] [] := by
  intro nn
  induction nn with
  | zero => intro i4_21 i5_22 i6_23 i7_24 i8_25 h; exact absurd h (by simp [lp])
  | succ nn ih =>
    intro i4_21 i5_22 i6_23 i7_24 i8_25 h
    replace h := lp_s h
    rw [eb_X11_kin_102] at h
    refine v_iload hk dX11_kin_102 rfl ?_
    refine v_iconst (v := 1) hk dX11_kin_104 (by decide) ?_
    refine v_iload_n hk dX11_kin_105 rfl ?_
    refine v_ishl hk dX11_kin_106 ?_
    refine v_icmp_ge (tgt := 248) hk dX11_kin_107 (by decide) (fun hc => ?_) (fun hc => ?_)
    · replace h := it_t (g := (lpk (lp (b_X11_kin_102 o_names o_rows o_strength o_most o_toldGraph o_toldArc gr q_20) nn))) h hc
      replace h : some (i4_21, i5_22, i6_23, i7_24, i8_25) = some b9 := h
      replace h := Option.some.inj h
      subst h
      exact kk0 _ rfl
    · replace h := it_f (g := (lpk (lp (b_X11_kin_102 o_names o_rows o_strength o_most o_toldGraph o_toldArc gr q_20) nn))) h hc
      refine v_iconst (v := 0) hk dX11_kin_110 (by decide) ?_
      refine v_istore hk dX11_kin_111 (by decide) [1, 2, 3, 4, 5, 6, 7, 8, 9, 0] (lv' := [(0, .ref adm), (1, .int gr), (2, .int what), (3, .int q_20.1), (4, .int i4_21), (5, .int i5_22), (6, .int i6_23), (7, .int i7_24), (8, .int i8_25), (9, .int 0)]) rfl ?_
      refine v_iconst (v := 0) hk dX11_kin_113 (by decide) ?_
      refine v_istore hk dX11_kin_114 (by decide) [1, 2, 3, 4, 5, 6, 7, 8, 9, 10, 0] (lv' := [(0, .ref adm), (1, .int gr), (2, .int what), (3, .int q_20.1), (4, .int i4_21), (5, .int i5_22), (6, .int i6_23), (7, .int i7_24), (8, .int i8_25), (9, .int 0), (10, .int 0)]) rfl ?_
      obtain ⟨b_42, eb_42, h⟩ := bd_e (g := (lpk (lp (b_X11_kin_102 o_names o_rows o_strength o_most o_toldGraph o_toldArc gr q_20) nn))) rfl h
      refine L_X11_kin_116 hk hR9 adm adA o_names o_rows o_strength o_most o_toldGraph o_toldArc gr what q_20 i4_21 i5_22 i6_23 i7_24 i8_25 b_42 (fun q_32 eq_32 => ?_) FU 0 0 eb_42
      · replace eq_32 := eq_32.symm
        subst eq_32
        refine v_aload_n hk dX11_kin_182 rfl ?_
        refine v_iload hk dX11_kin_183 rfl ?_
        obtain ⟨r_33, er_33, h⟩ := bd_e (g := (lpk (lp (b_X11_kin_102 o_names o_rows o_strength o_most o_toldGraph o_toldArc gr q_20) nn))) rfl h
        refine v_callV (n := 1) (st := []) (b := adm) (T := TX11) (N := 39) hk dX11_kin_185 (c_X11_isGraph (kl K) (kG K) adm adA o_names o_rows o_strength o_most o_toldGraph o_toldArc q_32.1 r_33 er_33) rfl gd_X11_kin_X11_isGraph rfl (by decide +kernel) (frok hR9 (Nat.le_of_ble_eq_true rfl) (Nat.le_of_ble_eq_true rfl)) (roomk hR9 (Nat.le_of_ble_eq_true rfl) (Nat.le_of_ble_eq_true rfl)) rfl rfl (Nat.le_of_ble_eq_true rfl) 2 rfl rfl [2] [0, 1] (wr := [((adA 27), .inl (gI (kG K), 10, .inl q_20.2.2.1)), ((adA 28), .inl (gI (kG K), 10, .inl q_20.2.2.2))]) rfl rfl (by decide) (by decide) (by decide) ?_
        intro v9 w9 hp9
        obtain ⟨rfl, rfl⟩ := hp9
        show V K 11 [((adA 27), .inl (gI (kG K), 10, .inl q_20.2.2.1)), ((adA 28), .inl (gI (kG K), 10, .inl q_20.2.2.2)), (adm, .inr (10, oM adA o_names o_rows o_strength o_most o_toldGraph o_toldArc))] 0 0 188 [(0, .ref adm), (1, .int gr), (2, .int what), (3, .int q_20.1), (4, .int i4_21), (5, .int i5_22), (6, .int i6_23), (7, .int i7_24), (8, .int i8_25), (9, .int q_32.1), (10, .int q_32.2)] [.int r_33]
        refine v_if_eq (tgt := 242) hk dX11_kin_188 (by decide) (fun hc => ?_) (fun hc => ?_)
        · replace h := it_t (g := (lpk (lp (b_X11_kin_102 o_names o_rows o_strength o_most o_toldGraph o_toldArc gr q_20) nn))) h hc
          obtain ⟨x8_34, ex8_34, h⟩ := lt_e (g := (lpk (lp (b_X11_kin_102 o_names o_rows o_strength o_most o_toldGraph o_toldArc gr q_20) nn))) h
          refine v_iinc (v := x8_34) hk dX11_kin_242 rfl (by rw [ex8_34]; rfl) (by decide) [1, 2, 3, 4, 5, 6, 7, 8, 0, 9, 10] (lv' := [(0, .ref adm), (1, .int gr), (2, .int what), (3, .int q_20.1), (4, .int i4_21), (5, .int i5_22), (6, .int i6_23), (7, .int i7_24), (8, .int x8_34), (9, .int q_32.1), (10, .int q_32.2)]) rfl ?_
          refine v_goto (tgt := 102) hk dX11_kin_245 (by decide) ?_
          refine v_loc [0, 1, 2, 3, 4, 5, 6, 7, 8] (lv' := [(0, .ref adm), (1, .int gr), (2, .int what), (3, .int q_20.1), (4, .int i4_21), (5, .int i5_22), (6, .int i6_23), (7, .int i7_24), (8, .int x8_34)]) rfl ?_
          exact ih i4_21 i5_22 i6_23 i7_24 x8_34 h
        · replace h := it_f (g := (lpk (lp (b_X11_kin_102 o_names o_rows o_strength o_most o_toldGraph o_toldArc gr q_20) nn))) h hc
          refine v_iload_n hk dX11_kin_191 rfl ?_
          refine v_iload hk dX11_kin_192 rfl ?_
          obtain ⟨r_35, er_35, h⟩ := bd_e (g := (lpk (lp (b_X11_kin_102 o_names o_rows o_strength o_most o_toldGraph o_toldArc gr q_20) nn))) rfl h
          refine v_callS (n := 2) (st := []) hk dX11_kin_194 (c_X11_isAlike (kl K) (kG K) gr q_32.1 r_35 er_35) gd_X11_kin_X11_isAlike rfl (by decide +kernel) (frok hR9 (Nat.le_of_ble_eq_true rfl) (Nat.le_of_ble_eq_true rfl)) (roomk hR9 (Nat.le_of_ble_eq_true rfl) (Nat.le_of_ble_eq_true rfl)) rfl rfl (Nat.le_of_ble_eq_true rfl) [] [0, 1, 2] (wr := [((adA 27), .inl (gI (kG K), 10, .inl q_20.2.2.1)), ((adA 28), .inl (gI (kG K), 10, .inl q_20.2.2.2)), (adm, .inr (10, oM adA o_names o_rows o_strength o_most o_toldGraph o_toldArc))]) rfl rfl (by decide) (by decide) (by decide) ?_
          intro v9 w9 hp9
          obtain ⟨rfl, rfl⟩ := hp9
          show V K 11 [((adA 27), .inl (gI (kG K), 10, .inl q_20.2.2.1)), ((adA 28), .inl (gI (kG K), 10, .inl q_20.2.2.2)), (adm, .inr (10, oM adA o_names o_rows o_strength o_most o_toldGraph o_toldArc))] 0 0 197 [(0, .ref adm), (1, .int gr), (2, .int what), (3, .int q_20.1), (4, .int i4_21), (5, .int i5_22), (6, .int i6_23), (7, .int i7_24), (8, .int i8_25), (9, .int q_32.1), (10, .int q_32.2)] [.int r_35]
          obtain ⟨y_36, ey_36, h⟩ := bd_e (g := (lpk (lp (b_X11_kin_102 o_names o_rows o_strength o_most o_toldGraph o_toldArc gr q_20) nn))) rfl h
          have Jy_36 : V K 11 [((adA 27), .inl (gI (kG K), 10, .inl q_20.2.2.1)), ((adA 28), .inl (gI (kG K), 10, .inl q_20.2.2.2)), (adm, .inr (10, oM adA o_names o_rows o_strength o_most o_toldGraph o_toldArc))] 0 0 242 [(0, .ref adm), (1, .int gr), (2, .int what), (3, .int q_20.1), (4, .int y_36.1), (5, .int y_36.2.1), (6, .int y_36.2.2.1), (7, .int y_36.2.2.2), (8, .int i8_25), (9, .int q_32.1), (10, .int q_32.2)] [] := by
            obtain ⟨x8_37, ex8_37, h⟩ := lt_e (g := (lpk (lp (b_X11_kin_102 o_names o_rows o_strength o_most o_toldGraph o_toldArc gr q_20) nn))) h
            refine v_iinc (v := x8_37) hk dX11_kin_242 rfl (by rw [ex8_37]; rfl) (by decide) [1, 2, 3, 4, 5, 6, 7, 8, 0, 9, 10] (lv' := [(0, .ref adm), (1, .int gr), (2, .int what), (3, .int q_20.1), (4, .int y_36.1), (5, .int y_36.2.1), (6, .int y_36.2.2.1), (7, .int y_36.2.2.2), (8, .int x8_37), (9, .int q_32.1), (10, .int q_32.2)]) rfl ?_
            refine v_goto (tgt := 102) hk dX11_kin_245 (by decide) ?_
            refine v_loc [0, 1, 2, 3, 4, 5, 6, 7, 8] (lv' := [(0, .ref adm), (1, .int gr), (2, .int what), (3, .int q_20.1), (4, .int y_36.1), (5, .int y_36.2.1), (6, .int y_36.2.2.1), (7, .int y_36.2.2.2), (8, .int x8_37)]) rfl ?_
            exact ih y_36.1 y_36.2.1 y_36.2.2.1 y_36.2.2.2 x8_37 h
          clear h
          have h := id_e ey_36
          clear ey_36
          refine v_if_eq (tgt := 242) hk dX11_kin_197 (by decide) (fun hc => ?_) (fun hc => ?_)
          · replace h := it_t (g := id) h hc
            replace h : some (i4_21, i5_22, i6_23, i7_24) = some y_36 := h
            replace h := Option.some.inj h
            subst h
            exact Jy_36
          · replace h := it_f (g := id) h hc
            obtain ⟨x4_38, ex4_38, h⟩ := lt_e (g := id) h
            refine v_iinc (v := x4_38) hk dX11_kin_200 rfl (by rw [ex4_38]; rfl) (by decide) [1, 2, 3, 4, 0, 5, 6, 7, 8, 9, 10] (lv' := [(0, .ref adm), (1, .int gr), (2, .int what), (3, .int q_20.1), (4, .int x4_38), (5, .int i5_22), (6, .int i6_23), (7, .int i7_24), (8, .int i8_25), (9, .int q_32.1), (10, .int q_32.2)]) rfl ?_
            refine v_iload hk dX11_kin_203 rfl ?_
            refine v_iload hk dX11_kin_205 rfl ?_
            obtain ⟨y_39, ey_39, h⟩ := bd_e (g := id) rfl h
            have Jy_39 : V K 11 [((adA 27), .inl (gI (kG K), 10, .inl q_20.2.2.1)), ((adA 28), .inl (gI (kG K), 10, .inl q_20.2.2.2)), (adm, .inr (10, oM adA o_names o_rows o_strength o_most o_toldGraph o_toldArc))] 0 0 217 [(0, .ref adm), (1, .int gr), (2, .int what), (3, .int q_20.1), (4, .int x4_38), (5, .int i5_22), (6, .int i6_23), (7, .int i7_24), (8, .int i8_25), (9, .int q_32.1), (10, .int q_32.2)] [.int y_39] := by
              refine v_istore hk dX11_kin_217 (by decide) [1, 2, 3, 4, 5, 0, 6, 7, 8, 9, 10] (lv' := [(0, .ref adm), (1, .int gr), (2, .int what), (3, .int q_20.1), (4, .int x4_38), (5, .int y_39), (6, .int i6_23), (7, .int i7_24), (8, .int i8_25), (9, .int q_32.1), (10, .int q_32.2)]) rfl ?_
              refine v_iload hk dX11_kin_219 rfl ?_
              refine v_iload hk dX11_kin_221 rfl ?_
              obtain ⟨y_40, ey_40, h⟩ := bd_e (g := id) rfl h
              have Jy_40 : V K 11 [((adA 27), .inl (gI (kG K), 10, .inl q_20.2.2.1)), ((adA 28), .inl (gI (kG K), 10, .inl q_20.2.2.2)), (adm, .inr (10, oM adA o_names o_rows o_strength o_most o_toldGraph o_toldArc))] 0 0 233 [(0, .ref adm), (1, .int gr), (2, .int what), (3, .int q_20.1), (4, .int x4_38), (5, .int y_39), (6, .int i6_23), (7, .int i7_24), (8, .int i8_25), (9, .int q_32.1), (10, .int q_32.2)] [.int y_40] := by
                refine v_istore hk dX11_kin_233 (by decide) [1, 2, 3, 4, 5, 6, 0, 7, 8, 9, 10] (lv' := [(0, .ref adm), (1, .int gr), (2, .int what), (3, .int q_20.1), (4, .int x4_38), (5, .int y_39), (6, .int y_40), (7, .int i7_24), (8, .int i8_25), (9, .int q_32.1), (10, .int q_32.2)]) rfl ?_
                refine v_iload hk dX11_kin_235 rfl ?_
                refine v_iload hk dX11_kin_237 rfl ?_
                refine v_iand hk dX11_kin_239 ?_
                obtain ⟨x7_41, ex7_41, h⟩ := lt_e (g := id) h
                refine v_topi ex7_41.symm ?_
                refine v_istore hk dX11_kin_240 (by decide) [1, 2, 3, 4, 5, 6, 7, 0, 8, 9, 10] (lv' := [(0, .ref adm), (1, .int gr), (2, .int what), (3, .int q_20.1), (4, .int x4_38), (5, .int y_39), (6, .int y_40), (7, .int x7_41), (8, .int i8_25), (9, .int q_32.1), (10, .int q_32.2)]) rfl ?_
                replace h : some (x4_38, y_39, y_40, x7_41) = some y_36 := h
                replace h := Option.some.inj h
                subst h
                exact Jy_36
              clear h
              have h := id_e ey_40
              clear ey_40
              refine v_icmp_le (tgt := 231) hk dX11_kin_223 (by decide) (fun hc => ?_) (fun hc => ?_)
              · replace h := it_t (g := id) h hc
                refine v_iload hk dX11_kin_231 rfl ?_
                replace h : some (i6_23 : Int32) = some y_40 := h
                replace h := Option.some.inj h
                subst h
                exact Jy_40
              · replace h := it_f (g := id) h hc
                refine v_iload hk dX11_kin_226 rfl ?_
                refine v_goto (tgt := 233) hk dX11_kin_228 (by decide) ?_
                replace h : some (q_32.1 : Int32) = some y_40 := h
                replace h := Option.some.inj h
                subst h
                exact Jy_40
            clear h
            have h := id_e ey_39
            clear ey_39
            refine v_icmp_ge (tgt := 215) hk dX11_kin_207 (by decide) (fun hc => ?_) (fun hc => ?_)
            · replace h := it_t (g := id) h hc
              refine v_iload hk dX11_kin_215 rfl ?_
              replace h : some (i5_22 : Int32) = some y_39 := h
              replace h := Option.some.inj h
              subst h
              exact Jy_39
            · replace h := it_f (g := id) h hc
              refine v_iload hk dX11_kin_210 rfl ?_
              refine v_goto (tgt := 217) hk dX11_kin_212 (by decide) ?_
              replace h : some (q_32.1 : Int32) = some y_39 := h
              replace h := Option.some.inj h
              subst h
              exact Jy_39
set_option maxHeartbeats 4000000 in
set_option maxRecDepth 100000 in
theorem c_X11_kin (l : Launch) (G : GG) (adm : Nat) (adA : Nat → Nat) (o_names : Int32) (o_rows : Int32) (o_strength : Int32) (o_most : Int32) (o_toldGraph : Int32) (o_toldArc : Int32) (ffirst : Nat → Int32) (fsecond : Nat → Int32) (gr : Int32) (what : Int32) (r : Int32 × (Nat → Int32) × (Nat → Int32)) (h : m_X11_kin o_names o_rows o_strength o_most o_toldGraph o_toldArc ffirst fsecond gr what = some r) : Ctr l G yX11_kin w2_X11_kin rm_X11_kin [.ref adm, .int gr, .int what] [(adm, .inr (10, oM adA o_names o_rows o_strength o_most o_toldGraph o_toldArc)), ((adA 27), .inl (gI G, 10, .inl ffirst)), ((adA 28), .inl (gI G, 10, .inl fsecond))] (fun v w => v = some (.int r.1) ∧ w = [(adm, .inr (10, oM adA o_names o_rows o_strength o_most o_toldGraph o_toldArc)), ((adA 27), .inl (gI G, 10, .inl r.2.1)), ((adA 28), .inl (gI G, 10, .inl r.2.2))]) := by
  refine ctr_entry (cc := cX11_kin) (maxL := 11) (ret := some .int) (lv0 := [(0, .ref adm), (1, .int gr), (2, .int what)]) (by decide) rfl (Nat.le_of_ble_eq_true rfl) (rfl) ?_
  intro K hl9 hG9 hk hn9 hrt
  subst hl9
  subst hG9
  have hR9 : RoomGe rm_X11_kin rm_X11_kin := RoomGe.rf
  replace h := id_e h
  rw [em_X11_kin] at h
  refine v_aload_n hk dX11_kin_0 rfl ?_
  refine v_iload_n hk dX11_kin_1 rfl ?_
  obtain ⟨r_1, er_1, h⟩ := bd_e (g := id) rfl h
  refine v_callV (n := 1) (st := []) (b := adm) (T := TX11) (N := 39) hk dX11_kin_2 (c_X11_isGraph (kl K) (kG K) adm adA o_names o_rows o_strength o_most o_toldGraph o_toldArc gr r_1 er_1) rfl gd_X11_kin_X11_isGraph rfl (by decide +kernel) (frok hR9 (Nat.le_of_ble_eq_true rfl) (Nat.le_of_ble_eq_true rfl)) (roomk hR9 (Nat.le_of_ble_eq_true rfl) (Nat.le_of_ble_eq_true rfl)) rfl rfl (Nat.le_of_ble_eq_true rfl) 0 rfl rfl [0] [1, 2] (wr := [((adA 27), .inl (gI (kG K), 10, .inl ffirst)), ((adA 28), .inl (gI (kG K), 10, .inl fsecond))]) rfl rfl (by decide) (by decide) (by decide) ?_
  intro v9 w9 hp9
  obtain ⟨rfl, rfl⟩ := hp9
  show V K 11 [((adA 27), .inl (gI (kG K), 10, .inl ffirst)), ((adA 28), .inl (gI (kG K), 10, .inl fsecond)), (adm, .inr (10, oM adA o_names o_rows o_strength o_most o_toldGraph o_toldArc))] 0 0 5 [(0, .ref adm), (1, .int gr), (2, .int what)] [.int r_1]
  refine v_if_eq (tgt := 17) hk dX11_kin_5 (by decide) (fun hc => ?_) (fun hc => ?_)
  · replace h := it_t (g := id) h hc
    refine v_iconst (v := (-1)) hk dX11_kin_17 (by decide) ?_
    replace h : some ((-1), ffirst, fsecond) = some r := h
    replace h := Option.some.inj h
    subst h
    refine v_perm [2, 0, 1] (ws' := [(adm, .inr (10, oM adA o_names o_rows o_strength o_most o_toldGraph o_toldArc)), ((adA 27), .inl (gI (kG K), 10, .inl ffirst)), ((adA 28), .inl (gI (kG K), 10, .inl fsecond))]) rfl rfl (by decide) ?_
    refine hrt (some (.int (-1))) _ _ _ _ _ (⟨rfl, rfl⟩) (Nat.zero_le _) (Nat.zero_le _) (dX11_kin_18)
  · replace h := it_f (g := id) h hc
    refine v_iload_n hk dX11_kin_8 rfl ?_
    refine v_if_lt (tgt := 17) hk dX11_kin_9 (by decide) (fun hc => ?_) (fun hc => ?_)
    · replace h := it_t (g := id) h hc
      refine v_iconst (v := (-1)) hk dX11_kin_17 (by decide) ?_
      replace h : some ((-1), ffirst, fsecond) = some r := h
      replace h := Option.some.inj h
      subst h
      refine v_perm [2, 0, 1] (ws' := [(adm, .inr (10, oM adA o_names o_rows o_strength o_most o_toldGraph o_toldArc)), ((adA 27), .inl (gI (kG K), 10, .inl ffirst)), ((adA 28), .inl (gI (kG K), 10, .inl fsecond))]) rfl rfl (by decide) ?_
      refine hrt (some (.int (-1))) _ _ _ _ _ (⟨rfl, rfl⟩) (Nat.zero_le _) (Nat.zero_le _) (dX11_kin_18)
    · replace h := it_f (g := id) h hc
      refine v_iload_n hk dX11_kin_12 rfl ?_
      refine v_iconst (v := 3) hk dX11_kin_13 (by decide) ?_
      refine v_icmp_le (tgt := 19) hk dX11_kin_14 (by decide) (fun hc => ?_) (fun hc => ?_)
      · replace h := it_t (g := id) h hc
        refine v_iconst (v := 0) hk dX11_kin_19 (by decide) ?_
        refine v_istore_n hk dX11_kin_20 rfl (by decide) [1, 2, 3, 0] (lv' := [(0, .ref adm), (1, .int gr), (2, .int what), (3, .int 0)]) rfl ?_
        refine v_iconst (v := 0) hk dX11_kin_21 (by decide) ?_
        refine v_istore hk dX11_kin_22 (by decide) [1, 2, 3, 4, 0] (lv' := [(0, .ref adm), (1, .int gr), (2, .int what), (3, .int 0), (4, .int 0)]) rfl ?_
        obtain ⟨b_48, eb_48, h⟩ := bd_e (g := id) rfl h
        refine L_X11_kin_24 hk hR9 adm adA o_names o_rows o_strength o_most o_toldGraph o_toldArc gr what b_48 (fun q_20 eq_20 => ?_) FU 0 0 ffirst fsecond eb_48
        · replace eq_20 := eq_20.symm
          subst eq_20
          refine v_iconst (v := 0) hk dX11_kin_84 (by decide) ?_
          refine v_istore hk dX11_kin_85 (by decide) [1, 2, 3, 4, 0] (lv' := [(0, .ref adm), (1, .int gr), (2, .int what), (3, .int q_20.1), (4, .int 0)]) rfl ?_
          refine v_ldc (v := 33554432) hk dX11_kin_87 (by decide +kernel) ?_
          refine v_istore hk dX11_kin_89 (by decide) [1, 2, 3, 4, 5, 0] (lv' := [(0, .ref adm), (1, .int gr), (2, .int what), (3, .int q_20.1), (4, .int 0), (5, .int 33554432)]) rfl ?_
          refine v_iconst (v := 0) hk dX11_kin_91 (by decide) ?_
          refine v_istore hk dX11_kin_92 (by decide) [1, 2, 3, 4, 5, 6, 0] (lv' := [(0, .ref adm), (1, .int gr), (2, .int what), (3, .int q_20.1), (4, .int 0), (5, .int 33554432), (6, .int 0)]) rfl ?_
          refine v_ldcw (v := 33554431) hk dX11_kin_94 (by decide +kernel) ?_
          refine v_istore hk dX11_kin_97 (by decide) [1, 2, 3, 4, 5, 6, 7, 0] (lv' := [(0, .ref adm), (1, .int gr), (2, .int what), (3, .int q_20.1), (4, .int 0), (5, .int 33554432), (6, .int 0), (7, .int 33554431)]) rfl ?_
          refine v_iconst (v := 0) hk dX11_kin_99 (by decide) ?_
          refine v_istore hk dX11_kin_100 (by decide) [1, 2, 3, 4, 5, 6, 7, 8, 0] (lv' := [(0, .ref adm), (1, .int gr), (2, .int what), (3, .int q_20.1), (4, .int 0), (5, .int 33554432), (6, .int 0), (7, .int 33554431), (8, .int 0)]) rfl ?_
          obtain ⟨b_47, eb_47, h⟩ := bd_e (g := id) rfl h
          refine L_X11_kin_102 hk hR9 adm adA o_names o_rows o_strength o_most o_toldGraph o_toldArc gr what q_20 b_47 (fun q_43 eq_43 => ?_) FU 0 33554432 0 33554431 0 eb_47
          · replace eq_43 := eq_43.symm
            subst eq_43
            refine v_iload_n hk dX11_kin_248 rfl ?_
            obtain ⟨y_44, ey_44, h⟩ := bd_e (g := id) rfl h
            have Jy_44 : V K 11 [((adA 27), .inl (gI (kG K), 10, .inl q_20.2.2.1)), ((adA 28), .inl (gI (kG K), 10, .inl q_20.2.2.2)), (adm, .inr (10, oM adA o_names o_rows o_strength o_most o_toldGraph o_toldArc))] 0 0 279 [(0, .ref adm), (1, .int gr), (2, .int what), (3, .int q_20.1), (4, .int q_43.1), (5, .int q_43.2.1), (6, .int q_43.2.2.1), (7, .int q_43.2.2.2.1), (8, .int q_43.2.2.2.2)] [.int y_44] := by
              replace h : some (y_44, q_20.2.2.1, q_20.2.2.2) = some r := h
              replace h := Option.some.inj h
              subst h
              refine v_perm [2, 0, 1] (ws' := [(adm, .inr (10, oM adA o_names o_rows o_strength o_most o_toldGraph o_toldArc)), ((adA 27), .inl (gI (kG K), 10, .inl q_20.2.2.1)), ((adA 28), .inl (gI (kG K), 10, .inl q_20.2.2.2))]) rfl rfl (by decide) ?_
              refine hrt (some (.int y_44)) _ _ _ _ _ (⟨rfl, rfl⟩) (Nat.zero_le _) (Nat.zero_le _) (dX11_kin_279)
            clear h
            have h := id_e ey_44
            clear ey_44
            refine v_if_ne (tgt := 257) hk dX11_kin_249 (by decide) (fun hc => ?_) (fun hc => ?_)
            · replace h := it_f (g := id) h hc
              refine v_iload_n hk dX11_kin_257 rfl ?_
              refine v_iconst (v := 1) hk dX11_kin_258 (by decide) ?_
              obtain ⟨y_45, ey_45, h⟩ := bd_e (g := id) rfl h
              have Jy_45 : V K 11 [((adA 27), .inl (gI (kG K), 10, .inl q_20.2.2.1)), ((adA 28), .inl (gI (kG K), 10, .inl q_20.2.2.2)), (adm, .inr (10, oM adA o_names o_rows o_strength o_most o_toldGraph o_toldArc))] 0 0 279 [(0, .ref adm), (1, .int gr), (2, .int what), (3, .int q_20.1), (4, .int q_43.1), (5, .int q_43.2.1), (6, .int q_43.2.2.1), (7, .int q_43.2.2.2.1), (8, .int q_43.2.2.2.2)] [.int y_45] := by
                replace h : some (y_45 : Int32) = some y_44 := h
                replace h := Option.some.inj h
                subst h
                exact Jy_44
              clear h
              have h := id_e ey_45
              clear ey_45
              refine v_icmp_ne (tgt := 267) hk dX11_kin_259 (by decide) (fun hc => ?_) (fun hc => ?_)
              · replace h := it_f (g := id) h hc
                refine v_iload_n hk dX11_kin_267 rfl ?_
                refine v_iconst (v := 2) hk dX11_kin_268 (by decide) ?_
                obtain ⟨y_46, ey_46, h⟩ := bd_e (g := id) rfl h
                have Jy_46 : V K 11 [((adA 27), .inl (gI (kG K), 10, .inl q_20.2.2.1)), ((adA 28), .inl (gI (kG K), 10, .inl q_20.2.2.2)), (adm, .inr (10, oM adA o_names o_rows o_strength o_most o_toldGraph o_toldArc))] 0 0 279 [(0, .ref adm), (1, .int gr), (2, .int what), (3, .int q_20.1), (4, .int q_43.1), (5, .int q_43.2.1), (6, .int q_43.2.2.1), (7, .int q_43.2.2.2.1), (8, .int q_43.2.2.2.2)] [.int y_46] := by
                  replace h : some (y_46 : Int32) = some y_45 := h
                  replace h := Option.some.inj h
                  subst h
                  exact Jy_45
                clear h
                have h := id_e ey_46
                clear ey_46
                refine v_icmp_ne (tgt := 277) hk dX11_kin_269 (by decide) (fun hc => ?_) (fun hc => ?_)
                · replace h := it_f (g := id) h hc
                  refine v_iload hk dX11_kin_277 rfl ?_
                  replace h : some (q_43.2.2.2.1 : Int32) = some y_46 := h
                  replace h := Option.some.inj h
                  subst h
                  exact Jy_46
                · replace h := it_t (g := id) h hc
                  refine v_iload hk dX11_kin_272 rfl ?_
                  refine v_goto (tgt := 279) hk dX11_kin_274 (by decide) ?_
                  replace h : some (q_43.2.2.1 : Int32) = some y_46 := h
                  replace h := Option.some.inj h
                  subst h
                  exact Jy_46
              · replace h := it_t (g := id) h hc
                refine v_iload hk dX11_kin_262 rfl ?_
                refine v_goto (tgt := 279) hk dX11_kin_264 (by decide) ?_
                replace h : some (q_43.2.1 : Int32) = some y_45 := h
                replace h := Option.some.inj h
                subst h
                exact Jy_45
            · replace h := it_t (g := id) h hc
              refine v_iload hk dX11_kin_252 rfl ?_
              refine v_goto (tgt := 279) hk dX11_kin_254 (by decide) ?_
              replace h : some (q_43.1 : Int32) = some y_44 := h
              replace h := Option.some.inj h
              subst h
              exact Jy_44
      · replace h := it_f (g := id) h hc
        refine v_iconst (v := (-1)) hk dX11_kin_17 (by decide) ?_
        replace h : some ((-1), ffirst, fsecond) = some r := h
        replace h := Option.some.inj h
        subst h
        refine v_perm [2, 0, 1] (ws' := [(adm, .inr (10, oM adA o_names o_rows o_strength o_most o_toldGraph o_toldArc)), ((adA 27), .inl (gI (kG K), 10, .inl ffirst)), ((adA 28), .inl (gI (kG K), 10, .inl fsecond))]) rfl rfl (by decide) ?_
        refine hrt (some (.int (-1))) _ _ _ _ _ (⟨rfl, rfl⟩) (Nat.zero_le _) (Nat.zero_le _) (dX11_kin_18)
