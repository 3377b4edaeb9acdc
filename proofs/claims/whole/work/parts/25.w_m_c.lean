abbrev rm_X11_whole : Room := { frames := 4, cells := 0, slots := 0, locals := 97 }
set_option maxHeartbeats 4000000 in
set_option maxRecDepth 100000 in
theorem L_X11_whole_19 {K : Cx} {R9 : Room} (hk : Ok K cX11_whole 4 RX11 w2_X11_whole R9) (hR9 : RoomGe R9 rm_X11_whole) (adm : Nat) (adA : Nat → Nat) (o_names : Int32) (o_rows : Int32) (o_strength : Int32) (o_most : Int32) (o_toldGraph : Int32) (o_toldArc : Int32) (fvalues : Nat → Int32) (fcells : Nat → Int32) (fterms : Nat → Int32) (nm : Int32) (se : Int32) (b9 : (Int32 × (Nat → Int32) × (Nat → Int32) × (Nat → Int32) × (Nat → Int32) × (Nat → Int32) × (Nat → Int32) × (Nat → Int32) × (Nat → Int32) × (Nat → Int32) × (Nat → Int32) × (Nat → Int32))) (kk0 : ∀ q9 : (Int32 × (Nat → Int32) × (Nat → Int32) × (Nat → Int32) × (Nat → Int32) × (Nat → Int32) × (Nat → Int32) × (Nat → Int32) × (Nat → Int32) × (Nat → Int32) × (Nat → Int32) × (Nat → Int32)), b9 = q9 → V K 4 [((adA 16), .inl (gI (kG K), 320, .inl q9.2.1)), ((adA 17), .inl (gI (kG K), 320, .inl q9.2.2.1)), ((adA 30), .inl (gI (kG K), 5120, .inl fterms)), (adm, .inr (10, oM adA o_names o_rows o_strength o_most o_toldGraph o_toldArc)), ((adA 1), .inl (gI (kG K), 5, .inl fvalues)), ((adA 3), .inl (gI (kG K), 80, .inl fcells)), ((adA 11), .inl (gZ (kG K), 160, .inl q9.2.2.2.1)), ((adA 13), .inl (gI (kG K), 1280, .inl q9.2.2.2.2.1)), ((adA 14), .inl (gI (kG K), 320, .inl q9.2.2.2.2.2.1)), ((adA 15), .inl (gI (kG K), 320, .inl q9.2.2.2.2.2.2.1)), ((adA 6), .inl (gI (kG K), 320, .inl q9.2.2.2.2.2.2.2.1)), ((adA 7), .inl (gI (kG K), 320, .inl q9.2.2.2.2.2.2.2.2.1)), ((adA 8), .inl (gI (kG K), 320, .inl q9.2.2.2.2.2.2.2.2.2.1)), ((adA 12), .inl (gI (kG K), 1280, .inl q9.2.2.2.2.2.2.2.2.2.2.1)), ((adA 32), .inl (gI (kG K), 320, .inl q9.2.2.2.2.2.2.2.2.2.2.2))] 0 0 66 [(0, .ref adm), (1, .int nm), (2, .int se), (3, .int q9.1)] []) : ∀ (nn : Nat) (i3_3 : Int32) (ffactor_4 : Nat → Int32) (fmade_5 : Nat → Int32) (fisKnown_6 : Nat → Int32) (flows_7 : Nat → Int32) (fsmall_8 : Nat → Int32) (flarge_9 : Nat → Int32) (fone_10 : Nat → Int32) (ftwo_11 : Nat → Int32) (frest_12 : Nat → Int32) (ftops_13 : Nat → Int32) (fterm_14 : Nat → Int32), lp (b_X11_whole_19 o_names o_rows o_strength o_most o_toldGraph o_toldArc fvalues fcells nm se) nn (i3_3, ffactor_4, fmade_5, fisKnown_6, flows_7, fsmall_8, flarge_9, fone_10, ftwo_11, frest_12, ftops_13, fterm_14) = some b9 → V K 4 [((adA 16), .inl (gI (kG K), 320, .inl ffactor_4)), ((adA 17), .inl (gI (kG K), 320, .inl fmade_5)), ((adA 30), .inl (gI (kG K), 5120, .inl fterms)), (adm, .inr (10, oM adA o_names o_rows o_strength o_most o_toldGraph o_toldArc)), ((adA 1), .inl (gI (kG K), 5, .inl fvalues)), ((adA 3), .inl (gI (kG K), 80, .inl fcells)), ((adA 11), .inl (gZ (kG K), 160, .inl fisKnown_6)), ((adA 13), .inl (gI (kG K), 1280, .inl flows_7)), ((adA 14), .inl (gI (kG K), 320, .inl fsmall_8)), ((adA 15), .inl (gI (kG K), 320, .inl flarge_9)), ((adA 6), .inl (gI (kG K), 320, .inl fone_10)), ((adA 7), .inl (gI (kG K), 320, .inl ftwo_11)), ((adA 8), .inl (gI (kG K), 320, .inl frest_12)), ((adA 12), .inl (gI (kG K), 1280, .inl ftops_13)), ((adA 32), .inl (gI (kG K), 320, .inl fterm_14))] 0 0 19 [(0, .ref adm), (1, .int nm), (2, .int se), (3, .int i3_3)] [] := by
  intro nn
  induction nn with
  | zero => intro i3_3 ffactor_4 fmade_5 fisKnown_6 flows_7 fsmall_8 flarge_9 fone_10 ftwo_11 frest_12 ftops_13 fterm_14 h; exact absurd h (by simp [lp])
  | succ nn ih =>
    intro i3_3 ffactor_4 fmade_5 fisKnown_6 flows_7 fsmall_8 flarge_9 fone_10 ftwo_11 frest_12 ftops_13 fterm_14 h
    replace h := lp_s h
    rw [eb_X11_whole_19] at h
    refine v_iload_n hk dX11_whole_19 rfl ?_
    refine v_iconst (v := 1) hk dX11_whole_20 (by decide) ?_
    refine v_aload_n hk dX11_whole_21 rfl ?_
    refine v_get (C := RX11) (T := TX11) (N := 39) (ci := 10) (v := .int o_names) hk dX11_whole_22 w2i_X11_whole_X110 3 rfl rfl 0 (by decide) (by decide +kernel) rfl rfl ?_
    refine v_ishl hk dX11_whole_25 ?_
    refine v_icmp_ge (tgt := 66) hk dX11_whole_26 (by decide) (fun hc => ?_) (fun hc => ?_)
    · replace h := it_t (g := (lpk (lp (b_X11_whole_19 o_names o_rows o_strength o_most o_toldGraph o_toldArc fvalues fcells nm se) nn))) h hc
      replace h : some (i3_3, ffactor_4, fmade_5, fisKnown_6, flows_7, fsmall_8, flarge_9, fone_10, ftwo_11, frest_12, ftops_13, fterm_14) = some b9 := h
      replace h := Option.some.inj h
      subst h
      exact kk0 _ rfl
    · replace h := it_f (g := (lpk (lp (b_X11_whole_19 o_names o_rows o_strength o_most o_toldGraph o_toldArc fvalues fcells nm se) nn))) h hc
      refine v_iload_n hk dX11_whole_29 rfl ?_
      refine v_iload_n hk dX11_whole_30 rfl ?_
      refine v_icmp_eq (tgt := 60) hk dX11_whole_31 (by decide) (fun hc => ?_) (fun hc => ?_)
      · replace h := it_t (g := (lpk (lp (b_X11_whole_19 o_names o_rows o_strength o_most o_toldGraph o_toldArc fvalues fcells nm se) nn))) h hc
        obtain ⟨x3_15, ex3_15, h⟩ := lt_e (g := (lpk (lp (b_X11_whole_19 o_names o_rows o_strength o_most o_toldGraph o_toldArc fvalues fcells nm se) nn))) h
        refine v_iinc (v := x3_15) hk dX11_whole_60 rfl (by rw [ex3_15]; rfl) (by decide) [1, 2, 3, 0] (lv' := [(0, .ref adm), (1, .int nm), (2, .int se), (3, .int x3_15)]) rfl ?_
        refine v_goto (tgt := 19) hk dX11_whole_63 (by decide) ?_
        exact ih x3_15 ffactor_4 fmade_5 fisKnown_6 flows_7 fsmall_8 flarge_9 fone_10 ftwo_11 frest_12 ftops_13 fterm_14 h
      · replace h := it_f (g := (lpk (lp (b_X11_whole_19 o_names o_rows o_strength o_most o_toldGraph o_toldArc fvalues fcells nm se) nn))) h hc
        refine v_iload_n hk dX11_whole_34 rfl ?_
        refine v_iload_n hk dX11_whole_35 rfl ?_
        refine v_ishr hk dX11_whole_36 ?_
        refine v_iconst (v := 1) hk dX11_whole_37 (by decide) ?_
        refine v_iand hk dX11_whole_38 ?_
        refine v_if_ne (tgt := 60) hk dX11_whole_39 (by decide) (fun hc => ?_) (fun hc => ?_)
        · replace h := it_f (g := (lpk (lp (b_X11_whole_19 o_names o_rows o_strength o_most o_toldGraph o_toldArc fvalues fcells nm se) nn))) h hc
          obtain ⟨x3_16, ex3_16, h⟩ := lt_e (g := (lpk (lp (b_X11_whole_19 o_names o_rows o_strength o_most o_toldGraph o_toldArc fvalues fcells nm se) nn))) h
          refine v_iinc (v := x3_16) hk dX11_whole_60 rfl (by rw [ex3_16]; rfl) (by decide) [1, 2, 3, 0] (lv' := [(0, .ref adm), (1, .int nm), (2, .int se), (3, .int x3_16)]) rfl ?_
          refine v_goto (tgt := 19) hk dX11_whole_63 (by decide) ?_
          exact ih x3_16 ffactor_4 fmade_5 fisKnown_6 flows_7 fsmall_8 flarge_9 fone_10 ftwo_11 frest_12 ftops_13 fterm_14 h
        · replace h := it_t (g := (lpk (lp (b_X11_whole_19 o_names o_rows o_strength o_most o_toldGraph o_toldArc fvalues fcells nm se) nn))) h hc
          refine v_aload_n hk dX11_whole_42 rfl ?_
          refine v_aload_n hk dX11_whole_43 rfl ?_
          refine v_get (C := RX11) (T := TX11) (N := 39) (ci := 10) (v := .ref (adA 32)) hk dX11_whole_44 w2i_X11_whole_X110 3 rfl rfl 32 (by decide) (by decide +kernel) rfl rfl ?_
          refine v_aload_n hk dX11_whole_47 rfl ?_
          refine v_get (C := RX11) (T := TX11) (N := 39) (ci := 10) (v := .ref (adA 13)) hk dX11_whole_48 w2i_X11_whole_X110 3 rfl rfl 13 (by decide) (by decide +kernel) rfl rfl ?_
          refine v_aload_n hk dX11_whole_51 rfl ?_
          refine v_iload_n hk dX11_whole_52 rfl ?_
          refine v_iload_n hk dX11_whole_53 rfl ?_
          obtain ⟨r_17, er_17, h⟩ := bd_e (g := (lpk (lp (b_X11_whole_19 o_names o_rows o_strength o_most o_toldGraph o_toldArc fvalues fcells nm se) nn))) rfl h
          refine v_callV (n := 2) (st := [.ref (adA 13), .ref (adA 32), .ref adm]) (b := adm) (T := TX11) (N := 39) hk dX11_whole_54 (c_X11_family (kl K) (kG K) adm adA o_names o_rows o_strength o_most o_toldGraph o_toldArc fvalues fcells fisKnown_6 ftops_13 flows_7 fsmall_8 flarge_9 fone_10 ftwo_11 frest_12 nm i3_3 r_17 er_17) rfl gd_X11_whole_X11_family rfl (by decide +kernel) (frok hR9 (Nat.le_of_ble_eq_true rfl) (Nat.le_of_ble_eq_true rfl)) (roomk hR9 (Nat.le_of_ble_eq_true rfl) (Nat.le_of_ble_eq_true rfl)) rfl rfl (Nat.le_of_ble_eq_true rfl) 3 rfl rfl [3, 4, 5, 6, 13, 7, 8, 9, 10, 11, 12] [0, 1, 2, 14] (wr := [((adA 16), .inl (gI (kG K), 320, .inl ffactor_4)), ((adA 17), .inl (gI (kG K), 320, .inl fmade_5)), ((adA 30), .inl (gI (kG K), 5120, .inl fterms)), ((adA 32), .inl (gI (kG K), 320, .inl fterm_14))]) rfl rfl (by decide) (by decide) (by decide) ?_
          intro v9 w9 hp9
          obtain ⟨rfl, rfl⟩ := hp9
          show V K 4 [((adA 16), .inl (gI (kG K), 320, .inl ffactor_4)), ((adA 17), .inl (gI (kG K), 320, .inl fmade_5)), ((adA 30), .inl (gI (kG K), 5120, .inl fterms)), ((adA 32), .inl (gI (kG K), 320, .inl fterm_14)), (adm, .inr (10, oM adA o_names o_rows o_strength o_most o_toldGraph o_toldArc)), ((adA 1), .inl (gI (kG K), 5, .inl fvalues)), ((adA 3), .inl (gI (kG K), 80, .inl fcells)), ((adA 11), .inl (gZ (kG K), 160, .inl r_17.2.1)), ((adA 12), .inl (gI (kG K), 1280, .inl r_17.2.2.1)), ((adA 13), .inl (gI (kG K), 1280, .inl r_17.2.2.2.1)), ((adA 14), .inl (gI (kG K), 320, .inl r_17.2.2.2.2.1)), ((adA 15), .inl (gI (kG K), 320, .inl r_17.2.2.2.2.2.1)), ((adA 6), .inl (gI (kG K), 320, .inl r_17.2.2.2.2.2.2.1)), ((adA 7), .inl (gI (kG K), 320, .inl r_17.2.2.2.2.2.2.2.1)), ((adA 8), .inl (gI (kG K), 320, .inl r_17.2.2.2.2.2.2.2.2))] 0 0 57 [(0, .ref adm), (1, .int nm), (2, .int se), (3, .int i3_3)] [.int r_17.1, .ref (adA 13), .ref (adA 32), .ref adm]
          obtain ⟨r_18, er_18, h⟩ := bd_e (g := (lpk (lp (b_X11_whole_19 o_names o_rows o_strength o_most o_toldGraph o_toldArc fvalues fcells nm se) nn))) rfl h
          refine v_callV (n := 3) (st := []) (b := adm) (T := TX11) (N := 39) hk dX11_whole_57 (c_X11_multiply (kl K) (kG K) adm adA (adA 32) (adA 13) o_names o_rows o_strength o_most o_toldGraph o_toldArc ffactor_4 fmade_5 320 fterm_14 1280 r_17.2.2.2.1 r_17.1 r_18 er_18) rfl gd_X11_whole_X11_multiply rfl (by decide +kernel) (frok hR9 (Nat.le_of_ble_eq_true rfl) (Nat.le_of_ble_eq_true rfl)) (roomk hR9 (Nat.le_of_ble_eq_true rfl) (Nat.le_of_ble_eq_true rfl)) rfl rfl (Nat.le_of_ble_eq_true rfl) 4 rfl rfl [4, 0, 1, 3, 9] [2, 5, 6, 7, 8, 10, 11, 12, 13, 14] (wr := [((adA 30), .inl (gI (kG K), 5120, .inl fterms)), ((adA 1), .inl (gI (kG K), 5, .inl fvalues)), ((adA 3), .inl (gI (kG K), 80, .inl fcells)), ((adA 11), .inl (gZ (kG K), 160, .inl r_17.2.1)), ((adA 12), .inl (gI (kG K), 1280, .inl r_17.2.2.1)), ((adA 14), .inl (gI (kG K), 320, .inl r_17.2.2.2.2.1)), ((adA 15), .inl (gI (kG K), 320, .inl r_17.2.2.2.2.2.1)), ((adA 6), .inl (gI (kG K), 320, .inl r_17.2.2.2.2.2.2.1)), ((adA 7), .inl (gI (kG K), 320, .inl r_17.2.2.2.2.2.2.2.1)), ((adA 8), .inl (gI (kG K), 320, .inl r_17.2.2.2.2.2.2.2.2))]) rfl rfl (by decide) (by decide) (by decide) ?_
          intro v9 w9 hp9
          obtain ⟨rfl, rfl⟩ := hp9
          show V K 4 [((adA 30), .inl (gI (kG K), 5120, .inl fterms)), ((adA 1), .inl (gI (kG K), 5, .inl fvalues)), ((adA 3), .inl (gI (kG K), 80, .inl fcells)), ((adA 11), .inl (gZ (kG K), 160, .inl r_17.2.1)), ((adA 12), .inl (gI (kG K), 1280, .inl r_17.2.2.1)), ((adA 14), .inl (gI (kG K), 320, .inl r_17.2.2.2.2.1)), ((adA 15), .inl (gI (kG K), 320, .inl r_17.2.2.2.2.2.1)), ((adA 6), .inl (gI (kG K), 320, .inl r_17.2.2.2.2.2.2.1)), ((adA 7), .inl (gI (kG K), 320, .inl r_17.2.2.2.2.2.2.2.1)), ((adA 8), .inl (gI (kG K), 320, .inl r_17.2.2.2.2.2.2.2.2)), (adm, .inr (10, oM adA o_names o_rows o_strength o_most o_toldGraph o_toldArc)), ((adA 16), .inl (gI (kG K), 320, .inl r_18.1)), ((adA 17), .inl (gI (kG K), 320, .inl r_18.2.1)), ((adA 32), .inl (gI (kG K), 320, .inl r_18.2.2)), ((adA 13), .inl (gI (kG K), 1280, .inl r_17.2.2.2.1))] 0 0 60 [(0, .ref adm), (1, .int nm), (2, .int se), (3, .int i3_3)] []
          obtain ⟨x3_19, ex3_19, h⟩ := lt_e (g := (lpk (lp (b_X11_whole_19 o_names o_rows o_strength o_most o_toldGraph o_toldArc fvalues fcells nm se) nn))) h
          refine v_iinc (v := x3_19) hk dX11_whole_60 rfl (by rw [ex3_19]; rfl) (by decide) [1, 2, 3, 0] (lv' := [(0, .ref adm), (1, .int nm), (2, .int se), (3, .int x3_19)]) rfl ?_
          refine v_goto (tgt := 19) hk dX11_whole_63 (by decide) ?_
          refine v_perm [11, 12, 0, 10, 1, 2, 3, 14, 5, 6, 7, 8, 9, 4, 13] (ws' := [((adA 16), .inl (gI (kG K), 320, .inl r_18.1)), ((adA 17), .inl (gI (kG K), 320, .inl r_18.2.1)), ((adA 30), .inl (gI (kG K), 5120, .inl fterms)), (adm, .inr (10, oM adA o_names o_rows o_strength o_most o_toldGraph o_toldArc)), ((adA 1), .inl (gI (kG K), 5, .inl fvalues)), ((adA 3), .inl (gI (kG K), 80, .inl fcells)), ((adA 11), .inl (gZ (kG K), 160, .inl r_17.2.1)), ((adA 13), .inl (gI (kG K), 1280, .inl r_17.2.2.2.1)), ((adA 14), .inl (gI (kG K), 320, .inl r_17.2.2.2.2.1)), ((adA 15), .inl (gI (kG K), 320, .inl r_17.2.2.2.2.2.1)), ((adA 6), .inl (gI (kG K), 320, .inl r_17.2.2.2.2.2.2.1)), ((adA 7), .inl (gI (kG K), 320, .inl r_17.2.2.2.2.2.2.2.1)), ((adA 8), .inl (gI (kG K), 320, .inl r_17.2.2.2.2.2.2.2.2)), ((adA 12), .inl (gI (kG K), 1280, .inl r_17.2.2.1)), ((adA 32), .inl (gI (kG K), 320, .inl r_18.2.2))]) rfl rfl (by decide) ?_
          exact ih x3_19 r_18.1 r_18.2.1 r_17.2.1 r_17.2.2.2.1 r_17.2.2.2.2.1 r_17.2.2.2.2.2.1 r_17.2.2.2.2.2.2.1 r_17.2.2.2.2.2.2.2.1 r_17.2.2.2.2.2.2.2.2 r_17.2.2.1 r_18.2.2 h
set_option maxHeartbeats 4000000 in
set_option maxRecDepth 100000 in
theorem c_X11_whole (l : Launch) (G : GG) (adm : Nat) (adA : Nat → Nat) (o_names : Int32) (o_rows : Int32) (o_strength : Int32) (o_most : Int32) (o_toldGraph : Int32) (o_toldArc : Int32) (fvalues : Nat → Int32) (fcells : Nat → Int32) (fisKnown : Nat → Int32) (ftops : Nat → Int32) (flows : Nat → Int32) (fsmall : Nat → Int32) (flarge : Nat → Int32) (fone : Nat → Int32) (ftwo : Nat → Int32) (frest : Nat → Int32) (ffactor : Nat → Int32) (fmade : Nat → Int32) (fterms : Nat → Int32) (fterm : Nat → Int32) (nm : Int32) (se : Int32) (r : (Nat → Int32) × (Nat → Int32) × (Nat → Int32) × (Nat → Int32) × (Nat → Int32) × (Nat → Int32) × (Nat → Int32) × (Nat → Int32) × (Nat → Int32) × (Nat → Int32) × (Nat → Int32) × (Nat → Int32)) (h : m_X11_whole o_names o_rows o_strength o_most o_toldGraph o_toldArc fvalues fcells fisKnown ftops flows fsmall flarge fone ftwo frest ffactor fmade fterms fterm nm se = some r) : Ctr l G yX11_whole w2_X11_whole rm_X11_whole [.ref adm, .int nm, .int se] [(adm, .inr (10, oM adA o_names o_rows o_strength o_most o_toldGraph o_toldArc)), ((adA 1), .inl (gI G, 5, .inl fvalues)), ((adA 3), .inl (gI G, 80, .inl fcells)), ((adA 11), .inl (gZ G, 160, .inl fisKnown)), ((adA 12), .inl (gI G, 1280, .inl ftops)), ((adA 13), .inl (gI G, 1280, .inl flows)), ((adA 14), .inl (gI G, 320, .inl fsmall)), ((adA 15), .inl (gI G, 320, .inl flarge)), ((adA 6), .inl (gI G, 320, .inl fone)), ((adA 7), .inl (gI G, 320, .inl ftwo)), ((adA 8), .inl (gI G, 320, .inl frest)), ((adA 16), .inl (gI G, 320, .inl ffactor)), ((adA 17), .inl (gI G, 320, .inl fmade)), ((adA 30), .inl (gI G, 5120, .inl fterms)), ((adA 32), .inl (gI G, 320, .inl fterm))] (fun v w => v = none ∧ w = [(adm, .inr (10, oM adA o_names o_rows o_strength o_most o_toldGraph o_toldArc)), ((adA 1), .inl (gI G, 5, .inl fvalues)), ((adA 3), .inl (gI G, 80, .inl fcells)), ((adA 11), .inl (gZ G, 160, .inl r.1)), ((adA 12), .inl (gI G, 1280, .inl r.2.1)), ((adA 13), .inl (gI G, 1280, .inl r.2.2.1)), ((adA 14), .inl (gI G, 320, .inl r.2.2.2.1)), ((adA 15), .inl (gI G, 320, .inl r.2.2.2.2.1)), ((adA 6), .inl (gI G, 320, .inl r.2.2.2.2.2.1)), ((adA 7), .inl (gI G, 320, .inl r.2.2.2.2.2.2.1)), ((adA 8), .inl (gI G, 320, .inl r.2.2.2.2.2.2.2.1)), ((adA 16), .inl (gI G, 320, .inl r.2.2.2.2.2.2.2.2.1)), ((adA 17), .inl (gI G, 320, .inl r.2.2.2.2.2.2.2.2.2.1)), ((adA 30), .inl (gI G, 5120, .inl r.2.2.2.2.2.2.2.2.2.2.1)), ((adA 32), .inl (gI G, 320, .inl r.2.2.2.2.2.2.2.2.2.2.2))]) := by
  refine ctr_entry (cc := cX11_whole) (maxL := 4) (ret := none) (lv0 := [(0, .ref adm), (1, .int nm), (2, .int se)]) (by decide) rfl (Nat.le_of_ble_eq_true rfl) (rfl) ?_
  intro K hl9 hG9 hk hn9 hrt
  subst hl9
  subst hG9
  have hR9 : RoomGe rm_X11_whole rm_X11_whole := RoomGe.rf
  replace h := id_e h
  rw [em_X11_whole] at h
  refine v_aload_n hk dX11_whole_0 rfl ?_
  refine v_get (C := RX11) (T := TX11) (N := 39) (ci := 10) (v := .ref (adA 12)) hk dX11_whole_1 w2i_X11_whole_X110 0 rfl rfl 12 (by decide) (by decide +kernel) rfl rfl ?_
  refine v_aload_n hk dX11_whole_4 rfl ?_
  refine v_iload_n hk dX11_whole_5 rfl ?_
  refine v_iload_n hk dX11_whole_6 rfl ?_
  obtain ⟨r_1, er_1, h⟩ := bd_e (g := id) rfl h
  refine v_callV (n := 2) (st := [.ref (adA 12)]) (b := adm) (T := TX11) (N := 39) hk dX11_whole_7 (c_X11_family (kl K) (kG K) adm adA o_names o_rows o_strength o_most o_toldGraph o_toldArc fvalues fcells fisKnown ftops flows fsmall flarge fone ftwo frest nm se r_1 er_1) rfl gd_X11_whole_X11_family rfl (by decide +kernel) (frok hR9 (Nat.le_of_ble_eq_true rfl) (Nat.le_of_ble_eq_true rfl)) (roomk hR9 (Nat.le_of_ble_eq_true rfl) (Nat.le_of_ble_eq_true rfl)) rfl rfl (Nat.le_of_ble_eq_true rfl) 0 rfl rfl [0, 1, 2, 3, 4, 5, 6, 7, 8, 9, 10] [11, 12, 13, 14] (wr := [((adA 16), .inl (gI (kG K), 320, .inl ffactor)), ((adA 17), .inl (gI (kG K), 320, .inl fmade)), ((adA 30), .inl (gI (kG K), 5120, .inl fterms)), ((adA 32), .inl (gI (kG K), 320, .inl fterm))]) rfl rfl (by decide) (by decide) (by decide) ?_
  intro v9 w9 hp9
  obtain ⟨rfl, rfl⟩ := hp9
  show V K 4 [((adA 16), .inl (gI (kG K), 320, .inl ffactor)), ((adA 17), .inl (gI (kG K), 320, .inl fmade)), ((adA 30), .inl (gI (kG K), 5120, .inl fterms)), ((adA 32), .inl (gI (kG K), 320, .inl fterm)), (adm, .inr (10, oM adA o_names o_rows o_strength o_most o_toldGraph o_toldArc)), ((adA 1), .inl (gI (kG K), 5, .inl fvalues)), ((adA 3), .inl (gI (kG K), 80, .inl fcells)), ((adA 11), .inl (gZ (kG K), 160, .inl r_1.2.1)), ((adA 12), .inl (gI (kG K), 1280, .inl r_1.2.2.1)), ((adA 13), .inl (gI (kG K), 1280, .inl r_1.2.2.2.1)), ((adA 14), .inl (gI (kG K), 320, .inl r_1.2.2.2.2.1)), ((adA 15), .inl (gI (kG K), 320, .inl r_1.2.2.2.2.2.1)), ((adA 6), .inl (gI (kG K), 320, .inl r_1.2.2.2.2.2.2.1)), ((adA 7), .inl (gI (kG K), 320, .inl r_1.2.2.2.2.2.2.2.1)), ((adA 8), .inl (gI (kG K), 320, .inl r_1.2.2.2.2.2.2.2.2))] 0 0 10 [(0, .ref adm), (1, .int nm), (2, .int se)] [.int r_1.1, .ref (adA 12)]
  refine v_aload_n hk dX11_whole_10 rfl ?_
  refine v_get (C := RX11) (T := TX11) (N := 39) (ci := 10) (v := .ref (adA 32)) hk dX11_whole_11 w2i_X11_whole_X110 4 rfl rfl 32 (by decide) (by decide +kernel) rfl rfl ?_
  obtain ⟨r_2, er_2, h⟩ := bd_e (g := id) rfl h
  refine v_callS (n := 3) (st := []) hk dX11_whole_14 (c_X11_load (kl K) (kG K) (adA 12) (adA 32) 1280 r_1.2.2.1 320 fterm r_1.1 r_2 er_2) gd_X11_whole_X11_load rfl (by decide +kernel) (frok hR9 (Nat.le_of_ble_eq_true rfl) (Nat.le_of_ble_eq_true rfl)) (roomk hR9 (Nat.le_of_ble_eq_true rfl) (Nat.le_of_ble_eq_true rfl)) rfl rfl (Nat.le_of_ble_eq_true rfl) [8, 3] [0, 1, 2, 4, 5, 6, 7, 9, 10, 11, 12, 13, 14] (wr := [((adA 16), .inl (gI (kG K), 320, .inl ffactor)), ((adA 17), .inl (gI (kG K), 320, .inl fmade)), ((adA 30), .inl (gI (kG K), 5120, .inl fterms)), (adm, .inr (10, oM adA o_names o_rows o_strength o_most o_toldGraph o_toldArc)), ((adA 1), .inl (gI (kG K), 5, .inl fvalues)), ((adA 3), .inl (gI (kG K), 80, .inl fcells)), ((adA 11), .inl (gZ (kG K), 160, .inl r_1.2.1)), ((adA 13), .inl (gI (kG K), 1280, .inl r_1.2.2.2.1)), ((adA 14), .inl (gI (kG K), 320, .inl r_1.2.2.2.2.1)), ((adA 15), .inl (gI (kG K), 320, .inl r_1.2.2.2.2.2.1)), ((adA 6), .inl (gI (kG K), 320, .inl r_1.2.2.2.2.2.2.1)), ((adA 7), .inl (gI (kG K), 320, .inl r_1.2.2.2.2.2.2.2.1)), ((adA 8), .inl (gI (kG K), 320, .inl r_1.2.2.2.2.2.2.2.2))]) rfl rfl (by decide) (by decide) (by decide) ?_
  intro v9 w9 hp9
  obtain ⟨rfl, rfl⟩ := hp9
  show V K 4 [((adA 16), .inl (gI (kG K), 320, .inl ffactor)), ((adA 17), .inl (gI (kG K), 320, .inl fmade)), ((adA 30), .inl (gI (kG K), 5120, .inl fterms)), (adm, .inr (10, oM adA o_names o_rows o_strength o_most o_toldGraph o_toldArc)), ((adA 1), .inl (gI (kG K), 5, .inl fvalues)), ((adA 3), .inl (gI (kG K), 80, .inl fcells)), ((adA 11), .inl (gZ (kG K), 160, .inl r_1.2.1)), ((adA 13), .inl (gI (kG K), 1280, .inl r_1.2.2.2.1)), ((adA 14), .inl (gI (kG K), 320, .inl r_1.2.2.2.2.1)), ((adA 15), .inl (gI (kG K), 320, .inl r_1.2.2.2.2.2.1)), ((adA 6), .inl (gI (kG K), 320, .inl r_1.2.2.2.2.2.2.1)), ((adA 7), .inl (gI (kG K), 320, .inl r_1.2.2.2.2.2.2.2.1)), ((adA 8), .inl (gI (kG K), 320, .inl r_1.2.2.2.2.2.2.2.2)), ((adA 12), .inl (gI (kG K), 1280, .inl r_1.2.2.1)), ((adA 32), .inl (gI (kG K), 320, .inl r_2))] 0 0 17 [(0, .ref adm), (1, .int nm), (2, .int se)] []
  refine v_iconst (v := 0) hk dX11_whole_17 (by decide) ?_
  refine v_istore_n hk dX11_whole_18 rfl (by decide) [1, 2, 3, 0] (lv' := [(0, .ref adm), (1, .int nm), (2, .int se), (3, .int 0)]) rfl ?_
  obtain ⟨b_22, eb_22, h⟩ := bd_e (g := id) rfl h
  refine L_X11_whole_19 hk hR9 adm adA o_names o_rows o_strength o_most o_toldGraph o_toldArc fvalues fcells fterms nm se b_22 (fun q_20 eq_20 => ?_) FU 0 ffactor fmade r_1.2.1 r_1.2.2.2.1 r_1.2.2.2.2.1 r_1.2.2.2.2.2.1 r_1.2.2.2.2.2.2.1 r_1.2.2.2.2.2.2.2.1 r_1.2.2.2.2.2.2.2.2 r_1.2.2.1 r_2 eb_22
  · replace eq_20 := eq_20.symm
    subst eq_20
    refine v_aload_n hk dX11_whole_66 rfl ?_
    refine v_get (C := RX11) (T := TX11) (N := 39) (ci := 10) (v := .ref (adA 32)) hk dX11_whole_67 w2i_X11_whole_X110 3 rfl rfl 32 (by decide) (by decide +kernel) rfl rfl ?_
    refine v_aload_n hk dX11_whole_70 rfl ?_
    refine v_get (C := RX11) (T := TX11) (N := 39) (ci := 10) (v := .ref (adA 30)) hk dX11_whole_71 w2i_X11_whole_X110 3 rfl rfl 30 (by decide) (by decide +kernel) rfl rfl ?_
    refine v_bipush (v := 16) hk dX11_whole_74 (by decide) ?_
    refine v_iload_n hk dX11_whole_76 rfl ?_
    refine v_imul hk dX11_whole_77 ?_
    refine v_iload_n hk dX11_whole_78 rfl ?_
    refine v_iadd hk dX11_whole_79 ?_
    refine v_bipush (v := 80) hk dX11_whole_80 (by decide) ?_
    refine v_imul hk dX11_whole_82 ?_
    obtain ⟨r_21, er_21, h⟩ := bd_e (g := id) rfl h
    refine v_callS (n := 3) (st := []) hk dX11_whole_83 (c_X11_store (kl K) (kG K) (adA 32) (adA 30) 320 q_20.2.2.2.2.2.2.2.2.2.2.2 5120 fterms (((16 * nm) + se) * 80) r_21 er_21) gd_X11_whole_X11_store rfl (by decide +kernel) (frok hR9 (Nat.le_of_ble_eq_true rfl) (Nat.le_of_ble_eq_true rfl)) (roomk hR9 (Nat.le_of_ble_eq_true rfl) (Nat.le_of_ble_eq_true rfl)) rfl rfl (Nat.le_of_ble_eq_true rfl) [14, 2] [0, 1, 3, 4, 5, 6, 7, 8, 9, 10, 11, 12, 13] (wr := [((adA 16), .inl (gI (kG K), 320, .inl q_20.2.1)), ((adA 17), .inl (gI (kG K), 320, .inl q_20.2.2.1)), (adm, .inr (10, oM adA o_names o_rows o_strength o_most o_toldGraph o_toldArc)), ((adA 1), .inl (gI (kG K), 5, .inl fvalues)), ((adA 3), .inl (gI (kG K), 80, .inl fcells)), ((adA 11), .inl (gZ (kG K), 160, .inl q_20.2.2.2.1)), ((adA 13), .inl (gI (kG K), 1280, .inl q_20.2.2.2.2.1)), ((adA 14), .inl (gI (kG K), 320, .inl q_20.2.2.2.2.2.1)), ((adA 15), .inl (gI (kG K), 320, .inl q_20.2.2.2.2.2.2.1)), ((adA 6), .inl (gI (kG K), 320, .inl q_20.2.2.2.2.2.2.2.1)), ((adA 7), .inl (gI (kG K), 320, .inl q_20.2.2.2.2.2.2.2.2.1)), ((adA 8), .inl (gI (kG K), 320, .inl q_20.2.2.2.2.2.2.2.2.2.1)), ((adA 12), .inl (gI (kG K), 1280, .inl q_20.2.2.2.2.2.2.2.2.2.2.1))]) rfl rfl (by decide) (by decide) (by decide) ?_
    intro v9 w9 hp9
    obtain ⟨rfl, rfl⟩ := hp9
    show V K 4 [((adA 16), .inl (gI (kG K), 320, .inl q_20.2.1)), ((adA 17), .inl (gI (kG K), 320, .inl q_20.2.2.1)), (adm, .inr (10, oM adA o_names o_rows o_strength o_most o_toldGraph o_toldArc)), ((adA 1), .inl (gI (kG K), 5, .inl fvalues)), ((adA 3), .inl (gI (kG K), 80, .inl fcells)), ((adA 11), .inl (gZ (kG K), 160, .inl q_20.2.2.2.1)), ((adA 13), .inl (gI (kG K), 1280, .inl q_20.2.2.2.2.1)), ((adA 14), .inl (gI (kG K), 320, .inl q_20.2.2.2.2.2.1)), ((adA 15), .inl (gI (kG K), 320, .inl q_20.2.2.2.2.2.2.1)), ((adA 6), .inl (gI (kG K), 320, .inl q_20.2.2.2.2.2.2.2.1)), ((adA 7), .inl (gI (kG K), 320, .inl q_20.2.2.2.2.2.2.2.2.1)), ((adA 8), .inl (gI (kG K), 320, .inl q_20.2.2.2.2.2.2.2.2.2.1)), ((adA 12), .inl (gI (kG K), 1280, .inl q_20.2.2.2.2.2.2.2.2.2.2.1)), ((adA 32), .inl (gI (kG K), 320, .inl q_20.2.2.2.2.2.2.2.2.2.2.2)), ((adA 30), .inl (gI (kG K), 5120, .inl r_21))] 0 0 86 [(0, .ref adm), (1, .int nm), (2, .int se), (3, .int q_20.1)] []
    replace h : some (q_20.2.2.2.1, q_20.2.2.2.2.2.2.2.2.2.2.1, q_20.2.2.2.2.1, q_20.2.2.2.2.2.1, q_20.2.2.2.2.2.2.1, q_20.2.2.2.2.2.2.2.1, q_20.2.2.2.2.2.2.2.2.1, q_20.2.2.2.2.2.2.2.2.2.1, q_20.2.1, q_20.2.2.1, r_21, q_20.2.2.2.2.2.2.2.2.2.2.2) = some r := h
    replace h := Option.some.inj h
    subst h
    refine v_perm [2, 3, 4, 5, 12, 6, 7, 8, 9, 10, 11, 0, 1, 14, 13] (ws' := [(adm, .inr (10, oM adA o_names o_rows o_strength o_most o_toldGraph o_toldArc)), ((adA 1), .inl (gI (kG K), 5, .inl fvalues)), ((adA 3), .inl (gI (kG K), 80, .inl fcells)), ((adA 11), .inl (gZ (kG K), 160, .inl q_20.2.2.2.1)), ((adA 12), .inl (gI (kG K), 1280, .inl q_20.2.2.2.2.2.2.2.2.2.2.1)), ((adA 13), .inl (gI (kG K), 1280, .inl q_20.2.2.2.2.1)), ((adA 14), .inl (gI (kG K), 320, .inl q_20.2.2.2.2.2.1)), ((adA 15), .inl (gI (kG K), 320, .inl q_20.2.2.2.2.2.2.1)), ((adA 6), .inl (gI (kG K), 320, .inl q_20.2.2.2.2.2.2.2.1)), ((adA 7), .inl (gI (kG K), 320, .inl q_20.2.2.2.2.2.2.2.2.1)), ((adA 8), .inl (gI (kG K), 320, .inl q_20.2.2.2.2.2.2.2.2.2.1)), ((adA 16), .inl (gI (kG K), 320, .inl q_20.2.1)), ((adA 17), .inl (gI (kG K), 320, .inl q_20.2.2.1)), ((adA 30), .inl (gI (kG K), 5120, .inl r_21)), ((adA 32), .inl (gI (kG K), 320, .inl q_20.2.2.2.2.2.2.2.2.2.2.2))]) rfl rfl (by decide) ?_
    refine hrt (none) _ _ _ _ _ (⟨rfl, rfl⟩) (Nat.zero_le _) (Nat.zero_le _) (dX11_whole_86)
abbrev rm_X11_sumUp : Room := { frames := 5, cells := 0, slots := 0, locals := 120 }
set_option maxHeartbeats 4000000 in
set_option maxRecDepth 100000 in
theorem L_X11_sumUp_13 {K : Cx} {R9 : Room} (hk : Ok K cX11_sumUp 6 RX11 w2_X11_sumUp R9) (hR9 : RoomGe R9 rm_X11_sumUp) (adm : Nat) (adA : Nat → Nat) (o_names : Int32) (o_rows : Int32) (o_strength : Int32) (o_most : Int32) (o_toldGraph : Int32) (o_toldArc : Int32) (fvalues : Nat → Int32) (fcells : Nat → Int32) (fr : Int32) (to0 : Int32) (i3_1 : Int32) (fsum_14 : Nat → Int32) (fsums_15 : Nat → Int32) (b9 : (Int32 × (Nat → Int32) × (Nat → Int32) × (Nat → Int32) × (Nat → Int32) × (Nat → Int32) × (Nat → Int32) × (Nat → Int32) × (Nat → Int32) × (Nat → Int32) × (Nat → Int32) × (Nat → Int32) × (Nat → Int32))) (kk0 : ∀ q9 : (Int32 × (Nat → Int32) × (Nat → Int32) × (Nat → Int32) × (Nat → Int32) × (Nat → Int32) × (Nat → Int32) × (Nat → Int32) × (Nat → Int32) × (Nat → Int32) × (Nat → Int32) × (Nat → Int32) × (Nat → Int32)), b9 = q9 → V K 6 [(adm, .inr (10, oM adA o_names o_rows o_strength o_most o_toldGraph o_toldArc)), ((adA 1), .inl (gI (kG K), 5, .inl fvalues)), ((adA 3), .inl (gI (kG K), 80, .inl fcells)), ((adA 11), .inl (gZ (kG K), 160, .inl q9.2.1)), ((adA 12), .inl (gI (kG K), 1280, .inl q9.2.2.1)), ((adA 13), .inl (gI (kG K), 1280, .inl q9.2.2.2.1)), ((adA 14), .inl (gI (kG K), 320, .inl q9.2.2.2.2.1)), ((adA 15), .inl (gI (kG K), 320, .inl q9.2.2.2.2.2.1)), ((adA 6), .inl (gI (kG K), 320, .inl q9.2.2.2.2.2.2.1)), ((adA 7), .inl (gI (kG K), 320, .inl q9.2.2.2.2.2.2.2.1)), ((adA 8), .inl (gI (kG K), 320, .inl q9.2.2.2.2.2.2.2.2.1)), ((adA 16), .inl (gI (kG K), 320, .inl q9.2.2.2.2.2.2.2.2.2.1)), ((adA 17), .inl (gI (kG K), 320, .inl q9.2.2.2.2.2.2.2.2.2.2.1)), ((adA 30), .inl (gI (kG K), 5120, .inl q9.2.2.2.2.2.2.2.2.2.2.2.1)), ((adA 32), .inl (gI (kG K), 320, .inl q9.2.2.2.2.2.2.2.2.2.2.2.2)), ((adA 35), .inl (gI (kG K), 320, .inl fsum_14)), ((adA 29), .inl (gI (kG K), 5120, .inl fsums_15))] 0 0 46 [(0, .ref adm), (1, .int fr), (2, .int to0), (3, .int i3_1), (4, .int q9.1)] []) : ∀ (nn : Nat) (i4_16 : Int32) (fisKnown_17 : Nat → Int32) (ftops_18 : Nat → Int32) (flows_19 : Nat → Int32) (fsmall_20 : Nat → Int32) (flarge_21 : Nat → Int32) (fone_22 : Nat → Int32) (ftwo_23 : Nat → Int32) (frest_24 : Nat → Int32) (ffactor_25 : Nat → Int32) (fmade_26 : Nat → Int32) (fterms_27 : Nat → Int32) (fterm_28 : Nat → Int32), lp (b_X11_sumUp_13 o_names o_rows o_strength o_most o_toldGraph o_toldArc fvalues fcells i3_1) nn (i4_16, fisKnown_17, ftops_18, flows_19, fsmall_20, flarge_21, fone_22, ftwo_23, frest_24, ffactor_25, fmade_26, fterms_27, fterm_28) = some b9 → V K 6 [(adm, .inr (10, oM adA o_names o_rows o_strength o_most o_toldGraph o_toldArc)), ((adA 1), .inl (gI (kG K), 5, .inl fvalues)), ((adA 3), .inl (gI (kG K), 80, .inl fcells)), ((adA 11), .inl (gZ (kG K), 160, .inl fisKnown_17)), ((adA 12), .inl (gI (kG K), 1280, .inl ftops_18)), ((adA 13), .inl (gI (kG K), 1280, .inl flows_19)), ((adA 14), .inl (gI (kG K), 320, .inl fsmall_20)), ((adA 15), .inl (gI (kG K), 320, .inl flarge_21)), ((adA 6), .inl (gI (kG K), 320, .inl fone_22)), ((adA 7), .inl (gI (kG K), 320, .inl ftwo_23)), ((adA 8), .inl (gI (kG K), 320, .inl frest_24)), ((adA 16), .inl (gI (kG K), 320, .inl ffactor_25)), ((adA 17), .inl (gI (kG K), 320, .inl fmade_26)), ((adA 30), .inl (gI (kG K), 5120, .inl fterms_27)), ((adA 32), .inl (gI (kG K), 320, .inl fterm_28)), ((adA 35), .inl (gI (kG K), 320, .inl fsum_14)), ((adA 29), .inl (gI (kG K), 5120, .inl fsums_15))] 0 0 13 [(0, .ref adm), (1, .int fr), (2, .int to0), (3, .int i3_1), (4, .int i4_16)] [] := by
  intro nn
  induction nn with
  | zero => intro i4_16 fisKnown_17 ftops_18 flows_19 fsmall_20 flarge_21 fone_22 ftwo_23 frest_24 ffactor_25 fmade_26 fterms_27 fterm_28 h; exact absurd h (by simp [lp])
  | succ nn ih =>
    intro i4_16 fisKnown_17 ftops_18 flows_19 fsmall_20 flarge_21 fone_22 ftwo_23 frest_24 ffactor_25 fmade_26 fterms_27 fterm_28 h
    replace h := lp_s h
    rw [eb_X11_sumUp_13] at h
    refine v_iload hk dX11_sumUp_13 rfl ?_
    refine v_iconst (v := 1) hk dX11_sumUp_15 (by decide) ?_
    refine v_aload_n hk dX11_sumUp_16 rfl ?_
    refine v_get (C := RX11) (T := TX11) (N := 39) (ci := 10) (v := .int o_names) hk dX11_sumUp_17 w2i_X11_sumUp_X110 0 rfl rfl 0 (by decide) (by decide +kernel) rfl rfl ?_
    refine v_ishl hk dX11_sumUp_20 ?_
    refine v_icmp_ge (tgt := 46) hk dX11_sumUp_21 (by decide) (fun hc => ?_) (fun hc => ?_)
    · replace h := it_t (g := (lpk (lp (b_X11_sumUp_13 o_names o_rows o_strength o_most o_toldGraph o_toldArc fvalues fcells i3_1) nn))) h hc
      replace h : some (i4_16, fisKnown_17, ftops_18, flows_19, fsmall_20, flarge_21, fone_22, ftwo_23, frest_24, ffactor_25, fmade_26, fterms_27, fterm_28) = some b9 := h
      replace h := Option.some.inj h
      subst h
      exact kk0 _ rfl
    · replace h := it_f (g := (lpk (lp (b_X11_sumUp_13 o_names o_rows o_strength o_most o_toldGraph o_toldArc fvalues fcells i3_1) nn))) h hc
      refine v_iload hk dX11_sumUp_24 rfl ?_
      refine v_iload_n hk dX11_sumUp_26 rfl ?_
      refine v_ishr hk dX11_sumUp_27 ?_
      refine v_iconst (v := 1) hk dX11_sumUp_28 (by decide) ?_
      refine v_iand hk dX11_sumUp_29 ?_
      refine v_if_ne (tgt := 40) hk dX11_sumUp_30 (by decide) (fun hc => ?_) (fun hc => ?_)
      · replace h := it_f (g := (lpk (lp (b_X11_sumUp_13 o_names o_rows o_strength o_most o_toldGraph o_toldArc fvalues fcells i3_1) nn))) h hc
        obtain ⟨x4_29, ex4_29, h⟩ := lt_e (g := (lpk (lp (b_X11_sumUp_13 o_names o_rows o_strength o_most o_toldGraph o_toldArc fvalues fcells i3_1) nn))) h
        refine v_iinc (v := x4_29) hk dX11_sumUp_40 rfl (by rw [ex4_29]; rfl) (by decide) [1, 2, 3, 4, 0] (lv' := [(0, .ref adm), (1, .int fr), (2, .int to0), (3, .int i3_1), (4, .int x4_29)]) rfl ?_
        refine v_goto (tgt := 13) hk dX11_sumUp_43 (by decide) ?_
        exact ih x4_29 fisKnown_17 ftops_18 flows_19 fsmall_20 flarge_21 fone_22 ftwo_23 frest_24 ffactor_25 fmade_26 fterms_27 fterm_28 h
      · replace h := it_t (g := (lpk (lp (b_X11_sumUp_13 o_names o_rows o_strength o_most o_toldGraph o_toldArc fvalues fcells i3_1) nn))) h hc
        refine v_aload_n hk dX11_sumUp_33 rfl ?_
        refine v_iload_n hk dX11_sumUp_34 rfl ?_
        refine v_iload hk dX11_sumUp_35 rfl ?_
        obtain ⟨r_30, er_30, h⟩ := bd_e (g := (lpk (lp (b_X11_sumUp_13 o_names o_rows o_strength o_most o_toldGraph o_toldArc fvalues fcells i3_1) nn))) rfl h
        refine v_callV (n := 2) (st := []) (b := adm) (T := TX11) (N := 39) hk dX11_sumUp_37 (c_X11_whole (kl K) (kG K) adm adA o_names o_rows o_strength o_most o_toldGraph o_toldArc fvalues fcells fisKnown_17 ftops_18 flows_19 fsmall_20 flarge_21 fone_22 ftwo_23 frest_24 ffactor_25 fmade_26 fterms_27 fterm_28 i3_1 i4_16 r_30 er_30) rfl gd_X11_sumUp_X11_whole rfl (by decide +kernel) (frok hR9 (Nat.le_of_ble_eq_true rfl) (Nat.le_of_ble_eq_true rfl)) (roomk hR9 (Nat.le_of_ble_eq_true rfl) (Nat.le_of_ble_eq_true rfl)) rfl rfl (Nat.le_of_ble_eq_true rfl) 0 rfl rfl [0, 1, 2, 3, 4, 5, 6, 7, 8, 9, 10, 11, 12, 13, 14] [15, 16] (wr := [((adA 35), .inl (gI (kG K), 320, .inl fsum_14)), ((adA 29), .inl (gI (kG K), 5120, .inl fsums_15))]) rfl rfl (by decide) (by decide) (by decide) ?_
        intro v9 w9 hp9
        obtain ⟨rfl, rfl⟩ := hp9
        show V K 6 [((adA 35), .inl (gI (kG K), 320, .inl fsum_14)), ((adA 29), .inl (gI (kG K), 5120, .inl fsums_15)), (adm, .inr (10, oM adA o_names o_rows o_strength o_most o_toldGraph o_toldArc)), ((adA 1), .inl (gI (kG K), 5, .inl fvalues)), ((adA 3), .inl (gI (kG K), 80, .inl fcells)), ((adA 11), .inl (gZ (kG K), 160, .inl r_30.1)), ((adA 12), .inl (gI (kG K), 1280, .inl r_30.2.1)), ((adA 13), .inl (gI (kG K), 1280, .inl r_30.2.2.1)), ((adA 14), .inl (gI (kG K), 320, .inl r_30.2.2.2.1)), ((adA 15), .inl (gI (kG K), 320, .inl r_30.2.2.2.2.1)), ((adA 6), .inl (gI (kG K), 320, .inl r_30.2.2.2.2.2.1)), ((adA 7), .inl (gI (kG K), 320, .inl r_30.2.2.2.2.2.2.1)), ((adA 8), .inl (gI (kG K), 320, .inl r_30.2.2.2.2.2.2.2.1)), ((adA 16), .inl (gI (kG K), 320, .inl r_30.2.2.2.2.2.2.2.2.1)), ((adA 17), .inl (gI (kG K), 320, .inl r_30.2.2.2.2.2.2.2.2.2.1)), ((adA 30), .inl (gI (kG K), 5120, .inl r_30.2.2.2.2.2.2.2.2.2.2.1)), ((adA 32), .inl (gI (kG K), 320, .inl r_30.2.2.2.2.2.2.2.2.2.2.2))] 0 0 40 [(0, .ref adm), (1, .int fr), (2, .int to0), (3, .int i3_1), (4, .int i4_16)] []
        obtain ⟨x4_31, ex4_31, h⟩ := lt_e (g := (lpk (lp (b_X11_sumUp_13 o_names o_rows o_strength o_most o_toldGraph o_toldArc fvalues fcells i3_1) nn))) h
        refine v_iinc (v := x4_31) hk dX11_sumUp_40 rfl (by rw [ex4_31]; rfl) (by decide) [1, 2, 3, 4, 0] (lv' := [(0, .ref adm), (1, .int fr), (2, .int to0), (3, .int i3_1), (4, .int x4_31)]) rfl ?_
        refine v_goto (tgt := 13) hk dX11_sumUp_43 (by decide) ?_
        refine v_perm [2, 3, 4, 5, 6, 7, 8, 9, 10, 11, 12, 13, 14, 15, 16, 0, 1] (ws' := [(adm, .inr (10, oM adA o_names o_rows o_strength o_most o_toldGraph o_toldArc)), ((adA 1), .inl (gI (kG K), 5, .inl fvalues)), ((adA 3), .inl (gI (kG K), 80, .inl fcells)), ((adA 11), .inl (gZ (kG K), 160, .inl r_30.1)), ((adA 12), .inl (gI (kG K), 1280, .inl r_30.2.1)), ((adA 13), .inl (gI (kG K), 1280, .inl r_30.2.2.1)), ((adA 14), .inl (gI (kG K), 320, .inl r_30.2.2.2.1)), ((adA 15), .inl (gI (kG K), 320, .inl r_30.2.2.2.2.1)), ((adA 6), .inl (gI (kG K), 320, .inl r_30.2.2.2.2.2.1)), ((adA 7), .inl (gI (kG K), 320, .inl r_30.2.2.2.2.2.2.1)), ((adA 8), .inl (gI (kG K), 320, .inl r_30.2.2.2.2.2.2.2.1)), ((adA 16), .inl (gI (kG K), 320, .inl r_30.2.2.2.2.2.2.2.2.1)), ((adA 17), .inl (gI (kG K), 320, .inl r_30.2.2.2.2.2.2.2.2.2.1)), ((adA 30), .inl (gI (kG K), 5120, .inl r_30.2.2.2.2.2.2.2.2.2.2.1)), ((adA 32), .inl (gI (kG K), 320, .inl r_30.2.2.2.2.2.2.2.2.2.2.2)), ((adA 35), .inl (gI (kG K), 320, .inl fsum_14)), ((adA 29), .inl (gI (kG K), 5120, .inl fsums_15))]) rfl rfl (by decide) ?_
        exact ih x4_31 r_30.1 r_30.2.1 r_30.2.2.1 r_30.2.2.2.1 r_30.2.2.2.2.1 r_30.2.2.2.2.2.1 r_30.2.2.2.2.2.2.1 r_30.2.2.2.2.2.2.2.1 r_30.2.2.2.2.2.2.2.2.1 r_30.2.2.2.2.2.2.2.2.2.1 r_30.2.2.2.2.2.2.2.2.2.2.1 r_30.2.2.2.2.2.2.2.2.2.2.2 h
set_option maxHeartbeats 4000000 in
set_option maxRecDepth 100000 in
theorem L_X11_sumUp_71 {K : Cx} {R9 : Room} (hk : Ok K cX11_sumUp 6 RX11 w2_X11_sumUp R9) (hR9 : RoomGe R9 rm_X11_sumUp) (adm : Nat) (adA : Nat → Nat) (o_names : Int32) (o_rows : Int32) (o_strength : Int32) (o_most : Int32) (o_toldGraph : Int32) (o_toldArc : Int32) (fvalues : Nat → Int32) (fcells : Nat → Int32) (fr : Int32) (to0 : Int32) (i3_1 : Int32) (q_32 : Int32 × (Nat → Int32) × (Nat → Int32) × (Nat → Int32) × (Nat → Int32) × (Nat → Int32) × (Nat → Int32) × (Nat → Int32) × (Nat → Int32) × (Nat → Int32) × (Nat → Int32) × (Nat → Int32) × (Nat → Int32)) (i4_33 : Int32) (fsums_36 : Nat → Int32) (b9 : (Int32 × (Nat → Int32) × (Nat → Int32))) (kk0 : ∀ q9 : (Int32 × (Nat → Int32) × (Nat → Int32)), b9 = q9 → V K 6 [(adm, .inr (10, oM adA o_names o_rows o_strength o_most o_toldGraph o_toldArc)), ((adA 1), .inl (gI (kG K), 5, .inl fvalues)), ((adA 3), .inl (gI (kG K), 80, .inl fcells)), ((adA 11), .inl (gZ (kG K), 160, .inl q_32.2.1)), ((adA 12), .inl (gI (kG K), 1280, .inl q_32.2.2.1)), ((adA 13), .inl (gI (kG K), 1280, .inl q_32.2.2.2.1)), ((adA 14), .inl (gI (kG K), 320, .inl q_32.2.2.2.2.1)), ((adA 15), .inl (gI (kG K), 320, .inl q_32.2.2.2.2.2.1)), ((adA 6), .inl (gI (kG K), 320, .inl q_32.2.2.2.2.2.2.1)), ((adA 7), .inl (gI (kG K), 320, .inl q_32.2.2.2.2.2.2.2.1)), ((adA 8), .inl (gI (kG K), 320, .inl q_32.2.2.2.2.2.2.2.2.1)), ((adA 16), .inl (gI (kG K), 320, .inl q_32.2.2.2.2.2.2.2.2.2.1)), ((adA 17), .inl (gI (kG K), 320, .inl q_32.2.2.2.2.2.2.2.2.2.2.1)), ((adA 30), .inl (gI (kG K), 5120, .inl q_32.2.2.2.2.2.2.2.2.2.2.2.1)), ((adA 32), .inl (gI (kG K), 320, .inl q9.2.1)), ((adA 29), .inl (gI (kG K), 5120, .inl fsums_36)), ((adA 35), .inl (gI (kG K), 320, .inl q9.2.2))] 0 0 166 [(0, .ref adm), (1, .int fr), (2, .int to0), (3, .int i3_1), (4, .int i4_33), (5, .int q9.1)] []) : ∀ (nn : Nat) (i5_38 : Int32) (fterm_39 : Nat → Int32) (fsum_40 : Nat → Int32), lp (b_X11_sumUp_71 o_most fr to0 i3_1 q_32 i4_33) nn (i5_38, fterm_39, fsum_40) = some b9 → V K 6 [(adm, .inr (10, oM adA o_names o_rows o_strength o_most o_toldGraph o_toldArc)), ((adA 1), .inl (gI (kG K), 5, .inl fvalues)), ((adA 3), .inl (gI (kG K), 80, .inl fcells)), ((adA 11), .inl (gZ (kG K), 160, .inl q_32.2.1)), ((adA 12), .inl (gI (kG K), 1280, .inl q_32.2.2.1)), ((adA 13), .inl (gI (kG K), 1280, .inl q_32.2.2.2.1)), ((adA 14), .inl (gI (kG K), 320, .inl q_32.2.2.2.2.1)), ((adA 15), .inl (gI (kG K), 320, .inl q_32.2.2.2.2.2.1)), ((adA 6), .inl (gI (kG K), 320, .inl q_32.2.2.2.2.2.2.1)), ((adA 7), .inl (gI (kG K), 320, .inl q_32.2.2.2.2.2.2.2.1)), ((adA 8), .inl (gI (kG K), 320, .inl q_32.2.2.2.2.2.2.2.2.1)), ((adA 16), .inl (gI (kG K), 320, .inl q_32.2.2.2.2.2.2.2.2.2.1)), ((adA 17), .inl (gI (kG K), 320, .inl q_32.2.2.2.2.2.2.2.2.2.2.1)), ((adA 30), .inl (gI (kG K), 5120, .inl q_32.2.2.2.2.2.2.2.2.2.2.2.1)), ((adA 32), .inl (gI (kG K), 320, .inl fterm_39)), ((adA 29), .inl (gI (kG K), 5120, .inl fsums_36)), ((adA 35), .inl (gI (kG K), 320, .inl fsum_40))] 0 0 71 [(0, .ref adm), (1, .int fr), (2, .int to0), (3, .int i3_1), (4, .int i4_33), (5, .int i5_38)] [] := by
  intro nn
  induction nn with
  | zero => intro i5_38 fterm_39 fsum_40 h; exact absurd h (by simp [lp])
  | succ nn ih =>
    intro i5_38 fterm_39 fsum_40 h
    replace h := lp_s h
    rw [eb_X11_sumUp_71] at h
    refine v_iload hk dX11_sumUp_71 rfl ?_
    refine v_iload hk dX11_sumUp_73 rfl ?_
    refine v_icmp_gt (tgt := 166) hk dX11_sumUp_75 (by decide) (fun hc => ?_) (fun hc => ?_)
    · replace h := it_t (g := (lpk (lp (b_X11_sumUp_71 o_most fr to0 i3_1 q_32 i4_33) nn))) h hc
      replace h : some (i5_38, fterm_39, fsum_40) = some b9 := h
      replace h := Option.some.inj h
      subst h
      exact kk0 _ rfl
    · replace h := it_f (g := (lpk (lp (b_X11_sumUp_71 o_most fr to0 i3_1 q_32 i4_33) nn))) h hc
      refine v_iload hk dX11_sumUp_78 rfl ?_
      refine v_iload hk dX11_sumUp_80 rfl ?_
      refine v_iconst (v := (-1)) hk dX11_sumUp_82 (by decide) ?_
      refine v_ixor hk dX11_sumUp_83 ?_
      refine v_iand hk dX11_sumUp_84 ?_
      refine v_if_ne (tgt := 160) hk dX11_sumUp_85 (by decide) (fun hc => ?_) (fun hc => ?_)
      · replace h := it_f (g := (lpk (lp (b_X11_sumUp_71 o_most fr to0 i3_1 q_32 i4_33) nn))) h hc
        obtain ⟨x5_41, ex5_41, h⟩ := lt_e (g := (lpk (lp (b_X11_sumUp_71 o_most fr to0 i3_1 q_32 i4_33) nn))) h
        refine v_iinc (v := x5_41) hk dX11_sumUp_160 rfl (by rw [ex5_41]; rfl) (by decide) [1, 2, 3, 4, 5, 0] (lv' := [(0, .ref adm), (1, .int fr), (2, .int to0), (3, .int i3_1), (4, .int i4_33), (5, .int x5_41)]) rfl ?_
        refine v_goto (tgt := 71) hk dX11_sumUp_163 (by decide) ?_
        exact ih x5_41 fterm_39 fsum_40 h
      · replace h := it_t (g := (lpk (lp (b_X11_sumUp_71 o_most fr to0 i3_1 q_32 i4_33) nn))) h hc
        refine v_iload hk dX11_sumUp_88 rfl ?_
        refine v_iload_n hk dX11_sumUp_90 rfl ?_
        refine v_ishr hk dX11_sumUp_91 ?_
        refine v_iconst (v := 1) hk dX11_sumUp_92 (by decide) ?_
        refine v_iand hk dX11_sumUp_93 ?_
        refine v_if_ne (tgt := 160) hk dX11_sumUp_94 (by decide) (fun hc => ?_) (fun hc => ?_)
        · replace h := it_f (g := (lpk (lp (b_X11_sumUp_71 o_most fr to0 i3_1 q_32 i4_33) nn))) h hc
          obtain ⟨x5_42, ex5_42, h⟩ := lt_e (g := (lpk (lp (b_X11_sumUp_71 o_most fr to0 i3_1 q_32 i4_33) nn))) h
          refine v_iinc (v := x5_42) hk dX11_sumUp_160 rfl (by rw [ex5_42]; rfl) (by decide) [1, 2, 3, 4, 5, 0] (lv' := [(0, .ref adm), (1, .int fr), (2, .int to0), (3, .int i3_1), (4, .int i4_33), (5, .int x5_42)]) rfl ?_
          refine v_goto (tgt := 71) hk dX11_sumUp_163 (by decide) ?_
          exact ih x5_42 fterm_39 fsum_40 h
        · replace h := it_t (g := (lpk (lp (b_X11_sumUp_71 o_most fr to0 i3_1 q_32 i4_33) nn))) h hc
          refine v_iload hk dX11_sumUp_97 rfl ?_
          obtain ⟨r_43, er_43, h⟩ := bd_e (g := (lpk (lp (b_X11_sumUp_71 o_most fr to0 i3_1 q_32 i4_33) nn))) rfl h
          refine v_callS (n := 1) (st := []) hk dX11_sumUp_99 (c_X11_bits (kl K) (kG K) i5_38 r_43 er_43) gd_X11_sumUp_X11_bits rfl (by decide +kernel) (frok hR9 (Nat.le_of_ble_eq_true rfl) (Nat.le_of_ble_eq_true rfl)) (roomk hR9 (Nat.le_of_ble_eq_true rfl) (Nat.le_of_ble_eq_true rfl)) rfl rfl (Nat.le_of_ble_eq_true rfl) [] [0, 1, 2, 3, 4, 5, 6, 7, 8, 9, 10, 11, 12, 13, 14, 15, 16] (wr := [(adm, .inr (10, oM adA o_names o_rows o_strength o_most o_toldGraph o_toldArc)), ((adA 1), .inl (gI (kG K), 5, .inl fvalues)), ((adA 3), .inl (gI (kG K), 80, .inl fcells)), ((adA 11), .inl (gZ (kG K), 160, .inl q_32.2.1)), ((adA 12), .inl (gI (kG K), 1280, .inl q_32.2.2.1)), ((adA 13), .inl (gI (kG K), 1280, .inl q_32.2.2.2.1)), ((adA 14), .inl (gI (kG K), 320, .inl q_32.2.2.2.2.1)), ((adA 15), .inl (gI (kG K), 320, .inl q_32.2.2.2.2.2.1)), ((adA 6), .inl (gI (kG K), 320, .inl q_32.2.2.2.2.2.2.1)), ((adA 7), .inl (gI (kG K), 320, .inl q_32.2.2.2.2.2.2.2.1)), ((adA 8), .inl (gI (kG K), 320, .inl q_32.2.2.2.2.2.2.2.2.1)), ((adA 16), .inl (gI (kG K), 320, .inl q_32.2.2.2.2.2.2.2.2.2.1)), ((adA 17), .inl (gI (kG K), 320, .inl q_32.2.2.2.2.2.2.2.2.2.2.1)), ((adA 30), .inl (gI (kG K), 5120, .inl q_32.2.2.2.2.2.2.2.2.2.2.2.1)), ((adA 32), .inl (gI (kG K), 320, .inl fterm_39)), ((adA 29), .inl (gI (kG K), 5120, .inl fsums_36)), ((adA 35), .inl (gI (kG K), 320, .inl fsum_40))]) rfl rfl (by decide) (by decide) (by decide) ?_
          intro v9 w9 hp9
          obtain ⟨rfl, rfl⟩ := hp9
          show V K 6 [(adm, .inr (10, oM adA o_names o_rows o_strength o_most o_toldGraph o_toldArc)), ((adA 1), .inl (gI (kG K), 5, .inl fvalues)), ((adA 3), .inl (gI (kG K), 80, .inl fcells)), ((adA 11), .inl (gZ (kG K), 160, .inl q_32.2.1)), ((adA 12), .inl (gI (kG K), 1280, .inl q_32.2.2.1)), ((adA 13), .inl (gI (kG K), 1280, .inl q_32.2.2.2.1)), ((adA 14), .inl (gI (kG K), 320, .inl q_32.2.2.2.2.1)), ((adA 15), .inl (gI (kG K), 320, .inl q_32.2.2.2.2.2.1)), ((adA 6), .inl (gI (kG K), 320, .inl q_32.2.2.2.2.2.2.1)), ((adA 7), .inl (gI (kG K), 320, .inl q_32.2.2.2.2.2.2.2.1)), ((adA 8), .inl (gI (kG K), 320, .inl q_32.2.2.2.2.2.2.2.2.1)), ((adA 16), .inl (gI (kG K), 320, .inl q_32.2.2.2.2.2.2.2.2.2.1)), ((adA 17), .inl (gI (kG K), 320, .inl q_32.2.2.2.2.2.2.2.2.2.2.1)), ((adA 30), .inl (gI (kG K), 5120, .inl q_32.2.2.2.2.2.2.2.2.2.2.2.1)), ((adA 32), .inl (gI (kG K), 320, .inl fterm_39)), ((adA 29), .inl (gI (kG K), 5120, .inl fsums_36)), ((adA 35), .inl (gI (kG K), 320, .inl fsum_40))] 0 0 102 [(0, .ref adm), (1, .int fr), (2, .int to0), (3, .int i3_1), (4, .int i4_33), (5, .int i5_38)] [.int r_43]
          refine v_aload_n hk dX11_sumUp_102 rfl ?_
          refine v_get (C := RX11) (T := TX11) (N := 39) (ci := 10) (v := .int o_most) hk dX11_sumUp_103 w2i_X11_sumUp_X110 0 rfl rfl 5 (by decide) (by decide +kernel) rfl rfl ?_
          obtain ⟨y_44, ey_44, h⟩ := bd_e (g := (lpk (lp (b_X11_sumUp_71 o_most fr to0 i3_1 q_32 i4_33) nn))) rfl h
          have Jay_44 : y_44 = true → V K 6 [(adm, .inr (10, oM adA o_names o_rows o_strength o_most o_toldGraph o_toldArc)), ((adA 1), .inl (gI (kG K), 5, .inl fvalues)), ((adA 3), .inl (gI (kG K), 80, .inl fcells)), ((adA 11), .inl (gZ (kG K), 160, .inl q_32.2.1)), ((adA 12), .inl (gI (kG K), 1280, .inl q_32.2.2.1)), ((adA 13), .inl (gI (kG K), 1280, .inl q_32.2.2.2.1)), ((adA 14), .inl (gI (kG K), 320, .inl q_32.2.2.2.2.1)), ((adA 15), .inl (gI (kG K), 320, .inl q_32.2.2.2.2.2.1)), ((adA 6), .inl (gI (kG K), 320, .inl q_32.2.2.2.2.2.2.1)), ((adA 7), .inl (gI (kG K), 320, .inl q_32.2.2.2.2.2.2.2.1)), ((adA 8), .inl (gI (kG K), 320, .inl q_32.2.2.2.2.2.2.2.2.1)), ((adA 16), .inl (gI (kG K), 320, .inl q_32.2.2.2.2.2.2.2.2.2.1)), ((adA 17), .inl (gI (kG K), 320, .inl q_32.2.2.2.2.2.2.2.2.2.2.1)), ((adA 30), .inl (gI (kG K), 5120, .inl q_32.2.2.2.2.2.2.2.2.2.2.2.1)), ((adA 32), .inl (gI (kG K), 320, .inl fterm_39)), ((adA 29), .inl (gI (kG K), 5120, .inl fsums_36)), ((adA 35), .inl (gI (kG K), 320, .inl fsum_40))] 0 0 160 [(0, .ref adm), (1, .int fr), (2, .int to0), (3, .int i3_1), (4, .int i4_33), (5, .int i5_38)] [] := by
            intro hz9
            replace h := it_t (g := (lpk (lp (b_X11_sumUp_71 o_most fr to0 i3_1 q_32 i4_33) nn))) h hz9
            obtain ⟨x5_45, ex5_45, h⟩ := lt_e (g := (lpk (lp (b_X11_sumUp_71 o_most fr to0 i3_1 q_32 i4_33) nn))) h
            refine v_iinc (v := x5_45) hk dX11_sumUp_160 rfl (by rw [ex5_45]; rfl) (by decide) [1, 2, 3, 4, 5, 0] (lv' := [(0, .ref adm), (1, .int fr), (2, .int to0), (3, .int i3_1), (4, .int i4_33), (5, .int x5_45)]) rfl ?_
            refine v_goto (tgt := 71) hk dX11_sumUp_163 (by decide) ?_
            exact ih x5_45 fterm_39 fsum_40 h
          have Jby_44 : y_44 = false → V K 6 [(adm, .inr (10, oM adA o_names o_rows o_strength o_most o_toldGraph o_toldArc)), ((adA 1), .inl (gI (kG K), 5, .inl fvalues)), ((adA 3), .inl (gI (kG K), 80, .inl fcells)), ((adA 11), .inl (gZ (kG K), 160, .inl q_32.2.1)), ((adA 12), .inl (gI (kG K), 1280, .inl q_32.2.2.1)), ((adA 13), .inl (gI (kG K), 1280, .inl q_32.2.2.2.1)), ((adA 14), .inl (gI (kG K), 320, .inl q_32.2.2.2.2.1)), ((adA 15), .inl (gI (kG K), 320, .inl q_32.2.2.2.2.2.1)), ((adA 6), .inl (gI (kG K), 320, .inl q_32.2.2.2.2.2.2.1)), ((adA 7), .inl (gI (kG K), 320, .inl q_32.2.2.2.2.2.2.2.1)), ((adA 8), .inl (gI (kG K), 320, .inl q_32.2.2.2.2.2.2.2.2.1)), ((adA 16), .inl (gI (kG K), 320, .inl q_32.2.2.2.2.2.2.2.2.2.1)), ((adA 17), .inl (gI (kG K), 320, .inl q_32.2.2.2.2.2.2.2.2.2.2.1)), ((adA 30), .inl (gI (kG K), 5120, .inl q_32.2.2.2.2.2.2.2.2.2.2.2.1)), ((adA 32), .inl (gI (kG K), 320, .inl fterm_39)), ((adA 29), .inl (gI (kG K), 5120, .inl fsums_36)), ((adA 35), .inl (gI (kG K), 320, .inl fsum_40))] 0 0 128 [(0, .ref adm), (1, .int fr), (2, .int to0), (3, .int i3_1), (4, .int i4_33), (5, .int i5_38)] [] := by
            intro hz9
            replace h := it_f (g := (lpk (lp (b_X11_sumUp_71 o_most fr to0 i3_1 q_32 i4_33) nn))) h (by rw [hz9]; decide)
            refine v_aload_n hk dX11_sumUp_128 rfl ?_
            refine v_get (C := RX11) (T := TX11) (N := 39) (ci := 10) (v := .ref (adA 30)) hk dX11_sumUp_129 w2i_X11_sumUp_X110 0 rfl rfl 30 (by decide) (by decide +kernel) rfl rfl ?_
            refine v_bipush (v := 16) hk dX11_sumUp_132 (by decide) ?_
            refine v_iload_n hk dX11_sumUp_134 rfl ?_
            refine v_imul hk dX11_sumUp_135 ?_
            refine v_iload hk dX11_sumUp_136 rfl ?_
            refine v_iadd hk dX11_sumUp_138 ?_
            refine v_bipush (v := 80) hk dX11_sumUp_139 (by decide) ?_
            refine v_imul hk dX11_sumUp_141 ?_
            refine v_aload_n hk dX11_sumUp_142 rfl ?_
            refine v_get (C := RX11) (T := TX11) (N := 39) (ci := 10) (v := .ref (adA 32)) hk dX11_sumUp_143 w2i_X11_sumUp_X110 0 rfl rfl 32 (by decide) (by decide +kernel) rfl rfl ?_
            obtain ⟨r_46, er_46, h⟩ := bd_e (g := (lpk (lp (b_X11_sumUp_71 o_most fr to0 i3_1 q_32 i4_33) nn))) rfl h
            refine v_callS (n := 3) (st := []) hk dX11_sumUp_146 (c_X11_load (kl K) (kG K) (adA 30) (adA 32) 5120 q_32.2.2.2.2.2.2.2.2.2.2.2.1 320 fterm_39 (((16 * i3_1) + i5_38) * 80) r_46 er_46) gd_X11_sumUp_X11_load rfl (by decide +kernel) (frok hR9 (Nat.le_of_ble_eq_true rfl) (Nat.le_of_ble_eq_true rfl)) (roomk hR9 (Nat.le_of_ble_eq_true rfl) (Nat.le_of_ble_eq_true rfl)) rfl rfl (Nat.le_of_ble_eq_true rfl) [13, 14] [0, 1, 2, 3, 4, 5, 6, 7, 8, 9, 10, 11, 12, 15, 16] (wr := [(adm, .inr (10, oM adA o_names o_rows o_strength o_most o_toldGraph o_toldArc)), ((adA 1), .inl (gI (kG K), 5, .inl fvalues)), ((adA 3), .inl (gI (kG K), 80, .inl fcells)), ((adA 11), .inl (gZ (kG K), 160, .inl q_32.2.1)), ((adA 12), .inl (gI (kG K), 1280, .inl q_32.2.2.1)), ((adA 13), .inl (gI (kG K), 1280, .inl q_32.2.2.2.1)), ((adA 14), .inl (gI (kG K), 320, .inl q_32.2.2.2.2.1)), ((adA 15), .inl (gI (kG K), 320, .inl q_32.2.2.2.2.2.1)), ((adA 6), .inl (gI (kG K), 320, .inl q_32.2.2.2.2.2.2.1)), ((adA 7), .inl (gI (kG K), 320, .inl q_32.2.2.2.2.2.2.2.1)), ((adA 8), .inl (gI (kG K), 320, .inl q_32.2.2.2.2.2.2.2.2.1)), ((adA 16), .inl (gI (kG K), 320, .inl q_32.2.2.2.2.2.2.2.2.2.1)), ((adA 17), .inl (gI (kG K), 320, .inl q_32.2.2.2.2.2.2.2.2.2.2.1)), ((adA 29), .inl (gI (kG K), 5120, .inl fsums_36)), ((adA 35), .inl (gI (kG K), 320, .inl fsum_40))]) rfl rfl (by decide) (by decide) (by decide) ?_
            intro v9 w9 hp9
            obtain ⟨rfl, rfl⟩ := hp9
            show V K 6 [(adm, .inr (10, oM adA o_names o_rows o_strength o_most o_toldGraph o_toldArc)), ((adA 1), .inl (gI (kG K), 5, .inl fvalues)), ((adA 3), .inl (gI (kG K), 80, .inl fcells)), ((adA 11), .inl (gZ (kG K), 160, .inl q_32.2.1)), ((adA 12), .inl (gI (kG K), 1280, .inl q_32.2.2.1)), ((adA 13), .inl (gI (kG K), 1280, .inl q_32.2.2.2.1)), ((adA 14), .inl (gI (kG K), 320, .inl q_32.2.2.2.2.1)), ((adA 15), .inl (gI (kG K), 320, .inl q_32.2.2.2.2.2.1)), ((adA 6), .inl (gI (kG K), 320, .inl q_32.2.2.2.2.2.2.1)), ((adA 7), .inl (gI (kG K), 320, .inl q_32.2.2.2.2.2.2.2.1)), ((adA 8), .inl (gI (kG K), 320, .inl q_32.2.2.2.2.2.2.2.2.1)), ((adA 16), .inl (gI (kG K), 320, .inl q_32.2.2.2.2.2.2.2.2.2.1)), ((adA 17), .inl (gI (kG K), 320, .inl q_32.2.2.2.2.2.2.2.2.2.2.1)), ((adA 29), .inl (gI (kG K), 5120, .inl fsums_36)), ((adA 35), .inl (gI (kG K), 320, .inl fsum_40)), ((adA 30), .inl (gI (kG K), 5120, .inl q_32.2.2.2.2.2.2.2.2.2.2.2.1)), ((adA 32), .inl (gI (kG K), 320, .inl r_46))] 0 0 149 [(0, .ref adm), (1, .int fr), (2, .int to0), (3, .int i3_1), (4, .int i4_33), (5, .int i5_38)] []
            refine v_aload_n hk dX11_sumUp_149 rfl ?_
            refine v_get (C := RX11) (T := TX11) (N := 39) (ci := 10) (v := .ref (adA 35)) hk dX11_sumUp_150 w2i_X11_sumUp_X110 0 rfl rfl 35 (by decide) (by decide +kernel) rfl rfl ?_
            refine v_aload_n hk dX11_sumUp_153 rfl ?_
            refine v_get (C := RX11) (T := TX11) (N := 39) (ci := 10) (v := .ref (adA 32)) hk dX11_sumUp_154 w2i_X11_sumUp_X110 0 rfl rfl 32 (by decide) (by decide +kernel) rfl rfl ?_
            obtain ⟨r_47, er_47, h⟩ := bd_e (g := (lpk (lp (b_X11_sumUp_71 o_most fr to0 i3_1 q_32 i4_33) nn))) rfl h
            refine v_callS (n := 2) (st := []) hk dX11_sumUp_157 (c_X11_plus (kl K) (kG K) (adA 35) (adA 32) 320 fsum_40 320 r_46 r_47 er_47) gd_X11_sumUp_X11_plus rfl (by decide +kernel) (frok hR9 (Nat.le_of_ble_eq_true rfl) (Nat.le_of_ble_eq_true rfl)) (roomk hR9 (Nat.le_of_ble_eq_true rfl) (Nat.le_of_ble_eq_true rfl)) rfl rfl (Nat.le_of_ble_eq_true rfl) [14, 16] [0, 1, 2, 3, 4, 5, 6, 7, 8, 9, 10, 11, 12, 13, 15] (wr := [(adm, .inr (10, oM adA o_names o_rows o_strength o_most o_toldGraph o_toldArc)), ((adA 1), .inl (gI (kG K), 5, .inl fvalues)), ((adA 3), .inl (gI (kG K), 80, .inl fcells)), ((adA 11), .inl (gZ (kG K), 160, .inl q_32.2.1)), ((adA 12), .inl (gI (kG K), 1280, .inl q_32.2.2.1)), ((adA 13), .inl (gI (kG K), 1280, .inl q_32.2.2.2.1)), ((adA 14), .inl (gI (kG K), 320, .inl q_32.2.2.2.2.1)), ((adA 15), .inl (gI (kG K), 320, .inl q_32.2.2.2.2.2.1)), ((adA 6), .inl (gI (kG K), 320, .inl q_32.2.2.2.2.2.2.1)), ((adA 7), .inl (gI (kG K), 320, .inl q_32.2.2.2.2.2.2.2.1)), ((adA 8), .inl (gI (kG K), 320, .inl q_32.2.2.2.2.2.2.2.2.1)), ((adA 16), .inl (gI (kG K), 320, .inl q_32.2.2.2.2.2.2.2.2.2.1)), ((adA 17), .inl (gI (kG K), 320, .inl q_32.2.2.2.2.2.2.2.2.2.2.1)), ((adA 29), .inl (gI (kG K), 5120, .inl fsums_36)), ((adA 30), .inl (gI (kG K), 5120, .inl q_32.2.2.2.2.2.2.2.2.2.2.2.1))]) rfl rfl (by decide) (by decide) (by decide) ?_
            intro v9 w9 hp9
            obtain ⟨rfl, rfl⟩ := hp9
            show V K 6 [(adm, .inr (10, oM adA o_names o_rows o_strength o_most o_toldGraph o_toldArc)), ((adA 1), .inl (gI (kG K), 5, .inl fvalues)), ((adA 3), .inl (gI (kG K), 80, .inl fcells)), ((adA 11), .inl (gZ (kG K), 160, .inl q_32.2.1)), ((adA 12), .inl (gI (kG K), 1280, .inl q_32.2.2.1)), ((adA 13), .inl (gI (kG K), 1280, .inl q_32.2.2.2.1)), ((adA 14), .inl (gI (kG K), 320, .inl q_32.2.2.2.2.1)), ((adA 15), .inl (gI (kG K), 320, .inl q_32.2.2.2.2.2.1)), ((adA 6), .inl (gI (kG K), 320, .inl q_32.2.2.2.2.2.2.1)), ((adA 7), .inl (gI (kG K), 320, .inl q_32.2.2.2.2.2.2.2.1)), ((adA 8), .inl (gI (kG K), 320, .inl q_32.2.2.2.2.2.2.2.2.1)), ((adA 16), .inl (gI (kG K), 320, .inl q_32.2.2.2.2.2.2.2.2.2.1)), ((adA 17), .inl (gI (kG K), 320, .inl q_32.2.2.2.2.2.2.2.2.2.2.1)), ((adA 29), .inl (gI (kG K), 5120, .inl fsums_36)), ((adA 30), .inl (gI (kG K), 5120, .inl q_32.2.2.2.2.2.2.2.2.2.2.2.1)), ((adA 35), .inl (gI (kG K), 320, .inl r_47)), ((adA 32), .inl (gI (kG K), 320, .inl r_46))] 0 0 160 [(0, .ref adm), (1, .int fr), (2, .int to0), (3, .int i3_1), (4, .int i4_33), (5, .int i5_38)] []
            obtain ⟨x5_48, ex5_48, h⟩ := lt_e (g := (lpk (lp (b_X11_sumUp_71 o_most fr to0 i3_1 q_32 i4_33) nn))) h
            refine v_iinc (v := x5_48) hk dX11_sumUp_160 rfl (by rw [ex5_48]; rfl) (by decide) [1, 2, 3, 4, 5, 0] (lv' := [(0, .ref adm), (1, .int fr), (2, .int to0), (3, .int i3_1), (4, .int i4_33), (5, .int x5_48)]) rfl ?_
            refine v_goto (tgt := 71) hk dX11_sumUp_163 (by decide) ?_
            refine v_perm [0, 1, 2, 3, 4, 5, 6, 7, 8, 9, 10, 11, 12, 14, 16, 13, 15] (ws' := [(adm, .inr (10, oM adA o_names o_rows o_strength o_most o_toldGraph o_toldArc)), ((adA 1), .inl (gI (kG K), 5, .inl fvalues)), ((adA 3), .inl (gI (kG K), 80, .inl fcells)), ((adA 11), .inl (gZ (kG K), 160, .inl q_32.2.1)), ((adA 12), .inl (gI (kG K), 1280, .inl q_32.2.2.1)), ((adA 13), .inl (gI (kG K), 1280, .inl q_32.2.2.2.1)), ((adA 14), .inl (gI (kG K), 320, .inl q_32.2.2.2.2.1)), ((adA 15), .inl (gI (kG K), 320, .inl q_32.2.2.2.2.2.1)), ((adA 6), .inl (gI (kG K), 320, .inl q_32.2.2.2.2.2.2.1)), ((adA 7), .inl (gI (kG K), 320, .inl q_32.2.2.2.2.2.2.2.1)), ((adA 8), .inl (gI (kG K), 320, .inl q_32.2.2.2.2.2.2.2.2.1)), ((adA 16), .inl (gI (kG K), 320, .inl q_32.2.2.2.2.2.2.2.2.2.1)), ((adA 17), .inl (gI (kG K), 320, .inl q_32.2.2.2.2.2.2.2.2.2.2.1)), ((adA 30), .inl (gI (kG K), 5120, .inl q_32.2.2.2.2.2.2.2.2.2.2.2.1)), ((adA 32), .inl (gI (kG K), 320, .inl r_46)), ((adA 29), .inl (gI (kG K), 5120, .inl fsums_36)), ((adA 35), .inl (gI (kG K), 320, .inl r_47))]) rfl rfl (by decide) ?_
            exact ih x5_48 r_46 r_47 h
          clear h
          have h := id_e ey_44
          clear ey_44
          refine v_icmp_gt (tgt := 160) hk dX11_sumUp_106 (by decide) (fun hc => ?_) (fun hc => ?_)
          · replace h := it_t (g := id) h hc
            replace h : some true = some y_44 := h
            replace h := Option.some.inj h
            subst h
            exact Jay_44 rfl
          · replace h := it_f (g := id) h hc
            refine v_iload_n hk dX11_sumUp_109 rfl ?_
            refine v_iload_n hk dX11_sumUp_110 rfl ?_
            obtain ⟨y_49, ey_49, h⟩ := bd_e (g := id) rfl h
            have Jay_49 : y_49 = true → V K 6 [(adm, .inr (10, oM adA o_names o_rows o_strength o_most o_toldGraph o_toldArc)), ((adA 1), .inl (gI (kG K), 5, .inl fvalues)), ((adA 3), .inl (gI (kG K), 80, .inl fcells)), ((adA 11), .inl (gZ (kG K), 160, .inl q_32.2.1)), ((adA 12), .inl (gI (kG K), 1280, .inl q_32.2.2.1)), ((adA 13), .inl (gI (kG K), 1280, .inl q_32.2.2.2.1)), ((adA 14), .inl (gI (kG K), 320, .inl q_32.2.2.2.2.1)), ((adA 15), .inl (gI (kG K), 320, .inl q_32.2.2.2.2.2.1)), ((adA 6), .inl (gI (kG K), 320, .inl q_32.2.2.2.2.2.2.1)), ((adA 7), .inl (gI (kG K), 320, .inl q_32.2.2.2.2.2.2.2.1)), ((adA 8), .inl (gI (kG K), 320, .inl q_32.2.2.2.2.2.2.2.2.1)), ((adA 16), .inl (gI (kG K), 320, .inl q_32.2.2.2.2.2.2.2.2.2.1)), ((adA 17), .inl (gI (kG K), 320, .inl q_32.2.2.2.2.2.2.2.2.2.2.1)), ((adA 30), .inl (gI (kG K), 5120, .inl q_32.2.2.2.2.2.2.2.2.2.2.2.1)), ((adA 32), .inl (gI (kG K), 320, .inl fterm_39)), ((adA 29), .inl (gI (kG K), 5120, .inl fsums_36)), ((adA 35), .inl (gI (kG K), 320, .inl fsum_40))] 0 0 128 [(0, .ref adm), (1, .int fr), (2, .int to0), (3, .int i3_1), (4, .int i4_33), (5, .int i5_38)] [] := by
              intro hz9
              replace h := it_t (g := id) h hz9
              replace h : some false = some y_44 := h
              replace h := Option.some.inj h
              subst h
              exact Jby_44 rfl
            have Jby_49 : y_49 = false → V K 6 [(adm, .inr (10, oM adA o_names o_rows o_strength o_most o_toldGraph o_toldArc)), ((adA 1), .inl (gI (kG K), 5, .inl fvalues)), ((adA 3), .inl (gI (kG K), 80, .inl fcells)), ((adA 11), .inl (gZ (kG K), 160, .inl q_32.2.1)), ((adA 12), .inl (gI (kG K), 1280, .inl q_32.2.2.1)), ((adA 13), .inl (gI (kG K), 1280, .inl q_32.2.2.2.1)), ((adA 14), .inl (gI (kG K), 320, .inl q_32.2.2.2.2.1)), ((adA 15), .inl (gI (kG K), 320, .inl q_32.2.2.2.2.2.1)), ((adA 6), .inl (gI (kG K), 320, .inl q_32.2.2.2.2.2.2.1)), ((adA 7), .inl (gI (kG K), 320, .inl q_32.2.2.2.2.2.2.2.1)), ((adA 8), .inl (gI (kG K), 320, .inl q_32.2.2.2.2.2.2.2.2.1)), ((adA 16), .inl (gI (kG K), 320, .inl q_32.2.2.2.2.2.2.2.2.2.1)), ((adA 17), .inl (gI (kG K), 320, .inl q_32.2.2.2.2.2.2.2.2.2.2.1)), ((adA 30), .inl (gI (kG K), 5120, .inl q_32.2.2.2.2.2.2.2.2.2.2.2.1)), ((adA 32), .inl (gI (kG K), 320, .inl fterm_39)), ((adA 29), .inl (gI (kG K), 5120, .inl fsums_36)), ((adA 35), .inl (gI (kG K), 320, .inl fsum_40))] 0 0 160 [(0, .ref adm), (1, .int fr), (2, .int to0), (3, .int i3_1), (4, .int i4_33), (5, .int i5_38)] [] := by
              intro hz9
              replace h := it_f (g := id) h (by rw [hz9]; decide)
              replace h : some true = some y_44 := h
              replace h := Option.some.inj h
              subst h
              exact Jay_44 rfl
            clear h
            have h := id_e ey_49
            clear ey_49
            refine v_icmp_ne (tgt := 128) hk dX11_sumUp_111 (by decide) (fun hc => ?_) (fun hc => ?_)
            · replace h := it_f (g := id) h hc
              replace h : some true = some y_49 := h
              replace h := Option.some.inj h
              subst h
              exact Jay_49 rfl
            · replace h := it_t (g := id) h hc
              refine v_iload_n hk dX11_sumUp_114 rfl ?_
              obtain ⟨y_50, ey_50, h⟩ := bd_e (g := id) rfl h
              have Jay_50 : y_50 = true → V K 6 [(adm, .inr (10, oM adA o_names o_rows o_strength o_most o_toldGraph o_toldArc)), ((adA 1), .inl (gI (kG K), 5, .inl fvalues)), ((adA 3), .inl (gI (kG K), 80, .inl fcells)), ((adA 11), .inl (gZ (kG K), 160, .inl q_32.2.1)), ((adA 12), .inl (gI (kG K), 1280, .inl q_32.2.2.1)), ((adA 13), .inl (gI (kG K), 1280, .inl q_32.2.2.2.1)), ((adA 14), .inl (gI (kG K), 320, .inl q_32.2.2.2.2.1)), ((adA 15), .inl (gI (kG K), 320, .inl q_32.2.2.2.2.2.1)), ((adA 6), .inl (gI (kG K), 320, .inl q_32.2.2.2.2.2.2.1)), ((adA 7), .inl (gI (kG K), 320, .inl q_32.2.2.2.2.2.2.2.1)), ((adA 8), .inl (gI (kG K), 320, .inl q_32.2.2.2.2.2.2.2.2.1)), ((adA 16), .inl (gI (kG K), 320, .inl q_32.2.2.2.2.2.2.2.2.2.1)), ((adA 17), .inl (gI (kG K), 320, .inl q_32.2.2.2.2.2.2.2.2.2.2.1)), ((adA 30), .inl (gI (kG K), 5120, .inl q_32.2.2.2.2.2.2.2.2.2.2.2.1)), ((adA 32), .inl (gI (kG K), 320, .inl fterm_39)), ((adA 29), .inl (gI (kG K), 5120, .inl fsums_36)), ((adA 35), .inl (gI (kG K), 320, .inl fsum_40))] 0 0 128 [(0, .ref adm), (1, .int fr), (2, .int to0), (3, .int i3_1), (4, .int i4_33), (5, .int i5_38)] [] := by
                intro hz9
                replace h := it_t (g := id) h hz9
                replace h : some true = some y_49 := h
                replace h := Option.some.inj h
                subst h
                exact Jay_49 rfl
              have Jby_50 : y_50 = false → V K 6 [(adm, .inr (10, oM adA o_names o_rows o_strength o_most o_toldGraph o_toldArc)), ((adA 1), .inl (gI (kG K), 5, .inl fvalues)), ((adA 3), .inl (gI (kG K), 80, .inl fcells)), ((adA 11), .inl (gZ (kG K), 160, .inl q_32.2.1)), ((adA 12), .inl (gI (kG K), 1280, .inl q_32.2.2.1)), ((adA 13), .inl (gI (kG K), 1280, .inl q_32.2.2.2.1)), ((adA 14), .inl (gI (kG K), 320, .inl q_32.2.2.2.2.1)), ((adA 15), .inl (gI (kG K), 320, .inl q_32.2.2.2.2.2.1)), ((adA 6), .inl (gI (kG K), 320, .inl q_32.2.2.2.2.2.2.1)), ((adA 7), .inl (gI (kG K), 320, .inl q_32.2.2.2.2.2.2.2.1)), ((adA 8), .inl (gI (kG K), 320, .inl q_32.2.2.2.2.2.2.2.2.1)), ((adA 16), .inl (gI (kG K), 320, .inl q_32.2.2.2.2.2.2.2.2.2.1)), ((adA 17), .inl (gI (kG K), 320, .inl q_32.2.2.2.2.2.2.2.2.2.2.1)), ((adA 30), .inl (gI (kG K), 5120, .inl q_32.2.2.2.2.2.2.2.2.2.2.2.1)), ((adA 32), .inl (gI (kG K), 320, .inl fterm_39)), ((adA 29), .inl (gI (kG K), 5120, .inl fsums_36)), ((adA 35), .inl (gI (kG K), 320, .inl fsum_40))] 0 0 160 [(0, .ref adm), (1, .int fr), (2, .int to0), (3, .int i3_1), (4, .int i4_33), (5, .int i5_38)] [] := by
                intro hz9
                replace h := it_f (g := id) h (by rw [hz9]; decide)
                replace h : some false = some y_49 := h
                replace h := Option.some.inj h
                subst h
                exact Jby_49 rfl
              clear h
              have h := id_e ey_50
              clear ey_50
              refine v_if_lt (tgt := 128) hk dX11_sumUp_115 (by decide) (fun hc => ?_) (fun hc => ?_)
              · replace h := it_t (g := id) h hc
                replace h : some true = some y_50 := h
                replace h := Option.some.inj h
                subst h
                exact Jay_50 rfl
              · replace h := it_f (g := id) h hc
                refine v_iload hk dX11_sumUp_118 rfl ?_
                refine v_iload_n hk dX11_sumUp_120 rfl ?_
                refine v_ishr hk dX11_sumUp_121 ?_
                refine v_iconst (v := 1) hk dX11_sumUp_122 (by decide) ?_
                refine v_iand hk dX11_sumUp_123 ?_
                refine v_iconst (v := 1) hk dX11_sumUp_124 (by decide) ?_
                refine v_icmp_ne (tgt := 160) hk dX11_sumUp_125 (by decide) (fun hc => ?_) (fun hc => ?_)
                · replace h := it_f (g := id) h hc
                  replace h : some false = some y_50 := h
                  replace h := Option.some.inj h
                  subst h
                  exact Jby_50 rfl
                · replace h := it_t (g := id) h hc
                  replace h : some true = some y_50 := h
                  replace h := Option.some.inj h
                  subst h
                  exact Jay_50 rfl
set_option maxHeartbeats 4000000 in
set_option maxRecDepth 100000 in
theorem L_X11_sumUp_169 {K : Cx} {R9 : Room} (hk : Ok K cX11_sumUp 6 RX11 w2_X11_sumUp R9) (hR9 : RoomGe R9 rm_X11_sumUp) (adm : Nat) (adA : Nat → Nat) (o_names : Int32) (o_rows : Int32) (o_strength : Int32) (o_most : Int32) (o_toldGraph : Int32) (o_toldArc : Int32) (fvalues : Nat → Int32) (fcells : Nat → Int32) (fr : Int32) (to0 : Int32) (i3_1 : Int32) (q_32 : Int32 × (Nat → Int32) × (Nat → Int32) × (Nat → Int32) × (Nat → Int32) × (Nat → Int32) × (Nat → Int32) × (Nat → Int32) × (Nat → Int32) × (Nat → Int32) × (Nat → Int32) × (Nat → Int32) × (Nat → Int32)) (i4_33 : Int32) (q_51 : Int32 × (Nat → Int32) × (Nat → Int32)) (b9 : (Int32 × (Nat → Int32))) (kk0 : ∀ q9 : (Int32 × (Nat → Int32)), b9 = q9 → V K 6 [(adm, .inr (10, oM adA o_names o_rows o_strength o_most o_toldGraph o_toldArc)), ((adA 1), .inl (gI (kG K), 5, .inl fvalues)), ((adA 3), .inl (gI (kG K), 80, .inl fcells)), ((adA 11), .inl (gZ (kG K), 160, .inl q_32.2.1)), ((adA 12), .inl (gI (kG K), 1280, .inl q_32.2.2.1)), ((adA 13), .inl (gI (kG K), 1280, .inl q_32.2.2.2.1)), ((adA 14), .inl (gI (kG K), 320, .inl q_32.2.2.2.2.1)), ((adA 15), .inl (gI (kG K), 320, .inl q_32.2.2.2.2.2.1)), ((adA 6), .inl (gI (kG K), 320, .inl q_32.2.2.2.2.2.2.1)), ((adA 7), .inl (gI (kG K), 320, .inl q_32.2.2.2.2.2.2.2.1)), ((adA 8), .inl (gI (kG K), 320, .inl q_32.2.2.2.2.2.2.2.2.1)), ((adA 16), .inl (gI (kG K), 320, .inl q_32.2.2.2.2.2.2.2.2.2.1)), ((adA 17), .inl (gI (kG K), 320, .inl q_32.2.2.2.2.2.2.2.2.2.2.1)), ((adA 30), .inl (gI (kG K), 5120, .inl q_32.2.2.2.2.2.2.2.2.2.2.2.1)), ((adA 32), .inl (gI (kG K), 320, .inl q_51.2.1)), ((adA 29), .inl (gI (kG K), 5120, .inl q9.2)), ((adA 35), .inl (gI (kG K), 320, .inl q_51.2.2))] 0 0 211 [(0, .ref adm), (1, .int fr), (2, .int to0), (3, .int i3_1), (4, .int i4_33), (5, .int q9.1)] []) : ∀ (nn : Nat) (i5_52 : Int32) (fsums_53 : Nat → Int32), lp (b_X11_sumUp_169 i3_1 i4_33 q_51) nn (i5_52, fsums_53) = some b9 → V K 6 [(adm, .inr (10, oM adA o_names o_rows o_strength o_most o_toldGraph o_toldArc)), ((adA 1), .inl (gI (kG K), 5, .inl fvalues)), ((adA 3), .inl (gI (kG K), 80, .inl fcells)), ((adA 11), .inl (gZ (kG K), 160, .inl q_32.2.1)), ((adA 12), .inl (gI (kG K), 1280, .inl q_32.2.2.1)), ((adA 13), .inl (gI (kG K), 1280, .inl q_32.2.2.2.1)), ((adA 14), .inl (gI (kG K), 320, .inl q_32.2.2.2.2.1)), ((adA 15), .inl (gI (kG K), 320, .inl q_32.2.2.2.2.2.1)), ((adA 6), .inl (gI (kG K), 320, .inl q_32.2.2.2.2.2.2.1)), ((adA 7), .inl (gI (kG K), 320, .inl q_32.2.2.2.2.2.2.2.1)), ((adA 8), .inl (gI (kG K), 320, .inl q_32.2.2.2.2.2.2.2.2.1)), ((adA 16), .inl (gI (kG K), 320, .inl q_32.2.2.2.2.2.2.2.2.2.1)), ((adA 17), .inl (gI (kG K), 320, .inl q_32.2.2.2.2.2.2.2.2.2.2.1)), ((adA 30), .inl (gI (kG K), 5120, .inl q_32.2.2.2.2.2.2.2.2.2.2.2.1)), ((adA 32), .inl (gI (kG K), 320, .inl q_51.2.1)), ((adA 29), .inl (gI (kG K), 5120, .inl fsums_53)), ((adA 35), .inl (gI (kG K), 320, .inl q_51.2.2))] 0 0 169 [(0, .ref adm), (1, .int fr), (2, .int to0), (3, .int i3_1), (4, .int i4_33), (5, .int i5_52)] [] := by
  intro nn
  induction nn with
  | zero => intro i5_52 fsums_53 h; exact absurd h (by simp [lp])
  | succ nn ih =>
    intro i5_52 fsums_53 h
    replace h := lp_s h
    rw [eb_X11_sumUp_169] at h
    refine v_iload hk dX11_sumUp_169 rfl ?_
    refine v_aload_n hk dX11_sumUp_171 rfl ?_
    refine v_get (C := RX11) (T := TX11) (N := 39) (ci := 10) (v := .ref (adA 35)) hk dX11_sumUp_172 w2i_X11_sumUp_X110 0 rfl rfl 35 (by decide) (by decide +kernel) rfl rfl ?_
    refine v_iconst (v := 0) hk dX11_sumUp_175 (by decide) ?_
    obtain ⟨hi, h⟩ := ok_e (g := (lpk (lp (b_X11_sumUp_169 i3_1 i4_33 q_51) nn))) rfl h
    refine v_ialdV hk dX11_sumUp_176 16 rfl (ix_in hi) ?_
    refine v_icmp_gt (tgt := 211) hk dX11_sumUp_177 (by decide) (fun hc => ?_) (fun hc => ?_)
    · replace h := it_t (g := (lpk (lp (b_X11_sumUp_169 i3_1 i4_33 q_51) nn))) h hc
      replace h : some (i5_52, fsums_53) = some b9 := h
      replace h := Option.some.inj h
      subst h
      exact kk0 _ rfl
    · replace h := it_f (g := (lpk (lp (b_X11_sumUp_169 i3_1 i4_33 q_51) nn))) h hc
      refine v_aload_n hk dX11_sumUp_180 rfl ?_
      refine v_get (C := RX11) (T := TX11) (N := 39) (ci := 10) (v := .ref (adA 29)) hk dX11_sumUp_181 w2i_X11_sumUp_X110 0 rfl rfl 29 (by decide) (by decide +kernel) rfl rfl ?_
      refine v_bipush (v := 16) hk dX11_sumUp_184 (by decide) ?_
      refine v_iload_n hk dX11_sumUp_186 rfl ?_
      refine v_imul hk dX11_sumUp_187 ?_
      refine v_iload hk dX11_sumUp_188 rfl ?_
      refine v_iadd hk dX11_sumUp_190 ?_
      refine v_bipush (v := 80) hk dX11_sumUp_191 (by decide) ?_
      refine v_imul hk dX11_sumUp_193 ?_
      refine v_iload hk dX11_sumUp_194 rfl ?_
      refine v_iadd hk dX11_sumUp_196 ?_
      refine v_aload_n hk dX11_sumUp_197 rfl ?_
      refine v_get (C := RX11) (T := TX11) (N := 39) (ci := 10) (v := .ref (adA 35)) hk dX11_sumUp_198 w2i_X11_sumUp_X110 0 rfl rfl 35 (by decide) (by decide +kernel) rfl rfl ?_
      refine v_iload hk dX11_sumUp_201 rfl ?_
      obtain ⟨hi, h⟩ := ok_e (g := (lpk (lp (b_X11_sumUp_169 i3_1 i4_33 q_51) nn))) rfl h
      refine v_ialdV hk dX11_sumUp_203 16 rfl (ix_in hi) ?_
      obtain ⟨hi, h⟩ := ok_e (g := (lpk (lp (b_X11_sumUp_169 i3_1 i4_33 q_51) nn))) rfl h
      obtain ⟨fsums_54, efsums_54, h⟩ := lt_e (g := (lpk (lp (b_X11_sumUp_169 i3_1 i4_33 q_51) nn))) h
      refine v_iastV hk dX11_sumUp_204 15 rfl (ix_in hi) (ws' := [(adm, .inr (10, oM adA o_names o_rows o_strength o_most o_toldGraph o_toldArc)), ((adA 1), .inl (gI (kG K), 5, .inl fvalues)), ((adA 3), .inl (gI (kG K), 80, .inl fcells)), ((adA 11), .inl (gZ (kG K), 160, .inl q_32.2.1)), ((adA 12), .inl (gI (kG K), 1280, .inl q_32.2.2.1)), ((adA 13), .inl (gI (kG K), 1280, .inl q_32.2.2.2.1)), ((adA 14), .inl (gI (kG K), 320, .inl q_32.2.2.2.2.1)), ((adA 15), .inl (gI (kG K), 320, .inl q_32.2.2.2.2.2.1)), ((adA 6), .inl (gI (kG K), 320, .inl q_32.2.2.2.2.2.2.1)), ((adA 7), .inl (gI (kG K), 320, .inl q_32.2.2.2.2.2.2.2.1)), ((adA 8), .inl (gI (kG K), 320, .inl q_32.2.2.2.2.2.2.2.2.1)), ((adA 16), .inl (gI (kG K), 320, .inl q_32.2.2.2.2.2.2.2.2.2.1)), ((adA 17), .inl (gI (kG K), 320, .inl q_32.2.2.2.2.2.2.2.2.2.2.1)), ((adA 30), .inl (gI (kG K), 5120, .inl q_32.2.2.2.2.2.2.2.2.2.2.2.1)), ((adA 32), .inl (gI (kG K), 320, .inl q_51.2.1)), ((adA 29), .inl (gI (kG K), 5120, .inl fsums_54)), ((adA 35), .inl (gI (kG K), 320, .inl q_51.2.2))]) (by rw [efsums_54]; rfl) ?_
      obtain ⟨x5_55, ex5_55, h⟩ := lt_e (g := (lpk (lp (b_X11_sumUp_169 i3_1 i4_33 q_51) nn))) h
      refine v_iinc (v := x5_55) hk dX11_sumUp_205 rfl (by rw [ex5_55]; rfl) (by decide) [1, 2, 3, 4, 5, 0] (lv' := [(0, .ref adm), (1, .int fr), (2, .int to0), (3, .int i3_1), (4, .int i4_33), (5, .int x5_55)]) rfl ?_
      refine v_goto (tgt := 169) hk dX11_sumUp_208 (by decide) ?_
      exact ih x5_55 fsums_54 h
set_option maxHeartbeats 4000000 in
set_option maxRecDepth 100000 in
theorem L_X11_sumUp_49 {K : Cx} {R9 : Room} (hk : Ok K cX11_sumUp 6 RX11 w2_X11_sumUp R9) (hR9 : RoomGe R9 rm_X11_sumUp) (adm : Nat) (adA : Nat → Nat) (o_names : Int32) (o_rows : Int32) (o_strength : Int32) (o_most : Int32) (o_toldGraph : Int32) (o_toldArc : Int32) (fvalues : Nat → Int32) (fcells : Nat → Int32) (fr : Int32) (to0 : Int32) (i3_1 : Int32) (q_32 : Int32 × (Nat → Int32) × (Nat → Int32) × (Nat → Int32) × (Nat → Int32) × (Nat → Int32) × (Nat → Int32) × (Nat → Int32) × (Nat → Int32) × (Nat → Int32) × (Nat → Int32) × (Nat → Int32) × (Nat → Int32)) (b9 : (Int32 × (Nat → Int32) × (Nat → Int32) × (Nat → Int32))) (kk0 : ∀ q9 : (Int32 × (Nat → Int32) × (Nat → Int32) × (Nat → Int32)), b9 = q9 → V K 6 [(adm, .inr (10, oM adA o_names o_rows o_strength o_most o_toldGraph o_toldArc)), ((adA 1), .inl (gI (kG K), 5, .inl fvalues)), ((adA 3), .inl (gI (kG K), 80, .inl fcells)), ((adA 11), .inl (gZ (kG K), 160, .inl q_32.2.1)), ((adA 12), .inl (gI (kG K), 1280, .inl q_32.2.2.1)), ((adA 13), .inl (gI (kG K), 1280, .inl q_32.2.2.2.1)), ((adA 14), .inl (gI (kG K), 320, .inl q_32.2.2.2.2.1)), ((adA 15), .inl (gI (kG K), 320, .inl q_32.2.2.2.2.2.1)), ((adA 6), .inl (gI (kG K), 320, .inl q_32.2.2.2.2.2.2.1)), ((adA 7), .inl (gI (kG K), 320, .inl q_32.2.2.2.2.2.2.2.1)), ((adA 8), .inl (gI (kG K), 320, .inl q_32.2.2.2.2.2.2.2.2.1)), ((adA 16), .inl (gI (kG K), 320, .inl q_32.2.2.2.2.2.2.2.2.2.1)), ((adA 17), .inl (gI (kG K), 320, .inl q_32.2.2.2.2.2.2.2.2.2.2.1)), ((adA 30), .inl (gI (kG K), 5120, .inl q_32.2.2.2.2.2.2.2.2.2.2.2.1)), ((adA 32), .inl (gI (kG K), 320, .inl q9.2.1)), ((adA 35), .inl (gI (kG K), 320, .inl q9.2.2.1)), ((adA 29), .inl (gI (kG K), 5120, .inl q9.2.2.2))] 0 0 217 [(0, .ref adm), (1, .int fr), (2, .int to0), (3, .int i3_1), (4, .int q9.1)] []) : ∀ (nn : Nat) (i4_33 : Int32) (fterm_34 : Nat → Int32) (fsum_35 : Nat → Int32) (fsums_36 : Nat → Int32), lp (b_X11_sumUp_49 o_names o_most fr to0 i3_1 q_32) nn (i4_33, fterm_34, fsum_35, fsums_36) = some b9 → V K 6 [(adm, .inr (10, oM adA o_names o_rows o_strength o_most o_toldGraph o_toldArc)), ((adA 1), .inl (gI (kG K), 5, .inl fvalues)), ((adA 3), .inl (gI (kG K), 80, .inl fcells)), ((adA 11), .inl (gZ (kG K), 160, .inl q_32.2.1)), ((adA 12), .inl (gI (kG K), 1280, .inl q_32.2.2.1)), ((adA 13), .inl (gI (kG K), 1280, .inl q_32.2.2.2.1)), ((adA 14), .inl (gI (kG K), 320, .inl q_32.2.2.2.2.1)), ((adA 15), .inl (gI (kG K), 320, .inl q_32.2.2.2.2.2.1)), ((adA 6), .inl (gI (kG K), 320, .inl q_32.2.2.2.2.2.2.1)), ((adA 7), .inl (gI (kG K), 320, .inl q_32.2.2.2.2.2.2.2.1)), ((adA 8), .inl (gI (kG K), 320, .inl q_32.2.2.2.2.2.2.2.2.1)), ((adA 16), .inl (gI (kG K), 320, .inl q_32.2.2.2.2.2.2.2.2.2.1)), ((adA 17), .inl (gI (kG K), 320, .inl q_32.2.2.2.2.2.2.2.2.2.2.1)), ((adA 30), .inl (gI (kG K), 5120, .inl q_32.2.2.2.2.2.2.2.2.2.2.2.1)), ((adA 32), .inl (gI (kG K), 320, .inl fterm_34)), ((adA 35), .inl (gI (kG K), 320, .inl fsum_35)), ((adA 29), .inl (gI (kG K), 5120, .inl fsums_36))] 0 0 49 [(0, .ref adm), (1, .int fr), (2, .int to0), (3, .int i3_1), (4, .int i4_33)] [] := by
  intro nn
  induction nn with
  | zero => intro i4_33 fterm_34 fsum_35 fsums_36 h; exact absurd h (by simp [lp])
  | succ nn ih =>
    intro i4_33 fterm_34 fsum_35 fsums_36 h
    replace h := lp_s h
    rw [eb_X11_sumUp_49] at h
    refine v_iload hk dX11_sumUp_49 rfl ?_
    refine v_iconst (v := 1) hk dX11_sumUp_51 (by decide) ?_
    refine v_aload_n hk dX11_sumUp_52 rfl ?_
    refine v_get (C := RX11) (T := TX11) (N := 39) (ci := 10) (v := .int o_names) hk dX11_sumUp_53 w2i_X11_sumUp_X110 0 rfl rfl 0 (by decide) (by decide +kernel) rfl rfl ?_
    refine v_ishl hk dX11_sumUp_56 ?_
    refine v_icmp_ge (tgt := 217) hk dX11_sumUp_57 (by decide) (fun hc => ?_) (fun hc => ?_)
    · replace h := it_t (g := (lpk (lp (b_X11_sumUp_49 o_names o_most fr to0 i3_1 q_32) nn))) h hc
      replace h : some (i4_33, fterm_34, fsum_35, fsums_36) = some b9 := h
      replace h := Option.some.inj h
      subst h
      exact kk0 _ rfl
    · replace h := it_f (g := (lpk (lp (b_X11_sumUp_49 o_names o_most fr to0 i3_1 q_32) nn))) h hc
      refine v_aload_n hk dX11_sumUp_60 rfl ?_
      refine v_get (C := RX11) (T := TX11) (N := 39) (ci := 10) (v := .ref (adA 35)) hk dX11_sumUp_61 w2i_X11_sumUp_X110 0 rfl rfl 35 (by decide) (by decide +kernel) rfl rfl ?_
      refine v_iconst (v := 0) hk dX11_sumUp_64 (by decide) ?_
      obtain ⟨r_37, er_37, h⟩ := bd_e (g := (lpk (lp (b_X11_sumUp_49 o_names o_most fr to0 i3_1 q_32) nn))) rfl h
      refine v_callS (n := 2) (st := []) hk dX11_sumUp_65 (c_X11_put (kl K) (kG K) (adA 35) 320 fsum_35 0 r_37 er_37) gd_X11_sumUp_X11_put rfl (by decide +kernel) (frok hR9 (Nat.le_of_ble_eq_true rfl) (Nat.le_of_ble_eq_true rfl)) (roomk hR9 (Nat.le_of_ble_eq_true rfl) (Nat.le_of_ble_eq_true rfl)) rfl rfl (Nat.le_of_ble_eq_true rfl) [15] [0, 1, 2, 3, 4, 5, 6, 7, 8, 9, 10, 11, 12, 13, 14, 16] (wr := [(adm, .inr (10, oM adA o_names o_rows o_strength o_most o_toldGraph o_toldArc)), ((adA 1), .inl (gI (kG K), 5, .inl fvalues)), ((adA 3), .inl (gI (kG K), 80, .inl fcells)), ((adA 11), .inl (gZ (kG K), 160, .inl q_32.2.1)), ((adA 12), .inl (gI (kG K), 1280, .inl q_32.2.2.1)), ((adA 13), .inl (gI (kG K), 1280, .inl q_32.2.2.2.1)), ((adA 14), .inl (gI (kG K), 320, .inl q_32.2.2.2.2.1)), ((adA 15), .inl (gI (kG K), 320, .inl q_32.2.2.2.2.2.1)), ((adA 6), .inl (gI (kG K), 320, .inl q_32.2.2.2.2.2.2.1)), ((adA 7), .inl (gI (kG K), 320, .inl q_32.2.2.2.2.2.2.2.1)), ((adA 8), .inl (gI (kG K), 320, .inl q_32.2.2.2.2.2.2.2.2.1)), ((adA 16), .inl (gI (kG K), 320, .inl q_32.2.2.2.2.2.2.2.2.2.1)), ((adA 17), .inl (gI (kG K), 320, .inl q_32.2.2.2.2.2.2.2.2.2.2.1)), ((adA 30), .inl (gI (kG K), 5120, .inl q_32.2.2.2.2.2.2.2.2.2.2.2.1)), ((adA 32), .inl (gI (kG K), 320, .inl fterm_34)), ((adA 29), .inl (gI (kG K), 5120, .inl fsums_36))]) rfl rfl (by decide) (by decide) (by decide) ?_
      intro v9 w9 hp9
      obtain ⟨rfl, rfl⟩ := hp9
      show V K 6 [(adm, .inr (10, oM adA o_names o_rows o_strength o_most o_toldGraph o_toldArc)), ((adA 1), .inl (gI (kG K), 5, .inl fvalues)), ((adA 3), .inl (gI (kG K), 80, .inl fcells)), ((adA 11), .inl (gZ (kG K), 160, .inl q_32.2.1)), ((adA 12), .inl (gI (kG K), 1280, .inl q_32.2.2.1)), ((adA 13), .inl (gI (kG K), 1280, .inl q_32.2.2.2.1)), ((adA 14), .inl (gI (kG K), 320, .inl q_32.2.2.2.2.1)), ((adA 15), .inl (gI (kG K), 320, .inl q_32.2.2.2.2.2.1)), ((adA 6), .inl (gI (kG K), 320, .inl q_32.2.2.2.2.2.2.1)), ((adA 7), .inl (gI (kG K), 320, .inl q_32.2.2.2.2.2.2.2.1)), ((adA 8), .inl (gI (kG K), 320, .inl q_32.2.2.2.2.2.2.2.2.1)), ((adA 16), .inl (gI (kG K), 320, .inl q_32.2.2.2.2.2.2.2.2.2.1)), ((adA 17), .inl (gI (kG K), 320, .inl q_32.2.2.2.2.2.2.2.2.2.2.1)), ((adA 30), .inl (gI (kG K), 5120, .inl q_32.2.2.2.2.2.2.2.2.2.2.2.1)), ((adA 32), .inl (gI (kG K), 320, .inl fterm_34)), ((adA 29), .inl (gI (kG K), 5120, .inl fsums_36)), ((adA 35), .inl (gI (kG K), 320, .inl r_37))] 0 0 68 [(0, .ref adm), (1, .int fr), (2, .int to0), (3, .int i3_1), (4, .int i4_33)] []
      refine v_iconst (v := 0) hk dX11_sumUp_68 (by decide) ?_
      refine v_istore hk dX11_sumUp_69 (by decide) [1, 2, 3, 4, 5, 0] (lv' := [(0, .ref adm), (1, .int fr), (2, .int to0), (3, .int i3_1), (4, .int i4_33), (5, .int 0)]) rfl ?_
      obtain ⟨b_59, eb_59, h⟩ := bd_e (g := (lpk (lp (b_X11_sumUp_49 o_names o_most fr to0 i3_1 q_32) nn))) rfl h
      refine L_X11_sumUp_71 hk hR9 adm adA o_names o_rows o_strength o_most o_toldGraph o_toldArc fvalues fcells fr to0 i3_1 q_32 i4_33 fsums_36 b_59 (fun q_51 eq_51 => ?_) FU 0 fterm_34 r_37 eb_59
      · replace eq_51 := eq_51.symm
        subst eq_51
        refine v_iconst (v := 0) hk dX11_sumUp_166 (by decide) ?_
        refine v_istore hk dX11_sumUp_167 (by decide) [1, 2, 3, 4, 5, 0] (lv' := [(0, .ref adm), (1, .int fr), (2, .int to0), (3, .int i3_1), (4, .int i4_33), (5, .int 0)]) rfl ?_
        obtain ⟨b_58, eb_58, h⟩ := bd_e (g := (lpk (lp (b_X11_sumUp_49 o_names o_most fr to0 i3_1 q_32) nn))) rfl h
        refine L_X11_sumUp_169 hk hR9 adm adA o_names o_rows o_strength o_most o_toldGraph o_toldArc fvalues fcells fr to0 i3_1 q_32 i4_33 q_51 b_58 (fun q_56 eq_56 => ?_) FU 0 fsums_36 eb_58
        · replace eq_56 := eq_56.symm
          subst eq_56
          obtain ⟨x4_57, ex4_57, h⟩ := lt_e (g := (lpk (lp (b_X11_sumUp_49 o_names o_most fr to0 i3_1 q_32) nn))) h
          refine v_iinc (v := x4_57) hk dX11_sumUp_211 rfl (by rw [ex4_57]; rfl) (by decide) [1, 2, 3, 4, 0, 5] (lv' := [(0, .ref adm), (1, .int fr), (2, .int to0), (3, .int i3_1), (4, .int x4_57), (5, .int q_56.1)]) rfl ?_
          refine v_goto (tgt := 49) hk dX11_sumUp_214 (by decide) ?_
          refine v_loc [0, 1, 2, 3, 4] (lv' := [(0, .ref adm), (1, .int fr), (2, .int to0), (3, .int i3_1), (4, .int x4_57)]) rfl ?_
          refine v_perm [0, 1, 2, 3, 4, 5, 6, 7, 8, 9, 10, 11, 12, 13, 14, 16, 15] (ws' := [(adm, .inr (10, oM adA o_names o_rows o_strength o_most o_toldGraph o_toldArc)), ((adA 1), .inl (gI (kG K), 5, .inl fvalues)), ((adA 3), .inl (gI (kG K), 80, .inl fcells)), ((adA 11), .inl (gZ (kG K), 160, .inl q_32.2.1)), ((adA 12), .inl (gI (kG K), 1280, .inl q_32.2.2.1)), ((adA 13), .inl (gI (kG K), 1280, .inl q_32.2.2.2.1)), ((adA 14), .inl (gI (kG K), 320, .inl q_32.2.2.2.2.1)), ((adA 15), .inl (gI (kG K), 320, .inl q_32.2.2.2.2.2.1)), ((adA 6), .inl (gI (kG K), 320, .inl q_32.2.2.2.2.2.2.1)), ((adA 7), .inl (gI (kG K), 320, .inl q_32.2.2.2.2.2.2.2.1)), ((adA 8), .inl (gI (kG K), 320, .inl q_32.2.2.2.2.2.2.2.2.1)), ((adA 16), .inl (gI (kG K), 320, .inl q_32.2.2.2.2.2.2.2.2.2.1)), ((adA 17), .inl (gI (kG K), 320, .inl q_32.2.2.2.2.2.2.2.2.2.2.1)), ((adA 30), .inl (gI (kG K), 5120, .inl q_32.2.2.2.2.2.2.2.2.2.2.2.1)), ((adA 32), .inl (gI (kG K), 320, .inl q_51.2.1)), ((adA 35), .inl (gI (kG K), 320, .inl q_51.2.2)), ((adA 29), .inl (gI (kG K), 5120, .inl q_56.2))]) rfl rfl (by decide) ?_
          exact ih x4_57 q_51.2.1 q_51.2.2 q_56.2 h
set_option maxHeartbeats 4000000 in
set_option maxRecDepth 100000 in
theorem L_X11_sumUp_2 {K : Cx} {R9 : Room} (hk : Ok K cX11_sumUp 6 RX11 w2_X11_sumUp R9) (hR9 : RoomGe R9 rm_X11_sumUp) (adm : Nat) (adA : Nat → Nat) (o_names : Int32) (o_rows : Int32) (o_strength : Int32) (o_most : Int32) (o_toldGraph : Int32) (o_toldArc : Int32) (fvalues : Nat → Int32) (fcells : Nat → Int32) (fr : Int32) (to0 : Int32) (b9 : (Int32 × (Nat → Int32) × (Nat → Int32) × (Nat → Int32) × (Nat → Int32) × (Nat → Int32) × (Nat → Int32) × (Nat → Int32) × (Nat → Int32) × (Nat → Int32) × (Nat → Int32) × (Nat → Int32) × (Nat → Int32) × (Nat → Int32) × (Nat → Int32))) (kk0 : ∀ q9 : (Int32 × (Nat → Int32) × (Nat → Int32) × (Nat → Int32) × (Nat → Int32) × (Nat → Int32) × (Nat → Int32) × (Nat → Int32) × (Nat → Int32) × (Nat → Int32) × (Nat → Int32) × (Nat → Int32) × (Nat → Int32) × (Nat → Int32) × (Nat → Int32)), b9 = q9 → V K 6 [(adm, .inr (10, oM adA o_names o_rows o_strength o_most o_toldGraph o_toldArc)), ((adA 1), .inl (gI (kG K), 5, .inl fvalues)), ((adA 3), .inl (gI (kG K), 80, .inl fcells)), ((adA 11), .inl (gZ (kG K), 160, .inl q9.2.1)), ((adA 12), .inl (gI (kG K), 1280, .inl q9.2.2.1)), ((adA 13), .inl (gI (kG K), 1280, .inl q9.2.2.2.1)), ((adA 14), .inl (gI (kG K), 320, .inl q9.2.2.2.2.1)), ((adA 15), .inl (gI (kG K), 320, .inl q9.2.2.2.2.2.1)), ((adA 6), .inl (gI (kG K), 320, .inl q9.2.2.2.2.2.2.1)), ((adA 7), .inl (gI (kG K), 320, .inl q9.2.2.2.2.2.2.2.1)), ((adA 8), .inl (gI (kG K), 320, .inl q9.2.2.2.2.2.2.2.2.1)), ((adA 16), .inl (gI (kG K), 320, .inl q9.2.2.2.2.2.2.2.2.2.1)), ((adA 17), .inl (gI (kG K), 320, .inl q9.2.2.2.2.2.2.2.2.2.2.1)), ((adA 30), .inl (gI (kG K), 5120, .inl q9.2.2.2.2.2.2.2.2.2.2.2.1)), ((adA 32), .inl (gI (kG K), 320, .inl q9.2.2.2.2.2.2.2.2.2.2.2.2.1)), ((adA 35), .inl (gI (kG K), 320, .inl q9.2.2.2.2.2.2.2.2.2.2.2.2.2.1)), ((adA 29), .inl (gI (kG K), 5120, .inl q9.2.2.2.2.2.2.2.2.2.2.2.2.2.2))] 0 0 223 [(0, .ref adm), (1, .int fr), (2, .int to0), (3, .int q9.1)] []) : ∀ (nn : Nat) (i3_1 : Int32) (fisKnown_2 : Nat → Int32) (ftops_3 : Nat → Int32) (flows_4 : Nat → Int32) (fsmall_5 : Nat → Int32) (flarge_6 : Nat → Int32) (fone_7 : Nat → Int32) (ftwo_8 : Nat → Int32) (frest_9 : Nat → Int32) (ffactor_10 : Nat → Int32) (fmade_11 : Nat → Int32) (fterms_12 : Nat → Int32) (fterm_13 : Nat → Int32) (fsum_14 : Nat → Int32) (fsums_15 : Nat → Int32), lp (b_X11_sumUp_2 o_names o_rows o_strength o_most o_toldGraph o_toldArc fvalues fcells fr to0) nn (i3_1, fisKnown_2, ftops_3, flows_4, fsmall_5, flarge_6, fone_7, ftwo_8, frest_9, ffactor_10, fmade_11, fterms_12, fterm_13, fsum_14, fsums_15) = some b9 → V K 6 [(adm, .inr (10, oM adA o_names o_rows o_strength o_most o_toldGraph o_toldArc)), ((adA 1), .inl (gI (kG K), 5, .inl fvalues)), ((adA 3), .inl (gI (kG K), 80, .inl fcells)), ((adA 11), .inl (gZ (kG K), 160, .inl fisKnown_2)), ((adA 12), .inl (gI (kG K), 1280, .inl ftops_3)), ((adA 13), .inl (gI (kG K), 1280, .inl flows_4)), ((adA 14), .inl (gI (kG K), 320, .inl fsmall_5)), ((adA 15), .inl (gI (kG K), 320, .inl flarge_6)), ((adA 6), .inl (gI (kG K), 320, .inl fone_7)), ((adA 7), .inl (gI (kG K), 320, .inl ftwo_8)), ((adA 8), .inl (gI (kG K), 320, .inl frest_9)), ((adA 16), .inl (gI (kG K), 320, .inl ffactor_10)), ((adA 17), .inl (gI (kG K), 320, .inl fmade_11)), ((adA 30), .inl (gI (kG K), 5120, .inl fterms_12)), ((adA 32), .inl (gI (kG K), 320, .inl fterm_13)), ((adA 35), .inl (gI (kG K), 320, .inl fsum_14)), ((adA 29), .inl (gI (kG K), 5120, .inl fsums_15))] 0 0 2 [(0, .ref adm), (1, .int fr), (2, .int to0), (3, .int i3_1)] [] := by
  intro nn
  induction nn with
  | zero => intro i3_1 fisKnown_2 ftops_3 flows_4 fsmall_5 flarge_6 fone_7 ftwo_8 frest_9 ffactor_10 fmade_11 fterms_12 fterm_13 fsum_14 fsums_15 h; exact absurd h (by simp [lp])
  | succ nn ih =>
    intro i3_1 fisKnown_2 ftops_3 flows_4 fsmall_5 flarge_6 fone_7 ftwo_8 frest_9 ffactor_10 fmade_11 fterms_12 fterm_13 fsum_14 fsums_15 h
    replace h := lp_s h
    rw [eb_X11_sumUp_2] at h
    refine v_iload_n hk dX11_sumUp_2 rfl ?_
    refine v_aload_n hk dX11_sumUp_3 rfl ?_
    refine v_get (C := RX11) (T := TX11) (N := 39) (ci := 10) (v := .int o_names) hk dX11_sumUp_4 w2i_X11_sumUp_X110 0 rfl rfl 0 (by decide) (by decide +kernel) rfl rfl ?_
    refine v_icmp_ge (tgt := 223) hk dX11_sumUp_7 (by decide) (fun hc => ?_) (fun hc => ?_)
    · replace h := it_t (g := (lpk (lp (b_X11_sumUp_2 o_names o_rows o_strength o_most o_toldGraph o_toldArc fvalues fcells fr to0) nn))) h hc
      replace h : some (i3_1, fisKnown_2, ftops_3, flows_4, fsmall_5, flarge_6, fone_7, ftwo_8, frest_9, ffactor_10, fmade_11, fterms_12, fterm_13, fsum_14, fsums_15) = some b9 := h
      replace h := Option.some.inj h
      subst h
      exact kk0 _ rfl
    · replace h := it_f (g := (lpk (lp (b_X11_sumUp_2 o_names o_rows o_strength o_most o_toldGraph o_toldArc fvalues fcells fr to0) nn))) h hc
      refine v_iconst (v := 0) hk dX11_sumUp_10 (by decide) ?_
      refine v_istore hk dX11_sumUp_11 (by decide) [1, 2, 3, 4, 0] (lv' := [(0, .ref adm), (1, .int fr), (2, .int to0), (3, .int i3_1), (4, .int 0)]) rfl ?_
      obtain ⟨b_63, eb_63, h⟩ := bd_e (g := (lpk (lp (b_X11_sumUp_2 o_names o_rows o_strength o_most o_toldGraph o_toldArc fvalues fcells fr to0) nn))) rfl h
      refine L_X11_sumUp_13 hk hR9 adm adA o_names o_rows o_strength o_most o_toldGraph o_toldArc fvalues fcells fr to0 i3_1 fsum_14 fsums_15 b_63 (fun q_32 eq_32 => ?_) FU 0 fisKnown_2 ftops_3 flows_4 fsmall_5 flarge_6 fone_7 ftwo_8 frest_9 ffactor_10 fmade_11 fterms_12 fterm_13 eb_63
      · replace eq_32 := eq_32.symm
        subst eq_32
        refine v_iconst (v := 0) hk dX11_sumUp_46 (by decide) ?_
        refine v_istore hk dX11_sumUp_47 (by decide) [1, 2, 3, 4, 0] (lv' := [(0, .ref adm), (1, .int fr), (2, .int to0), (3, .int i3_1), (4, .int 0)]) rfl ?_
        obtain ⟨b_62, eb_62, h⟩ := bd_e (g := (lpk (lp (b_X11_sumUp_2 o_names o_rows o_strength o_most o_toldGraph o_toldArc fvalues fcells fr to0) nn))) rfl h
        refine L_X11_sumUp_49 hk hR9 adm adA o_names o_rows o_strength o_most o_toldGraph o_toldArc fvalues fcells fr to0 i3_1 q_32 b_62 (fun q_60 eq_60 => ?_) FU 0 q_32.2.2.2.2.2.2.2.2.2.2.2.2 fsum_14 fsums_15 eb_62
        · replace eq_60 := eq_60.symm
          subst eq_60
          obtain ⟨x3_61, ex3_61, h⟩ := lt_e (g := (lpk (lp (b_X11_sumUp_2 o_names o_rows o_strength o_most o_toldGraph o_toldArc fvalues fcells fr to0) nn))) h
          refine v_iinc (v := x3_61) hk dX11_sumUp_217 rfl (by rw [ex3_61]; rfl) (by decide) [1, 2, 3, 0, 4] (lv' := [(0, .ref adm), (1, .int fr), (2, .int to0), (3, .int x3_61), (4, .int q_60.1)]) rfl ?_
          refine v_goto (tgt := 2) hk dX11_sumUp_220 (by decide) ?_
          refine v_loc [0, 1, 2, 3] (lv' := [(0, .ref adm), (1, .int fr), (2, .int to0), (3, .int x3_61)]) rfl ?_
          exact ih x3_61 q_32.2.1 q_32.2.2.1 q_32.2.2.2.1 q_32.2.2.2.2.1 q_32.2.2.2.2.2.1 q_32.2.2.2.2.2.2.1 q_32.2.2.2.2.2.2.2.1 q_32.2.2.2.2.2.2.2.2.1 q_32.2.2.2.2.2.2.2.2.2.1 q_32.2.2.2.2.2.2.2.2.2.2.1 q_32.2.2.2.2.2.2.2.2.2.2.2.1 q_60.2.1 q_60.2.2.1 q_60.2.2.2 h
set_option maxHeartbeats 4000000 in
set_option maxRecDepth 100000 in
theorem c_X11_sumUp (l : Launch) (G : GG) (adm : Nat) (adA : Nat → Nat) (o_names : Int32) (o_rows : Int32) (o_strength : Int32) (o_most : Int32) (o_toldGraph : Int32) (o_toldArc : Int32) (fvalues : Nat → Int32) (fcells : Nat → Int32) (fisKnown : Nat → Int32) (ftops : Nat → Int32) (flows : Nat → Int32) (fsmall : Nat → Int32) (flarge : Nat → Int32) (fone : Nat → Int32) (ftwo : Nat → Int32) (frest : Nat → Int32) (ffactor : Nat → Int32) (fmade : Nat → Int32) (fterms : Nat → Int32) (fterm : Nat → Int32) (fsum : Nat → Int32) (fsums : Nat → Int32) (fr : Int32) (to0 : Int32) (r : (Nat → Int32) × (Nat → Int32) × (Nat → Int32) × (Nat → Int32) × (Nat → Int32) × (Nat → Int32) × (Nat → Int32) × (Nat → Int32) × (Nat → Int32) × (Nat → Int32) × (Nat → Int32) × (Nat → Int32) × (Nat → Int32) × (Nat → Int32)) (h : m_X11_sumUp o_names o_rows o_strength o_most o_toldGraph o_toldArc fvalues fcells fisKnown ftops flows fsmall flarge fone ftwo frest ffactor fmade fterms fterm fsum fsums fr to0 = some r) : Ctr l G yX11_sumUp w2_X11_sumUp rm_X11_sumUp [.ref adm, .int fr, .int to0] [(adm, .inr (10, oM adA o_names o_rows o_strength o_most o_toldGraph o_toldArc)), ((adA 1), .inl (gI G, 5, .inl fvalues)), ((adA 3), .inl (gI G, 80, .inl fcells)), ((adA 11), .inl (gZ G, 160, .inl fisKnown)), ((adA 12), .inl (gI G, 1280, .inl ftops)), ((adA 13), .inl (gI G, 1280, .inl flows)), ((adA 14), .inl (gI G, 320, .inl fsmall)), ((adA 15), .inl (gI G, 320, .inl flarge)), ((adA 6), .inl (gI G, 320, .inl fone)), ((adA 7), .inl (gI G, 320, .inl ftwo)), ((adA 8), .inl (gI G, 320, .inl frest)), ((adA 16), .inl (gI G, 320, .inl ffactor)), ((adA 17), .inl (gI G, 320, .inl fmade)), ((adA 30), .inl (gI G, 5120, .inl fterms)), ((adA 32), .inl (gI G, 320, .inl fterm)), ((adA 35), .inl (gI G, 320, .inl fsum)), ((adA 29), .inl (gI G, 5120, .inl fsums))] (fun v w => v = none ∧ w = [(adm, .inr (10, oM adA o_names o_rows o_strength o_most o_toldGraph o_toldArc)), ((adA 1), .inl (gI G, 5, .inl fvalues)), ((adA 3), .inl (gI G, 80, .inl fcells)), ((adA 11), .inl (gZ G, 160, .inl r.1)), ((adA 12), .inl (gI G, 1280, .inl r.2.1)), ((adA 13), .inl (gI G, 1280, .inl r.2.2.1)), ((adA 14), .inl (gI G, 320, .inl r.2.2.2.1)), ((adA 15), .inl (gI G, 320, .inl r.2.2.2.2.1)), ((adA 6), .inl (gI G, 320, .inl r.2.2.2.2.2.1)), ((adA 7), .inl (gI G, 320, .inl r.2.2.2.2.2.2.1)), ((adA 8), .inl (gI G, 320, .inl r.2.2.2.2.2.2.2.1)), ((adA 16), .inl (gI G, 320, .inl r.2.2.2.2.2.2.2.2.1)), ((adA 17), .inl (gI G, 320, .inl r.2.2.2.2.2.2.2.2.2.1)), ((adA 30), .inl (gI G, 5120, .inl r.2.2.2.2.2.2.2.2.2.2.1)), ((adA 32), .inl (gI G, 320, .inl r.2.2.2.2.2.2.2.2.2.2.2.1)), ((adA 35), .inl (gI G, 320, .inl r.2.2.2.2.2.2.2.2.2.2.2.2.1)), ((adA 29), .inl (gI G, 5120, .inl r.2.2.2.2.2.2.2.2.2.2.2.2.2))]) := by
  refine ctr_entry (cc := cX11_sumUp) (maxL := 6) (ret := none) (lv0 := [(0, .ref adm), (1, .int fr), (2, .int to0)]) (by decide) rfl (Nat.le_of_ble_eq_true rfl) (rfl) ?_
  intro K hl9 hG9 hk hn9 hrt
  subst hl9
  subst hG9
  have hR9 : RoomGe rm_X11_sumUp rm_X11_sumUp := RoomGe.rf
  replace h := id_e h
  rw [em_X11_sumUp] at h
  refine v_iconst (v := 0) hk dX11_sumUp_0 (by decide) ?_
  refine v_istore_n hk dX11_sumUp_1 rfl (by decide) [1, 2, 3, 0] (lv' := [(0, .ref adm), (1, .int fr), (2, .int to0), (3, .int 0)]) rfl ?_
  obtain ⟨b_65, eb_65, h⟩ := bd_e (g := id) rfl h
  refine L_X11_sumUp_2 hk hR9 adm adA o_names o_rows o_strength o_most o_toldGraph o_toldArc fvalues fcells fr to0 b_65 (fun q_64 eq_64 => ?_) FU 0 fisKnown ftops flows fsmall flarge fone ftwo frest ffactor fmade fterms fterm fsum fsums eb_65
  · replace eq_64 := eq_64.symm
    subst eq_64
    replace h : some (q_64.2.1, q_64.2.2.1, q_64.2.2.2.1, q_64.2.2.2.2.1, q_64.2.2.2.2.2.1, q_64.2.2.2.2.2.2.1, q_64.2.2.2.2.2.2.2.1, q_64.2.2.2.2.2.2.2.2.1, q_64.2.2.2.2.2.2.2.2.2.1, q_64.2.2.2.2.2.2.2.2.2.2.1, q_64.2.2.2.2.2.2.2.2.2.2.2.1, q_64.2.2.2.2.2.2.2.2.2.2.2.2.1, q_64.2.2.2.2.2.2.2.2.2.2.2.2.2.1, q_64.2.2.2.2.2.2.2.2.2.2.2.2.2.2) = some r := h
    replace h := Option.some.inj h
    subst h
    refine hrt (none) _ _ _ _ _ (⟨rfl, rfl⟩) (Nat.zero_le _) (Nat.zero_le _) (dX11_sumUp_223)
abbrev rm_X11_total : Room := { frames := 6, cells := 0, slots := 0, locals := 145 }
set_option maxHeartbeats 4000000 in
set_option maxRecDepth 100000 in
theorem L_X11_total_99 {K : Cx} {R9 : Room} (hk : Ok K cX11_total 8 RX11 w2_X11_total R9) (hR9 : RoomGe R9 rm_X11_total) (adm : Nat) (adA : Nat → Nat) (adx : Nat) (o_names : Int32) (o_rows : Int32) (o_strength : Int32) (o_most : Int32) (o_toldGraph : Int32) (o_toldArc : Int32) (fvalues : Nat → Int32) (fcells : Nat → Int32) (nx : Nat) (fx : Nat → Int32) (fr : Int32) (to0 : Int32) (r_1 : (Nat → Int32) × (Nat → Int32) × (Nat → Int32) × (Nat → Int32) × (Nat → Int32) × (Nat → Int32) × (Nat → Int32) × (Nat → Int32) × (Nat → Int32) × (Nat → Int32) × (Nat → Int32) × (Nat → Int32) × (Nat → Int32) × (Nat → Int32)) (i4_4 : Int32) (fwholes_5 : Nat → Int32) (i5_13 : Int32) (fmore_17 : Nat → Int32) (ffewer_18 : Nat → Int32) (x6_20 : Int32) (b9 : (Int32 × (Nat → Int32) × (Nat → Int32) × (Nat → Int32))) (kk0 : ∀ q9 : (Int32 × (Nat → Int32) × (Nat → Int32) × (Nat → Int32)), b9 = q9 → V K 8 [(adx, .inl (gI (kG K), nx, .inl fx)), (adm, .inr (10, oM adA o_names o_rows o_strength o_most o_toldGraph o_toldArc)), ((adA 1), .inl (gI (kG K), 5, .inl fvalues)), ((adA 3), .inl (gI (kG K), 80, .inl fcells)), ((adA 11), .inl (gZ (kG K), 160, .inl r_1.1)), ((adA 12), .inl (gI (kG K), 1280, .inl r_1.2.1)), ((adA 13), .inl (gI (kG K), 1280, .inl r_1.2.2.1)), ((adA 14), .inl (gI (kG K), 320, .inl r_1.2.2.2.1)), ((adA 15), .inl (gI (kG K), 320, .inl r_1.2.2.2.2.1)), ((adA 6), .inl (gI (kG K), 320, .inl r_1.2.2.2.2.2.1)), ((adA 7), .inl (gI (kG K), 320, .inl r_1.2.2.2.2.2.2.1)), ((adA 8), .inl (gI (kG K), 320, .inl r_1.2.2.2.2.2.2.2.1)), ((adA 16), .inl (gI (kG K), 320, .inl q9.2.1)), ((adA 17), .inl (gI (kG K), 320, .inl q9.2.2.1)), ((adA 30), .inl (gI (kG K), 5120, .inl r_1.2.2.2.2.2.2.2.2.2.2.1)), ((adA 35), .inl (gI (kG K), 320, .inl r_1.2.2.2.2.2.2.2.2.2.2.2.2.1)), ((adA 29), .inl (gI (kG K), 5120, .inl r_1.2.2.2.2.2.2.2.2.2.2.2.2.2)), ((adA 33), .inl (gI (kG K), 320, .inl fmore_17)), ((adA 34), .inl (gI (kG K), 320, .inl ffewer_18)), ((adA 31), .inl (gI (kG K), 5120, .inl fwholes_5)), ((adA 32), .inl (gI (kG K), 320, .inl q9.2.2.2))] 0 0 148 [(0, .ref adm), (1, .int fr), (2, .int to0), (3, .ref adx), (4, .int i4_4), (5, .int i5_13), (6, .int x6_20), (7, .int q9.1)] []) : ∀ (nn : Nat) (i7_22 : Int32) (ffactor_23 : Nat → Int32) (fmade_24 : Nat → Int32) (fterm_25 : Nat → Int32), lp (b_X11_total_99 o_names o_rows o_strength o_most o_toldGraph o_toldArc r_1 i5_13 x6_20) nn (i7_22, ffactor_23, fmade_24, fterm_25) = some b9 → V K 8 [(adx, .inl (gI (kG K), nx, .inl fx)), (adm, .inr (10, oM adA o_names o_rows o_strength o_most o_toldGraph o_toldArc)), ((adA 1), .inl (gI (kG K), 5, .inl fvalues)), ((adA 3), .inl (gI (kG K), 80, .inl fcells)), ((adA 11), .inl (gZ (kG K), 160, .inl r_1.1)), ((adA 12), .inl (gI (kG K), 1280, .inl r_1.2.1)), ((adA 13), .inl (gI (kG K), 1280, .inl r_1.2.2.1)), ((adA 14), .inl (gI (kG K), 320, .inl r_1.2.2.2.1)), ((adA 15), .inl (gI (kG K), 320, .inl r_1.2.2.2.2.1)), ((adA 6), .inl (gI (kG K), 320, .inl r_1.2.2.2.2.2.1)), ((adA 7), .inl (gI (kG K), 320, .inl r_1.2.2.2.2.2.2.1)), ((adA 8), .inl (gI (kG K), 320, .inl r_1.2.2.2.2.2.2.2.1)), ((adA 16), .inl (gI (kG K), 320, .inl ffactor_23)), ((adA 17), .inl (gI (kG K), 320, .inl fmade_24)), ((adA 30), .inl (gI (kG K), 5120, .inl r_1.2.2.2.2.2.2.2.2.2.2.1)), ((adA 35), .inl (gI (kG K), 320, .inl r_1.2.2.2.2.2.2.2.2.2.2.2.2.1)), ((adA 29), .inl (gI (kG K), 5120, .inl r_1.2.2.2.2.2.2.2.2.2.2.2.2.2)), ((adA 33), .inl (gI (kG K), 320, .inl fmore_17)), ((adA 34), .inl (gI (kG K), 320, .inl ffewer_18)), ((adA 31), .inl (gI (kG K), 5120, .inl fwholes_5)), ((adA 32), .inl (gI (kG K), 320, .inl fterm_25))] 0 0 99 [(0, .ref adm), (1, .int fr), (2, .int to0), (3, .ref adx), (4, .int i4_4), (5, .int i5_13), (6, .int x6_20), (7, .int i7_22)] [] := by
  intro nn
  induction nn with
  | zero => intro i7_22 ffactor_23 fmade_24 fterm_25 h; exact absurd h (by simp [lp])
  | succ nn ih =>
    intro i7_22 ffactor_23 fmade_24 fterm_25 h
    replace h := lp_s h
    rw [eb_X11_total_99] at h
    refine v_iload hk dX11_total_99 rfl ?_
    refine v_aload_n hk dX11_total_101 rfl ?_
    refine v_get (C := RX11) (T := TX11) (N := 39) (ci := 10) (v := .int o_names) hk dX11_total_102 w2i_X11_total_X110 1 rfl rfl 0 (by decide) (by decide +kernel) rfl rfl ?_
    refine v_icmp_ge (tgt := 148) hk dX11_total_105 (by decide) (fun hc => ?_) (fun hc => ?_)
    · replace h := it_t (g := (lpk (lp (b_X11_total_99 o_names o_rows o_strength o_most o_toldGraph o_toldArc r_1 i5_13 x6_20) nn))) h hc
      replace h : some (i7_22, ffactor_23, fmade_24, fterm_25) = some b9 := h
      replace h := Option.some.inj h
      subst h
      exact kk0 _ rfl
    · replace h := it_f (g := (lpk (lp (b_X11_total_99 o_names o_rows o_strength o_most o_toldGraph o_toldArc r_1 i5_13 x6_20) nn))) h hc
      refine v_iload hk dX11_total_108 rfl ?_
      refine v_iload hk dX11_total_110 rfl ?_
      refine v_ishr hk dX11_total_112 ?_
      refine v_iconst (v := 1) hk dX11_total_113 (by decide) ?_
      refine v_iand hk dX11_total_114 ?_
      refine v_iconst (v := 1) hk dX11_total_115 (by decide) ?_
      refine v_icmp_ne (tgt := 142) hk dX11_total_116 (by decide) (fun hc => ?_) (fun hc => ?_)
      · replace h := it_f (g := (lpk (lp (b_X11_total_99 o_names o_rows o_strength o_most o_toldGraph o_toldArc r_1 i5_13 x6_20) nn))) h hc
        obtain ⟨x7_26, ex7_26, h⟩ := lt_e (g := (lpk (lp (b_X11_total_99 o_names o_rows o_strength o_most o_toldGraph o_toldArc r_1 i5_13 x6_20) nn))) h
        refine v_iinc (v := x7_26) hk dX11_total_142 rfl (by rw [ex7_26]; rfl) (by decide) [1, 2, 3, 4, 5, 6, 7, 0] (lv' := [(0, .ref adm), (1, .int fr), (2, .int to0), (3, .ref adx), (4, .int i4_4), (5, .int i5_13), (6, .int x6_20), (7, .int x7_26)]) rfl ?_
        refine v_goto (tgt := 99) hk dX11_total_145 (by decide) ?_
        exact ih x7_26 ffactor_23 fmade_24 fterm_25 h
      · replace h := it_t (g := (lpk (lp (b_X11_total_99 o_names o_rows o_strength o_most o_toldGraph o_toldArc r_1 i5_13 x6_20) nn))) h hc
        refine v_aload_n hk dX11_total_119 rfl ?_
        refine v_aload_n hk dX11_total_120 rfl ?_
        refine v_get (C := RX11) (T := TX11) (N := 39) (ci := 10) (v := .ref (adA 32)) hk dX11_total_121 w2i_X11_total_X110 1 rfl rfl 32 (by decide) (by decide +kernel) rfl rfl ?_
        refine v_aload_n hk dX11_total_124 rfl ?_
        refine v_get (C := RX11) (T := TX11) (N := 39) (ci := 10) (v := .ref (adA 29)) hk dX11_total_125 w2i_X11_total_X110 1 rfl rfl 29 (by decide) (by decide +kernel) rfl rfl ?_
        refine v_bipush (v := 16) hk dX11_total_128 (by decide) ?_
        refine v_iload hk dX11_total_130 rfl ?_
        refine v_imul hk dX11_total_132 ?_
        refine v_iload hk dX11_total_133 rfl ?_
        refine v_iadd hk dX11_total_135 ?_
        refine v_bipush (v := 80) hk dX11_total_136 (by decide) ?_
        refine v_imul hk dX11_total_138 ?_
        obtain ⟨r_27, er_27, h⟩ := bd_e (g := (lpk (lp (b_X11_total_99 o_names o_rows o_strength o_most o_toldGraph o_toldArc r_1 i5_13 x6_20) nn))) rfl h
        refine v_callV (n := 3) (st := []) (b := adm) (T := TX11) (N := 39) hk dX11_total_139 (c_X11_multiply (kl K) (kG K) adm adA (adA 32) (adA 29) o_names o_rows o_strength o_most o_toldGraph o_toldArc ffactor_23 fmade_24 320 fterm_25 5120 r_1.2.2.2.2.2.2.2.2.2.2.2.2.2 (((16 * i7_22) + x6_20) * 80) r_27 er_27) rfl gd_X11_total_X11_multiply rfl (by decide +kernel) (frok hR9 (Nat.le_of_ble_eq_true rfl) (Nat.le_of_ble_eq_true rfl)) (roomk hR9 (Nat.le_of_ble_eq_true rfl) (Nat.le_of_ble_eq_true rfl)) rfl rfl (Nat.le_of_ble_eq_true rfl) 1 rfl rfl [1, 12, 13, 20, 16] [0, 2, 3, 4, 5, 6, 7, 8, 9, 10, 11, 14, 15, 17, 18, 19] (wr := [(adx, .inl (gI (kG K), nx, .inl fx)), ((adA 1), .inl (gI (kG K), 5, .inl fvalues)), ((adA 3), .inl (gI (kG K), 80, .inl fcells)), ((adA 11), .inl (gZ (kG K), 160, .inl r_1.1)), ((adA 12), .inl (gI (kG K), 1280, .inl r_1.2.1)), ((adA 13), .inl (gI (kG K), 1280, .inl r_1.2.2.1)), ((adA 14), .inl (gI (kG K), 320, .inl r_1.2.2.2.1)), ((adA 15), .inl (gI (kG K), 320, .inl r_1.2.2.2.2.1)), ((adA 6), .inl (gI (kG K), 320, .inl r_1.2.2.2.2.2.1)), ((adA 7), .inl (gI (kG K), 320, .inl r_1.2.2.2.2.2.2.1)), ((adA 8), .inl (gI (kG K), 320, .inl r_1.2.2.2.2.2.2.2.1)), ((adA 30), .inl (gI (kG K), 5120, .inl r_1.2.2.2.2.2.2.2.2.2.2.1)), ((adA 35), .inl (gI (kG K), 320, .inl r_1.2.2.2.2.2.2.2.2.2.2.2.2.1)), ((adA 33), .inl (gI (kG K), 320, .inl fmore_17)), ((adA 34), .inl (gI (kG K), 320, .inl ffewer_18)), ((adA 31), .inl (gI (kG K), 5120, .inl fwholes_5))]) rfl rfl (by decide) (by decide) (by decide) ?_
        intro v9 w9 hp9
        obtain ⟨rfl, rfl⟩ := hp9
        show V K 8 [(adx, .inl (gI (kG K), nx, .inl fx)), ((adA 1), .inl (gI (kG K), 5, .inl fvalues)), ((adA 3), .inl (gI (kG K), 80, .inl fcells)), ((adA 11), .inl (gZ (kG K), 160, .inl r_1.1)), ((adA 12), .inl (gI (kG K), 1280, .inl r_1.2.1)), ((adA 13), .inl (gI (kG K), 1280, .inl r_1.2.2.1)), ((adA 14), .inl (gI (kG K), 320, .inl r_1.2.2.2.1)), ((adA 15), .inl (gI (kG K), 320, .inl r_1.2.2.2.2.1)), ((adA 6), .inl (gI (kG K), 320, .inl r_1.2.2.2.2.2.1)), ((adA 7), .inl (gI (kG K), 320, .inl r_1.2.2.2.2.2.2.1)), ((adA 8), .inl (gI (kG K), 320, .inl r_1.2.2.2.2.2.2.2.1)), ((adA 30), .inl (gI (kG K), 5120, .inl r_1.2.2.2.2.2.2.2.2.2.2.1)), ((adA 35), .inl (gI (kG K), 320, .inl r_1.2.2.2.2.2.2.2.2.2.2.2.2.1)), ((adA 33), .inl (gI (kG K), 320, .inl fmore_17)), ((adA 34), .inl (gI (kG K), 320, .inl ffewer_18)), ((adA 31), .inl (gI (kG K), 5120, .inl fwholes_5)), (adm, .inr (10, oM adA o_names o_rows o_strength o_most o_toldGraph o_toldArc)), ((adA 16), .inl (gI (kG K), 320, .inl r_27.1)), ((adA 17), .inl (gI (kG K), 320, .inl r_27.2.1)), ((adA 32), .inl (gI (kG K), 320, .inl r_27.2.2)), ((adA 29), .inl (gI (kG K), 5120, .inl r_1.2.2.2.2.2.2.2.2.2.2.2.2.2))] 0 0 142 [(0, .ref adm), (1, .int fr), (2, .int to0), (3, .ref adx), (4, .int i4_4), (5, .int i5_13), (6, .int x6_20), (7, .int i7_22)] []
        obtain ⟨x7_28, ex7_28, h⟩ := lt_e (g := (lpk (lp (b_X11_total_99 o_names o_rows o_strength o_most o_toldGraph o_toldArc r_1 i5_13 x6_20) nn))) h
        refine v_iinc (v := x7_28) hk dX11_total_142 rfl (by rw [ex7_28]; rfl) (by decide) [1, 2, 3, 4, 5, 6, 7, 0] (lv' := [(0, .ref adm), (1, .int fr), (2, .int to0), (3, .ref adx), (4, .int i4_4), (5, .int i5_13), (6, .int x6_20), (7, .int x7_28)]) rfl ?_
        refine v_goto (tgt := 99) hk dX11_total_145 (by decide) ?_
        refine v_perm [0, 16, 1, 2, 3, 4, 5, 6, 7, 8, 9, 10, 17, 18, 11, 12, 20, 13, 14, 15, 19] (ws' := [(adx, .inl (gI (kG K), nx, .inl fx)), (adm, .inr (10, oM adA o_names o_rows o_strength o_most o_toldGraph o_toldArc)), ((adA 1), .inl (gI (kG K), 5, .inl fvalues)), ((adA 3), .inl (gI (kG K), 80, .inl fcells)), ((adA 11), .inl (gZ (kG K), 160, .inl r_1.1)), ((adA 12), .inl (gI (kG K), 1280, .inl r_1.2.1)), ((adA 13), .inl (gI (kG K), 1280, .inl r_1.2.2.1)), ((adA 14), .inl (gI (kG K), 320, .inl r_1.2.2.2.1)), ((adA 15), .inl (gI (kG K), 320, .inl r_1.2.2.2.2.1)), ((adA 6), .inl (gI (kG K), 320, .inl r_1.2.2.2.2.2.1)), ((adA 7), .inl (gI (kG K), 320, .inl r_1.2.2.2.2.2.2.1)), ((adA 8), .inl (gI (kG K), 320, .inl r_1.2.2.2.2.2.2.2.1)), ((adA 16), .inl (gI (kG K), 320, .inl r_27.1)), ((adA 17), .inl (gI (kG K), 320, .inl r_27.2.1)), ((adA 30), .inl (gI (kG K), 5120, .inl r_1.2.2.2.2.2.2.2.2.2.2.1)), ((adA 35), .inl (gI (kG K), 320, .inl r_1.2.2.2.2.2.2.2.2.2.2.2.2.1)), ((adA 29), .inl (gI (kG K), 5120, .inl r_1.2.2.2.2.2.2.2.2.2.2.2.2.2)), ((adA 33), .inl (gI (kG K), 320, .inl fmore_17)), ((adA 34), .inl (gI (kG K), 320, .inl ffewer_18)), ((adA 31), .inl (gI (kG K), 5120, .inl fwholes_5)), ((adA 32), .inl (gI (kG K), 320, .inl r_27.2.2))]) rfl rfl (by decide) ?_
        exact ih x7_28 r_27.1 r_27.2.1 r_27.2.2 h
set_option maxHeartbeats 4000000 in
set_option maxRecDepth 100000 in
theorem L_X11_total_53 {K : Cx} {R9 : Room} (hk : Ok K cX11_total 8 RX11 w2_X11_total R9) (hR9 : RoomGe R9 rm_X11_total) (adm : Nat) (adA : Nat → Nat) (adx : Nat) (o_names : Int32) (o_rows : Int32) (o_strength : Int32) (o_most : Int32) (o_toldGraph : Int32) (o_toldArc : Int32) (fvalues : Nat → Int32) (fcells : Nat → Int32) (nx : Nat) (fx : Nat → Int32) (fr : Int32) (to0 : Int32) (r_1 : (Nat → Int32) × (Nat → Int32) × (Nat → Int32) × (Nat → Int32) × (Nat → Int32) × (Nat → Int32) × (Nat → Int32) × (Nat → Int32) × (Nat → Int32) × (Nat → Int32) × (Nat → Int32) × (Nat → Int32) × (Nat → Int32) × (Nat → Int32)) (i4_4 : Int32) (fwholes_5 : Nat → Int32) (b9 : (Int32 × (Nat → Int32) × (Nat → Int32) × (Nat → Int32) × (Nat → Int32) × (Nat → Int32))) (kk0 : ∀ q9 : (Int32 × (Nat → Int32) × (Nat → Int32) × (Nat → Int32) × (Nat → Int32) × (Nat → Int32)), b9 = q9 → V K 8 [((adA 31), .inl (gI (kG K), 5120, .inl fwholes_5)), (adx, .inl (gI (kG K), nx, .inl fx)), (adm, .inr (10, oM adA o_names o_rows o_strength o_most o_toldGraph o_toldArc)), ((adA 1), .inl (gI (kG K), 5, .inl fvalues)), ((adA 3), .inl (gI (kG K), 80, .inl fcells)), ((adA 11), .inl (gZ (kG K), 160, .inl r_1.1)), ((adA 12), .inl (gI (kG K), 1280, .inl r_1.2.1)), ((adA 13), .inl (gI (kG K), 1280, .inl r_1.2.2.1)), ((adA 14), .inl (gI (kG K), 320, .inl r_1.2.2.2.1)), ((adA 15), .inl (gI (kG K), 320, .inl r_1.2.2.2.2.1)), ((adA 6), .inl (gI (kG K), 320, .inl r_1.2.2.2.2.2.1)), ((adA 7), .inl (gI (kG K), 320, .inl r_1.2.2.2.2.2.2.1)), ((adA 8), .inl (gI (kG K), 320, .inl r_1.2.2.2.2.2.2.2.1)), ((adA 16), .inl (gI (kG K), 320, .inl q9.2.1)), ((adA 17), .inl (gI (kG K), 320, .inl q9.2.2.1)), ((adA 30), .inl (gI (kG K), 5120, .inl r_1.2.2.2.2.2.2.2.2.2.2.1)), ((adA 32), .inl (gI (kG K), 320, .inl q9.2.2.2.1)), ((adA 35), .inl (gI (kG K), 320, .inl r_1.2.2.2.2.2.2.2.2.2.2.2.2.1)), ((adA 29), .inl (gI (kG K), 5120, .inl r_1.2.2.2.2.2.2.2.2.2.2.2.2.2)), ((adA 33), .inl (gI (kG K), 320, .inl q9.2.2.2.2.1)), ((adA 34), .inl (gI (kG K), 320, .inl q9.2.2.2.2.2))] 0 0 183 [(0, .ref adm), (1, .int fr), (2, .int to0), (3, .ref adx), (4, .int i4_4), (5, .int q9.1)] []) : ∀ (nn : Nat) (i5_13 : Int32) (ffactor_14 : Nat → Int32) (fmade_15 : Nat → Int32) (fterm_16 : Nat → Int32) (fmore_17 : Nat → Int32) (ffewer_18 : Nat → Int32), lp (b_X11_total_53 o_names o_rows o_strength o_most o_toldGraph o_toldArc r_1 i4_4 fwholes_5) nn (i5_13, ffactor_14, fmade_15, fterm_16, fmore_17, ffewer_18) = some b9 → V K 8 [((adA 31), .inl (gI (kG K), 5120, .inl fwholes_5)), (adx, .inl (gI (kG K), nx, .inl fx)), (adm, .inr (10, oM adA o_names o_rows o_strength o_most o_toldGraph o_toldArc)), ((adA 1), .inl (gI (kG K), 5, .inl fvalues)), ((adA 3), .inl (gI (kG K), 80, .inl fcells)), ((adA 11), .inl (gZ (kG K), 160, .inl r_1.1)), ((adA 12), .inl (gI (kG K), 1280, .inl r_1.2.1)), ((adA 13), .inl (gI (kG K), 1280, .inl r_1.2.2.1)), ((adA 14), .inl (gI (kG K), 320, .inl r_1.2.2.2.1)), ((adA 15), .inl (gI (kG K), 320, .inl r_1.2.2.2.2.1)), ((adA 6), .inl (gI (kG K), 320, .inl r_1.2.2.2.2.2.1)), ((adA 7), .inl (gI (kG K), 320, .inl r_1.2.2.2.2.2.2.1)), ((adA 8), .inl (gI (kG K), 320, .inl r_1.2.2.2.2.2.2.2.1)), ((adA 16), .inl (gI (kG K), 320, .inl ffactor_14)), ((adA 17), .inl (gI (kG K), 320, .inl fmade_15)), ((adA 30), .inl (gI (kG K), 5120, .inl r_1.2.2.2.2.2.2.2.2.2.2.1)), ((adA 32), .inl (gI (kG K), 320, .inl fterm_16)), ((adA 35), .inl (gI (kG K), 320, .inl r_1.2.2.2.2.2.2.2.2.2.2.2.2.1)), ((adA 29), .inl (gI (kG K), 5120, .inl r_1.2.2.2.2.2.2.2.2.2.2.2.2.2)), ((adA 33), .inl (gI (kG K), 320, .inl fmore_17)), ((adA 34), .inl (gI (kG K), 320, .inl ffewer_18))] 0 0 53 [(0, .ref adm), (1, .int fr), (2, .int to0), (3, .ref adx), (4, .int i4_4), (5, .int i5_13)] [] := by
  intro nn
  induction nn with
  | zero => intro i5_13 ffactor_14 fmade_15 fterm_16 fmore_17 ffewer_18 h; exact absurd h (by simp [lp])
  | succ nn ih =>
    intro i5_13 ffactor_14 fmade_15 fterm_16 fmore_17 ffewer_18 h
    replace h := lp_s h
    rw [eb_X11_total_53] at h
    refine v_iload hk dX11_total_53 rfl ?_
    refine v_iload hk dX11_total_55 rfl ?_
    refine v_icmp_gt (tgt := 183) hk dX11_total_57 (by decide) (fun hc => ?_) (fun hc => ?_)
    · replace h := it_t (g := (lpk (lp (b_X11_total_53 o_names o_rows o_strength o_most o_toldGraph o_toldArc r_1 i4_4 fwholes_5) nn))) h hc
      replace h : some (i5_13, ffactor_14, fmade_15, fterm_16, fmore_17, ffewer_18) = some b9 := h
      replace h := Option.some.inj h
      subst h
      exact kk0 _ rfl
    · replace h := it_f (g := (lpk (lp (b_X11_total_53 o_names o_rows o_strength o_most o_toldGraph o_toldArc r_1 i4_4 fwholes_5) nn))) h hc
      refine v_iload hk dX11_total_60 rfl ?_
      refine v_iload hk dX11_total_62 rfl ?_
      refine v_iconst (v := (-1)) hk dX11_total_64 (by decide) ?_
      refine v_ixor hk dX11_total_65 ?_
      refine v_iand hk dX11_total_66 ?_
      refine v_if_ne (tgt := 177) hk dX11_total_67 (by decide) (fun hc => ?_) (fun hc => ?_)
      · replace h := it_f (g := (lpk (lp (b_X11_total_53 o_names o_rows o_strength o_most o_toldGraph o_toldArc r_1 i4_4 fwholes_5) nn))) h hc
        obtain ⟨x5_19, ex5_19, h⟩ := lt_e (g := (lpk (lp (b_X11_total_53 o_names o_rows o_strength o_most o_toldGraph o_toldArc r_1 i4_4 fwholes_5) nn))) h
        refine v_iinc (v := x5_19) hk dX11_total_177 rfl (by rw [ex5_19]; rfl) (by decide) [1, 2, 3, 4, 5, 0] (lv' := [(0, .ref adm), (1, .int fr), (2, .int to0), (3, .ref adx), (4, .int i4_4), (5, .int x5_19)]) rfl ?_
        refine v_goto (tgt := 53) hk dX11_total_180 (by decide) ?_
        exact ih x5_19 ffactor_14 fmade_15 fterm_16 fmore_17 ffewer_18 h
      · replace h := it_t (g := (lpk (lp (b_X11_total_53 o_names o_rows o_strength o_most o_toldGraph o_toldArc r_1 i4_4 fwholes_5) nn))) h hc
        refine v_iload hk dX11_total_70 rfl ?_
        refine v_iload hk dX11_total_72 rfl ?_
        refine v_iconst (v := (-1)) hk dX11_total_74 (by decide) ?_
        refine v_ixor hk dX11_total_75 ?_
        refine v_iand hk dX11_total_76 ?_
        obtain ⟨x6_20, ex6_20, h⟩ := lt_e (g := (lpk (lp (b_X11_total_53 o_names o_rows o_strength o_most o_toldGraph o_toldArc r_1 i4_4 fwholes_5) nn))) h
        refine v_topi ex6_20.symm ?_
        refine v_istore hk dX11_total_77 (by decide) [1, 2, 3, 4, 5, 6, 0] (lv' := [(0, .ref adm), (1, .int fr), (2, .int to0), (3, .ref adx), (4, .int i4_4), (5, .int i5_13), (6, .int x6_20)]) rfl ?_
        refine v_aload_n hk dX11_total_79 rfl ?_
        refine v_get (C := RX11) (T := TX11) (N := 39) (ci := 10) (v := .ref (adA 31)) hk dX11_total_80 w2i_X11_total_X110 2 rfl rfl 31 (by decide) (by decide +kernel) rfl rfl ?_
        refine v_iload hk dX11_total_83 rfl ?_
        refine v_sipush (v := 320) hk dX11_total_85 (by decide) ?_
        refine v_imul hk dX11_total_88 ?_
        refine v_aload_n hk dX11_total_89 rfl ?_
        refine v_get (C := RX11) (T := TX11) (N := 39) (ci := 10) (v := .ref (adA 32)) hk dX11_total_90 w2i_X11_total_X110 2 rfl rfl 32 (by decide) (by decide +kernel) rfl rfl ?_
        obtain ⟨r_21, er_21, h⟩ := bd_e (g := (lpk (lp (b_X11_total_53 o_names o_rows o_strength o_most o_toldGraph o_toldArc r_1 i4_4 fwholes_5) nn))) rfl h
        refine v_callS (n := 3) (st := []) hk dX11_total_93 (c_X11_load (kl K) (kG K) (adA 31) (adA 32) 5120 fwholes_5 320 fterm_16 (x6_20 * 320) r_21 er_21) gd_X11_total_X11_load rfl (by decide +kernel) (frok hR9 (Nat.le_of_ble_eq_true rfl) (Nat.le_of_ble_eq_true rfl)) (roomk hR9 (Nat.le_of_ble_eq_true rfl) (Nat.le_of_ble_eq_true rfl)) rfl rfl (Nat.le_of_ble_eq_true rfl) [0, 16] [1, 2, 3, 4, 5, 6, 7, 8, 9, 10, 11, 12, 13, 14, 15, 17, 18, 19, 20] (wr := [(adx, .inl (gI (kG K), nx, .inl fx)), (adm, .inr (10, oM adA o_names o_rows o_strength o_most o_toldGraph o_toldArc)), ((adA 1), .inl (gI (kG K), 5, .inl fvalues)), ((adA 3), .inl (gI (kG K), 80, .inl fcells)), ((adA 11), .inl (gZ (kG K), 160, .inl r_1.1)), ((adA 12), .inl (gI (kG K), 1280, .inl r_1.2.1)), ((adA 13), .inl (gI (kG K), 1280, .inl r_1.2.2.1)), ((adA 14), .inl (gI (kG K), 320, .inl r_1.2.2.2.1)), ((adA 15), .inl (gI (kG K), 320, .inl r_1.2.2.2.2.1)), ((adA 6), .inl (gI (kG K), 320, .inl r_1.2.2.2.2.2.1)), ((adA 7), .inl (gI (kG K), 320, .inl r_1.2.2.2.2.2.2.1)), ((adA 8), .inl (gI (kG K), 320, .inl r_1.2.2.2.2.2.2.2.1)), ((adA 16), .inl (gI (kG K), 320, .inl ffactor_14)), ((adA 17), .inl (gI (kG K), 320, .inl fmade_15)), ((adA 30), .inl (gI (kG K), 5120, .inl r_1.2.2.2.2.2.2.2.2.2.2.1)), ((adA 35), .inl (gI (kG K), 320, .inl r_1.2.2.2.2.2.2.2.2.2.2.2.2.1)), ((adA 29), .inl (gI (kG K), 5120, .inl r_1.2.2.2.2.2.2.2.2.2.2.2.2.2)), ((adA 33), .inl (gI (kG K), 320, .inl fmore_17)), ((adA 34), .inl (gI (kG K), 320, .inl ffewer_18))]) rfl rfl (by decide) (by decide) (by decide) ?_
        intro v9 w9 hp9
        obtain ⟨rfl, rfl⟩ := hp9
        show V K 8 [(adx, .inl (gI (kG K), nx, .inl fx)), (adm, .inr (10, oM adA o_names o_rows o_strength o_most o_toldGraph o_toldArc)), ((adA 1), .inl (gI (kG K), 5, .inl fvalues)), ((adA 3), .inl (gI (kG K), 80, .inl fcells)), ((adA 11), .inl (gZ (kG K), 160, .inl r_1.1)), ((adA 12), .inl (gI (kG K), 1280, .inl r_1.2.1)), ((adA 13), .inl (gI (kG K), 1280, .inl r_1.2.2.1)), ((adA 14), .inl (gI (kG K), 320, .inl r_1.2.2.2.1)), ((adA 15), .inl (gI (kG K), 320, .inl r_1.2.2.2.2.1)), ((adA 6), .inl (gI (kG K), 320, .inl r_1.2.2.2.2.2.1)), ((adA 7), .inl (gI (kG K), 320, .inl r_1.2.2.2.2.2.2.1)), ((adA 8), .inl (gI (kG K), 320, .inl r_1.2.2.2.2.2.2.2.1)), ((adA 16), .inl (gI (kG K), 320, .inl ffactor_14)), ((adA 17), .inl (gI (kG K), 320, .inl fmade_15)), ((adA 30), .inl (gI (kG K), 5120, .inl r_1.2.2.2.2.2.2.2.2.2.2.1)), ((adA 35), .inl (gI (kG K), 320, .inl r_1.2.2.2.2.2.2.2.2.2.2.2.2.1)), ((adA 29), .inl (gI (kG K), 5120, .inl r_1.2.2.2.2.2.2.2.2.2.2.2.2.2)), ((adA 33), .inl (gI (kG K), 320, .inl fmore_17)), ((adA 34), .inl (gI (kG K), 320, .inl ffewer_18)), ((adA 31), .inl (gI (kG K), 5120, .inl fwholes_5)), ((adA 32), .inl (gI (kG K), 320, .inl r_21))] 0 0 96 [(0, .ref adm), (1, .int fr), (2, .int to0), (3, .ref adx), (4, .int i4_4), (5, .int i5_13), (6, .int x6_20)] []
        refine v_iconst (v := 0) hk dX11_total_96 (by decide) ?_
        refine v_istore hk dX11_total_97 (by decide) [1, 2, 3, 4, 5, 6, 7, 0] (lv' := [(0, .ref adm), (1, .int fr), (2, .int to0), (3, .ref adx), (4, .int i4_4), (5, .int i5_13), (6, .int x6_20), (7, .int 0)]) rfl ?_
        obtain ⟨b_36, eb_36, h⟩ := bd_e (g := (lpk (lp (b_X11_total_53 o_names o_rows o_strength o_most o_toldGraph o_toldArc r_1 i4_4 fwholes_5) nn))) rfl h
        refine L_X11_total_99 hk hR9 adm adA adx o_names o_rows o_strength o_most o_toldGraph o_toldArc fvalues fcells nx fx fr to0 r_1 i4_4 fwholes_5 i5_13 fmore_17 ffewer_18 x6_20 b_36 (fun q_29 eq_29 => ?_) FU 0 ffactor_14 fmade_15 r_21 eb_36
        · replace eq_29 := eq_29.symm
          subst eq_29
          refine v_iload hk dX11_total_148 rfl ?_
          obtain ⟨r_30, er_30, h⟩ := bd_e (g := (lpk (lp (b_X11_total_53 o_names o_rows o_strength o_most o_toldGraph o_toldArc r_1 i4_4 fwholes_5) nn))) rfl h
          refine v_callS (n := 1) (st := []) hk dX11_total_150 (c_X11_bits (kl K) (kG K) i5_13 r_30 er_30) gd_X11_total_X11_bits rfl (by decide +kernel) (frok hR9 (Nat.le_of_ble_eq_true rfl) (Nat.le_of_ble_eq_true rfl)) (roomk hR9 (Nat.le_of_ble_eq_true rfl) (Nat.le_of_ble_eq_true rfl)) rfl rfl (Nat.le_of_ble_eq_true rfl) [] [0, 1, 2, 3, 4, 5, 6, 7, 8, 9, 10, 11, 12, 13, 14, 15, 16, 17, 18, 19, 20] (wr := [(adx, .inl (gI (kG K), nx, .inl fx)), (adm, .inr (10, oM adA o_names o_rows o_strength o_most o_toldGraph o_toldArc)), ((adA 1), .inl (gI (kG K), 5, .inl fvalues)), ((adA 3), .inl (gI (kG K), 80, .inl fcells)), ((adA 11), .inl (gZ (kG K), 160, .inl r_1.1)), ((adA 12), .inl (gI (kG K), 1280, .inl r_1.2.1)), ((adA 13), .inl (gI (kG K), 1280, .inl r_1.2.2.1)), ((adA 14), .inl (gI (kG K), 320, .inl r_1.2.2.2.1)), ((adA 15), .inl (gI (kG K), 320, .inl r_1.2.2.2.2.1)), ((adA 6), .inl (gI (kG K), 320, .inl r_1.2.2.2.2.2.1)), ((adA 7), .inl (gI (kG K), 320, .inl r_1.2.2.2.2.2.2.1)), ((adA 8), .inl (gI (kG K), 320, .inl r_1.2.2.2.2.2.2.2.1)), ((adA 16), .inl (gI (kG K), 320, .inl q_29.2.1)), ((adA 17), .inl (gI (kG K), 320, .inl q_29.2.2.1)), ((adA 30), .inl (gI (kG K), 5120, .inl r_1.2.2.2.2.2.2.2.2.2.2.1)), ((adA 35), .inl (gI (kG K), 320, .inl r_1.2.2.2.2.2.2.2.2.2.2.2.2.1)), ((adA 29), .inl (gI (kG K), 5120, .inl r_1.2.2.2.2.2.2.2.2.2.2.2.2.2)), ((adA 33), .inl (gI (kG K), 320, .inl fmore_17)), ((adA 34), .inl (gI (kG K), 320, .inl ffewer_18)), ((adA 31), .inl (gI (kG K), 5120, .inl fwholes_5)), ((adA 32), .inl (gI (kG K), 320, .inl q_29.2.2.2))]) rfl rfl (by decide) (by decide) (by decide) ?_
          intro v9 w9 hp9
          obtain ⟨rfl, rfl⟩ := hp9
          show V K 8 [(adx, .inl (gI (kG K), nx, .inl fx)), (adm, .inr (10, oM adA o_names o_rows o_strength o_most o_toldGraph o_toldArc)), ((adA 1), .inl (gI (kG K), 5, .inl fvalues)), ((adA 3), .inl (gI (kG K), 80, .inl fcells)), ((adA 11), .inl (gZ (kG K), 160, .inl r_1.1)), ((adA 12), .inl (gI (kG K), 1280, .inl r_1.2.1)), ((adA 13), .inl (gI (kG K), 1280, .inl r_1.2.2.1)), ((adA 14), .inl (gI (kG K), 320, .inl r_1.2.2.2.1)), ((adA 15), .inl (gI (kG K), 320, .inl r_1.2.2.2.2.1)), ((adA 6), .inl (gI (kG K), 320, .inl r_1.2.2.2.2.2.1)), ((adA 7), .inl (gI (kG K), 320, .inl r_1.2.2.2.2.2.2.1)), ((adA 8), .inl (gI (kG K), 320, .inl r_1.2.2.2.2.2.2.2.1)), ((adA 16), .inl (gI (kG K), 320, .inl q_29.2.1)), ((adA 17), .inl (gI (kG K), 320, .inl q_29.2.2.1)), ((adA 30), .inl (gI (kG K), 5120, .inl r_1.2.2.2.2.2.2.2.2.2.2.1)), ((adA 35), .inl (gI (kG K), 320, .inl r_1.2.2.2.2.2.2.2.2.2.2.2.2.1)), ((adA 29), .inl (gI (kG K), 5120, .inl r_1.2.2.2.2.2.2.2.2.2.2.2.2.2)), ((adA 33), .inl (gI (kG K), 320, .inl fmore_17)), ((adA 34), .inl (gI (kG K), 320, .inl ffewer_18)), ((adA 31), .inl (gI (kG K), 5120, .inl fwholes_5)), ((adA 32), .inl (gI (kG K), 320, .inl q_29.2.2.2))] 0 0 153 [(0, .ref adm), (1, .int fr), (2, .int to0), (3, .ref adx), (4, .int i4_4), (5, .int i5_13), (6, .int x6_20), (7, .int q_29.1)] [.int r_30]
          refine v_iconst (v := 2) hk dX11_total_153 (by decide) ?_
          refine v_irem hk dX11_total_154 (by decide) ?_
          refine v_iconst (v := 1) hk dX11_total_155 (by decide) ?_
          refine v_icmp_ne (tgt := 166) hk dX11_total_156 (by decide) (fun hc => ?_) (fun hc => ?_)
          · replace h := it_f (g := (lpk (lp (b_X11_total_53 o_names o_rows o_strength o_most o_toldGraph o_toldArc r_1 i4_4 fwholes_5) nn))) h hc
            refine v_aload_n hk dX11_total_166 rfl ?_
            refine v_get (C := RX11) (T := TX11) (N := 39) (ci := 10) (v := .ref (adA 34)) hk dX11_total_167 w2i_X11_total_X110 1 rfl rfl 34 (by decide) (by decide +kernel) rfl rfl ?_
            refine v_aload_n hk dX11_total_170 rfl ?_
            refine v_get (C := RX11) (T := TX11) (N := 39) (ci := 10) (v := .ref (adA 32)) hk dX11_total_171 w2i_X11_total_X110 1 rfl rfl 32 (by decide) (by decide +kernel) rfl rfl ?_
            obtain ⟨r_32, er_32, h⟩ := bd_e (g := (lpk (lp (b_X11_total_53 o_names o_rows o_strength o_most o_toldGraph o_toldArc r_1 i4_4 fwholes_5) nn))) rfl h
            refine v_callS (n := 2) (st := []) hk dX11_total_174 (c_X11_plus (kl K) (kG K) (adA 34) (adA 32) 320 ffewer_18 320 q_29.2.2.2 r_32 er_32) gd_X11_total_X11_plus rfl (by decide +kernel) (frok hR9 (Nat.le_of_ble_eq_true rfl) (Nat.le_of_ble_eq_true rfl)) (roomk hR9 (Nat.le_of_ble_eq_true rfl) (Nat.le_of_ble_eq_true rfl)) rfl rfl (Nat.le_of_ble_eq_true rfl) [18, 20] [0, 1, 2, 3, 4, 5, 6, 7, 8, 9, 10, 11, 12, 13, 14, 15, 16, 17, 19] (wr := [(adx, .inl (gI (kG K), nx, .inl fx)), (adm, .inr (10, oM adA o_names o_rows o_strength o_most o_toldGraph o_toldArc)), ((adA 1), .inl (gI (kG K), 5, .inl fvalues)), ((adA 3), .inl (gI (kG K), 80, .inl fcells)), ((adA 11), .inl (gZ (kG K), 160, .inl r_1.1)), ((adA 12), .inl (gI (kG K), 1280, .inl r_1.2.1)), ((adA 13), .inl (gI (kG K), 1280, .inl r_1.2.2.1)), ((adA 14), .inl (gI (kG K), 320, .inl r_1.2.2.2.1)), ((adA 15), .inl (gI (kG K), 320, .inl r_1.2.2.2.2.1)), ((adA 6), .inl (gI (kG K), 320, .inl r_1.2.2.2.2.2.1)), ((adA 7), .inl (gI (kG K), 320, .inl r_1.2.2.2.2.2.2.1)), ((adA 8), .inl (gI (kG K), 320, .inl r_1.2.2.2.2.2.2.2.1)), ((adA 16), .inl (gI (kG K), 320, .inl q_29.2.1)), ((adA 17), .inl (gI (kG K), 320, .inl q_29.2.2.1)), ((adA 30), .inl (gI (kG K), 5120, .inl r_1.2.2.2.2.2.2.2.2.2.2.1)), ((adA 35), .inl (gI (kG K), 320, .inl r_1.2.2.2.2.2.2.2.2.2.2.2.2.1)), ((adA 29), .inl (gI (kG K), 5120, .inl r_1.2.2.2.2.2.2.2.2.2.2.2.2.2)), ((adA 33), .inl (gI (kG K), 320, .inl fmore_17)), ((adA 31), .inl (gI (kG K), 5120, .inl fwholes_5))]) rfl rfl (by decide) (by decide) (by decide) ?_
            intro v9 w9 hp9
            obtain ⟨rfl, rfl⟩ := hp9
            show V K 8 [(adx, .inl (gI (kG K), nx, .inl fx)), (adm, .inr (10, oM adA o_names o_rows o_strength o_most o_toldGraph o_toldArc)), ((adA 1), .inl (gI (kG K), 5, .inl fvalues)), ((adA 3), .inl (gI (kG K), 80, .inl fcells)), ((adA 11), .inl (gZ (kG K), 160, .inl r_1.1)), ((adA 12), .inl (gI (kG K), 1280, .inl r_1.2.1)), ((adA 13), .inl (gI (kG K), 1280, .inl r_1.2.2.1)), ((adA 14), .inl (gI (kG K), 320, .inl r_1.2.2.2.1)), ((adA 15), .inl (gI (kG K), 320, .inl r_1.2.2.2.2.1)), ((adA 6), .inl (gI (kG K), 320, .inl r_1.2.2.2.2.2.1)), ((adA 7), .inl (gI (kG K), 320, .inl r_1.2.2.2.2.2.2.1)), ((adA 8), .inl (gI (kG K), 320, .inl r_1.2.2.2.2.2.2.2.1)), ((adA 16), .inl (gI (kG K), 320, .inl q_29.2.1)), ((adA 17), .inl (gI (kG K), 320, .inl q_29.2.2.1)), ((adA 30), .inl (gI (kG K), 5120, .inl r_1.2.2.2.2.2.2.2.2.2.2.1)), ((adA 35), .inl (gI (kG K), 320, .inl r_1.2.2.2.2.2.2.2.2.2.2.2.2.1)), ((adA 29), .inl (gI (kG K), 5120, .inl r_1.2.2.2.2.2.2.2.2.2.2.2.2.2)), ((adA 33), .inl (gI (kG K), 320, .inl fmore_17)), ((adA 31), .inl (gI (kG K), 5120, .inl fwholes_5)), ((adA 34), .inl (gI (kG K), 320, .inl r_32)), ((adA 32), .inl (gI (kG K), 320, .inl q_29.2.2.2))] 0 0 177 [(0, .ref adm), (1, .int fr), (2, .int to0), (3, .ref adx), (4, .int i4_4), (5, .int i5_13), (6, .int x6_20), (7, .int q_29.1)] []
            obtain ⟨x5_33, ex5_33, h⟩ := lt_e (g := (lpk (lp (b_X11_total_53 o_names o_rows o_strength o_most o_toldGraph o_toldArc r_1 i4_4 fwholes_5) nn))) h
            refine v_iinc (v := x5_33) hk dX11_total_177 rfl (by rw [ex5_33]; rfl) (by decide) [1, 2, 3, 4, 5, 0, 6, 7] (lv' := [(0, .ref adm), (1, .int fr), (2, .int to0), (3, .ref adx), (4, .int i4_4), (5, .int x5_33), (6, .int x6_20), (7, .int q_29.1)]) rfl ?_
            refine v_goto (tgt := 53) hk dX11_total_180 (by decide) ?_
            refine v_loc [0, 1, 2, 3, 4, 5] (lv' := [(0, .ref adm), (1, .int fr), (2, .int to0), (3, .ref adx), (4, .int i4_4), (5, .int x5_33)]) rfl ?_
            refine v_perm [18, 0, 1, 2, 3, 4, 5, 6, 7, 8, 9, 10, 11, 12, 13, 14, 20, 15, 16, 17, 19] (ws' := [((adA 31), .inl (gI (kG K), 5120, .inl fwholes_5)), (adx, .inl (gI (kG K), nx, .inl fx)), (adm, .inr (10, oM adA o_names o_rows o_strength o_most o_toldGraph o_toldArc)), ((adA 1), .inl (gI (kG K), 5, .inl fvalues)), ((adA 3), .inl (gI (kG K), 80, .inl fcells)), ((adA 11), .inl (gZ (kG K), 160, .inl r_1.1)), ((adA 12), .inl (gI (kG K), 1280, .inl r_1.2.1)), ((adA 13), .inl (gI (kG K), 1280, .inl r_1.2.2.1)), ((adA 14), .inl (gI (kG K), 320, .inl r_1.2.2.2.1)), ((adA 15), .inl (gI (kG K), 320, .inl r_1.2.2.2.2.1)), ((adA 6), .inl (gI (kG K), 320, .inl r_1.2.2.2.2.2.1)), ((adA 7), .inl (gI (kG K), 320, .inl r_1.2.2.2.2.2.2.1)), ((adA 8), .inl (gI (kG K), 320, .inl r_1.2.2.2.2.2.2.2.1)), ((adA 16), .inl (gI (kG K), 320, .inl q_29.2.1)), ((adA 17), .inl (gI (kG K), 320, .inl q_29.2.2.1)), ((adA 30), .inl (gI (kG K), 5120, .inl r_1.2.2.2.2.2.2.2.2.2.2.1)), ((adA 32), .inl (gI (kG K), 320, .inl q_29.2.2.2)), ((adA 35), .inl (gI (kG K), 320, .inl r_1.2.2.2.2.2.2.2.2.2.2.2.2.1)), ((adA 29), .inl (gI (kG K), 5120, .inl r_1.2.2.2.2.2.2.2.2.2.2.2.2.2)), ((adA 33), .inl (gI (kG K), 320, .inl fmore_17)), ((adA 34), .inl (gI (kG K), 320, .inl r_32))]) rfl rfl (by decide) ?_
            exact ih x5_33 q_29.2.1 q_29.2.2.1 q_29.2.2.2 fmore_17 r_32 h
          · replace h := it_t (g := (lpk (lp (b_X11_total_53 o_names o_rows o_strength o_most o_toldGraph o_toldArc r_1 i4_4 fwholes_5) nn))) h hc
            refine v_aload_n hk dX11_total_159 rfl ?_
            refine v_get (C := RX11) (T := TX11) (N := 39) (ci := 10) (v := .ref (adA 33)) hk dX11_total_160 w2i_X11_total_X110 1 rfl rfl 33 (by decide) (by decide +kernel) rfl rfl ?_
            refine v_goto (tgt := 170) hk dX11_total_163 (by decide) ?_
            refine v_aload_n hk dX11_total_170 rfl ?_
            refine v_get (C := RX11) (T := TX11) (N := 39) (ci := 10) (v := .ref (adA 32)) hk dX11_total_171 w2i_X11_total_X110 1 rfl rfl 32 (by decide) (by decide +kernel) rfl rfl ?_
            obtain ⟨r_34, er_34, h⟩ := bd_e (g := (lpk (lp (b_X11_total_53 o_names o_rows o_strength o_most o_toldGraph o_toldArc r_1 i4_4 fwholes_5) nn))) rfl h
            refine v_callS (n := 2) (st := []) hk dX11_total_174 (c_X11_plus (kl K) (kG K) (adA 33) (adA 32) 320 fmore_17 320 q_29.2.2.2 r_34 er_34) gd_X11_total_X11_plus rfl (by decide +kernel) (frok hR9 (Nat.le_of_ble_eq_true rfl) (Nat.le_of_ble_eq_true rfl)) (roomk hR9 (Nat.le_of_ble_eq_true rfl) (Nat.le_of_ble_eq_true rfl)) rfl rfl (Nat.le_of_ble_eq_true rfl) [17, 20] [0, 1, 2, 3, 4, 5, 6, 7, 8, 9, 10, 11, 12, 13, 14, 15, 16, 18, 19] (wr := [(adx, .inl (gI (kG K), nx, .inl fx)), (adm, .inr (10, oM adA o_names o_rows o_strength o_most o_toldGraph o_toldArc)), ((adA 1), .inl (gI (kG K), 5, .inl fvalues)), ((adA 3), .inl (gI (kG K), 80, .inl fcells)), ((adA 11), .inl (gZ (kG K), 160, .inl r_1.1)), ((adA 12), .inl (gI (kG K), 1280, .inl r_1.2.1)), ((adA 13), .inl (gI (kG K), 1280, .inl r_1.2.2.1)), ((adA 14), .inl (gI (kG K), 320, .inl r_1.2.2.2.1)), ((adA 15), .inl (gI (kG K), 320, .inl r_1.2.2.2.2.1)), ((adA 6), .inl (gI (kG K), 320, .inl r_1.2.2.2.2.2.1)), ((adA 7), .inl (gI (kG K), 320, .inl r_1.2.2.2.2.2.2.1)), ((adA 8), .inl (gI (kG K), 320, .inl r_1.2.2.2.2.2.2.2.1)), ((adA 16), .inl (gI (kG K), 320, .inl q_29.2.1)), ((adA 17), .inl (gI (kG K), 320, .inl q_29.2.2.1)), ((adA 30), .inl (gI (kG K), 5120, .inl r_1.2.2.2.2.2.2.2.2.2.2.1)), ((adA 35), .inl (gI (kG K), 320, .inl r_1.2.2.2.2.2.2.2.2.2.2.2.2.1)), ((adA 29), .inl (gI (kG K), 5120, .inl r_1.2.2.2.2.2.2.2.2.2.2.2.2.2)), ((adA 34), .inl (gI (kG K), 320, .inl ffewer_18)), ((adA 31), .inl (gI (kG K), 5120, .inl fwholes_5))]) rfl rfl (by decide) (by decide) (by decide) ?_
            intro v9 w9 hp9
            obtain ⟨rfl, rfl⟩ := hp9
            show V K 8 [(adx, .inl (gI (kG K), nx, .inl fx)), (adm, .inr (10, oM adA o_names o_rows o_strength o_most o_toldGraph o_toldArc)), ((adA 1), .inl (gI (kG K), 5, .inl fvalues)), ((adA 3), .inl (gI (kG K), 80, .inl fcells)), ((adA 11), .inl (gZ (kG K), 160, .inl r_1.1)), ((adA 12), .inl (gI (kG K), 1280, .inl r_1.2.1)), ((adA 13), .inl (gI (kG K), 1280, .inl r_1.2.2.1)), ((adA 14), .inl (gI (kG K), 320, .inl r_1.2.2.2.1)), ((adA 15), .inl (gI (kG K), 320, .inl r_1.2.2.2.2.1)), ((adA 6), .inl (gI (kG K), 320, .inl r_1.2.2.2.2.2.1)), ((adA 7), .inl (gI (kG K), 320, .inl r_1.2.2.2.2.2.2.1)), ((adA 8), .inl (gI (kG K), 320, .inl r_1.2.2.2.2.2.2.2.1)), ((adA 16), .inl (gI (kG K), 320, .inl q_29.2.1)), ((adA 17), .inl (gI (kG K), 320, .inl q_29.2.2.1)), ((adA 30), .inl (gI (kG K), 5120, .inl r_1.2.2.2.2.2.2.2.2.2.2.1)), ((adA 35), .inl (gI (kG K), 320, .inl r_1.2.2.2.2.2.2.2.2.2.2.2.2.1)), ((adA 29), .inl (gI (kG K), 5120, .inl r_1.2.2.2.2.2.2.2.2.2.2.2.2.2)), ((adA 34), .inl (gI (kG K), 320, .inl ffewer_18)), ((adA 31), .inl (gI (kG K), 5120, .inl fwholes_5)), ((adA 33), .inl (gI (kG K), 320, .inl r_34)), ((adA 32), .inl (gI (kG K), 320, .inl q_29.2.2.2))] 0 0 177 [(0, .ref adm), (1, .int fr), (2, .int to0), (3, .ref adx), (4, .int i4_4), (5, .int i5_13), (6, .int x6_20), (7, .int q_29.1)] []
            obtain ⟨x5_35, ex5_35, h⟩ := lt_e (g := (lpk (lp (b_X11_total_53 o_names o_rows o_strength o_most o_toldGraph o_toldArc r_1 i4_4 fwholes_5) nn))) h
            refine v_iinc (v := x5_35) hk dX11_total_177 rfl (by rw [ex5_35]; rfl) (by decide) [1, 2, 3, 4, 5, 0, 6, 7] (lv' := [(0, .ref adm), (1, .int fr), (2, .int to0), (3, .ref adx), (4, .int i4_4), (5, .int x5_35), (6, .int x6_20), (7, .int q_29.1)]) rfl ?_
            refine v_goto (tgt := 53) hk dX11_total_180 (by decide) ?_
            refine v_loc [0, 1, 2, 3, 4, 5] (lv' := [(0, .ref adm), (1, .int fr), (2, .int to0), (3, .ref adx), (4, .int i4_4), (5, .int x5_35)]) rfl ?_
            refine v_perm [18, 0, 1, 2, 3, 4, 5, 6, 7, 8, 9, 10, 11, 12, 13, 14, 20, 15, 16, 19, 17] (ws' := [((adA 31), .inl (gI (kG K), 5120, .inl fwholes_5)), (adx, .inl (gI (kG K), nx, .inl fx)), (adm, .inr (10, oM adA o_names o_rows o_strength o_most o_toldGraph o_toldArc)), ((adA 1), .inl (gI (kG K), 5, .inl fvalues)), ((adA 3), .inl (gI (kG K), 80, .inl fcells)), ((adA 11), .inl (gZ (kG K), 160, .inl r_1.1)), ((adA 12), .inl (gI (kG K), 1280, .inl r_1.2.1)), ((adA 13), .inl (gI (kG K), 1280, .inl r_1.2.2.1)), ((adA 14), .inl (gI (kG K), 320, .inl r_1.2.2.2.1)), ((adA 15), .inl (gI (kG K), 320, .inl r_1.2.2.2.2.1)), ((adA 6), .inl (gI (kG K), 320, .inl r_1.2.2.2.2.2.1)), ((adA 7), .inl (gI (kG K), 320, .inl r_1.2.2.2.2.2.2.1)), ((adA 8), .inl (gI (kG K), 320, .inl r_1.2.2.2.2.2.2.2.1)), ((adA 16), .inl (gI (kG K), 320, .inl q_29.2.1)), ((adA 17), .inl (gI (kG K), 320, .inl q_29.2.2.1)), ((adA 30), .inl (gI (kG K), 5120, .inl r_1.2.2.2.2.2.2.2.2.2.2.1)), ((adA 32), .inl (gI (kG K), 320, .inl q_29.2.2.2)), ((adA 35), .inl (gI (kG K), 320, .inl r_1.2.2.2.2.2.2.2.2.2.2.2.2.1)), ((adA 29), .inl (gI (kG K), 5120, .inl r_1.2.2.2.2.2.2.2.2.2.2.2.2.2)), ((adA 33), .inl (gI (kG K), 320, .inl r_34)), ((adA 34), .inl (gI (kG K), 320, .inl ffewer_18))]) rfl rfl (by decide) ?_
            exact ih x5_35 q_29.2.1 q_29.2.2.1 q_29.2.2.2 r_34 ffewer_18 h
set_option maxHeartbeats 4000000 in
set_option maxRecDepth 100000 in
theorem L_X11_total_197 {K : Cx} {R9 : Room} (hk : Ok K cX11_total 8 RX11 w2_X11_total R9) (hR9 : RoomGe R9 rm_X11_total) (adm : Nat) (adA : Nat → Nat) (adx : Nat) (o_names : Int32) (o_rows : Int32) (o_strength : Int32) (o_most : Int32) (o_toldGraph : Int32) (o_toldArc : Int32) (fvalues : Nat → Int32) (fcells : Nat → Int32) (nx : Nat) (fx : Nat → Int32) (fr : Int32) (to0 : Int32) (r_1 : (Nat → Int32) × (Nat → Int32) × (Nat → Int32) × (Nat → Int32) × (Nat → Int32) × (Nat → Int32) × (Nat → Int32) × (Nat → Int32) × (Nat → Int32) × (Nat → Int32) × (Nat → Int32) × (Nat → Int32) × (Nat → Int32) × (Nat → Int32)) (i4_4 : Int32) (q_37 : Int32 × (Nat → Int32) × (Nat → Int32) × (Nat → Int32) × (Nat → Int32) × (Nat → Int32)) (r_38 : (Nat → Int32)) (b9 : (Int32 × (Nat → Int32))) (kk0 : ∀ q9 : (Int32 × (Nat → Int32)), b9 = q9 → V K 8 [((adA 31), .inl (gI (kG K), 5120, .inl q9.2)), (adx, .inl (gI (kG K), nx, .inl fx)), (adm, .inr (10, oM adA o_names o_rows o_strength o_most o_toldGraph o_toldArc)), ((adA 1), .inl (gI (kG K), 5, .inl fvalues)), ((adA 3), .inl (gI (kG K), 80, .inl fcells)), ((adA 11), .inl (gZ (kG K), 160, .inl r_1.1)), ((adA 12), .inl (gI (kG K), 1280, .inl r_1.2.1)), ((adA 13), .inl (gI (kG K), 1280, .inl r_1.2.2.1)), ((adA 14), .inl (gI (kG K), 320, .inl r_1.2.2.2.1)), ((adA 15), .inl (gI (kG K), 320, .inl r_1.2.2.2.2.1)), ((adA 6), .inl (gI (kG K), 320, .inl r_1.2.2.2.2.2.1)), ((adA 7), .inl (gI (kG K), 320, .inl r_1.2.2.2.2.2.2.1)), ((adA 8), .inl (gI (kG K), 320, .inl r_1.2.2.2.2.2.2.2.1)), ((adA 16), .inl (gI (kG K), 320, .inl q_37.2.1)), ((adA 17), .inl (gI (kG K), 320, .inl q_37.2.2.1)), ((adA 30), .inl (gI (kG K), 5120, .inl r_1.2.2.2.2.2.2.2.2.2.2.1)), ((adA 32), .inl (gI (kG K), 320, .inl q_37.2.2.2.1)), ((adA 35), .inl (gI (kG K), 320, .inl r_1.2.2.2.2.2.2.2.2.2.2.2.2.1)), ((adA 29), .inl (gI (kG K), 5120, .inl r_1.2.2.2.2.2.2.2.2.2.2.2.2.2)), ((adA 33), .inl (gI (kG K), 320, .inl r_38)), ((adA 34), .inl (gI (kG K), 320, .inl q_37.2.2.2.2.2))] 0 0 235 [(0, .ref adm), (1, .int fr), (2, .int to0), (3, .ref adx), (4, .int i4_4), (5, .int q9.1)] []) : ∀ (nn : Nat) (i5_39 : Int32) (fwholes_40 : Nat → Int32), lp (b_X11_total_197 i4_4 r_38) nn (i5_39, fwholes_40) = some b9 → V K 8 [((adA 31), .inl (gI (kG K), 5120, .inl fwholes_40)), (adx, .inl (gI (kG K), nx, .inl fx)), (adm, .inr (10, oM adA o_names o_rows o_strength o_most o_toldGraph o_toldArc)), ((adA 1), .inl (gI (kG K), 5, .inl fvalues)), ((adA 3), .inl (gI (kG K), 80, .inl fcells)), ((adA 11), .inl (gZ (kG K), 160, .inl r_1.1)), ((adA 12), .inl (gI (kG K), 1280, .inl r_1.2.1)), ((adA 13), .inl (gI (kG K), 1280, .inl r_1.2.2.1)), ((adA 14), .inl (gI (kG K), 320, .inl r_1.2.2.2.1)), ((adA 15), .inl (gI (kG K), 320, .inl r_1.2.2.2.2.1)), ((adA 6), .inl (gI (kG K), 320, .inl r_1.2.2.2.2.2.1)), ((adA 7), .inl (gI (kG K), 320, .inl r_1.2.2.2.2.2.2.1)), ((adA 8), .inl (gI (kG K), 320, .inl r_1.2.2.2.2.2.2.2.1)), ((adA 16), .inl (gI (kG K), 320, .inl q_37.2.1)), ((adA 17), .inl (gI (kG K), 320, .inl q_37.2.2.1)), ((adA 30), .inl (gI (kG K), 5120, .inl r_1.2.2.2.2.2.2.2.2.2.2.1)), ((adA 32), .inl (gI (kG K), 320, .inl q_37.2.2.2.1)), ((adA 35), .inl (gI (kG K), 320, .inl r_1.2.2.2.2.2.2.2.2.2.2.2.2.1)), ((adA 29), .inl (gI (kG K), 5120, .inl r_1.2.2.2.2.2.2.2.2.2.2.2.2.2)), ((adA 33), .inl (gI (kG K), 320, .inl r_38)), ((adA 34), .inl (gI (kG K), 320, .inl q_37.2.2.2.2.2))] 0 0 197 [(0, .ref adm), (1, .int fr), (2, .int to0), (3, .ref adx), (4, .int i4_4), (5, .int i5_39)] [] := by
  intro nn
  induction nn with
  | zero => intro i5_39 fwholes_40 h; exact absurd h (by simp [lp])
  | succ nn ih =>
    intro i5_39 fwholes_40 h
    replace h := lp_s h
    rw [eb_X11_total_197] at h
    refine v_iload hk dX11_total_197 rfl ?_
    refine v_aload_n hk dX11_total_199 rfl ?_
    refine v_get (C := RX11) (T := TX11) (N := 39) (ci := 10) (v := .ref (adA 33)) hk dX11_total_200 w2i_X11_total_X110 2 rfl rfl 33 (by decide) (by decide +kernel) rfl rfl ?_
    refine v_iconst (v := 0) hk dX11_total_203 (by decide) ?_
    obtain ⟨hi, h⟩ := ok_e (g := (lpk (lp (b_X11_total_197 i4_4 r_38) nn))) rfl h
    refine v_ialdV hk dX11_total_204 19 rfl (ix_in hi) ?_
    refine v_icmp_gt (tgt := 235) hk dX11_total_205 (by decide) (fun hc => ?_) (fun hc => ?_)
    · replace h := it_t (g := (lpk (lp (b_X11_total_197 i4_4 r_38) nn))) h hc
      replace h : some (i5_39, fwholes_40) = some b9 := h
      replace h := Option.some.inj h
      subst h
      exact kk0 _ rfl
    · replace h := it_f (g := (lpk (lp (b_X11_total_197 i4_4 r_38) nn))) h hc
      refine v_aload_n hk dX11_total_208 rfl ?_
      refine v_get (C := RX11) (T := TX11) (N := 39) (ci := 10) (v := .ref (adA 31)) hk dX11_total_209 w2i_X11_total_X110 2 rfl rfl 31 (by decide) (by decide +kernel) rfl rfl ?_
      refine v_iload hk dX11_total_212 rfl ?_
      refine v_sipush (v := 320) hk dX11_total_214 (by decide) ?_
      refine v_imul hk dX11_total_217 ?_
      refine v_iload hk dX11_total_218 rfl ?_
      refine v_iadd hk dX11_total_220 ?_
      refine v_aload_n hk dX11_total_221 rfl ?_
      refine v_get (C := RX11) (T := TX11) (N := 39) (ci := 10) (v := .ref (adA 33)) hk dX11_total_222 w2i_X11_total_X110 2 rfl rfl 33 (by decide) (by decide +kernel) rfl rfl ?_
      refine v_iload hk dX11_total_225 rfl ?_
      obtain ⟨hi, h⟩ := ok_e (g := (lpk (lp (b_X11_total_197 i4_4 r_38) nn))) rfl h
      refine v_ialdV hk dX11_total_227 19 rfl (ix_in hi) ?_
      obtain ⟨hi, h⟩ := ok_e (g := (lpk (lp (b_X11_total_197 i4_4 r_38) nn))) rfl h
      obtain ⟨fwholes_41, efwholes_41, h⟩ := lt_e (g := (lpk (lp (b_X11_total_197 i4_4 r_38) nn))) h
      refine v_iastV hk dX11_total_228 0 rfl (ix_in hi) (ws' := [((adA 31), .inl (gI (kG K), 5120, .inl fwholes_41)), (adx, .inl (gI (kG K), nx, .inl fx)), (adm, .inr (10, oM adA o_names o_rows o_strength o_most o_toldGraph o_toldArc)), ((adA 1), .inl (gI (kG K), 5, .inl fvalues)), ((adA 3), .inl (gI (kG K), 80, .inl fcells)), ((adA 11), .inl (gZ (kG K), 160, .inl r_1.1)), ((adA 12), .inl (gI (kG K), 1280, .inl r_1.2.1)), ((adA 13), .inl (gI (kG K), 1280, .inl r_1.2.2.1)), ((adA 14), .inl (gI (kG K), 320, .inl r_1.2.2.2.1)), ((adA 15), .inl (gI (kG K), 320, .inl r_1.2.2.2.2.1)), ((adA 6), .inl (gI (kG K), 320, .inl r_1.2.2.2.2.2.1)), ((adA 7), .inl (gI (kG K), 320, .inl r_1.2.2.2.2.2.2.1)), ((adA 8), .inl (gI (kG K), 320, .inl r_1.2.2.2.2.2.2.2.1)), ((adA 16), .inl (gI (kG K), 320, .inl q_37.2.1)), ((adA 17), .inl (gI (kG K), 320, .inl q_37.2.2.1)), ((adA 30), .inl (gI (kG K), 5120, .inl r_1.2.2.2.2.2.2.2.2.2.2.1)), ((adA 32), .inl (gI (kG K), 320, .inl q_37.2.2.2.1)), ((adA 35), .inl (gI (kG K), 320, .inl r_1.2.2.2.2.2.2.2.2.2.2.2.2.1)), ((adA 29), .inl (gI (kG K), 5120, .inl r_1.2.2.2.2.2.2.2.2.2.2.2.2.2)), ((adA 33), .inl (gI (kG K), 320, .inl r_38)), ((adA 34), .inl (gI (kG K), 320, .inl q_37.2.2.2.2.2))]) (by rw [efwholes_41]; rfl) ?_
      obtain ⟨x5_42, ex5_42, h⟩ := lt_e (g := (lpk (lp (b_X11_total_197 i4_4 r_38) nn))) h
      refine v_iinc (v := x5_42) hk dX11_total_229 rfl (by rw [ex5_42]; rfl) (by decide) [1, 2, 3, 4, 5, 0] (lv' := [(0, .ref adm), (1, .int fr), (2, .int to0), (3, .ref adx), (4, .int i4_4), (5, .int x5_42)]) rfl ?_
      refine v_goto (tgt := 197) hk dX11_total_232 (by decide) ?_
      exact ih x5_42 fwholes_41 h
set_option maxHeartbeats 4000000 in
set_option maxRecDepth 100000 in
theorem L_X11_total_23 {K : Cx} {R9 : Room} (hk : Ok K cX11_total 8 RX11 w2_X11_total R9) (hR9 : RoomGe R9 rm_X11_total) (adm : Nat) (adA : Nat → Nat) (adx : Nat) (o_names : Int32) (o_rows : Int32) (o_strength : Int32) (o_most : Int32) (o_toldGraph : Int32) (o_toldArc : Int32) (fvalues : Nat → Int32) (fcells : Nat → Int32) (nx : Nat) (fx : Nat → Int32) (fr : Int32) (to0 : Int32) (r_1 : (Nat → Int32) × (Nat → Int32) × (Nat → Int32) × (Nat → Int32) × (Nat → Int32) × (Nat → Int32) × (Nat → Int32) × (Nat → Int32) × (Nat → Int32) × (Nat → Int32) × (Nat → Int32) × (Nat → Int32) × (Nat → Int32) × (Nat → Int32)) (b9 : (Int32 × (Nat → Int32) × (Nat → Int32) × (Nat → Int32) × (Nat → Int32) × (Nat → Int32) × (Nat → Int32))) (kk0 : ∀ q9 : (Int32 × (Nat → Int32) × (Nat → Int32) × (Nat → Int32) × (Nat → Int32) × (Nat → Int32) × (Nat → Int32)), b9 = q9 → V K 8 [((adA 31), .inl (gI (kG K), 5120, .inl q9.2.1)), ((adA 33), .inl (gI (kG K), 320, .inl q9.2.2.1)), ((adA 34), .inl (gI (kG K), 320, .inl q9.2.2.2.1)), (adx, .inl (gI (kG K), nx, .inl fx)), (adm, .inr (10, oM adA o_names o_rows o_strength o_most o_toldGraph o_toldArc)), ((adA 1), .inl (gI (kG K), 5, .inl fvalues)), ((adA 3), .inl (gI (kG K), 80, .inl fcells)), ((adA 11), .inl (gZ (kG K), 160, .inl r_1.1)), ((adA 12), .inl (gI (kG K), 1280, .inl r_1.2.1)), ((adA 13), .inl (gI (kG K), 1280, .inl r_1.2.2.1)), ((adA 14), .inl (gI (kG K), 320, .inl r_1.2.2.2.1)), ((adA 15), .inl (gI (kG K), 320, .inl r_1.2.2.2.2.1)), ((adA 6), .inl (gI (kG K), 320, .inl r_1.2.2.2.2.2.1)), ((adA 7), .inl (gI (kG K), 320, .inl r_1.2.2.2.2.2.2.1)), ((adA 8), .inl (gI (kG K), 320, .inl r_1.2.2.2.2.2.2.2.1)), ((adA 16), .inl (gI (kG K), 320, .inl q9.2.2.2.2.1)), ((adA 17), .inl (gI (kG K), 320, .inl q9.2.2.2.2.2.1)), ((adA 30), .inl (gI (kG K), 5120, .inl r_1.2.2.2.2.2.2.2.2.2.2.1)), ((adA 32), .inl (gI (kG K), 320, .inl q9.2.2.2.2.2.2)), ((adA 35), .inl (gI (kG K), 320, .inl r_1.2.2.2.2.2.2.2.2.2.2.2.2.1)), ((adA 29), .inl (gI (kG K), 5120, .inl r_1.2.2.2.2.2.2.2.2.2.2.2.2.2))] 0 0 241 [(0, .ref adm), (1, .int fr), (2, .int to0), (3, .ref adx), (4, .int q9.1)] []) : ∀ (nn : Nat) (i4_4 : Int32) (fwholes_5 : Nat → Int32) (fmore_6 : Nat → Int32) (ffewer_7 : Nat → Int32) (ffactor_8 : Nat → Int32) (fmade_9 : Nat → Int32) (fterm_10 : Nat → Int32), lp (b_X11_total_23 o_names o_rows o_strength o_most o_toldGraph o_toldArc r_1) nn (i4_4, fwholes_5, fmore_6, ffewer_7, ffactor_8, fmade_9, fterm_10) = some b9 → V K 8 [((adA 31), .inl (gI (kG K), 5120, .inl fwholes_5)), ((adA 33), .inl (gI (kG K), 320, .inl fmore_6)), ((adA 34), .inl (gI (kG K), 320, .inl ffewer_7)), (adx, .inl (gI (kG K), nx, .inl fx)), (adm, .inr (10, oM adA o_names o_rows o_strength o_most o_toldGraph o_toldArc)), ((adA 1), .inl (gI (kG K), 5, .inl fvalues)), ((adA 3), .inl (gI (kG K), 80, .inl fcells)), ((adA 11), .inl (gZ (kG K), 160, .inl r_1.1)), ((adA 12), .inl (gI (kG K), 1280, .inl r_1.2.1)), ((adA 13), .inl (gI (kG K), 1280, .inl r_1.2.2.1)), ((adA 14), .inl (gI (kG K), 320, .inl r_1.2.2.2.1)), ((adA 15), .inl (gI (kG K), 320, .inl r_1.2.2.2.2.1)), ((adA 6), .inl (gI (kG K), 320, .inl r_1.2.2.2.2.2.1)), ((adA 7), .inl (gI (kG K), 320, .inl r_1.2.2.2.2.2.2.1)), ((adA 8), .inl (gI (kG K), 320, .inl r_1.2.2.2.2.2.2.2.1)), ((adA 16), .inl (gI (kG K), 320, .inl ffactor_8)), ((adA 17), .inl (gI (kG K), 320, .inl fmade_9)), ((adA 30), .inl (gI (kG K), 5120, .inl r_1.2.2.2.2.2.2.2.2.2.2.1)), ((adA 32), .inl (gI (kG K), 320, .inl fterm_10)), ((adA 35), .inl (gI (kG K), 320, .inl r_1.2.2.2.2.2.2.2.2.2.2.2.2.1)), ((adA 29), .inl (gI (kG K), 5120, .inl r_1.2.2.2.2.2.2.2.2.2.2.2.2.2))] 0 0 23 [(0, .ref adm), (1, .int fr), (2, .int to0), (3, .ref adx), (4, .int i4_4)] [] := by
  intro nn
  induction nn with
  | zero => intro i4_4 fwholes_5 fmore_6 ffewer_7 ffactor_8 fmade_9 fterm_10 h; exact absurd h (by simp [lp])
  | succ nn ih =>
    intro i4_4 fwholes_5 fmore_6 ffewer_7 ffactor_8 fmade_9 fterm_10 h
    replace h := lp_s h
    rw [eb_X11_total_23] at h
    refine v_iload hk dX11_total_23 rfl ?_
    refine v_iconst (v := 1) hk dX11_total_25 (by decide) ?_
    refine v_aload_n hk dX11_total_26 rfl ?_
    refine v_get (C := RX11) (T := TX11) (N := 39) (ci := 10) (v := .int o_names) hk dX11_total_27 w2i_X11_total_X110 4 rfl rfl 0 (by decide) (by decide +kernel) rfl rfl ?_
    refine v_ishl hk dX11_total_30 ?_
    refine v_icmp_ge (tgt := 241) hk dX11_total_31 (by decide) (fun hc => ?_) (fun hc => ?_)
    · replace h := it_t (g := (lpk (lp (b_X11_total_23 o_names o_rows o_strength o_most o_toldGraph o_toldArc r_1) nn))) h hc
      replace h : some (i4_4, fwholes_5, fmore_6, ffewer_7, ffactor_8, fmade_9, fterm_10) = some b9 := h
      replace h := Option.some.inj h
      subst h
      exact kk0 _ rfl
    · replace h := it_f (g := (lpk (lp (b_X11_total_23 o_names o_rows o_strength o_most o_toldGraph o_toldArc r_1) nn))) h hc
      refine v_aload_n hk dX11_total_34 rfl ?_
      refine v_get (C := RX11) (T := TX11) (N := 39) (ci := 10) (v := .ref (adA 33)) hk dX11_total_35 w2i_X11_total_X110 4 rfl rfl 33 (by decide) (by decide +kernel) rfl rfl ?_
      refine v_iconst (v := 0) hk dX11_total_38 (by decide) ?_
      obtain ⟨r_11, er_11, h⟩ := bd_e (g := (lpk (lp (b_X11_total_23 o_names o_rows o_strength o_most o_toldGraph o_toldArc r_1) nn))) rfl h
      refine v_callS (n := 2) (st := []) hk dX11_total_39 (c_X11_put (kl K) (kG K) (adA 33) 320 fmore_6 0 r_11 er_11) gd_X11_total_X11_put rfl (by decide +kernel) (frok hR9 (Nat.le_of_ble_eq_true rfl) (Nat.le_of_ble_eq_true rfl)) (roomk hR9 (Nat.le_of_ble_eq_true rfl) (Nat.le_of_ble_eq_true rfl)) rfl rfl (Nat.le_of_ble_eq_true rfl) [1] [0, 2, 3, 4, 5, 6, 7, 8, 9, 10, 11, 12, 13, 14, 15, 16, 17, 18, 19, 20] (wr := [((adA 31), .inl (gI (kG K), 5120, .inl fwholes_5)), ((adA 34), .inl (gI (kG K), 320, .inl ffewer_7)), (adx, .inl (gI (kG K), nx, .inl fx)), (adm, .inr (10, oM adA o_names o_rows o_strength o_most o_toldGraph o_toldArc)), ((adA 1), .inl (gI (kG K), 5, .inl fvalues)), ((adA 3), .inl (gI (kG K), 80, .inl fcells)), ((adA 11), .inl (gZ (kG K), 160, .inl r_1.1)), ((adA 12), .inl (gI (kG K), 1280, .inl r_1.2.1)), ((adA 13), .inl (gI (kG K), 1280, .inl r_1.2.2.1)), ((adA 14), .inl (gI (kG K), 320, .inl r_1.2.2.2.1)), ((adA 15), .inl (gI (kG K), 320, .inl r_1.2.2.2.2.1)), ((adA 6), .inl (gI (kG K), 320, .inl r_1.2.2.2.2.2.1)), ((adA 7), .inl (gI (kG K), 320, .inl r_1.2.2.2.2.2.2.1)), ((adA 8), .inl (gI (kG K), 320, .inl r_1.2.2.2.2.2.2.2.1)), ((adA 16), .inl (gI (kG K), 320, .inl ffactor_8)), ((adA 17), .inl (gI (kG K), 320, .inl fmade_9)), ((adA 30), .inl (gI (kG K), 5120, .inl r_1.2.2.2.2.2.2.2.2.2.2.1)), ((adA 32), .inl (gI (kG K), 320, .inl fterm_10)), ((adA 35), .inl (gI (kG K), 320, .inl r_1.2.2.2.2.2.2.2.2.2.2.2.2.1)), ((adA 29), .inl (gI (kG K), 5120, .inl r_1.2.2.2.2.2.2.2.2.2.2.2.2.2))]) rfl rfl (by decide) (by decide) (by decide) ?_
      intro v9 w9 hp9
      obtain ⟨rfl, rfl⟩ := hp9
      show V K 8 [((adA 31), .inl (gI (kG K), 5120, .inl fwholes_5)), ((adA 34), .inl (gI (kG K), 320, .inl ffewer_7)), (adx, .inl (gI (kG K), nx, .inl fx)), (adm, .inr (10, oM adA o_names o_rows o_strength o_most o_toldGraph o_toldArc)), ((adA 1), .inl (gI (kG K), 5, .inl fvalues)), ((adA 3), .inl (gI (kG K), 80, .inl fcells)), ((adA 11), .inl (gZ (kG K), 160, .inl r_1.1)), ((adA 12), .inl (gI (kG K), 1280, .inl r_1.2.1)), ((adA 13), .inl (gI (kG K), 1280, .inl r_1.2.2.1)), ((adA 14), .inl (gI (kG K), 320, .inl r_1.2.2.2.1)), ((adA 15), .inl (gI (kG K), 320, .inl r_1.2.2.2.2.1)), ((adA 6), .inl (gI (kG K), 320, .inl r_1.2.2.2.2.2.1)), ((adA 7), .inl (gI (kG K), 320, .inl r_1.2.2.2.2.2.2.1)), ((adA 8), .inl (gI (kG K), 320, .inl r_1.2.2.2.2.2.2.2.1)), ((adA 16), .inl (gI (kG K), 320, .inl ffactor_8)), ((adA 17), .inl (gI (kG K), 320, .inl fmade_9)), ((adA 30), .inl (gI (kG K), 5120, .inl r_1.2.2.2.2.2.2.2.2.2.2.1)), ((adA 32), .inl (gI (kG K), 320, .inl fterm_10)), ((adA 35), .inl (gI (kG K), 320, .inl r_1.2.2.2.2.2.2.2.2.2.2.2.2.1)), ((adA 29), .inl (gI (kG K), 5120, .inl r_1.2.2.2.2.2.2.2.2.2.2.2.2.2)), ((adA 33), .inl (gI (kG K), 320, .inl r_11))] 0 0 42 [(0, .ref adm), (1, .int fr), (2, .int to0), (3, .ref adx), (4, .int i4_4)] []
      refine v_aload_n hk dX11_total_42 rfl ?_
      refine v_get (C := RX11) (T := TX11) (N := 39) (ci := 10) (v := .ref (adA 34)) hk dX11_total_43 w2i_X11_total_X110 3 rfl rfl 34 (by decide) (by decide +kernel) rfl rfl ?_
      refine v_iconst (v := 0) hk dX11_total_46 (by decide) ?_
      obtain ⟨r_12, er_12, h⟩ := bd_e (g := (lpk (lp (b_X11_total_23 o_names o_rows o_strength o_most o_toldGraph o_toldArc r_1) nn))) rfl h
      refine v_callS (n := 2) (st := []) hk dX11_total_47 (c_X11_put (kl K) (kG K) (adA 34) 320 ffewer_7 0 r_12 er_12) gd_X11_total_X11_put rfl (by decide +kernel) (frok hR9 (Nat.le_of_ble_eq_true rfl) (Nat.le_of_ble_eq_true rfl)) (roomk hR9 (Nat.le_of_ble_eq_true rfl) (Nat.le_of_ble_eq_true rfl)) rfl rfl (Nat.le_of_ble_eq_true rfl) [1] [0, 2, 3, 4, 5, 6, 7, 8, 9, 10, 11, 12, 13, 14, 15, 16, 17, 18, 19, 20] (wr := [((adA 31), .inl (gI (kG K), 5120, .inl fwholes_5)), (adx, .inl (gI (kG K), nx, .inl fx)), (adm, .inr (10, oM adA o_names o_rows o_strength o_most o_toldGraph o_toldArc)), ((adA 1), .inl (gI (kG K), 5, .inl fvalues)), ((adA 3), .inl (gI (kG K), 80, .inl fcells)), ((adA 11), .inl (gZ (kG K), 160, .inl r_1.1)), ((adA 12), .inl (gI (kG K), 1280, .inl r_1.2.1)), ((adA 13), .inl (gI (kG K), 1280, .inl r_1.2.2.1)), ((adA 14), .inl (gI (kG K), 320, .inl r_1.2.2.2.1)), ((adA 15), .inl (gI (kG K), 320, .inl r_1.2.2.2.2.1)), ((adA 6), .inl (gI (kG K), 320, .inl r_1.2.2.2.2.2.1)), ((adA 7), .inl (gI (kG K), 320, .inl r_1.2.2.2.2.2.2.1)), ((adA 8), .inl (gI (kG K), 320, .inl r_1.2.2.2.2.2.2.2.1)), ((adA 16), .inl (gI (kG K), 320, .inl ffactor_8)), ((adA 17), .inl (gI (kG K), 320, .inl fmade_9)), ((adA 30), .inl (gI (kG K), 5120, .inl r_1.2.2.2.2.2.2.2.2.2.2.1)), ((adA 32), .inl (gI (kG K), 320, .inl fterm_10)), ((adA 35), .inl (gI (kG K), 320, .inl r_1.2.2.2.2.2.2.2.2.2.2.2.2.1)), ((adA 29), .inl (gI (kG K), 5120, .inl r_1.2.2.2.2.2.2.2.2.2.2.2.2.2)), ((adA 33), .inl (gI (kG K), 320, .inl r_11))]) rfl rfl (by decide) (by decide) (by decide) ?_
      intro v9 w9 hp9
      obtain ⟨rfl, rfl⟩ := hp9
      show V K 8 [((adA 31), .inl (gI (kG K), 5120, .inl fwholes_5)), (adx, .inl (gI (kG K), nx, .inl fx)), (adm, .inr (10, oM adA o_names o_rows o_strength o_most o_toldGraph o_toldArc)), ((adA 1), .inl (gI (kG K), 5, .inl fvalues)), ((adA 3), .inl (gI (kG K), 80, .inl fcells)), ((adA 11), .inl (gZ (kG K), 160, .inl r_1.1)), ((adA 12), .inl (gI (kG K), 1280, .inl r_1.2.1)), ((adA 13), .inl (gI (kG K), 1280, .inl r_1.2.2.1)), ((adA 14), .inl (gI (kG K), 320, .inl r_1.2.2.2.1)), ((adA 15), .inl (gI (kG K), 320, .inl r_1.2.2.2.2.1)), ((adA 6), .inl (gI (kG K), 320, .inl r_1.2.2.2.2.2.1)), ((adA 7), .inl (gI (kG K), 320, .inl r_1.2.2.2.2.2.2.1)), ((adA 8), .inl (gI (kG K), 320, .inl r_1.2.2.2.2.2.2.2.1)), ((adA 16), .inl (gI (kG K), 320, .inl ffactor_8)), ((adA 17), .inl (gI (kG K), 320, .inl fmade_9)), ((adA 30), .inl (gI (kG K), 5120, .inl r_1.2.2.2.2.2.2.2.2.2.2.1)), ((adA 32), .inl (gI (kG K), 320, .inl fterm_10)), ((adA 35), .inl (gI (kG K), 320, .inl r_1.2.2.2.2.2.2.2.2.2.2.2.2.1)), ((adA 29), .inl (gI (kG K), 5120, .inl r_1.2.2.2.2.2.2.2.2.2.2.2.2.2)), ((adA 33), .inl (gI (kG K), 320, .inl r_11)), ((adA 34), .inl (gI (kG K), 320, .inl r_12))] 0 0 50 [(0, .ref adm), (1, .int fr), (2, .int to0), (3, .ref adx), (4, .int i4_4)] []
      refine v_iconst (v := 1) hk dX11_total_50 (by decide) ?_
      refine v_istore hk dX11_total_51 (by decide) [1, 2, 3, 4, 5, 0] (lv' := [(0, .ref adm), (1, .int fr), (2, .int to0), (3, .ref adx), (4, .int i4_4), (5, .int 1)]) rfl ?_
      obtain ⟨b_46, eb_46, h⟩ := bd_e (g := (lpk (lp (b_X11_total_23 o_names o_rows o_strength o_most o_toldGraph o_toldArc r_1) nn))) rfl h
      refine L_X11_total_53 hk hR9 adm adA adx o_names o_rows o_strength o_most o_toldGraph o_toldArc fvalues fcells nx fx fr to0 r_1 i4_4 fwholes_5 b_46 (fun q_37 eq_37 => ?_) FU 1 ffactor_8 fmade_9 fterm_10 r_11 r_12 eb_46
      · replace eq_37 := eq_37.symm
        subst eq_37
        refine v_aload_n hk dX11_total_183 rfl ?_
        refine v_get (C := RX11) (T := TX11) (N := 39) (ci := 10) (v := .ref (adA 33)) hk dX11_total_184 w2i_X11_total_X110 2 rfl rfl 33 (by decide) (by decide +kernel) rfl rfl ?_
        refine v_aload_n hk dX11_total_187 rfl ?_
        refine v_get (C := RX11) (T := TX11) (N := 39) (ci := 10) (v := .ref (adA 34)) hk dX11_total_188 w2i_X11_total_X110 2 rfl rfl 34 (by decide) (by decide +kernel) rfl rfl ?_
        obtain ⟨r_38, er_38, h⟩ := bd_e (g := (lpk (lp (b_X11_total_23 o_names o_rows o_strength o_most o_toldGraph o_toldArc r_1) nn))) rfl h
        refine v_callS (n := 2) (st := []) hk dX11_total_191 (c_X11_less (kl K) (kG K) (adA 33) (adA 34) 320 q_37.2.2.2.2.1 320 q_37.2.2.2.2.2 r_38 er_38) gd_X11_total_X11_less rfl (by decide +kernel) (frok hR9 (Nat.le_of_ble_eq_true rfl) (Nat.le_of_ble_eq_true rfl)) (roomk hR9 (Nat.le_of_ble_eq_true rfl) (Nat.le_of_ble_eq_true rfl)) rfl rfl (Nat.le_of_ble_eq_true rfl) [19, 20] [0, 1, 2, 3, 4, 5, 6, 7, 8, 9, 10, 11, 12, 13, 14, 15, 16, 17, 18] (wr := [((adA 31), .inl (gI (kG K), 5120, .inl fwholes_5)), (adx, .inl (gI (kG K), nx, .inl fx)), (adm, .inr (10, oM adA o_names o_rows o_strength o_most o_toldGraph o_toldArc)), ((adA 1), .inl (gI (kG K), 5, .inl fvalues)), ((adA 3), .inl (gI (kG K), 80, .inl fcells)), ((adA 11), .inl (gZ (kG K), 160, .inl r_1.1)), ((adA 12), .inl (gI (kG K), 1280, .inl r_1.2.1)), ((adA 13), .inl (gI (kG K), 1280, .inl r_1.2.2.1)), ((adA 14), .inl (gI (kG K), 320, .inl r_1.2.2.2.1)), ((adA 15), .inl (gI (kG K), 320, .inl r_1.2.2.2.2.1)), ((adA 6), .inl (gI (kG K), 320, .inl r_1.2.2.2.2.2.1)), ((adA 7), .inl (gI (kG K), 320, .inl r_1.2.2.2.2.2.2.1)), ((adA 8), .inl (gI (kG K), 320, .inl r_1.2.2.2.2.2.2.2.1)), ((adA 16), .inl (gI (kG K), 320, .inl q_37.2.1)), ((adA 17), .inl (gI (kG K), 320, .inl q_37.2.2.1)), ((adA 30), .inl (gI (kG K), 5120, .inl r_1.2.2.2.2.2.2.2.2.2.2.1)), ((adA 32), .inl (gI (kG K), 320, .inl q_37.2.2.2.1)), ((adA 35), .inl (gI (kG K), 320, .inl r_1.2.2.2.2.2.2.2.2.2.2.2.2.1)), ((adA 29), .inl (gI (kG K), 5120, .inl r_1.2.2.2.2.2.2.2.2.2.2.2.2.2))]) rfl rfl (by decide) (by decide) (by decide) ?_
        intro v9 w9 hp9
        obtain ⟨rfl, rfl⟩ := hp9
        show V K 8 [((adA 31), .inl (gI (kG K), 5120, .inl fwholes_5)), (adx, .inl (gI (kG K), nx, .inl fx)), (adm, .inr (10, oM adA o_names o_rows o_strength o_most o_toldGraph o_toldArc)), ((adA 1), .inl (gI (kG K), 5, .inl fvalues)), ((adA 3), .inl (gI (kG K), 80, .inl fcells)), ((adA 11), .inl (gZ (kG K), 160, .inl r_1.1)), ((adA 12), .inl (gI (kG K), 1280, .inl r_1.2.1)), ((adA 13), .inl (gI (kG K), 1280, .inl r_1.2.2.1)), ((adA 14), .inl (gI (kG K), 320, .inl r_1.2.2.2.1)), ((adA 15), .inl (gI (kG K), 320, .inl r_1.2.2.2.2.1)), ((adA 6), .inl (gI (kG K), 320, .inl r_1.2.2.2.2.2.1)), ((adA 7), .inl (gI (kG K), 320, .inl r_1.2.2.2.2.2.2.1)), ((adA 8), .inl (gI (kG K), 320, .inl r_1.2.2.2.2.2.2.2.1)), ((adA 16), .inl (gI (kG K), 320, .inl q_37.2.1)), ((adA 17), .inl (gI (kG K), 320, .inl q_37.2.2.1)), ((adA 30), .inl (gI (kG K), 5120, .inl r_1.2.2.2.2.2.2.2.2.2.2.1)), ((adA 32), .inl (gI (kG K), 320, .inl q_37.2.2.2.1)), ((adA 35), .inl (gI (kG K), 320, .inl r_1.2.2.2.2.2.2.2.2.2.2.2.2.1)), ((adA 29), .inl (gI (kG K), 5120, .inl r_1.2.2.2.2.2.2.2.2.2.2.2.2.2)), ((adA 33), .inl (gI (kG K), 320, .inl r_38)), ((adA 34), .inl (gI (kG K), 320, .inl q_37.2.2.2.2.2))] 0 0 194 [(0, .ref adm), (1, .int fr), (2, .int to0), (3, .ref adx), (4, .int i4_4), (5, .int q_37.1)] []
        refine v_iconst (v := 0) hk dX11_total_194 (by decide) ?_
        refine v_istore hk dX11_total_195 (by decide) [1, 2, 3, 4, 5, 0] (lv' := [(0, .ref adm), (1, .int fr), (2, .int to0), (3, .ref adx), (4, .int i4_4), (5, .int 0)]) rfl ?_
        obtain ⟨b_45, eb_45, h⟩ := bd_e (g := (lpk (lp (b_X11_total_23 o_names o_rows o_strength o_most o_toldGraph o_toldArc r_1) nn))) rfl h
        refine L_X11_total_197 hk hR9 adm adA adx o_names o_rows o_strength o_most o_toldGraph o_toldArc fvalues fcells nx fx fr to0 r_1 i4_4 q_37 r_38 b_45 (fun q_43 eq_43 => ?_) FU 0 fwholes_5 eb_45
        · replace eq_43 := eq_43.symm
          subst eq_43
          obtain ⟨x4_44, ex4_44, h⟩ := lt_e (g := (lpk (lp (b_X11_total_23 o_names o_rows o_strength o_most o_toldGraph o_toldArc r_1) nn))) h
          refine v_iinc (v := x4_44) hk dX11_total_235 rfl (by rw [ex4_44]; rfl) (by decide) [1, 2, 3, 4, 0, 5] (lv' := [(0, .ref adm), (1, .int fr), (2, .int to0), (3, .ref adx), (4, .int x4_44), (5, .int q_43.1)]) rfl ?_
          refine v_goto (tgt := 23) hk dX11_total_238 (by decide) ?_
          refine v_loc [0, 1, 2, 3, 4] (lv' := [(0, .ref adm), (1, .int fr), (2, .int to0), (3, .ref adx), (4, .int x4_44)]) rfl ?_
          refine v_perm [0, 19, 20, 1, 2, 3, 4, 5, 6, 7, 8, 9, 10, 11, 12, 13, 14, 15, 16, 17, 18] (ws' := [((adA 31), .inl (gI (kG K), 5120, .inl q_43.2)), ((adA 33), .inl (gI (kG K), 320, .inl r_38)), ((adA 34), .inl (gI (kG K), 320, .inl q_37.2.2.2.2.2)), (adx, .inl (gI (kG K), nx, .inl fx)), (adm, .inr (10, oM adA o_names o_rows o_strength o_most o_toldGraph o_toldArc)), ((adA 1), .inl (gI (kG K), 5, .inl fvalues)), ((adA 3), .inl (gI (kG K), 80, .inl fcells)), ((adA 11), .inl (gZ (kG K), 160, .inl r_1.1)), ((adA 12), .inl (gI (kG K), 1280, .inl r_1.2.1)), ((adA 13), .inl (gI (kG K), 1280, .inl r_1.2.2.1)), ((adA 14), .inl (gI (kG K), 320, .inl r_1.2.2.2.1)), ((adA 15), .inl (gI (kG K), 320, .inl r_1.2.2.2.2.1)), ((adA 6), .inl (gI (kG K), 320, .inl r_1.2.2.2.2.2.1)), ((adA 7), .inl (gI (kG K), 320, .inl r_1.2.2.2.2.2.2.1)), ((adA 8), .inl (gI (kG K), 320, .inl r_1.2.2.2.2.2.2.2.1)), ((adA 16), .inl (gI (kG K), 320, .inl q_37.2.1)), ((adA 17), .inl (gI (kG K), 320, .inl q_37.2.2.1)), ((adA 30), .inl (gI (kG K), 5120, .inl r_1.2.2.2.2.2.2.2.2.2.2.1)), ((adA 32), .inl (gI (kG K), 320, .inl q_37.2.2.2.1)), ((adA 35), .inl (gI (kG K), 320, .inl r_1.2.2.2.2.2.2.2.2.2.2.2.2.1)), ((adA 29), .inl (gI (kG K), 5120, .inl r_1.2.2.2.2.2.2.2.2.2.2.2.2.2))]) rfl rfl (by decide) ?_
          exact ih x4_44 q_43.2 r_38 q_37.2.2.2.2.2 q_37.2.1 q_37.2.2.1 q_37.2.2.2.1 h
set_option maxHeartbeats 4000000 in
set_option maxRecDepth 100000 in
theorem c_X11_total (l : Launch) (G : GG) (adm : Nat) (adA : Nat → Nat) (adx : Nat) (o_names : Int32) (o_rows : Int32) (o_strength : Int32) (o_most : Int32) (o_toldGraph : Int32) (o_toldArc : Int32) (fvalues : Nat → Int32) (fcells : Nat → Int32) (fisKnown : Nat → Int32) (ftops : Nat → Int32) (flows : Nat → Int32) (fsmall : Nat → Int32) (flarge : Nat → Int32) (fone : Nat → Int32) (ftwo : Nat → Int32) (frest : Nat → Int32) (ffactor : Nat → Int32) (fmade : Nat → Int32) (fterms : Nat → Int32) (fterm : Nat → Int32) (fsum : Nat → Int32) (fsums : Nat → Int32) (fwholes : Nat → Int32) (fmore : Nat → Int32) (ffewer : Nat → Int32) (nx : Nat) (fx : Nat → Int32) (fr : Int32) (to0 : Int32) (r : (Nat → Int32) × (Nat → Int32) × (Nat → Int32) × (Nat → Int32) × (Nat → Int32) × (Nat → Int32) × (Nat → Int32) × (Nat → Int32) × (Nat → Int32) × (Nat → Int32) × (Nat → Int32) × (Nat → Int32) × (Nat → Int32) × (Nat → Int32) × (Nat → Int32) × (Nat → Int32) × (Nat → Int32) × (Nat → Int32)) (h : m_X11_total o_names o_rows o_strength o_most o_toldGraph o_toldArc fvalues fcells fisKnown ftops flows fsmall flarge fone ftwo frest ffactor fmade fterms fterm fsum fsums fwholes fmore ffewer nx fx fr to0 = some r) : Ctr l G yX11_total w2_X11_total rm_X11_total [.ref adm, .int fr, .int to0, .ref adx] [(adm, .inr (10, oM adA o_names o_rows o_strength o_most o_toldGraph o_toldArc)), ((adA 1), .inl (gI G, 5, .inl fvalues)), ((adA 3), .inl (gI G, 80, .inl fcells)), ((adA 11), .inl (gZ G, 160, .inl fisKnown)), ((adA 12), .inl (gI G, 1280, .inl ftops)), ((adA 13), .inl (gI G, 1280, .inl flows)), ((adA 14), .inl (gI G, 320, .inl fsmall)), ((adA 15), .inl (gI G, 320, .inl flarge)), ((adA 6), .inl (gI G, 320, .inl fone)), ((adA 7), .inl (gI G, 320, .inl ftwo)), ((adA 8), .inl (gI G, 320, .inl frest)), ((adA 16), .inl (gI G, 320, .inl ffactor)), ((adA 17), .inl (gI G, 320, .inl fmade)), ((adA 30), .inl (gI G, 5120, .inl fterms)), ((adA 32), .inl (gI G, 320, .inl fterm)), ((adA 35), .inl (gI G, 320, .inl fsum)), ((adA 29), .inl (gI G, 5120, .inl fsums)), ((adA 31), .inl (gI G, 5120, .inl fwholes)), ((adA 33), .inl (gI G, 320, .inl fmore)), ((adA 34), .inl (gI G, 320, .inl ffewer)), (adx, .inl (gI G, nx, .inl fx))] (fun v w => v = none ∧ w = [(adm, .inr (10, oM adA o_names o_rows o_strength o_most o_toldGraph o_toldArc)), ((adA 1), .inl (gI G, 5, .inl fvalues)), ((adA 3), .inl (gI G, 80, .inl fcells)), ((adA 11), .inl (gZ G, 160, .inl r.1)), ((adA 12), .inl (gI G, 1280, .inl r.2.1)), ((adA 13), .inl (gI G, 1280, .inl r.2.2.1)), ((adA 14), .inl (gI G, 320, .inl r.2.2.2.1)), ((adA 15), .inl (gI G, 320, .inl r.2.2.2.2.1)), ((adA 6), .inl (gI G, 320, .inl r.2.2.2.2.2.1)), ((adA 7), .inl (gI G, 320, .inl r.2.2.2.2.2.2.1)), ((adA 8), .inl (gI G, 320, .inl r.2.2.2.2.2.2.2.1)), ((adA 16), .inl (gI G, 320, .inl r.2.2.2.2.2.2.2.2.1)), ((adA 17), .inl (gI G, 320, .inl r.2.2.2.2.2.2.2.2.2.1)), ((adA 30), .inl (gI G, 5120, .inl r.2.2.2.2.2.2.2.2.2.2.1)), ((adA 32), .inl (gI G, 320, .inl r.2.2.2.2.2.2.2.2.2.2.2.1)), ((adA 35), .inl (gI G, 320, .inl r.2.2.2.2.2.2.2.2.2.2.2.2.1)), ((adA 29), .inl (gI G, 5120, .inl r.2.2.2.2.2.2.2.2.2.2.2.2.2.1)), ((adA 31), .inl (gI G, 5120, .inl r.2.2.2.2.2.2.2.2.2.2.2.2.2.2.1)), ((adA 33), .inl (gI G, 320, .inl r.2.2.2.2.2.2.2.2.2.2.2.2.2.2.2.1)), ((adA 34), .inl (gI G, 320, .inl r.2.2.2.2.2.2.2.2.2.2.2.2.2.2.2.2.1)), (adx, .inl (gI G, nx, .inl r.2.2.2.2.2.2.2.2.2.2.2.2.2.2.2.2.2))]) := by
  refine ctr_entry (cc := cX11_total) (maxL := 8) (ret := none) (lv0 := [(0, .ref adm), (1, .int fr), (2, .int to0), (3, .ref adx)]) (by decide) rfl (Nat.le_of_ble_eq_true rfl) (rfl) ?_
  intro K hl9 hG9 hk hn9 hrt
  subst hl9
  subst hG9
  have hR9 : RoomGe rm_X11_total rm_X11_total := RoomGe.rf
  replace h := id_e h
  rw [em_X11_total] at h
  refine v_aload_n hk dX11_total_0 rfl ?_
  refine v_iload_n hk dX11_total_1 rfl ?_
  refine v_iload_n hk dX11_total_2 rfl ?_
  obtain ⟨r_1, er_1, h⟩ := bd_e (g := id) rfl h
  refine v_callV (n := 2) (st := []) (b := adm) (T := TX11) (N := 39) hk dX11_total_3 (c_X11_sumUp (kl K) (kG K) adm adA o_names o_rows o_strength o_most o_toldGraph o_toldArc fvalues fcells fisKnown ftops flows fsmall flarge fone ftwo frest ffactor fmade fterms fterm fsum fsums fr to0 r_1 er_1) rfl gd_X11_total_X11_sumUp rfl (by decide +kernel) (frok hR9 (Nat.le_of_ble_eq_true rfl) (Nat.le_of_ble_eq_true rfl)) (roomk hR9 (Nat.le_of_ble_eq_true rfl) (Nat.le_of_ble_eq_true rfl)) rfl rfl (Nat.le_of_ble_eq_true rfl) 0 rfl rfl [0, 1, 2, 3, 4, 5, 6, 7, 8, 9, 10, 11, 12, 13, 14, 15, 16] [17, 18, 19, 20] (wr := [((adA 31), .inl (gI (kG K), 5120, .inl fwholes)), ((adA 33), .inl (gI (kG K), 320, .inl fmore)), ((adA 34), .inl (gI (kG K), 320, .inl ffewer)), (adx, .inl (gI (kG K), nx, .inl fx))]) rfl rfl (by decide) (by decide) (by decide) ?_
  intro v9 w9 hp9
  obtain ⟨rfl, rfl⟩ := hp9
  show V K 8 [((adA 31), .inl (gI (kG K), 5120, .inl fwholes)), ((adA 33), .inl (gI (kG K), 320, .inl fmore)), ((adA 34), .inl (gI (kG K), 320, .inl ffewer)), (adx, .inl (gI (kG K), nx, .inl fx)), (adm, .inr (10, oM adA o_names o_rows o_strength o_most o_toldGraph o_toldArc)), ((adA 1), .inl (gI (kG K), 5, .inl fvalues)), ((adA 3), .inl (gI (kG K), 80, .inl fcells)), ((adA 11), .inl (gZ (kG K), 160, .inl r_1.1)), ((adA 12), .inl (gI (kG K), 1280, .inl r_1.2.1)), ((adA 13), .inl (gI (kG K), 1280, .inl r_1.2.2.1)), ((adA 14), .inl (gI (kG K), 320, .inl r_1.2.2.2.1)), ((adA 15), .inl (gI (kG K), 320, .inl r_1.2.2.2.2.1)), ((adA 6), .inl (gI (kG K), 320, .inl r_1.2.2.2.2.2.1)), ((adA 7), .inl (gI (kG K), 320, .inl r_1.2.2.2.2.2.2.1)), ((adA 8), .inl (gI (kG K), 320, .inl r_1.2.2.2.2.2.2.2.1)), ((adA 16), .inl (gI (kG K), 320, .inl r_1.2.2.2.2.2.2.2.2.1)), ((adA 17), .inl (gI (kG K), 320, .inl r_1.2.2.2.2.2.2.2.2.2.1)), ((adA 30), .inl (gI (kG K), 5120, .inl r_1.2.2.2.2.2.2.2.2.2.2.1)), ((adA 32), .inl (gI (kG K), 320, .inl r_1.2.2.2.2.2.2.2.2.2.2.2.1)), ((adA 35), .inl (gI (kG K), 320, .inl r_1.2.2.2.2.2.2.2.2.2.2.2.2.1)), ((adA 29), .inl (gI (kG K), 5120, .inl r_1.2.2.2.2.2.2.2.2.2.2.2.2.2))] 0 0 6 [(0, .ref adm), (1, .int fr), (2, .int to0), (3, .ref adx)] []
  refine v_aload_n hk dX11_total_6 rfl ?_
  refine v_get (C := RX11) (T := TX11) (N := 39) (ci := 10) (v := .ref (adA 31)) hk dX11_total_7 w2i_X11_total_X110 4 rfl rfl 31 (by decide) (by decide +kernel) rfl rfl ?_
  refine v_iconst (v := 0) hk dX11_total_10 (by decide) ?_
  refine v_iconst (v := 1) hk dX11_total_11 (by decide) ?_
  obtain ⟨hi, h⟩ := ok_e (g := id) rfl h
  obtain ⟨fwholes_2, efwholes_2, h⟩ := lt_e (g := id) h
  refine v_iastV hk dX11_total_12 0 rfl (ix_in hi) (ws' := [((adA 31), .inl (gI (kG K), 5120, .inl fwholes_2)), ((adA 33), .inl (gI (kG K), 320, .inl fmore)), ((adA 34), .inl (gI (kG K), 320, .inl ffewer)), (adx, .inl (gI (kG K), nx, .inl fx)), (adm, .inr (10, oM adA o_names o_rows o_strength o_most o_toldGraph o_toldArc)), ((adA 1), .inl (gI (kG K), 5, .inl fvalues)), ((adA 3), .inl (gI (kG K), 80, .inl fcells)), ((adA 11), .inl (gZ (kG K), 160, .inl r_1.1)), ((adA 12), .inl (gI (kG K), 1280, .inl r_1.2.1)), ((adA 13), .inl (gI (kG K), 1280, .inl r_1.2.2.1)), ((adA 14), .inl (gI (kG K), 320, .inl r_1.2.2.2.1)), ((adA 15), .inl (gI (kG K), 320, .inl r_1.2.2.2.2.1)), ((adA 6), .inl (gI (kG K), 320, .inl r_1.2.2.2.2.2.1)), ((adA 7), .inl (gI (kG K), 320, .inl r_1.2.2.2.2.2.2.1)), ((adA 8), .inl (gI (kG K), 320, .inl r_1.2.2.2.2.2.2.2.1)), ((adA 16), .inl (gI (kG K), 320, .inl r_1.2.2.2.2.2.2.2.2.1)), ((adA 17), .inl (gI (kG K), 320, .inl r_1.2.2.2.2.2.2.2.2.2.1)), ((adA 30), .inl (gI (kG K), 5120, .inl r_1.2.2.2.2.2.2.2.2.2.2.1)), ((adA 32), .inl (gI (kG K), 320, .inl r_1.2.2.2.2.2.2.2.2.2.2.2.1)), ((adA 35), .inl (gI (kG K), 320, .inl r_1.2.2.2.2.2.2.2.2.2.2.2.2.1)), ((adA 29), .inl (gI (kG K), 5120, .inl r_1.2.2.2.2.2.2.2.2.2.2.2.2.2))]) (by rw [efwholes_2]; rfl) ?_
  refine v_aload_n hk dX11_total_13 rfl ?_
  refine v_get (C := RX11) (T := TX11) (N := 39) (ci := 10) (v := .ref (adA 31)) hk dX11_total_14 w2i_X11_total_X110 4 rfl rfl 31 (by decide) (by decide +kernel) rfl rfl ?_
  refine v_iconst (v := 1) hk dX11_total_17 (by decide) ?_
  refine v_iconst (v := 1) hk dX11_total_18 (by decide) ?_
  obtain ⟨hi, h⟩ := ok_e (g := id) rfl h
  obtain ⟨fwholes_3, efwholes_3, h⟩ := lt_e (g := id) h
  refine v_iastV hk dX11_total_19 0 rfl (ix_in hi) (ws' := [((adA 31), .inl (gI (kG K), 5120, .inl fwholes_3)), ((adA 33), .inl (gI (kG K), 320, .inl fmore)), ((adA 34), .inl (gI (kG K), 320, .inl ffewer)), (adx, .inl (gI (kG K), nx, .inl fx)), (adm, .inr (10, oM adA o_names o_rows o_strength o_most o_toldGraph o_toldArc)), ((adA 1), .inl (gI (kG K), 5, .inl fvalues)), ((adA 3), .inl (gI (kG K), 80, .inl fcells)), ((adA 11), .inl (gZ (kG K), 160, .inl r_1.1)), ((adA 12), .inl (gI (kG K), 1280, .inl r_1.2.1)), ((adA 13), .inl (gI (kG K), 1280, .inl r_1.2.2.1)), ((adA 14), .inl (gI (kG K), 320, .inl r_1.2.2.2.1)), ((adA 15), .inl (gI (kG K), 320, .inl r_1.2.2.2.2.1)), ((adA 6), .inl (gI (kG K), 320, .inl r_1.2.2.2.2.2.1)), ((adA 7), .inl (gI (kG K), 320, .inl r_1.2.2.2.2.2.2.1)), ((adA 8), .inl (gI (kG K), 320, .inl r_1.2.2.2.2.2.2.2.1)), ((adA 16), .inl (gI (kG K), 320, .inl r_1.2.2.2.2.2.2.2.2.1)), ((adA 17), .inl (gI (kG K), 320, .inl r_1.2.2.2.2.2.2.2.2.2.1)), ((adA 30), .inl (gI (kG K), 5120, .inl r_1.2.2.2.2.2.2.2.2.2.2.1)), ((adA 32), .inl (gI (kG K), 320, .inl r_1.2.2.2.2.2.2.2.2.2.2.2.1)), ((adA 35), .inl (gI (kG K), 320, .inl r_1.2.2.2.2.2.2.2.2.2.2.2.2.1)), ((adA 29), .inl (gI (kG K), 5120, .inl r_1.2.2.2.2.2.2.2.2.2.2.2.2.2))]) (by rw [efwholes_3]; rfl) ?_
  refine v_iconst (v := 1) hk dX11_total_20 (by decide) ?_
  refine v_istore hk dX11_total_21 (by decide) [1, 2, 3, 4, 0] (lv' := [(0, .ref adm), (1, .int fr), (2, .int to0), (3, .ref adx), (4, .int 1)]) rfl ?_
  obtain ⟨b_49, eb_49, h⟩ := bd_e (g := id) rfl h
  refine L_X11_total_23 hk hR9 adm adA adx o_names o_rows o_strength o_most o_toldGraph o_toldArc fvalues fcells nx fx fr to0 r_1 b_49 (fun q_47 eq_47 => ?_) FU 1 fwholes_3 fmore ffewer r_1.2.2.2.2.2.2.2.2.1 r_1.2.2.2.2.2.2.2.2.2.1 r_1.2.2.2.2.2.2.2.2.2.2.2.1 eb_49
  · replace eq_47 := eq_47.symm
    subst eq_47
    refine v_aload_n hk dX11_total_241 rfl ?_
    refine v_get (C := RX11) (T := TX11) (N := 39) (ci := 10) (v := .ref (adA 31)) hk dX11_total_242 w2i_X11_total_X110 4 rfl rfl 31 (by decide) (by decide +kernel) rfl rfl ?_
    refine v_iconst (v := 1) hk dX11_total_245 (by decide) ?_
    refine v_aload_n hk dX11_total_246 rfl ?_
    refine v_get (C := RX11) (T := TX11) (N := 39) (ci := 10) (v := .int o_names) hk dX11_total_247 w2i_X11_total_X110 4 rfl rfl 0 (by decide) (by decide +kernel) rfl rfl ?_
    refine v_ishl hk dX11_total_250 ?_
    refine v_iconst (v := 1) hk dX11_total_251 (by decide) ?_
    refine v_isub hk dX11_total_252 ?_
    refine v_sipush (v := 320) hk dX11_total_253 (by decide) ?_
    refine v_imul hk dX11_total_256 ?_
    refine v_aload_n hk dX11_total_257 rfl ?_
    obtain ⟨r_48, er_48, h⟩ := bd_e (g := id) rfl h
    refine v_callS (n := 3) (st := []) hk dX11_total_258 (c_X11_load (kl K) (kG K) (adA 31) adx 5120 q_47.2.1 nx fx (((1 <<< (o_names &&& 31)) - 1) * 320) r_48 er_48) gd_X11_total_X11_load rfl (by decide +kernel) (frok hR9 (Nat.le_of_ble_eq_true rfl) (Nat.le_of_ble_eq_true rfl)) (roomk hR9 (Nat.le_of_ble_eq_true rfl) (Nat.le_of_ble_eq_true rfl)) rfl rfl (Nat.le_of_ble_eq_true rfl) [0, 3] [1, 2, 4, 5, 6, 7, 8, 9, 10, 11, 12, 13, 14, 15, 16, 17, 18, 19, 20] (wr := [((adA 33), .inl (gI (kG K), 320, .inl q_47.2.2.1)), ((adA 34), .inl (gI (kG K), 320, .inl q_47.2.2.2.1)), (adm, .inr (10, oM adA o_names o_rows o_strength o_most o_toldGraph o_toldArc)), ((adA 1), .inl (gI (kG K), 5, .inl fvalues)), ((adA 3), .inl (gI (kG K), 80, .inl fcells)), ((adA 11), .inl (gZ (kG K), 160, .inl r_1.1)), ((adA 12), .inl (gI (kG K), 1280, .inl r_1.2.1)), ((adA 13), .inl (gI (kG K), 1280, .inl r_1.2.2.1)), ((adA 14), .inl (gI (kG K), 320, .inl r_1.2.2.2.1)), ((adA 15), .inl (gI (kG K), 320, .inl r_1.2.2.2.2.1)), ((adA 6), .inl (gI (kG K), 320, .inl r_1.2.2.2.2.2.1)), ((adA 7), .inl (gI (kG K), 320, .inl r_1.2.2.2.2.2.2.1)), ((adA 8), .inl (gI (kG K), 320, .inl r_1.2.2.2.2.2.2.2.1)), ((adA 16), .inl (gI (kG K), 320, .inl q_47.2.2.2.2.1)), ((adA 17), .inl (gI (kG K), 320, .inl q_47.2.2.2.2.2.1)), ((adA 30), .inl (gI (kG K), 5120, .inl r_1.2.2.2.2.2.2.2.2.2.2.1)), ((adA 32), .inl (gI (kG K), 320, .inl q_47.2.2.2.2.2.2)), ((adA 35), .inl (gI (kG K), 320, .inl r_1.2.2.2.2.2.2.2.2.2.2.2.2.1)), ((adA 29), .inl (gI (kG K), 5120, .inl r_1.2.2.2.2.2.2.2.2.2.2.2.2.2))]) rfl rfl (by decide) (by decide) (by decide) ?_
    intro v9 w9 hp9
    obtain ⟨rfl, rfl⟩ := hp9
    show V K 8 [((adA 33), .inl (gI (kG K), 320, .inl q_47.2.2.1)), ((adA 34), .inl (gI (kG K), 320, .inl q_47.2.2.2.1)), (adm, .inr (10, oM adA o_names o_rows o_strength o_most o_toldGraph o_toldArc)), ((adA 1), .inl (gI (kG K), 5, .inl fvalues)), ((adA 3), .inl (gI (kG K), 80, .inl fcells)), ((adA 11), .inl (gZ (kG K), 160, .inl r_1.1)), ((adA 12), .inl (gI (kG K), 1280, .inl r_1.2.1)), ((adA 13), .inl (gI (kG K), 1280, .inl r_1.2.2.1)), ((adA 14), .inl (gI (kG K), 320, .inl r_1.2.2.2.1)), ((adA 15), .inl (gI (kG K), 320, .inl r_1.2.2.2.2.1)), ((adA 6), .inl (gI (kG K), 320, .inl r_1.2.2.2.2.2.1)), ((adA 7), .inl (gI (kG K), 320, .inl r_1.2.2.2.2.2.2.1)), ((adA 8), .inl (gI (kG K), 320, .inl r_1.2.2.2.2.2.2.2.1)), ((adA 16), .inl (gI (kG K), 320, .inl q_47.2.2.2.2.1)), ((adA 17), .inl (gI (kG K), 320, .inl q_47.2.2.2.2.2.1)), ((adA 30), .inl (gI (kG K), 5120, .inl r_1.2.2.2.2.2.2.2.2.2.2.1)), ((adA 32), .inl (gI (kG K), 320, .inl q_47.2.2.2.2.2.2)), ((adA 35), .inl (gI (kG K), 320, .inl r_1.2.2.2.2.2.2.2.2.2.2.2.2.1)), ((adA 29), .inl (gI (kG K), 5120, .inl r_1.2.2.2.2.2.2.2.2.2.2.2.2.2)), ((adA 31), .inl (gI (kG K), 5120, .inl q_47.2.1)), (adx, .inl (gI (kG K), nx, .inl r_48))] 0 0 261 [(0, .ref adm), (1, .int fr), (2, .int to0), (3, .ref adx), (4, .int q_47.1)] []
    replace h : some (r_1.1, r_1.2.1, r_1.2.2.1, r_1.2.2.2.1, r_1.2.2.2.2.1, r_1.2.2.2.2.2.1, r_1.2.2.2.2.2.2.1, r_1.2.2.2.2.2.2.2.1, q_47.2.2.2.2.1, q_47.2.2.2.2.2.1, r_1.2.2.2.2.2.2.2.2.2.2.1, q_47.2.2.2.2.2.2, r_1.2.2.2.2.2.2.2.2.2.2.2.2.1, r_1.2.2.2.2.2.2.2.2.2.2.2.2.2, q_47.2.1, q_47.2.2.1, q_47.2.2.2.1, r_48) = some r := h
    replace h := Option.some.inj h
    subst h
    refine v_perm [2, 3, 4, 5, 6, 7, 8, 9, 10, 11, 12, 13, 14, 15, 16, 17, 18, 19, 0, 1, 20] (ws' := [(adm, .inr (10, oM adA o_names o_rows o_strength o_most o_toldGraph o_toldArc)), ((adA 1), .inl (gI (kG K), 5, .inl fvalues)), ((adA 3), .inl (gI (kG K), 80, .inl fcells)), ((adA 11), .inl (gZ (kG K), 160, .inl r_1.1)), ((adA 12), .inl (gI (kG K), 1280, .inl r_1.2.1)), ((adA 13), .inl (gI (kG K), 1280, .inl r_1.2.2.1)), ((adA 14), .inl (gI (kG K), 320, .inl r_1.2.2.2.1)), ((adA 15), .inl (gI (kG K), 320, .inl r_1.2.2.2.2.1)), ((adA 6), .inl (gI (kG K), 320, .inl r_1.2.2.2.2.2.1)), ((adA 7), .inl (gI (kG K), 320, .inl r_1.2.2.2.2.2.2.1)), ((adA 8), .inl (gI (kG K), 320, .inl r_1.2.2.2.2.2.2.2.1)), ((adA 16), .inl (gI (kG K), 320, .inl q_47.2.2.2.2.1)), ((adA 17), .inl (gI (kG K), 320, .inl q_47.2.2.2.2.2.1)), ((adA 30), .inl (gI (kG K), 5120, .inl r_1.2.2.2.2.2.2.2.2.2.2.1)), ((adA 32), .inl (gI (kG K), 320, .inl q_47.2.2.2.2.2.2)), ((adA 35), .inl (gI (kG K), 320, .inl r_1.2.2.2.2.2.2.2.2.2.2.2.2.1)), ((adA 29), .inl (gI (kG K), 5120, .inl r_1.2.2.2.2.2.2.2.2.2.2.2.2.2)), ((adA 31), .inl (gI (kG K), 5120, .inl q_47.2.1)), ((adA 33), .inl (gI (kG K), 320, .inl q_47.2.2.1)), ((adA 34), .inl (gI (kG K), 320, .inl q_47.2.2.2.1)), (adx, .inl (gI (kG K), nx, .inl r_48))]) rfl rfl (by decide) ?_
    refine hrt (none) _ _ _ _ _ (⟨rfl, rfl⟩) (Nat.zero_le _) (Nat.zero_le _) (dX11_total_261)
abbrev rm_X11_tellShare : Room := { frames := 7, cells := 0, slots := 0, locals := 172 }
set_option maxHeartbeats 4000000 in
set_option maxRecDepth 100000 in
theorem c_X11_tellShare (l : Launch) (G : GG) (adm : Nat) (adA : Nat → Nat) (o_names : Int32) (o_rows : Int32) (o_strength : Int32) (o_most : Int32) (o_toldGraph : Int32) (o_toldArc : Int32) (fvalues : Nat → Int32) (fcells : Nat → Int32) (fisKnown : Nat → Int32) (ftops : Nat → Int32) (flows : Nat → Int32) (fsmall : Nat → Int32) (flarge : Nat → Int32) (fone : Nat → Int32) (ftwo : Nat → Int32) (frest : Nat → Int32) (ffactor : Nat → Int32) (fmade : Nat → Int32) (fterms : Nat → Int32) (fterm : Nat → Int32) (fsum : Nat → Int32) (fsums : Nat → Int32) (fwholes : Nat → Int32) (fmore : Nat → Int32) (ffewer : Nat → Int32) (fabove : Nat → Int32) (fbelow : Nat → Int32) (fr : Int32) (to0 : Int32) (r : Int32 × Int32 × (Nat → Int32) × (Nat → Int32) × (Nat → Int32) × (Nat → Int32) × (Nat → Int32) × (Nat → Int32) × (Nat → Int32) × (Nat → Int32) × (Nat → Int32) × (Nat → Int32) × (Nat → Int32) × (Nat → Int32) × (Nat → Int32) × (Nat → Int32) × (Nat → Int32) × (Nat → Int32) × (Nat → Int32) × (Nat → Int32) × (Nat → Int32)) (h : m_X11_tellShare o_names o_rows o_strength o_most o_toldGraph o_toldArc fvalues fcells fisKnown ftops flows fsmall flarge fone ftwo frest ffactor fmade fterms fterm fsum fsums fwholes fmore ffewer fabove fbelow fr to0 = some r) : Ctr l G yX11_tellShare w2_X11_tellShare rm_X11_tellShare [.ref adm, .int fr, .int to0] [(adm, .inr (10, oM adA o_names o_rows o_strength o_most o_toldGraph o_toldArc)), ((adA 1), .inl (gI G, 5, .inl fvalues)), ((adA 3), .inl (gI G, 80, .inl fcells)), ((adA 11), .inl (gZ G, 160, .inl fisKnown)), ((adA 12), .inl (gI G, 1280, .inl ftops)), ((adA 13), .inl (gI G, 1280, .inl flows)), ((adA 14), .inl (gI G, 320, .inl fsmall)), ((adA 15), .inl (gI G, 320, .inl flarge)), ((adA 6), .inl (gI G, 320, .inl fone)), ((adA 7), .inl (gI G, 320, .inl ftwo)), ((adA 8), .inl (gI G, 320, .inl frest)), ((adA 16), .inl (gI G, 320, .inl ffactor)), ((adA 17), .inl (gI G, 320, .inl fmade)), ((adA 30), .inl (gI G, 5120, .inl fterms)), ((adA 32), .inl (gI G, 320, .inl fterm)), ((adA 35), .inl (gI G, 320, .inl fsum)), ((adA 29), .inl (gI G, 5120, .inl fsums)), ((adA 31), .inl (gI G, 5120, .inl fwholes)), ((adA 33), .inl (gI G, 320, .inl fmore)), ((adA 34), .inl (gI G, 320, .inl ffewer)), ((adA 9), .inl (gI G, 320, .inl fabove)), ((adA 10), .inl (gI G, 320, .inl fbelow))] (fun v w => v = none ∧ w = [(adm, .inr (10, oM adA o_names o_rows o_strength o_most r.1 r.2.1)), ((adA 1), .inl (gI G, 5, .inl fvalues)), ((adA 3), .inl (gI G, 80, .inl fcells)), ((adA 11), .inl (gZ G, 160, .inl r.2.2.1)), ((adA 12), .inl (gI G, 1280, .inl r.2.2.2.1)), ((adA 13), .inl (gI G, 1280, .inl r.2.2.2.2.1)), ((adA 14), .inl (gI G, 320, .inl r.2.2.2.2.2.1)), ((adA 15), .inl (gI G, 320, .inl r.2.2.2.2.2.2.1)), ((adA 6), .inl (gI G, 320, .inl r.2.2.2.2.2.2.2.1)), ((adA 7), .inl (gI G, 320, .inl r.2.2.2.2.2.2.2.2.1)), ((adA 8), .inl (gI G, 320, .inl r.2.2.2.2.2.2.2.2.2.1)), ((adA 16), .inl (gI G, 320, .inl r.2.2.2.2.2.2.2.2.2.2.1)), ((adA 17), .inl (gI G, 320, .inl r.2.2.2.2.2.2.2.2.2.2.2.1)), ((adA 30), .inl (gI G, 5120, .inl r.2.2.2.2.2.2.2.2.2.2.2.2.1)), ((adA 32), .inl (gI G, 320, .inl r.2.2.2.2.2.2.2.2.2.2.2.2.2.1)), ((adA 35), .inl (gI G, 320, .inl r.2.2.2.2.2.2.2.2.2.2.2.2.2.2.1)), ((adA 29), .inl (gI G, 5120, .inl r.2.2.2.2.2.2.2.2.2.2.2.2.2.2.2.1)), ((adA 31), .inl (gI G, 5120, .inl r.2.2.2.2.2.2.2.2.2.2.2.2.2.2.2.2.1)), ((adA 33), .inl (gI G, 320, .inl r.2.2.2.2.2.2.2.2.2.2.2.2.2.2.2.2.2.1)), ((adA 34), .inl (gI G, 320, .inl r.2.2.2.2.2.2.2.2.2.2.2.2.2.2.2.2.2.2.1)), ((adA 9), .inl (gI G, 320, .inl r.2.2.2.2.2.2.2.2.2.2.2.2.2.2.2.2.2.2.2.1)), ((adA 10), .inl (gI G, 320, .inl r.2.2.2.2.2.2.2.2.2.2.2.2.2.2.2.2.2.2.2.2))]) := by
  refine ctr_entry (cc := cX11_tellShare) (maxL := 3) (ret := none) (lv0 := [(0, .ref adm), (1, .int fr), (2, .int to0)]) (by decide) rfl (Nat.le_of_ble_eq_true rfl) (rfl) ?_
  intro K hl9 hG9 hk hn9 hrt
  subst hl9
  subst hG9
  have hR9 : RoomGe rm_X11_tellShare rm_X11_tellShare := RoomGe.rf
  replace h := id_e h
  rw [em_X11_tellShare] at h
  refine v_aload_n hk dX11_tellShare_0 rfl ?_
  refine v_get (C := RX11) (T := TX11) (N := 39) (ci := 10) (v := .int o_toldArc) hk dX11_tellShare_1 w2i_X11_tellShare_X110 0 rfl rfl 25 (by decide) (by decide +kernel) rfl rfl ?_
  refine v_iconst (v := 5) hk dX11_tellShare_4 (by decide) ?_
  refine v_iload_n hk dX11_tellShare_5 rfl ?_
  refine v_imul hk dX11_tellShare_6 ?_
  refine v_iload_n hk dX11_tellShare_7 rfl ?_
  refine v_iadd hk dX11_tellShare_8 ?_
  refine v_icmp_eq (tgt := 50) hk dX11_tellShare_9 (by decide) (fun hc => ?_) (fun hc => ?_)
  · replace h := it_t (g := id) h hc
    replace h : some (o_toldGraph, o_toldArc, fisKnown, ftops, flows, fsmall, flarge, fone, ftwo, frest, ffactor, fmade, fterms, fterm, fsum, fsums, fwholes, fmore, ffewer, fabove, fbelow) = some r := h
    replace h := Option.some.inj h
    subst h
    refine hrt (none) _ _ _ _ _ (⟨rfl, rfl⟩) (Nat.zero_le _) (Nat.zero_le _) (dX11_tellShare_50)
  · replace h := it_f (g := id) h hc
    refine v_aload_n hk dX11_tellShare_12 rfl ?_
    refine v_iload_n hk dX11_tellShare_13 rfl ?_
    refine v_iload_n hk dX11_tellShare_14 rfl ?_
    refine v_aload_n hk dX11_tellShare_15 rfl ?_
    refine v_get (C := RX11) (T := TX11) (N := 39) (ci := 10) (v := .ref (adA 9)) hk dX11_tellShare_16 w2i_X11_tellShare_X110 0 rfl rfl 9 (by decide) (by decide +kernel) rfl rfl ?_
    obtain ⟨r_1, er_1, h⟩ := bd_e (g := id) rfl h
    refine v_callV (n := 3) (st := []) (b := adm) (T := TX11) (N := 39) hk dX11_tellShare_19 (c_X11_total (kl K) (kG K) adm adA (adA 9) o_names o_rows o_strength o_most o_toldGraph o_toldArc fvalues fcells fisKnown ftops flows fsmall flarge fone ftwo frest ffactor fmade fterms fterm fsum fsums fwholes fmore ffewer 320 fabove fr to0 r_1 er_1) rfl gd_X11_tellShare_X11_total rfl (by decide +kernel) (frok hR9 (Nat.le_of_ble_eq_true rfl) (Nat.le_of_ble_eq_true rfl)) (roomk hR9 (Nat.le_of_ble_eq_true rfl) (Nat.le_of_ble_eq_true rfl)) rfl rfl (Nat.le_of_ble_eq_true rfl) 0 rfl rfl [0, 1, 2, 3, 4, 5, 6, 7, 8, 9, 10, 11, 12, 13, 14, 15, 16, 17, 18, 19, 20] [21] (wr := [((adA 10), .inl (gI (kG K), 320, .inl fbelow))]) rfl rfl (by decide) (by decide) (by decide) ?_
    intro v9 w9 hp9
    obtain ⟨rfl, rfl⟩ := hp9
    show V K 3 [((adA 10), .inl (gI (kG K), 320, .inl fbelow)), (adm, .inr (10, oM adA o_names o_rows o_strength o_most o_toldGraph o_toldArc)), ((adA 1), .inl (gI (kG K), 5, .inl fvalues)), ((adA 3), .inl (gI (kG K), 80, .inl fcells)), ((adA 11), .inl (gZ (kG K), 160, .inl r_1.1)), ((adA 12), .inl (gI (kG K), 1280, .inl r_1.2.1)), ((adA 13), .inl (gI (kG K), 1280, .inl r_1.2.2.1)), ((adA 14), .inl (gI (kG K), 320, .inl r_1.2.2.2.1)), ((adA 15), .inl (gI (kG K), 320, .inl r_1.2.2.2.2.1)), ((adA 6), .inl (gI (kG K), 320, .inl r_1.2.2.2.2.2.1)), ((adA 7), .inl (gI (kG K), 320, .inl r_1.2.2.2.2.2.2.1)), ((adA 8), .inl (gI (kG K), 320, .inl r_1.2.2.2.2.2.2.2.1)), ((adA 16), .inl (gI (kG K), 320, .inl r_1.2.2.2.2.2.2.2.2.1)), ((adA 17), .inl (gI (kG K), 320, .inl r_1.2.2.2.2.2.2.2.2.2.1)), ((adA 30), .inl (gI (kG K), 5120, .inl r_1.2.2.2.2.2.2.2.2.2.2.1)), ((adA 32), .inl (gI (kG K), 320, .inl r_1.2.2.2.2.2.2.2.2.2.2.2.1)), ((adA 35), .inl (gI (kG K), 320, .inl r_1.2.2.2.2.2.2.2.2.2.2.2.2.1)), ((adA 29), .inl (gI (kG K), 5120, .inl r_1.2.2.2.2.2.2.2.2.2.2.2.2.2.1)), ((adA 31), .inl (gI (kG K), 5120, .inl r_1.2.2.2.2.2.2.2.2.2.2.2.2.2.2.1)), ((adA 33), .inl (gI (kG K), 320, .inl r_1.2.2.2.2.2.2.2.2.2.2.2.2.2.2.2.1)), ((adA 34), .inl (gI (kG K), 320, .inl r_1.2.2.2.2.2.2.2.2.2.2.2.2.2.2.2.2.1)), ((adA 9), .inl (gI (kG K), 320, .inl r_1.2.2.2.2.2.2.2.2.2.2.2.2.2.2.2.2.2))] 0 0 22 [(0, .ref adm), (1, .int fr), (2, .int to0)] []
    refine v_aload_n hk dX11_tellShare_22 rfl ?_
    refine v_iconst (v := (-1)) hk dX11_tellShare_23 (by decide) ?_
    refine v_iload_n hk dX11_tellShare_24 rfl ?_
    refine v_aload_n hk dX11_tellShare_25 rfl ?_
    refine v_get (C := RX11) (T := TX11) (N := 39) (ci := 10) (v := .ref (adA 10)) hk dX11_tellShare_26 w2i_X11_tellShare_X110 1 rfl rfl 10 (by decide) (by decide +kernel) rfl rfl ?_
    obtain ⟨r_2, er_2, h⟩ := bd_e (g := id) rfl h
    refine v_callV (n := 3) (st := []) (b := adm) (T := TX11) (N := 39) hk dX11_tellShare_29 (c_X11_total (kl K) (kG K) adm adA (adA 10) o_names o_rows o_strength o_most o_toldGraph o_toldArc fvalues fcells r_1.1 r_1.2.1 r_1.2.2.1 r_1.2.2.2.1 r_1.2.2.2.2.1 r_1.2.2.2.2.2.1 r_1.2.2.2.2.2.2.1 r_1.2.2.2.2.2.2.2.1 r_1.2.2.2.2.2.2.2.2.1 r_1.2.2.2.2.2.2.2.2.2.1 r_1.2.2.2.2.2.2.2.2.2.2.1 r_1.2.2.2.2.2.2.2.2.2.2.2.1 r_1.2.2.2.2.2.2.2.2.2.2.2.2.1 r_1.2.2.2.2.2.2.2.2.2.2.2.2.2.1 r_1.2.2.2.2.2.2.2.2.2.2.2.2.2.2.1 r_1.2.2.2.2.2.2.2.2.2.2.2.2.2.2.2.1 r_1.2.2.2.2.2.2.2.2.2.2.2.2.2.2.2.2.1 320 fbelow (-1) to0 r_2 er_2) rfl gd_X11_tellShare_X11_total rfl (by decide +kernel) (frok hR9 (Nat.le_of_ble_eq_true rfl) (Nat.le_of_ble_eq_true rfl)) (roomk hR9 (Nat.le_of_ble_eq_true rfl) (Nat.le_of_ble_eq_true rfl)) rfl rfl (Nat.le_of_ble_eq_true rfl) 1 rfl rfl [1, 2, 3, 4, 5, 6, 7, 8, 9, 10, 11, 12, 13, 14, 15, 16, 17, 18, 19, 20, 0] [21] (wr := [((adA 9), .inl (gI (kG K), 320, .inl r_1.2.2.2.2.2.2.2.2.2.2.2.2.2.2.2.2.2))]) rfl rfl (by decide) (by decide) (by decide) ?_
    intro v9 w9 hp9
    obtain ⟨rfl, rfl⟩ := hp9
    show V K 3 [((adA 9), .inl (gI (kG K), 320, .inl r_1.2.2.2.2.2.2.2.2.2.2.2.2.2.2.2.2.2)), (adm, .inr (10, oM adA o_names o_rows o_strength o_most o_toldGraph o_toldArc)), ((adA 1), .inl (gI (kG K), 5, .inl fvalues)), ((adA 3), .inl (gI (kG K), 80, .inl fcells)), ((adA 11), .inl (gZ (kG K), 160, .inl r_2.1)), ((adA 12), .inl (gI (kG K), 1280, .inl r_2.2.1)), ((adA 13), .inl (gI (kG K), 1280, .inl r_2.2.2.1)), ((adA 14), .inl (gI (kG K), 320, .inl r_2.2.2.2.1)), ((adA 15), .inl (gI (kG K), 320, .inl r_2.2.2.2.2.1)), ((adA 6), .inl (gI (kG K), 320, .inl r_2.2.2.2.2.2.1)), ((adA 7), .inl (gI (kG K), 320, .inl r_2.2.2.2.2.2.2.1)), ((adA 8), .inl (gI (kG K), 320, .inl r_2.2.2.2.2.2.2.2.1)), ((adA 16), .inl (gI (kG K), 320, .inl r_2.2.2.2.2.2.2.2.2.1)), ((adA 17), .inl (gI (kG K), 320, .inl r_2.2.2.2.2.2.2.2.2.2.1)), ((adA 30), .inl (gI (kG K), 5120, .inl r_2.2.2.2.2.2.2.2.2.2.2.1)), ((adA 32), .inl (gI (kG K), 320, .inl r_2.2.2.2.2.2.2.2.2.2.2.2.1)), ((adA 35), .inl (gI (kG K), 320, .inl r_2.2.2.2.2.2.2.2.2.2.2.2.2.1)), ((adA 29), .inl (gI (kG K), 5120, .inl r_2.2.2.2.2.2.2.2.2.2.2.2.2.2.1)), ((adA 31), .inl (gI (kG K), 5120, .inl r_2.2.2.2.2.2.2.2.2.2.2.2.2.2.2.1)), ((adA 33), .inl (gI (kG K), 320, .inl r_2.2.2.2.2.2.2.2.2.2.2.2.2.2.2.2.1)), ((adA 34), .inl (gI (kG K), 320, .inl r_2.2.2.2.2.2.2.2.2.2.2.2.2.2.2.2.2.1)), ((adA 10), .inl (gI (kG K), 320, .inl r_2.2.2.2.2.2.2.2.2.2.2.2.2.2.2.2.2.2))] 0 0 32 [(0, .ref adm), (1, .int fr), (2, .int to0)] []
    refine v_aload_n hk dX11_tellShare_32 rfl ?_
    obtain ⟨r_3, er_3, h⟩ := bd_e (g := id) rfl h
    refine v_callV (n := 0) (st := []) (b := adm) (T := TX11) (N := 39) hk dX11_tellShare_33 (c_X11_least (kl K) (kG K) adm adA o_names o_rows o_strength o_most o_toldGraph o_toldArc r_2.2.2.2.2.2.1 r_2.2.2.2.2.2.2.1 r_2.2.2.2.2.2.2.2.1 r_1.2.2.2.2.2.2.2.2.2.2.2.2.2.2.2.2.2 r_2.2.2.2.2.2.2.2.2.2.2.2.2.2.2.2.2.2 r_3 er_3) rfl gd_X11_tellShare_X11_least rfl (by decide +kernel) (frok hR9 (Nat.le_of_ble_eq_true rfl) (Nat.le_of_ble_eq_true rfl)) (roomk hR9 (Nat.le_of_ble_eq_true rfl) (Nat.le_of_ble_eq_true rfl)) rfl rfl (Nat.le_of_ble_eq_true rfl) 1 rfl rfl [1, 9, 10, 11, 0, 21] [2, 3, 4, 5, 6, 7, 8, 12, 13, 14, 15, 16, 17, 18, 19, 20] (wr := [((adA 1), .inl (gI (kG K), 5, .inl fvalues)), ((adA 3), .inl (gI (kG K), 80, .inl fcells)), ((adA 11), .inl (gZ (kG K), 160, .inl r_2.1)), ((adA 12), .inl (gI (kG K), 1280, .inl r_2.2.1)), ((adA 13), .inl (gI (kG K), 1280, .inl r_2.2.2.1)), ((adA 14), .inl (gI (kG K), 320, .inl r_2.2.2.2.1)), ((adA 15), .inl (gI (kG K), 320, .inl r_2.2.2.2.2.1)), ((adA 16), .inl (gI (kG K), 320, .inl r_2.2.2.2.2.2.2.2.2.1)), ((adA 17), .inl (gI (kG K), 320, .inl r_2.2.2.2.2.2.2.2.2.2.1)), ((adA 30), .inl (gI (kG K), 5120, .inl r_2.2.2.2.2.2.2.2.2.2.2.1)), ((adA 32), .inl (gI (kG K), 320, .inl r_2.2.2.2.2.2.2.2.2.2.2.2.1)), ((adA 35), .inl (gI (kG K), 320, .inl r_2.2.2.2.2.2.2.2.2.2.2.2.2.1)), ((adA 29), .inl (gI (kG K), 5120, .inl r_2.2.2.2.2.2.2.2.2.2.2.2.2.2.1)), ((adA 31), .inl (gI (kG K), 5120, .inl r_2.2.2.2.2.2.2.2.2.2.2.2.2.2.2.1)), ((adA 33), .inl (gI (kG K), 320, .inl r_2.2.2.2.2.2.2.2.2.2.2.2.2.2.2.2.1)), ((adA 34), .inl (gI (kG K), 320, .inl r_2.2.2.2.2.2.2.2.2.2.2.2.2.2.2.2.2.1))]) rfl rfl (by decide) (by decide) (by decide) ?_
    intro v9 w9 hp9
    obtain ⟨rfl, rfl⟩ := hp9
    show V K 3 [((adA 1), .inl (gI (kG K), 5, .inl fvalues)), ((adA 3), .inl (gI (kG K), 80, .inl fcells)), ((adA 11), .inl (gZ (kG K), 160, .inl r_2.1)), ((adA 12), .inl (gI (kG K), 1280, .inl r_2.2.1)), ((adA 13), .inl (gI (kG K), 1280, .inl r_2.2.2.1)), ((adA 14), .inl (gI (kG K), 320, .inl r_2.2.2.2.1)), ((adA 15), .inl (gI (kG K), 320, .inl r_2.2.2.2.2.1)), ((adA 16), .inl (gI (kG K), 320, .inl r_2.2.2.2.2.2.2.2.2.1)), ((adA 17), .inl (gI (kG K), 320, .inl r_2.2.2.2.2.2.2.2.2.2.1)), ((adA 30), .inl (gI (kG K), 5120, .inl r_2.2.2.2.2.2.2.2.2.2.2.1)), ((adA 32), .inl (gI (kG K), 320, .inl r_2.2.2.2.2.2.2.2.2.2.2.2.1)), ((adA 35), .inl (gI (kG K), 320, .inl r_2.2.2.2.2.2.2.2.2.2.2.2.2.1)), ((adA 29), .inl (gI (kG K), 5120, .inl r_2.2.2.2.2.2.2.2.2.2.2.2.2.2.1)), ((adA 31), .inl (gI (kG K), 5120, .inl r_2.2.2.2.2.2.2.2.2.2.2.2.2.2.2.1)), ((adA 33), .inl (gI (kG K), 320, .inl r_2.2.2.2.2.2.2.2.2.2.2.2.2.2.2.2.1)), ((adA 34), .inl (gI (kG K), 320, .inl r_2.2.2.2.2.2.2.2.2.2.2.2.2.2.2.2.2.1)), (adm, .inr (10, oM adA o_names o_rows o_strength o_most o_toldGraph o_toldArc)), ((adA 6), .inl (gI (kG K), 320, .inl r_3.1)), ((adA 7), .inl (gI (kG K), 320, .inl r_3.2.1)), ((adA 8), .inl (gI (kG K), 320, .inl r_3.2.2.1)), ((adA 9), .inl (gI (kG K), 320, .inl r_3.2.2.2.1)), ((adA 10), .inl (gI (kG K), 320, .inl r_3.2.2.2.2))] 0 0 36 [(0, .ref adm), (1, .int fr), (2, .int to0)] []
    refine v_aload_n hk dX11_tellShare_36 rfl ?_
    refine v_iconst (v := 5) hk dX11_tellShare_37 (by decide) ?_
    refine v_iload_n hk dX11_tellShare_38 rfl ?_
    refine v_imul hk dX11_tellShare_39 ?_
    refine v_iload_n hk dX11_tellShare_40 rfl ?_
    refine v_iadd hk dX11_tellShare_41 ?_
    obtain ⟨vtoldArc_4, evtoldArc_4, h⟩ := lt_e (g := id) h
    refine v_topi evtoldArc_4.symm ?_
    refine v_put (C := RX11) (T := TX11) (N := 39) (ci := 10) (v := .int vtoldArc_4) (ty := .int) hk dX11_tellShare_42 w2i_X11_tellShare_X110 tyX11 tyX11_ok nmX11 16 rfl rfl 25 (by decide) (by decide +kernel) rfl rfl (by decide +kernel) rfl rfl (Nat.le_of_ble_eq_true rfl) (ws' := [((adA 1), .inl (gI (kG K), 5, .inl fvalues)), ((adA 3), .inl (gI (kG K), 80, .inl fcells)), ((adA 11), .inl (gZ (kG K), 160, .inl r_2.1)), ((adA 12), .inl (gI (kG K), 1280, .inl r_2.2.1)), ((adA 13), .inl (gI (kG K), 1280, .inl r_2.2.2.1)), ((adA 14), .inl (gI (kG K), 320, .inl r_2.2.2.2.1)), ((adA 15), .inl (gI (kG K), 320, .inl r_2.2.2.2.2.1)), ((adA 16), .inl (gI (kG K), 320, .inl r_2.2.2.2.2.2.2.2.2.1)), ((adA 17), .inl (gI (kG K), 320, .inl r_2.2.2.2.2.2.2.2.2.2.1)), ((adA 30), .inl (gI (kG K), 5120, .inl r_2.2.2.2.2.2.2.2.2.2.2.1)), ((adA 32), .inl (gI (kG K), 320, .inl r_2.2.2.2.2.2.2.2.2.2.2.2.1)), ((adA 35), .inl (gI (kG K), 320, .inl r_2.2.2.2.2.2.2.2.2.2.2.2.2.1)), ((adA 29), .inl (gI (kG K), 5120, .inl r_2.2.2.2.2.2.2.2.2.2.2.2.2.2.1)), ((adA 31), .inl (gI (kG K), 5120, .inl r_2.2.2.2.2.2.2.2.2.2.2.2.2.2.2.1)), ((adA 33), .inl (gI (kG K), 320, .inl r_2.2.2.2.2.2.2.2.2.2.2.2.2.2.2.2.1)), ((adA 34), .inl (gI (kG K), 320, .inl r_2.2.2.2.2.2.2.2.2.2.2.2.2.2.2.2.2.1)), (adm, .inr (10, oM adA o_names o_rows o_strength o_most o_toldGraph vtoldArc_4)), ((adA 6), .inl (gI (kG K), 320, .inl r_3.1)), ((adA 7), .inl (gI (kG K), 320, .inl r_3.2.1)), ((adA 8), .inl (gI (kG K), 320, .inl r_3.2.2.1)), ((adA 9), .inl (gI (kG K), 320, .inl r_3.2.2.2.1)), ((adA 10), .inl (gI (kG K), 320, .inl r_3.2.2.2.2))]) rfl ?_
    refine v_aload_n hk dX11_tellShare_45 rfl ?_
    refine v_iconst (v := (-1)) hk dX11_tellShare_46 (by decide) ?_
    refine v_put (C := RX11) (T := TX11) (N := 39) (ci := 10) (v := .int (-1)) (ty := .int) hk dX11_tellShare_47 w2i_X11_tellShare_X110 tyX11 tyX11_ok nmX11 16 rfl rfl 24 (by decide) (by decide +kernel) rfl rfl (by decide +kernel) rfl rfl (Nat.le_of_ble_eq_true rfl) (ws' := [((adA 1), .inl (gI (kG K), 5, .inl fvalues)), ((adA 3), .inl (gI (kG K), 80, .inl fcells)), ((adA 11), .inl (gZ (kG K), 160, .inl r_2.1)), ((adA 12), .inl (gI (kG K), 1280, .inl r_2.2.1)), ((adA 13), .inl (gI (kG K), 1280, .inl r_2.2.2.1)), ((adA 14), .inl (gI (kG K), 320, .inl r_2.2.2.2.1)), ((adA 15), .inl (gI (kG K), 320, .inl r_2.2.2.2.2.1)), ((adA 16), .inl (gI (kG K), 320, .inl r_2.2.2.2.2.2.2.2.2.1)), ((adA 17), .inl (gI (kG K), 320, .inl r_2.2.2.2.2.2.2.2.2.2.1)), ((adA 30), .inl (gI (kG K), 5120, .inl r_2.2.2.2.2.2.2.2.2.2.2.1)), ((adA 32), .inl (gI (kG K), 320, .inl r_2.2.2.2.2.2.2.2.2.2.2.2.1)), ((adA 35), .inl (gI (kG K), 320, .inl r_2.2.2.2.2.2.2.2.2.2.2.2.2.1)), ((adA 29), .inl (gI (kG K), 5120, .inl r_2.2.2.2.2.2.2.2.2.2.2.2.2.2.1)), ((adA 31), .inl (gI (kG K), 5120, .inl r_2.2.2.2.2.2.2.2.2.2.2.2.2.2.2.1)), ((adA 33), .inl (gI (kG K), 320, .inl r_2.2.2.2.2.2.2.2.2.2.2.2.2.2.2.2.1)), ((adA 34), .inl (gI (kG K), 320, .inl r_2.2.2.2.2.2.2.2.2.2.2.2.2.2.2.2.2.1)), (adm, .inr (10, oM adA o_names o_rows o_strength o_most (-1) vtoldArc_4)), ((adA 6), .inl (gI (kG K), 320, .inl r_3.1)), ((adA 7), .inl (gI (kG K), 320, .inl r_3.2.1)), ((adA 8), .inl (gI (kG K), 320, .inl r_3.2.2.1)), ((adA 9), .inl (gI (kG K), 320, .inl r_3.2.2.2.1)), ((adA 10), .inl (gI (kG K), 320, .inl r_3.2.2.2.2))]) rfl ?_
    replace h : some ((-1), vtoldArc_4, r_2.1, r_2.2.1, r_2.2.2.1, r_2.2.2.2.1, r_2.2.2.2.2.1, r_3.1, r_3.2.1, r_3.2.2.1, r_2.2.2.2.2.2.2.2.2.1, r_2.2.2.2.2.2.2.2.2.2.1, r_2.2.2.2.2.2.2.2.2.2.2.1, r_2.2.2.2.2.2.2.2.2.2.2.2.1, r_2.2.2.2.2.2.2.2.2.2.2.2.2.1, r_2.2.2.2.2.2.2.2.2.2.2.2.2.2.1, r_2.2.2.2.2.2.2.2.2.2.2.2.2.2.2.1, r_2.2.2.2.2.2.2.2.2.2.2.2.2.2.2.2.1, r_2.2.2.2.2.2.2.2.2.2.2.2.2.2.2.2.2.1, r_3.2.2.2.1, r_3.2.2.2.2) = some r := h
    replace h := Option.some.inj h
    subst h
    refine v_perm [16, 0, 1, 2, 3, 4, 5, 6, 17, 18, 19, 7, 8, 9, 10, 11, 12, 13, 14, 15, 20, 21] (ws' := [(adm, .inr (10, oM adA o_names o_rows o_strength o_most (-1) vtoldArc_4)), ((adA 1), .inl (gI (kG K), 5, .inl fvalues)), ((adA 3), .inl (gI (kG K), 80, .inl fcells)), ((adA 11), .inl (gZ (kG K), 160, .inl r_2.1)), ((adA 12), .inl (gI (kG K), 1280, .inl r_2.2.1)), ((adA 13), .inl (gI (kG K), 1280, .inl r_2.2.2.1)), ((adA 14), .inl (gI (kG K), 320, .inl r_2.2.2.2.1)), ((adA 15), .inl (gI (kG K), 320, .inl r_2.2.2.2.2.1)), ((adA 6), .inl (gI (kG K), 320, .inl r_3.1)), ((adA 7), .inl (gI (kG K), 320, .inl r_3.2.1)), ((adA 8), .inl (gI (kG K), 320, .inl r_3.2.2.1)), ((adA 16), .inl (gI (kG K), 320, .inl r_2.2.2.2.2.2.2.2.2.1)), ((adA 17), .inl (gI (kG K), 320, .inl r_2.2.2.2.2.2.2.2.2.2.1)), ((adA 30), .inl (gI (kG K), 5120, .inl r_2.2.2.2.2.2.2.2.2.2.2.1)), ((adA 32), .inl (gI (kG K), 320, .inl r_2.2.2.2.2.2.2.2.2.2.2.2.1)), ((adA 35), .inl (gI (kG K), 320, .inl r_2.2.2.2.2.2.2.2.2.2.2.2.2.1)), ((adA 29), .inl (gI (kG K), 5120, .inl r_2.2.2.2.2.2.2.2.2.2.2.2.2.2.1)), ((adA 31), .inl (gI (kG K), 5120, .inl r_2.2.2.2.2.2.2.2.2.2.2.2.2.2.2.1)), ((adA 33), .inl (gI (kG K), 320, .inl r_2.2.2.2.2.2.2.2.2.2.2.2.2.2.2.2.1)), ((adA 34), .inl (gI (kG K), 320, .inl r_2.2.2.2.2.2.2.2.2.2.2.2.2.2.2.2.2.1)), ((adA 9), .inl (gI (kG K), 320, .inl r_3.2.2.2.1)), ((adA 10), .inl (gI (kG K), 320, .inl r_3.2.2.2.2))]) rfl rfl (by decide) ?_
    refine hrt (none) _ _ _ _ _ (⟨rfl, rfl⟩) (Nat.zero_le _) (Nat.zero_le _) (dX11_tellShare_50)
abbrev rm_X11_shareFault : Room := { frames := 1, cells := 0, slots := 0, locals := 21 }
set_option maxHeartbeats 4000000 in
set_option maxRecDepth 100000 in
theorem c_X11_shareFault (l : Launch) (G : GG) (adm : Nat) (adA : Nat → Nat) (o_names : Int32) (o_rows : Int32) (o_strength : Int32) (o_most : Int32) (o_toldGraph : Int32) (o_toldArc : Int32) (fr : Int32) (to0 : Int32) (part : Int32) (r : Int32) (h : m_X11_shareFault o_names o_rows o_strength o_most o_toldGraph o_toldArc fr to0 part = some r) : Ctr l G yX11_shareFault w2_X11_shareFault rm_X11_shareFault [.ref adm, .int fr, .int to0, .int part] [(adm, .inr (10, oM adA o_names o_rows o_strength o_most o_toldGraph o_toldArc))] (fun v w => v = some (.int r) ∧ w = [(adm, .inr (10, oM adA o_names o_rows o_strength o_most o_toldGraph o_toldArc))]) := by
  refine ctr_entry (cc := cX11_shareFault) (maxL := 4) (ret := some .int) (lv0 := [(0, .ref adm), (1, .int fr), (2, .int to0), (3, .int part)]) (by decide) rfl (Nat.le_of_ble_eq_true rfl) (rfl) ?_
  intro K hl9 hG9 hk hn9 hrt
  subst hl9
  subst hG9
  have hR9 : RoomGe rm_X11_shareFault rm_X11_shareFault := RoomGe.rf
  replace h := id_e h
  rw [em_X11_shareFault] at h
  refine v_aload_n hk dX11_shareFault_0 rfl ?_
  refine v_iload_n hk dX11_shareFault_1 rfl ?_
  obtain ⟨r_1, er_1, h⟩ := bd_e (g := id) rfl h
  refine v_callV (n := 1) (st := []) (b := adm) (T := TX11) (N := 39) hk dX11_shareFault_2 (c_X11_isName (kl K) (kG K) adm adA o_names o_rows o_strength o_most o_toldGraph o_toldArc fr r_1 er_1) rfl gd_X11_shareFault_X11_isName rfl (by decide +kernel) (frok hR9 (Nat.le_of_ble_eq_true rfl) (Nat.le_of_ble_eq_true rfl)) (roomk hR9 (Nat.le_of_ble_eq_true rfl) (Nat.le_of_ble_eq_true rfl)) rfl rfl (Nat.le_of_ble_eq_true rfl) 0 rfl rfl [0] [] (wr := []) rfl rfl (by decide) (by decide) (by decide) ?_
  intro v9 w9 hp9
  obtain ⟨rfl, rfl⟩ := hp9
  show V K 4 [(adm, .inr (10, oM adA o_names o_rows o_strength o_most o_toldGraph o_toldArc))] 0 0 5 [(0, .ref adm), (1, .int fr), (2, .int to0), (3, .int part)] [.int r_1]
  refine v_if_eq (tgt := 28) hk dX11_shareFault_5 (by decide) (fun hc => ?_) (fun hc => ?_)
  · replace h := it_t (g := id) h hc
    refine v_iconst (v := (-1)) hk dX11_shareFault_28 (by decide) ?_
    replace h : some (-1) = some r := h
    replace h := Option.some.inj h
    subst h
    refine hrt (some (.int (-1))) _ _ _ _ _ (⟨rfl, rfl⟩) (Nat.zero_le _) (Nat.zero_le _) (dX11_shareFault_29)
  · replace h := it_f (g := id) h hc
    refine v_aload_n hk dX11_shareFault_8 rfl ?_
    refine v_iload_n hk dX11_shareFault_9 rfl ?_
    obtain ⟨r_2, er_2, h⟩ := bd_e (g := id) rfl h
    refine v_callV (n := 1) (st := []) (b := adm) (T := TX11) (N := 39) hk dX11_shareFault_10 (c_X11_isName (kl K) (kG K) adm adA o_names o_rows o_strength o_most o_toldGraph o_toldArc to0 r_2 er_2) rfl gd_X11_shareFault_X11_isName rfl (by decide +kernel) (frok hR9 (Nat.le_of_ble_eq_true rfl) (Nat.le_of_ble_eq_true rfl)) (roomk hR9 (Nat.le_of_ble_eq_true rfl) (Nat.le_of_ble_eq_true rfl)) rfl rfl (Nat.le_of_ble_eq_true rfl) 0 rfl rfl [0] [] (wr := []) rfl rfl (by decide) (by decide) (by decide) ?_
    intro v9 w9 hp9
    obtain ⟨rfl, rfl⟩ := hp9
    show V K 4 [(adm, .inr (10, oM adA o_names o_rows o_strength o_most o_toldGraph o_toldArc))] 0 0 13 [(0, .ref adm), (1, .int fr), (2, .int to0), (3, .int part)] [.int r_2]
    refine v_if_eq (tgt := 28) hk dX11_shareFault_13 (by decide) (fun hc => ?_) (fun hc => ?_)
    · replace h := it_t (g := id) h hc
      refine v_iconst (v := (-1)) hk dX11_shareFault_28 (by decide) ?_
      replace h : some (-1) = some r := h
      replace h := Option.some.inj h
      subst h
      refine hrt (some (.int (-1))) _ _ _ _ _ (⟨rfl, rfl⟩) (Nat.zero_le _) (Nat.zero_le _) (dX11_shareFault_29)
    · replace h := it_f (g := id) h hc
      refine v_iload_n hk dX11_shareFault_16 rfl ?_
      refine v_iload_n hk dX11_shareFault_17 rfl ?_
      refine v_icmp_eq (tgt := 28) hk dX11_shareFault_18 (by decide) (fun hc => ?_) (fun hc => ?_)
      · replace h := it_t (g := id) h hc
        refine v_iconst (v := (-1)) hk dX11_shareFault_28 (by decide) ?_
        replace h : some (-1) = some r := h
        replace h := Option.some.inj h
        subst h
        refine hrt (some (.int (-1))) _ _ _ _ _ (⟨rfl, rfl⟩) (Nat.zero_le _) (Nat.zero_le _) (dX11_shareFault_29)
      · replace h := it_f (g := id) h hc
        refine v_iload_n hk dX11_shareFault_21 rfl ?_
        obtain ⟨r_3, er_3, h⟩ := bd_e (g := id) rfl h
        refine v_callS (n := 1) (st := []) hk dX11_shareFault_22 (c_X11_isPart (kl K) (kG K) part r_3 er_3) gd_X11_shareFault_X11_isPart rfl (by decide +kernel) (frok hR9 (Nat.le_of_ble_eq_true rfl) (Nat.le_of_ble_eq_true rfl)) (roomk hR9 (Nat.le_of_ble_eq_true rfl) (Nat.le_of_ble_eq_true rfl)) rfl rfl (Nat.le_of_ble_eq_true rfl) [] [0] (wr := [(adm, .inr (10, oM adA o_names o_rows o_strength o_most o_toldGraph o_toldArc))]) rfl rfl (by decide) (by decide) (by decide) ?_
        intro v9 w9 hp9
        obtain ⟨rfl, rfl⟩ := hp9
        show V K 4 [(adm, .inr (10, oM adA o_names o_rows o_strength o_most o_toldGraph o_toldArc))] 0 0 25 [(0, .ref adm), (1, .int fr), (2, .int to0), (3, .int part)] [.int r_3]
        refine v_if_ne (tgt := 30) hk dX11_shareFault_25 (by decide) (fun hc => ?_) (fun hc => ?_)
        · replace h := it_f (g := id) h hc
          refine v_aload_n hk dX11_shareFault_30 rfl ?_
          refine v_get (C := RX11) (T := TX11) (N := 39) (ci := 10) (v := .int o_names) hk dX11_shareFault_31 w2i_X11_shareFault_X110 0 rfl rfl 0 (by decide) (by decide +kernel) rfl rfl ?_
          refine v_iconst (v := 5) hk dX11_shareFault_34 (by decide) ?_
          obtain ⟨y_5, ey_5, h⟩ := bd_e (g := id) rfl h
          have Jy_5 : V K 4 [(adm, .inr (10, oM adA o_names o_rows o_strength o_most o_toldGraph o_toldArc))] 0 0 44 [(0, .ref adm), (1, .int fr), (2, .int to0), (3, .int part)] [.int y_5] := by
            replace h : some y_5 = some r := h
            replace h := Option.some.inj h
            subst h
            refine hrt (some (.int y_5)) _ _ _ _ _ (⟨rfl, rfl⟩) (Nat.zero_le _) (Nat.zero_le _) (dX11_shareFault_44)
          clear h
          have h := id_e ey_5
          clear ey_5
          refine v_icmp_ne (tgt := 43) hk dX11_shareFault_35 (by decide) (fun hc => ?_) (fun hc => ?_)
          · replace h := it_f (g := id) h hc
            refine v_iconst (v := 0) hk dX11_shareFault_43 (by decide) ?_
            replace h : some (0 : Int32) = some y_5 := h
            replace h := Option.some.inj h
            subst h
            exact Jy_5
          · replace h := it_t (g := id) h hc
            refine v_bipush (v := (-2)) hk dX11_shareFault_38 (by decide) ?_
            refine v_goto (tgt := 44) hk dX11_shareFault_40 (by decide) ?_
            replace h : some ((-2) : Int32) = some y_5 := h
            replace h := Option.some.inj h
            subst h
            exact Jy_5
        · replace h := it_t (g := id) h hc
          refine v_iconst (v := (-1)) hk dX11_shareFault_28 (by decide) ?_
          replace h : some (-1) = some r := h
          replace h := Option.some.inj h
          subst h
          refine hrt (some (.int (-1))) _ _ _ _ _ (⟨rfl, rfl⟩) (Nat.zero_le _) (Nat.zero_le _) (dX11_shareFault_29)
abbrev rm_X11_shareSize : Room := { frames := 8, cells := 0, slots := 0, locals := 194 }
set_option maxHeartbeats 4000000 in
set_option maxRecDepth 100000 in
theorem c_X11_shareSize (l : Launch) (G : GG) (adm : Nat) (adA : Nat → Nat) (o_names : Int32) (o_rows : Int32) (o_strength : Int32) (o_most : Int32) (o_toldGraph : Int32) (o_toldArc : Int32) (fvalues : Nat → Int32) (fcells : Nat → Int32) (fisKnown : Nat → Int32) (ftops : Nat → Int32) (flows : Nat → Int32) (fsmall : Nat → Int32) (flarge : Nat → Int32) (fone : Nat → Int32) (ftwo : Nat → Int32) (frest : Nat → Int32) (ffactor : Nat → Int32) (fmade : Nat → Int32) (fterms : Nat → Int32) (fterm : Nat → Int32) (fsum : Nat → Int32) (fsums : Nat → Int32) (fwholes : Nat → Int32) (fmore : Nat → Int32) (ffewer : Nat → Int32) (fabove : Nat → Int32) (fbelow : Nat → Int32) (fr : Int32) (to0 : Int32) (part : Int32) (r : Int32 × Int32 × Int32 × (Nat → Int32) × (Nat → Int32) × (Nat → Int32) × (Nat → Int32) × (Nat → Int32) × (Nat → Int32) × (Nat → Int32) × (Nat → Int32) × (Nat → Int32) × (Nat → Int32) × (Nat → Int32) × (Nat → Int32) × (Nat → Int32) × (Nat → Int32) × (Nat → Int32) × (Nat → Int32) × (Nat → Int32) × (Nat → Int32) × (Nat → Int32)) (h : m_X11_shareSize o_names o_rows o_strength o_most o_toldGraph o_toldArc fvalues fcells fisKnown ftops flows fsmall flarge fone ftwo frest ffactor fmade fterms fterm fsum fsums fwholes fmore ffewer fabove fbelow fr to0 part = some r) : Ctr l G yX11_shareSize w2_X11_shareSize rm_X11_shareSize [.ref adm, .int fr, .int to0, .int part] [(adm, .inr (10, oM adA o_names o_rows o_strength o_most o_toldGraph o_toldArc)), ((adA 1), .inl (gI G, 5, .inl fvalues)), ((adA 3), .inl (gI G, 80, .inl fcells)), ((adA 11), .inl (gZ G, 160, .inl fisKnown)), ((adA 12), .inl (gI G, 1280, .inl ftops)), ((adA 13), .inl (gI G, 1280, .inl flows)), ((adA 14), .inl (gI G, 320, .inl fsmall)), ((adA 15), .inl (gI G, 320, .inl flarge)), ((adA 6), .inl (gI G, 320, .inl fone)), ((adA 7), .inl (gI G, 320, .inl ftwo)), ((adA 8), .inl (gI G, 320, .inl frest)), ((adA 16), .inl (gI G, 320, .inl ffactor)), ((adA 17), .inl (gI G, 320, .inl fmade)), ((adA 30), .inl (gI G, 5120, .inl fterms)), ((adA 32), .inl (gI G, 320, .inl fterm)), ((adA 35), .inl (gI G, 320, .inl fsum)), ((adA 29), .inl (gI G, 5120, .inl fsums)), ((adA 31), .inl (gI G, 5120, .inl fwholes)), ((adA 33), .inl (gI G, 320, .inl fmore)), ((adA 34), .inl (gI G, 320, .inl ffewer)), ((adA 9), .inl (gI G, 320, .inl fabove)), ((adA 10), .inl (gI G, 320, .inl fbelow))] (fun v w => v = some (.int r.1) ∧ w = [(adm, .inr (10, oM adA o_names o_rows o_strength o_most r.2.1 r.2.2.1)), ((adA 1), .inl (gI G, 5, .inl fvalues)), ((adA 3), .inl (gI G, 80, .inl fcells)), ((adA 11), .inl (gZ G, 160, .inl r.2.2.2.1)), ((adA 12), .inl (gI G, 1280, .inl r.2.2.2.2.1)), ((adA 13), .inl (gI G, 1280, .inl r.2.2.2.2.2.1)), ((adA 14), .inl (gI G, 320, .inl r.2.2.2.2.2.2.1)), ((adA 15), .inl (gI G, 320, .inl r.2.2.2.2.2.2.2.1)), ((adA 6), .inl (gI G, 320, .inl r.2.2.2.2.2.2.2.2.1)), ((adA 7), .inl (gI G, 320, .inl r.2.2.2.2.2.2.2.2.2.1)), ((adA 8), .inl (gI G, 320, .inl r.2.2.2.2.2.2.2.2.2.2.1)), ((adA 16), .inl (gI G, 320, .inl r.2.2.2.2.2.2.2.2.2.2.2.1)), ((adA 17), .inl (gI G, 320, .inl r.2.2.2.2.2.2.2.2.2.2.2.2.1)), ((adA 30), .inl (gI G, 5120, .inl r.2.2.2.2.2.2.2.2.2.2.2.2.2.1)), ((adA 32), .inl (gI G, 320, .inl r.2.2.2.2.2.2.2.2.2.2.2.2.2.2.1)), ((adA 35), .inl (gI G, 320, .inl r.2.2.2.2.2.2.2.2.2.2.2.2.2.2.2.1)), ((adA 29), .inl (gI G, 5120, .inl r.2.2.2.2.2.2.2.2.2.2.2.2.2.2.2.2.1)), ((adA 31), .inl (gI G, 5120, .inl r.2.2.2.2.2.2.2.2.2.2.2.2.2.2.2.2.2.1)), ((adA 33), .inl (gI G, 320, .inl r.2.2.2.2.2.2.2.2.2.2.2.2.2.2.2.2.2.2.1)), ((adA 34), .inl (gI G, 320, .inl r.2.2.2.2.2.2.2.2.2.2.2.2.2.2.2.2.2.2.2.1)), ((adA 9), .inl (gI G, 320, .inl r.2.2.2.2.2.2.2.2.2.2.2.2.2.2.2.2.2.2.2.2.1)), ((adA 10), .inl (gI G, 320, .inl r.2.2.2.2.2.2.2.2.2.2.2.2.2.2.2.2.2.2.2.2.2))]) := by
  refine ctr_entry (cc := cX11_shareSize) (maxL := 5) (ret := some .int) (lv0 := [(0, .ref adm), (1, .int fr), (2, .int to0), (3, .int part)]) (by decide) rfl (Nat.le_of_ble_eq_true rfl) (rfl) ?_
  intro K hl9 hG9 hk hn9 hrt
  subst hl9
  subst hG9
  have hR9 : RoomGe rm_X11_shareSize rm_X11_shareSize := RoomGe.rf
  replace h := id_e h
  rw [em_X11_shareSize] at h
  refine v_aload_n hk dX11_shareSize_0 rfl ?_
  refine v_iload_n hk dX11_shareSize_1 rfl ?_
  refine v_iload_n hk dX11_shareSize_2 rfl ?_
  refine v_iload_n hk dX11_shareSize_3 rfl ?_
  obtain ⟨r_1, er_1, h⟩ := bd_e (g := id) rfl h
  refine v_callV (n := 3) (st := []) (b := adm) (T := TX11) (N := 39) hk dX11_shareSize_4 (c_X11_shareFault (kl K) (kG K) adm adA o_names o_rows o_strength o_most o_toldGraph o_toldArc fr to0 part r_1 er_1) rfl gd_X11_shareSize_X11_shareFault rfl (by decide +kernel) (frok hR9 (Nat.le_of_ble_eq_true rfl) (Nat.le_of_ble_eq_true rfl)) (roomk hR9 (Nat.le_of_ble_eq_true rfl) (Nat.le_of_ble_eq_true rfl)) rfl rfl (Nat.le_of_ble_eq_true rfl) 0 rfl rfl [0] [1, 2, 3, 4, 5, 6, 7, 8, 9, 10, 11, 12, 13, 14, 15, 16, 17, 18, 19, 20, 21] (wr := [((adA 1), .inl (gI (kG K), 5, .inl fvalues)), ((adA 3), .inl (gI (kG K), 80, .inl fcells)), ((adA 11), .inl (gZ (kG K), 160, .inl fisKnown)), ((adA 12), .inl (gI (kG K), 1280, .inl ftops)), ((adA 13), .inl (gI (kG K), 1280, .inl flows)), ((adA 14), .inl (gI (kG K), 320, .inl fsmall)), ((adA 15), .inl (gI (kG K), 320, .inl flarge)), ((adA 6), .inl (gI (kG K), 320, .inl fone)), ((adA 7), .inl (gI (kG K), 320, .inl ftwo)), ((adA 8), .inl (gI (kG K), 320, .inl frest)), ((adA 16), .inl (gI (kG K), 320, .inl ffactor)), ((adA 17), .inl (gI (kG K), 320, .inl fmade)), ((adA 30), .inl (gI (kG K), 5120, .inl fterms)), ((adA 32), .inl (gI (kG K), 320, .inl fterm)), ((adA 35), .inl (gI (kG K), 320, .inl fsum)), ((adA 29), .inl (gI (kG K), 5120, .inl fsums)), ((adA 31), .inl (gI (kG K), 5120, .inl fwholes)), ((adA 33), .inl (gI (kG K), 320, .inl fmore)), ((adA 34), .inl (gI (kG K), 320, .inl ffewer)), ((adA 9), .inl (gI (kG K), 320, .inl fabove)), ((adA 10), .inl (gI (kG K), 320, .inl fbelow))]) rfl rfl (by decide) (by decide) (by decide) ?_
  intro v9 w9 hp9
  obtain ⟨rfl, rfl⟩ := hp9
  show V K 5 [((adA 1), .inl (gI (kG K), 5, .inl fvalues)), ((adA 3), .inl (gI (kG K), 80, .inl fcells)), ((adA 11), .inl (gZ (kG K), 160, .inl fisKnown)), ((adA 12), .inl (gI (kG K), 1280, .inl ftops)), ((adA 13), .inl (gI (kG K), 1280, .inl flows)), ((adA 14), .inl (gI (kG K), 320, .inl fsmall)), ((adA 15), .inl (gI (kG K), 320, .inl flarge)), ((adA 6), .inl (gI (kG K), 320, .inl fone)), ((adA 7), .inl (gI (kG K), 320, .inl ftwo)), ((adA 8), .inl (gI (kG K), 320, .inl frest)), ((adA 16), .inl (gI (kG K), 320, .inl ffactor)), ((adA 17), .inl (gI (kG K), 320, .inl fmade)), ((adA 30), .inl (gI (kG K), 5120, .inl fterms)), ((adA 32), .inl (gI (kG K), 320, .inl fterm)), ((adA 35), .inl (gI (kG K), 320, .inl fsum)), ((adA 29), .inl (gI (kG K), 5120, .inl fsums)), ((adA 31), .inl (gI (kG K), 5120, .inl fwholes)), ((adA 33), .inl (gI (kG K), 320, .inl fmore)), ((adA 34), .inl (gI (kG K), 320, .inl ffewer)), ((adA 9), .inl (gI (kG K), 320, .inl fabove)), ((adA 10), .inl (gI (kG K), 320, .inl fbelow)), (adm, .inr (10, oM adA o_names o_rows o_strength o_most o_toldGraph o_toldArc))] 0 0 7 [(0, .ref adm), (1, .int fr), (2, .int to0), (3, .int part)] [.int r_1]
  refine v_istore hk dX11_shareSize_7 (by decide) [1, 2, 3, 4, 0] (lv' := [(0, .ref adm), (1, .int fr), (2, .int to0), (3, .int part), (4, .int r_1)]) rfl ?_
  refine v_iload hk dX11_shareSize_9 rfl ?_
  refine v_if_ge (tgt := 17) hk dX11_shareSize_11 (by decide) (fun hc => ?_) (fun hc => ?_)
  · replace h := it_t (g := id) h hc
    refine v_aload_n hk dX11_shareSize_17 rfl ?_
    refine v_iload_n hk dX11_shareSize_18 rfl ?_
    refine v_iload_n hk dX11_shareSize_19 rfl ?_
    obtain ⟨r_2, er_2, h⟩ := bd_e (g := id) rfl h
    refine v_callV (n := 2) (st := []) (b := adm) (T := TX11) (N := 39) hk dX11_shareSize_20 (c_X11_tellShare (kl K) (kG K) adm adA o_names o_rows o_strength o_most o_toldGraph o_toldArc fvalues fcells fisKnown ftops flows fsmall flarge fone ftwo frest ffactor fmade fterms fterm fsum fsums fwholes fmore ffewer fabove fbelow fr to0 r_2 er_2) rfl gd_X11_shareSize_X11_tellShare rfl (by decide +kernel) (frok hR9 (Nat.le_of_ble_eq_true rfl) (Nat.le_of_ble_eq_true rfl)) (roomk hR9 (Nat.le_of_ble_eq_true rfl) (Nat.le_of_ble_eq_true rfl)) rfl rfl (Nat.le_of_ble_eq_true rfl) 21 rfl rfl [21, 0, 1, 2, 3, 4, 5, 6, 7, 8, 9, 10, 11, 12, 13, 14, 15, 16, 17, 18, 19, 20] [] (wr := []) rfl rfl (by decide) (by decide) (by decide) ?_
    intro v9 w9 hp9
    obtain ⟨rfl, rfl⟩ := hp9
    show V K 5 [(adm, .inr (10, oM adA o_names o_rows o_strength o_most r_2.1 r_2.2.1)), ((adA 1), .inl (gI (kG K), 5, .inl fvalues)), ((adA 3), .inl (gI (kG K), 80, .inl fcells)), ((adA 11), .inl (gZ (kG K), 160, .inl r_2.2.2.1)), ((adA 12), .inl (gI (kG K), 1280, .inl r_2.2.2.2.1)), ((adA 13), .inl (gI (kG K), 1280, .inl r_2.2.2.2.2.1)), ((adA 14), .inl (gI (kG K), 320, .inl r_2.2.2.2.2.2.1)), ((adA 15), .inl (gI (kG K), 320, .inl r_2.2.2.2.2.2.2.1)), ((adA 6), .inl (gI (kG K), 320, .inl r_2.2.2.2.2.2.2.2.1)), ((adA 7), .inl (gI (kG K), 320, .inl r_2.2.2.2.2.2.2.2.2.1)), ((adA 8), .inl (gI (kG K), 320, .inl r_2.2.2.2.2.2.2.2.2.2.1)), ((adA 16), .inl (gI (kG K), 320, .inl r_2.2.2.2.2.2.2.2.2.2.2.1)), ((adA 17), .inl (gI (kG K), 320, .inl r_2.2.2.2.2.2.2.2.2.2.2.2.1)), ((adA 30), .inl (gI (kG K), 5120, .inl r_2.2.2.2.2.2.2.2.2.2.2.2.2.1)), ((adA 32), .inl (gI (kG K), 320, .inl r_2.2.2.2.2.2.2.2.2.2.2.2.2.2.1)), ((adA 35), .inl (gI (kG K), 320, .inl r_2.2.2.2.2.2.2.2.2.2.2.2.2.2.2.1)), ((adA 29), .inl (gI (kG K), 5120, .inl r_2.2.2.2.2.2.2.2.2.2.2.2.2.2.2.2.1)), ((adA 31), .inl (gI (kG K), 5120, .inl r_2.2.2.2.2.2.2.2.2.2.2.2.2.2.2.2.2.1)), ((adA 33), .inl (gI (kG K), 320, .inl r_2.2.2.2.2.2.2.2.2.2.2.2.2.2.2.2.2.2.1)), ((adA 34), .inl (gI (kG K), 320, .inl r_2.2.2.2.2.2.2.2.2.2.2.2.2.2.2.2.2.2.2.1)), ((adA 9), .inl (gI (kG K), 320, .inl r_2.2.2.2.2.2.2.2.2.2.2.2.2.2.2.2.2.2.2.2.1)), ((adA 10), .inl (gI (kG K), 320, .inl r_2.2.2.2.2.2.2.2.2.2.2.2.2.2.2.2.2.2.2.2.2))] 0 0 23 [(0, .ref adm), (1, .int fr), (2, .int to0), (3, .int part), (4, .int r_1)] []
    refine v_iload_n hk dX11_shareSize_23 rfl ?_
    obtain ⟨y_3, ey_3, h⟩ := bd_e (g := id) rfl h
    have Jy_3 : V K 5 [(adm, .inr (10, oM adA o_names o_rows o_strength o_most r_2.1 r_2.2.1)), ((adA 1), .inl (gI (kG K), 5, .inl fvalues)), ((adA 3), .inl (gI (kG K), 80, .inl fcells)), ((adA 11), .inl (gZ (kG K), 160, .inl r_2.2.2.1)), ((adA 12), .inl (gI (kG K), 1280, .inl r_2.2.2.2.1)), ((adA 13), .inl (gI (kG K), 1280, .inl r_2.2.2.2.2.1)), ((adA 14), .inl (gI (kG K), 320, .inl r_2.2.2.2.2.2.1)), ((adA 15), .inl (gI (kG K), 320, .inl r_2.2.2.2.2.2.2.1)), ((adA 6), .inl (gI (kG K), 320, .inl r_2.2.2.2.2.2.2.2.1)), ((adA 7), .inl (gI (kG K), 320, .inl r_2.2.2.2.2.2.2.2.2.1)), ((adA 8), .inl (gI (kG K), 320, .inl r_2.2.2.2.2.2.2.2.2.2.1)), ((adA 16), .inl (gI (kG K), 320, .inl r_2.2.2.2.2.2.2.2.2.2.2.1)), ((adA 17), .inl (gI (kG K), 320, .inl r_2.2.2.2.2.2.2.2.2.2.2.2.1)), ((adA 30), .inl (gI (kG K), 5120, .inl r_2.2.2.2.2.2.2.2.2.2.2.2.2.1)), ((adA 32), .inl (gI (kG K), 320, .inl r_2.2.2.2.2.2.2.2.2.2.2.2.2.2.1)), ((adA 35), .inl (gI (kG K), 320, .inl r_2.2.2.2.2.2.2.2.2.2.2.2.2.2.2.1)), ((adA 29), .inl (gI (kG K), 5120, .inl r_2.2.2.2.2.2.2.2.2.2.2.2.2.2.2.2.1)), ((adA 31), .inl (gI (kG K), 5120, .inl r_2.2.2.2.2.2.2.2.2.2.2.2.2.2.2.2.2.1)), ((adA 33), .inl (gI (kG K), 320, .inl r_2.2.2.2.2.2.2.2.2.2.2.2.2.2.2.2.2.2.1)), ((adA 34), .inl (gI (kG K), 320, .inl r_2.2.2.2.2.2.2.2.2.2.2.2.2.2.2.2.2.2.2.1)), ((adA 9), .inl (gI (kG K), 320, .inl r_2.2.2.2.2.2.2.2.2.2.2.2.2.2.2.2.2.2.2.2.1)), ((adA 10), .inl (gI (kG K), 320, .inl r_2.2.2.2.2.2.2.2.2.2.2.2.2.2.2.2.2.2.2.2.2))] 0 0 42 [(0, .ref adm), (1, .int fr), (2, .int to0), (3, .int part), (4, .int r_1)] [.int y_3] := by
      replace h : some (y_3, r_2.1, r_2.2.1, r_2.2.2.1, r_2.2.2.2.1, r_2.2.2.2.2.1, r_2.2.2.2.2.2.1, r_2.2.2.2.2.2.2.1, r_2.2.2.2.2.2.2.2.1, r_2.2.2.2.2.2.2.2.2.1, r_2.2.2.2.2.2.2.2.2.2.1, r_2.2.2.2.2.2.2.2.2.2.2.1, r_2.2.2.2.2.2.2.2.2.2.2.2.1, r_2.2.2.2.2.2.2.2.2.2.2.2.2.1, r_2.2.2.2.2.2.2.2.2.2.2.2.2.2.1, r_2.2.2.2.2.2.2.2.2.2.2.2.2.2.2.1, r_2.2.2.2.2.2.2.2.2.2.2.2.2.2.2.2.1, r_2.2.2.2.2.2.2.2.2.2.2.2.2.2.2.2.2.1, r_2.2.2.2.2.2.2.2.2.2.2.2.2.2.2.2.2.2.1, r_2.2.2.2.2.2.2.2.2.2.2.2.2.2.2.2.2.2.2.1, r_2.2.2.2.2.2.2.2.2.2.2.2.2.2.2.2.2.2.2.2.1, r_2.2.2.2.2.2.2.2.2.2.2.2.2.2.2.2.2.2.2.2.2) = some r := h
      replace h := Option.some.inj h
      subst h
      refine hrt (some (.int y_3)) _ _ _ _ _ (⟨rfl, rfl⟩) (Nat.zero_le _) (Nat.zero_le _) (dX11_shareSize_42)
    clear h
    have h := id_e ey_3
    clear ey_3
    refine v_if_ne (tgt := 36) hk dX11_shareSize_24 (by decide) (fun hc => ?_) (fun hc => ?_)
    · replace h := it_f (g := id) h hc
      refine v_aload_n hk dX11_shareSize_36 rfl ?_
      refine v_get (C := RX11) (T := TX11) (N := 39) (ci := 10) (v := .ref (adA 10)) hk dX11_shareSize_37 w2i_X11_shareSize_X110 0 rfl rfl 10 (by decide) (by decide +kernel) rfl rfl ?_
      refine v_iconst (v := 0) hk dX11_shareSize_40 (by decide) ?_
      obtain ⟨hi, h⟩ := ok_e (g := id) rfl h
      refine v_ialdV hk dX11_shareSize_41 21 rfl (ix_in hi) ?_
      replace h : some (r_2.2.2.2.2.2.2.2.2.2.2.2.2.2.2.2.2.2.2.2.2 (0 : Int32).toNatClampNeg : Int32) = some y_3 := h
      replace h := Option.some.inj h
      subst h
      exact Jy_3
    · replace h := it_t (g := id) h hc
      refine v_aload_n hk dX11_shareSize_27 rfl ?_
      refine v_get (C := RX11) (T := TX11) (N := 39) (ci := 10) (v := .ref (adA 9)) hk dX11_shareSize_28 w2i_X11_shareSize_X110 0 rfl rfl 9 (by decide) (by decide +kernel) rfl rfl ?_
      refine v_iconst (v := 0) hk dX11_shareSize_31 (by decide) ?_
      obtain ⟨hi, h⟩ := ok_e (g := id) rfl h
      refine v_ialdV hk dX11_shareSize_32 20 rfl (ix_in hi) ?_
      refine v_goto (tgt := 42) hk dX11_shareSize_33 (by decide) ?_
      replace h : some (r_2.2.2.2.2.2.2.2.2.2.2.2.2.2.2.2.2.2.2.2.1 (0 : Int32).toNatClampNeg : Int32) = some y_3 := h
      replace h := Option.some.inj h
      subst h
      exact Jy_3
  · replace h := it_f (g := id) h hc
    refine v_iload hk dX11_shareSize_14 rfl ?_
    replace h : some (r_1, o_toldGraph, o_toldArc, fisKnown, ftops, flows, fsmall, flarge, fone, ftwo, frest, ffactor, fmade, fterms, fterm, fsum, fsums, fwholes, fmore, ffewer, fabove, fbelow) = some r := h
    replace h := Option.some.inj h
    subst h
    refine v_perm [21, 0, 1, 2, 3, 4, 5, 6, 7, 8, 9, 10, 11, 12, 13, 14, 15, 16, 17, 18, 19, 20] (ws' := [(adm, .inr (10, oM adA o_names o_rows o_strength o_most o_toldGraph o_toldArc)), ((adA 1), .inl (gI (kG K), 5, .inl fvalues)), ((adA 3), .inl (gI (kG K), 80, .inl fcells)), ((adA 11), .inl (gZ (kG K), 160, .inl fisKnown)), ((adA 12), .inl (gI (kG K), 1280, .inl ftops)), ((adA 13), .inl (gI (kG K), 1280, .inl flows)), ((adA 14), .inl (gI (kG K), 320, .inl fsmall)), ((adA 15), .inl (gI (kG K), 320, .inl flarge)), ((adA 6), .inl (gI (kG K), 320, .inl fone)), ((adA 7), .inl (gI (kG K), 320, .inl ftwo)), ((adA 8), .inl (gI (kG K), 320, .inl frest)), ((adA 16), .inl (gI (kG K), 320, .inl ffactor)), ((adA 17), .inl (gI (kG K), 320, .inl fmade)), ((adA 30), .inl (gI (kG K), 5120, .inl fterms)), ((adA 32), .inl (gI (kG K), 320, .inl fterm)), ((adA 35), .inl (gI (kG K), 320, .inl fsum)), ((adA 29), .inl (gI (kG K), 5120, .inl fsums)), ((adA 31), .inl (gI (kG K), 5120, .inl fwholes)), ((adA 33), .inl (gI (kG K), 320, .inl fmore)), ((adA 34), .inl (gI (kG K), 320, .inl ffewer)), ((adA 9), .inl (gI (kG K), 320, .inl fabove)), ((adA 10), .inl (gI (kG K), 320, .inl fbelow))]) rfl rfl (by decide) ?_
    refine hrt (some (.int r_1)) _ _ _ _ _ (⟨rfl, rfl⟩) (Nat.zero_le _) (Nat.zero_le _) (dX11_shareSize_16)
abbrev rm_X11_shareWord : Room := { frames := 8, cells := 0, slots := 0, locals := 194 }
set_option maxHeartbeats 4000000 in
set_option maxRecDepth 100000 in
theorem c_X11_shareWord (l : Launch) (G : GG) (adm : Nat) (adA : Nat → Nat) (o_names : Int32) (o_rows : Int32) (o_strength : Int32) (o_most : Int32) (o_toldGraph : Int32) (o_toldArc : Int32) (fvalues : Nat → Int32) (fcells : Nat → Int32) (fisKnown : Nat → Int32) (ftops : Nat → Int32) (flows : Nat → Int32) (fsmall : Nat → Int32) (flarge : Nat → Int32) (fone : Nat → Int32) (ftwo : Nat → Int32) (frest : Nat → Int32) (ffactor : Nat → Int32) (fmade : Nat → Int32) (fterms : Nat → Int32) (fterm : Nat → Int32) (fsum : Nat → Int32) (fsums : Nat → Int32) (fwholes : Nat → Int32) (fmore : Nat → Int32) (ffewer : Nat → Int32) (fabove : Nat → Int32) (fbelow : Nat → Int32) (fr : Int32) (to0 : Int32) (part : Int32) (i : Int32) (r : Int64 × Int32 × Int32 × (Nat → Int32) × (Nat → Int32) × (Nat → Int32) × (Nat → Int32) × (Nat → Int32) × (Nat → Int32) × (Nat → Int32) × (Nat → Int32) × (Nat → Int32) × (Nat → Int32) × (Nat → Int32) × (Nat → Int32) × (Nat → Int32) × (Nat → Int32) × (Nat → Int32) × (Nat → Int32) × (Nat → Int32) × (Nat → Int32) × (Nat → Int32)) (h : m_X11_shareWord o_names o_rows o_strength o_most o_toldGraph o_toldArc fvalues fcells fisKnown ftops flows fsmall flarge fone ftwo frest ffactor fmade fterms fterm fsum fsums fwholes fmore ffewer fabove fbelow fr to0 part i = some r) : Ctr l G yX11_shareWord w2_X11_shareWord rm_X11_shareWord [.ref adm, .int fr, .int to0, .int part, .int i] [(adm, .inr (10, oM adA o_names o_rows o_strength o_most o_toldGraph o_toldArc)), ((adA 1), .inl (gI G, 5, .inl fvalues)), ((adA 3), .inl (gI G, 80, .inl fcells)), ((adA 11), .inl (gZ G, 160, .inl fisKnown)), ((adA 12), .inl (gI G, 1280, .inl ftops)), ((adA 13), .inl (gI G, 1280, .inl flows)), ((adA 14), .inl (gI G, 320, .inl fsmall)), ((adA 15), .inl (gI G, 320, .inl flarge)), ((adA 6), .inl (gI G, 320, .inl fone)), ((adA 7), .inl (gI G, 320, .inl ftwo)), ((adA 8), .inl (gI G, 320, .inl frest)), ((adA 16), .inl (gI G, 320, .inl ffactor)), ((adA 17), .inl (gI G, 320, .inl fmade)), ((adA 30), .inl (gI G, 5120, .inl fterms)), ((adA 32), .inl (gI G, 320, .inl fterm)), ((adA 35), .inl (gI G, 320, .inl fsum)), ((adA 29), .inl (gI G, 5120, .inl fsums)), ((adA 31), .inl (gI G, 5120, .inl fwholes)), ((adA 33), .inl (gI G, 320, .inl fmore)), ((adA 34), .inl (gI G, 320, .inl ffewer)), ((adA 9), .inl (gI G, 320, .inl fabove)), ((adA 10), .inl (gI G, 320, .inl fbelow))] (fun v w => v = some (.long r.1) ∧ w = [(adm, .inr (10, oM adA o_names o_rows o_strength o_most r.2.1 r.2.2.1)), ((adA 1), .inl (gI G, 5, .inl fvalues)), ((adA 3), .inl (gI G, 80, .inl fcells)), ((adA 11), .inl (gZ G, 160, .inl r.2.2.2.1)), ((adA 12), .inl (gI G, 1280, .inl r.2.2.2.2.1)), ((adA 13), .inl (gI G, 1280, .inl r.2.2.2.2.2.1)), ((adA 14), .inl (gI G, 320, .inl r.2.2.2.2.2.2.1)), ((adA 15), .inl (gI G, 320, .inl r.2.2.2.2.2.2.2.1)), ((adA 6), .inl (gI G, 320, .inl r.2.2.2.2.2.2.2.2.1)), ((adA 7), .inl (gI G, 320, .inl r.2.2.2.2.2.2.2.2.2.1)), ((adA 8), .inl (gI G, 320, .inl r.2.2.2.2.2.2.2.2.2.2.1)), ((adA 16), .inl (gI G, 320, .inl r.2.2.2.2.2.2.2.2.2.2.2.1)), ((adA 17), .inl (gI G, 320, .inl r.2.2.2.2.2.2.2.2.2.2.2.2.1)), ((adA 30), .inl (gI G, 5120, .inl r.2.2.2.2.2.2.2.2.2.2.2.2.2.1)), ((adA 32), .inl (gI G, 320, .inl r.2.2.2.2.2.2.2.2.2.2.2.2.2.2.1)), ((adA 35), .inl (gI G, 320, .inl r.2.2.2.2.2.2.2.2.2.2.2.2.2.2.2.1)), ((adA 29), .inl (gI G, 5120, .inl r.2.2.2.2.2.2.2.2.2.2.2.2.2.2.2.2.1)), ((adA 31), .inl (gI G, 5120, .inl r.2.2.2.2.2.2.2.2.2.2.2.2.2.2.2.2.2.1)), ((adA 33), .inl (gI G, 320, .inl r.2.2.2.2.2.2.2.2.2.2.2.2.2.2.2.2.2.2.1)), ((adA 34), .inl (gI G, 320, .inl r.2.2.2.2.2.2.2.2.2.2.2.2.2.2.2.2.2.2.2.1)), ((adA 9), .inl (gI G, 320, .inl r.2.2.2.2.2.2.2.2.2.2.2.2.2.2.2.2.2.2.2.2.1)), ((adA 10), .inl (gI G, 320, .inl r.2.2.2.2.2.2.2.2.2.2.2.2.2.2.2.2.2.2.2.2.2))]) := by
  refine ctr_entry (cc := cX11_shareWord) (maxL := 6) (ret := some .long) (lv0 := [(0, .ref adm), (1, .int fr), (2, .int to0), (3, .int part), (4, .int i)]) (by decide) rfl (Nat.le_of_ble_eq_true rfl) (rfl) ?_
  intro K hl9 hG9 hk hn9 hrt
  subst hl9
  subst hG9
  have hR9 : RoomGe rm_X11_shareWord rm_X11_shareWord := RoomGe.rf
  replace h := id_e h
  rw [em_X11_shareWord] at h
  refine v_aload_n hk dX11_shareWord_0 rfl ?_
  refine v_iload_n hk dX11_shareWord_1 rfl ?_
  refine v_iload_n hk dX11_shareWord_2 rfl ?_
  refine v_iload_n hk dX11_shareWord_3 rfl ?_
  obtain ⟨r_1, er_1, h⟩ := bd_e (g := id) rfl h
  refine v_callV (n := 3) (st := []) (b := adm) (T := TX11) (N := 39) hk dX11_shareWord_4 (c_X11_shareFault (kl K) (kG K) adm adA o_names o_rows o_strength o_most o_toldGraph o_toldArc fr to0 part r_1 er_1) rfl gd_X11_shareWord_X11_shareFault rfl (by decide +kernel) (frok hR9 (Nat.le_of_ble_eq_true rfl) (Nat.le_of_ble_eq_true rfl)) (roomk hR9 (Nat.le_of_ble_eq_true rfl) (Nat.le_of_ble_eq_true rfl)) rfl rfl (Nat.le_of_ble_eq_true rfl) 0 rfl rfl [0] [1, 2, 3, 4, 5, 6, 7, 8, 9, 10, 11, 12, 13, 14, 15, 16, 17, 18, 19, 20, 21] (wr := [((adA 1), .inl (gI (kG K), 5, .inl fvalues)), ((adA 3), .inl (gI (kG K), 80, .inl fcells)), ((adA 11), .inl (gZ (kG K), 160, .inl fisKnown)), ((adA 12), .inl (gI (kG K), 1280, .inl ftops)), ((adA 13), .inl (gI (kG K), 1280, .inl flows)), ((adA 14), .inl (gI (kG K), 320, .inl fsmall)), ((adA 15), .inl (gI (kG K), 320, .inl flarge)), ((adA 6), .inl (gI (kG K), 320, .inl fone)), ((adA 7), .inl (gI (kG K), 320, .inl ftwo)), ((adA 8), .inl (gI (kG K), 320, .inl frest)), ((adA 16), .inl (gI (kG K), 320, .inl ffactor)), ((adA 17), .inl (gI (kG K), 320, .inl fmade)), ((adA 30), .inl (gI (kG K), 5120, .inl fterms)), ((adA 32), .inl (gI (kG K), 320, .inl fterm)), ((adA 35), .inl (gI (kG K), 320, .inl fsum)), ((adA 29), .inl (gI (kG K), 5120, .inl fsums)), ((adA 31), .inl (gI (kG K), 5120, .inl fwholes)), ((adA 33), .inl (gI (kG K), 320, .inl fmore)), ((adA 34), .inl (gI (kG K), 320, .inl ffewer)), ((adA 9), .inl (gI (kG K), 320, .inl fabove)), ((adA 10), .inl (gI (kG K), 320, .inl fbelow))]) rfl rfl (by decide) (by decide) (by decide) ?_
  intro v9 w9 hp9
  obtain ⟨rfl, rfl⟩ := hp9
  show V K 6 [((adA 1), .inl (gI (kG K), 5, .inl fvalues)), ((adA 3), .inl (gI (kG K), 80, .inl fcells)), ((adA 11), .inl (gZ (kG K), 160, .inl fisKnown)), ((adA 12), .inl (gI (kG K), 1280, .inl ftops)), ((adA 13), .inl (gI (kG K), 1280, .inl flows)), ((adA 14), .inl (gI (kG K), 320, .inl fsmall)), ((adA 15), .inl (gI (kG K), 320, .inl flarge)), ((adA 6), .inl (gI (kG K), 320, .inl fone)), ((adA 7), .inl (gI (kG K), 320, .inl ftwo)), ((adA 8), .inl (gI (kG K), 320, .inl frest)), ((adA 16), .inl (gI (kG K), 320, .inl ffactor)), ((adA 17), .inl (gI (kG K), 320, .inl fmade)), ((adA 30), .inl (gI (kG K), 5120, .inl fterms)), ((adA 32), .inl (gI (kG K), 320, .inl fterm)), ((adA 35), .inl (gI (kG K), 320, .inl fsum)), ((adA 29), .inl (gI (kG K), 5120, .inl fsums)), ((adA 31), .inl (gI (kG K), 5120, .inl fwholes)), ((adA 33), .inl (gI (kG K), 320, .inl fmore)), ((adA 34), .inl (gI (kG K), 320, .inl ffewer)), ((adA 9), .inl (gI (kG K), 320, .inl fabove)), ((adA 10), .inl (gI (kG K), 320, .inl fbelow)), (adm, .inr (10, oM adA o_names o_rows o_strength o_most o_toldGraph o_toldArc))] 0 0 7 [(0, .ref adm), (1, .int fr), (2, .int to0), (3, .int part), (4, .int i)] [.int r_1]
  refine v_istore hk dX11_shareWord_7 (by decide) [1, 2, 3, 4, 5, 0] (lv' := [(0, .ref adm), (1, .int fr), (2, .int to0), (3, .int part), (4, .int i), (5, .int r_1)]) rfl ?_
  refine v_iload hk dX11_shareWord_9 rfl ?_
  refine v_if_ge (tgt := 18) hk dX11_shareWord_11 (by decide) (fun hc => ?_) (fun hc => ?_)
  · replace h := it_t (g := id) h hc
    refine v_aload_n hk dX11_shareWord_18 rfl ?_
    refine v_iload_n hk dX11_shareWord_19 rfl ?_
    refine v_iload_n hk dX11_shareWord_20 rfl ?_
    obtain ⟨r_2, er_2, h⟩ := bd_e (g := id) rfl h
    refine v_callV (n := 2) (st := []) (b := adm) (T := TX11) (N := 39) hk dX11_shareWord_21 (c_X11_tellShare (kl K) (kG K) adm adA o_names o_rows o_strength o_most o_toldGraph o_toldArc fvalues fcells fisKnown ftops flows fsmall flarge fone ftwo frest ffactor fmade fterms fterm fsum fsums fwholes fmore ffewer fabove fbelow fr to0 r_2 er_2) rfl gd_X11_shareWord_X11_tellShare rfl (by decide +kernel) (frok hR9 (Nat.le_of_ble_eq_true rfl) (Nat.le_of_ble_eq_true rfl)) (roomk hR9 (Nat.le_of_ble_eq_true rfl) (Nat.le_of_ble_eq_true rfl)) rfl rfl (Nat.le_of_ble_eq_true rfl) 21 rfl rfl [21, 0, 1, 2, 3, 4, 5, 6, 7, 8, 9, 10, 11, 12, 13, 14, 15, 16, 17, 18, 19, 20] [] (wr := []) rfl rfl (by decide) (by decide) (by decide) ?_
    intro v9 w9 hp9
    obtain ⟨rfl, rfl⟩ := hp9
    show V K 6 [(adm, .inr (10, oM adA o_names o_rows o_strength o_most r_2.1 r_2.2.1)), ((adA 1), .inl (gI (kG K), 5, .inl fvalues)), ((adA 3), .inl (gI (kG K), 80, .inl fcells)), ((adA 11), .inl (gZ (kG K), 160, .inl r_2.2.2.1)), ((adA 12), .inl (gI (kG K), 1280, .inl r_2.2.2.2.1)), ((adA 13), .inl (gI (kG K), 1280, .inl r_2.2.2.2.2.1)), ((adA 14), .inl (gI (kG K), 320, .inl r_2.2.2.2.2.2.1)), ((adA 15), .inl (gI (kG K), 320, .inl r_2.2.2.2.2.2.2.1)), ((adA 6), .inl (gI (kG K), 320, .inl r_2.2.2.2.2.2.2.2.1)), ((adA 7), .inl (gI (kG K), 320, .inl r_2.2.2.2.2.2.2.2.2.1)), ((adA 8), .inl (gI (kG K), 320, .inl r_2.2.2.2.2.2.2.2.2.2.1)), ((adA 16), .inl (gI (kG K), 320, .inl r_2.2.2.2.2.2.2.2.2.2.2.1)), ((adA 17), .inl (gI (kG K), 320, .inl r_2.2.2.2.2.2.2.2.2.2.2.2.1)), ((adA 30), .inl (gI (kG K), 5120, .inl r_2.2.2.2.2.2.2.2.2.2.2.2.2.1)), ((adA 32), .inl (gI (kG K), 320, .inl r_2.2.2.2.2.2.2.2.2.2.2.2.2.2.1)), ((adA 35), .inl (gI (kG K), 320, .inl r_2.2.2.2.2.2.2.2.2.2.2.2.2.2.2.1)), ((adA 29), .inl (gI (kG K), 5120, .inl r_2.2.2.2.2.2.2.2.2.2.2.2.2.2.2.2.1)), ((adA 31), .inl (gI (kG K), 5120, .inl r_2.2.2.2.2.2.2.2.2.2.2.2.2.2.2.2.2.1)), ((adA 33), .inl (gI (kG K), 320, .inl r_2.2.2.2.2.2.2.2.2.2.2.2.2.2.2.2.2.2.1)), ((adA 34), .inl (gI (kG K), 320, .inl r_2.2.2.2.2.2.2.2.2.2.2.2.2.2.2.2.2.2.2.1)), ((adA 9), .inl (gI (kG K), 320, .inl r_2.2.2.2.2.2.2.2.2.2.2.2.2.2.2.2.2.2.2.2.1)), ((adA 10), .inl (gI (kG K), 320, .inl r_2.2.2.2.2.2.2.2.2.2.2.2.2.2.2.2.2.2.2.2.2))] 0 0 24 [(0, .ref adm), (1, .int fr), (2, .int to0), (3, .int part), (4, .int i), (5, .int r_1)] []
    refine v_aload_n hk dX11_shareWord_24 rfl ?_
    refine v_iload_n hk dX11_shareWord_25 rfl ?_
    refine v_iload hk dX11_shareWord_26 rfl ?_
    obtain ⟨r_3, er_3, h⟩ := bd_e (g := id) rfl h
    refine v_callV (n := 2) (st := []) (b := adm) (T := TX11) (N := 39) hk dX11_shareWord_28 (c_X11_wordOf (kl K) (kG K) adm adA o_names o_rows o_strength o_most r_2.1 r_2.2.1 r_2.2.2.2.2.2.2.2.2.2.2.2.2.2.2.2.2.2.2.2.1 r_2.2.2.2.2.2.2.2.2.2.2.2.2.2.2.2.2.2.2.2.2 part i r_3 er_3) rfl gd_X11_shareWord_X11_wordOf rfl (by decide +kernel) (frok hR9 (Nat.le_of_ble_eq_true rfl) (Nat.le_of_ble_eq_true rfl)) (roomk hR9 (Nat.le_of_ble_eq_true rfl) (Nat.le_of_ble_eq_true rfl)) rfl rfl (Nat.le_of_ble_eq_true rfl) 0 rfl rfl [0, 20, 21] [1, 2, 3, 4, 5, 6, 7, 8, 9, 10, 11, 12, 13, 14, 15, 16, 17, 18, 19] (wr := [((adA 1), .inl (gI (kG K), 5, .inl fvalues)), ((adA 3), .inl (gI (kG K), 80, .inl fcells)), ((adA 11), .inl (gZ (kG K), 160, .inl r_2.2.2.1)), ((adA 12), .inl (gI (kG K), 1280, .inl r_2.2.2.2.1)), ((adA 13), .inl (gI (kG K), 1280, .inl r_2.2.2.2.2.1)), ((adA 14), .inl (gI (kG K), 320, .inl r_2.2.2.2.2.2.1)), ((adA 15), .inl (gI (kG K), 320, .inl r_2.2.2.2.2.2.2.1)), ((adA 6), .inl (gI (kG K), 320, .inl r_2.2.2.2.2.2.2.2.1)), ((adA 7), .inl (gI (kG K), 320, .inl r_2.2.2.2.2.2.2.2.2.1)), ((adA 8), .inl (gI (kG K), 320, .inl r_2.2.2.2.2.2.2.2.2.2.1)), ((adA 16), .inl (gI (kG K), 320, .inl r_2.2.2.2.2.2.2.2.2.2.2.1)), ((adA 17), .inl (gI (kG K), 320, .inl r_2.2.2.2.2.2.2.2.2.2.2.2.1)), ((adA 30), .inl (gI (kG K), 5120, .inl r_2.2.2.2.2.2.2.2.2.2.2.2.2.1)), ((adA 32), .inl (gI (kG K), 320, .inl r_2.2.2.2.2.2.2.2.2.2.2.2.2.2.1)), ((adA 35), .inl (gI (kG K), 320, .inl r_2.2.2.2.2.2.2.2.2.2.2.2.2.2.2.1)), ((adA 29), .inl (gI (kG K), 5120, .inl r_2.2.2.2.2.2.2.2.2.2.2.2.2.2.2.2.1)), ((adA 31), .inl (gI (kG K), 5120, .inl r_2.2.2.2.2.2.2.2.2.2.2.2.2.2.2.2.2.1)), ((adA 33), .inl (gI (kG K), 320, .inl r_2.2.2.2.2.2.2.2.2.2.2.2.2.2.2.2.2.2.1)), ((adA 34), .inl (gI (kG K), 320, .inl r_2.2.2.2.2.2.2.2.2.2.2.2.2.2.2.2.2.2.2.1))]) rfl rfl (by decide) (by decide) (by decide) ?_
    intro v9 w9 hp9
    obtain ⟨rfl, rfl⟩ := hp9
    show V K 6 [((adA 1), .inl (gI (kG K), 5, .inl fvalues)), ((adA 3), .inl (gI (kG K), 80, .inl fcells)), ((adA 11), .inl (gZ (kG K), 160, .inl r_2.2.2.1)), ((adA 12), .inl (gI (kG K), 1280, .inl r_2.2.2.2.1)), ((adA 13), .inl (gI (kG K), 1280, .inl r_2.2.2.2.2.1)), ((adA 14), .inl (gI (kG K), 320, .inl r_2.2.2.2.2.2.1)), ((adA 15), .inl (gI (kG K), 320, .inl r_2.2.2.2.2.2.2.1)), ((adA 6), .inl (gI (kG K), 320, .inl r_2.2.2.2.2.2.2.2.1)), ((adA 7), .inl (gI (kG K), 320, .inl r_2.2.2.2.2.2.2.2.2.1)), ((adA 8), .inl (gI (kG K), 320, .inl r_2.2.2.2.2.2.2.2.2.2.1)), ((adA 16), .inl (gI (kG K), 320, .inl r_2.2.2.2.2.2.2.2.2.2.2.1)), ((adA 17), .inl (gI (kG K), 320, .inl r_2.2.2.2.2.2.2.2.2.2.2.2.1)), ((adA 30), .inl (gI (kG K), 5120, .inl r_2.2.2.2.2.2.2.2.2.2.2.2.2.1)), ((adA 32), .inl (gI (kG K), 320, .inl r_2.2.2.2.2.2.2.2.2.2.2.2.2.2.1)), ((adA 35), .inl (gI (kG K), 320, .inl r_2.2.2.2.2.2.2.2.2.2.2.2.2.2.2.1)), ((adA 29), .inl (gI (kG K), 5120, .inl r_2.2.2.2.2.2.2.2.2.2.2.2.2.2.2.2.1)), ((adA 31), .inl (gI (kG K), 5120, .inl r_2.2.2.2.2.2.2.2.2.2.2.2.2.2.2.2.2.1)), ((adA 33), .inl (gI (kG K), 320, .inl r_2.2.2.2.2.2.2.2.2.2.2.2.2.2.2.2.2.2.1)), ((adA 34), .inl (gI (kG K), 320, .inl r_2.2.2.2.2.2.2.2.2.2.2.2.2.2.2.2.2.2.2.1)), (adm, .inr (10, oM adA o_names o_rows o_strength o_most r_2.1 r_2.2.1)), ((adA 9), .inl (gI (kG K), 320, .inl r_2.2.2.2.2.2.2.2.2.2.2.2.2.2.2.2.2.2.2.2.1)), ((adA 10), .inl (gI (kG K), 320, .inl r_2.2.2.2.2.2.2.2.2.2.2.2.2.2.2.2.2.2.2.2.2))] 0 0 31 [(0, .ref adm), (1, .int fr), (2, .int to0), (3, .int part), (4, .int i), (5, .int r_1)] [.long r_3]
    replace h : some (r_3, r_2.1, r_2.2.1, r_2.2.2.1, r_2.2.2.2.1, r_2.2.2.2.2.1, r_2.2.2.2.2.2.1, r_2.2.2.2.2.2.2.1, r_2.2.2.2.2.2.2.2.1, r_2.2.2.2.2.2.2.2.2.1, r_2.2.2.2.2.2.2.2.2.2.1, r_2.2.2.2.2.2.2.2.2.2.2.1, r_2.2.2.2.2.2.2.2.2.2.2.2.1, r_2.2.2.2.2.2.2.2.2.2.2.2.2.1, r_2.2.2.2.2.2.2.2.2.2.2.2.2.2.1, r_2.2.2.2.2.2.2.2.2.2.2.2.2.2.2.1, r_2.2.2.2.2.2.2.2.2.2.2.2.2.2.2.2.1, r_2.2.2.2.2.2.2.2.2.2.2.2.2.2.2.2.2.1, r_2.2.2.2.2.2.2.2.2.2.2.2.2.2.2.2.2.2.1, r_2.2.2.2.2.2.2.2.2.2.2.2.2.2.2.2.2.2.2.1, r_2.2.2.2.2.2.2.2.2.2.2.2.2.2.2.2.2.2.2.2.1, r_2.2.2.2.2.2.2.2.2.2.2.2.2.2.2.2.2.2.2.2.2) = some r := h
    replace h := Option.some.inj h
    subst h
    refine v_perm [19, 0, 1, 2, 3, 4, 5, 6, 7, 8, 9, 10, 11, 12, 13, 14, 15, 16, 17, 18, 20, 21] (ws' := [(adm, .inr (10, oM adA o_names o_rows o_strength o_most r_2.1 r_2.2.1)), ((adA 1), .inl (gI (kG K), 5, .inl fvalues)), ((adA 3), .inl (gI (kG K), 80, .inl fcells)), ((adA 11), .inl (gZ (kG K), 160, .inl r_2.2.2.1)), ((adA 12), .inl (gI (kG K), 1280, .inl r_2.2.2.2.1)), ((adA 13), .inl (gI (kG K), 1280, .inl r_2.2.2.2.2.1)), ((adA 14), .inl (gI (kG K), 320, .inl r_2.2.2.2.2.2.1)), ((adA 15), .inl (gI (kG K), 320, .inl r_2.2.2.2.2.2.2.1)), ((adA 6), .inl (gI (kG K), 320, .inl r_2.2.2.2.2.2.2.2.1)), ((adA 7), .inl (gI (kG K), 320, .inl r_2.2.2.2.2.2.2.2.2.1)), ((adA 8), .inl (gI (kG K), 320, .inl r_2.2.2.2.2.2.2.2.2.2.1)), ((adA 16), .inl (gI (kG K), 320, .inl r_2.2.2.2.2.2.2.2.2.2.2.1)), ((adA 17), .inl (gI (kG K), 320, .inl r_2.2.2.2.2.2.2.2.2.2.2.2.1)), ((adA 30), .inl (gI (kG K), 5120, .inl r_2.2.2.2.2.2.2.2.2.2.2.2.2.1)), ((adA 32), .inl (gI (kG K), 320, .inl r_2.2.2.2.2.2.2.2.2.2.2.2.2.2.1)), ((adA 35), .inl (gI (kG K), 320, .inl r_2.2.2.2.2.2.2.2.2.2.2.2.2.2.2.1)), ((adA 29), .inl (gI (kG K), 5120, .inl r_2.2.2.2.2.2.2.2.2.2.2.2.2.2.2.2.1)), ((adA 31), .inl (gI (kG K), 5120, .inl r_2.2.2.2.2.2.2.2.2.2.2.2.2.2.2.2.2.1)), ((adA 33), .inl (gI (kG K), 320, .inl r_2.2.2.2.2.2.2.2.2.2.2.2.2.2.2.2.2.2.1)), ((adA 34), .inl (gI (kG K), 320, .inl r_2.2.2.2.2.2.2.2.2.2.2.2.2.2.2.2.2.2.2.1)), ((adA 9), .inl (gI (kG K), 320, .inl r_2.2.2.2.2.2.2.2.2.2.2.2.2.2.2.2.2.2.2.2.1)), ((adA 10), .inl (gI (kG K), 320, .inl r_2.2.2.2.2.2.2.2.2.2.2.2.2.2.2.2.2.2.2.2.2))]) rfl rfl (by decide) ?_
    refine hrt (some (.long r_3)) _ _ _ _ _ (⟨rfl, rfl⟩) (Nat.zero_le _) (Nat.zero_le _) (dX11_shareWord_31)
  · replace h := it_f (g := id) h hc
    refine v_iload hk dX11_shareWord_14 rfl ?_
    refine v_i2l hk dX11_shareWord_16 ?_
    replace h : some (r_1.toInt64, o_toldGraph, o_toldArc, fisKnown, ftops, flows, fsmall, flarge, fone, ftwo, frest, ffactor, fmade, fterms, fterm, fsum, fsums, fwholes, fmore, ffewer, fabove, fbelow) = some r := h
    replace h := Option.some.inj h
    subst h
    refine v_perm [21, 0, 1, 2, 3, 4, 5, 6, 7, 8, 9, 10, 11, 12, 13, 14, 15, 16, 17, 18, 19, 20] (ws' := [(adm, .inr (10, oM adA o_names o_rows o_strength o_most o_toldGraph o_toldArc)), ((adA 1), .inl (gI (kG K), 5, .inl fvalues)), ((adA 3), .inl (gI (kG K), 80, .inl fcells)), ((adA 11), .inl (gZ (kG K), 160, .inl fisKnown)), ((adA 12), .inl (gI (kG K), 1280, .inl ftops)), ((adA 13), .inl (gI (kG K), 1280, .inl flows)), ((adA 14), .inl (gI (kG K), 320, .inl fsmall)), ((adA 15), .inl (gI (kG K), 320, .inl flarge)), ((adA 6), .inl (gI (kG K), 320, .inl fone)), ((adA 7), .inl (gI (kG K), 320, .inl ftwo)), ((adA 8), .inl (gI (kG K), 320, .inl frest)), ((adA 16), .inl (gI (kG K), 320, .inl ffactor)), ((adA 17), .inl (gI (kG K), 320, .inl fmade)), ((adA 30), .inl (gI (kG K), 5120, .inl fterms)), ((adA 32), .inl (gI (kG K), 320, .inl fterm)), ((adA 35), .inl (gI (kG K), 320, .inl fsum)), ((adA 29), .inl (gI (kG K), 5120, .inl fsums)), ((adA 31), .inl (gI (kG K), 5120, .inl fwholes)), ((adA 33), .inl (gI (kG K), 320, .inl fmore)), ((adA 34), .inl (gI (kG K), 320, .inl ffewer)), ((adA 9), .inl (gI (kG K), 320, .inl fabove)), ((adA 10), .inl (gI (kG K), 320, .inl fbelow))]) rfl rfl (by decide) ?_
    refine hrt (some (.long r_1.toInt64)) _ _ _ _ _ (⟨rfl, rfl⟩) (Nat.zero_le _) (Nat.zero_le _) (dX11_shareWord_17)
abbrev rm_X11_test : Room := { frames := 2, cells := 0, slots := 0, locals := 46 }
set_option maxHeartbeats 4000000 in
set_option maxRecDepth 100000 in
theorem L_X11_test_79 {K : Cx} {R9 : Room} (hk : Ok K cX11_test 18 RX11 w2_X11_test R9) (hR9 : RoomGe R9 rm_X11_test) (adm : Nat) (adA : Nat → Nat) (o_names : Int32) (o_rows : Int32) (o_strength : Int32) (o_most : Int32) (o_toldGraph : Int32) (o_toldArc : Int32) (fvalues : Nat → Int32) (fcells : Nat → Int32) (p0 : Int32) (p1 : Int32) (p2 : Int32) (v : Int32) (part : Int32) (b9 : (Int32 × (Nat → Int32) × (Nat → Int32) × (Nat → Int32))) (kk0 : ∀ q9 : (Int32 × (Nat → Int32) × (Nat → Int32) × (Nat → Int32)), b9 = q9 → V K 18 [((adA 1), .inl (gI (kG K), 5, .inl fvalues)), ((adA 3), .inl (gI (kG K), 80, .inl fcells)), ((adA 36), .inl (gI (kG K), 3, .inl q9.2.1)), ((adA 37), .inl (gI (kG K), 3, .inl q9.2.2.1)), ((adA 38), .inl (gI (kG K), 9, .inl q9.2.2.2)), (adm, .inr (10, oM adA o_names o_rows o_strength o_most o_toldGraph o_toldArc))] 0 0 120 [(0, .ref adm), (1, .int p0), (2, .int p1), (3, .int p2), (4, .int v), (5, .int part), (6, .int q9.1)] []) : ∀ (nn : Nat) (i6_4 : Int32) (fofA_5 : Nat → Int32) (fofB_6 : Nat → Int32) (fboth_7 : Nat → Int32), lp (b_X11_test_79) nn (i6_4, fofA_5, fofB_6, fboth_7) = some b9 → V K 18 [((adA 1), .inl (gI (kG K), 5, .inl fvalues)), ((adA 3), .inl (gI (kG K), 80, .inl fcells)), ((adA 36), .inl (gI (kG K), 3, .inl fofA_5)), ((adA 37), .inl (gI (kG K), 3, .inl fofB_6)), ((adA 38), .inl (gI (kG K), 9, .inl fboth_7)), (adm, .inr (10, oM adA o_names o_rows o_strength o_most o_toldGraph o_toldArc))] 0 0 79 [(0, .ref adm), (1, .int p0), (2, .int p1), (3, .int p2), (4, .int v), (5, .int part), (6, .int i6_4)] [] := by
  intro nn
  induction nn with
  | zero => intro i6_4 fofA_5 fofB_6 fboth_7 h; exact absurd h (by simp [lp])
  | succ nn ih =>
    intro i6_4 fofA_5 fofB_6 fboth_7 h
    replace h := lp_s h
    rw [eb_X11_test_79] at h
    refine v_iload hk dX11_test_79 rfl ?_
    refine v_bipush (v := 9) hk dX11_test_81 (by decide) ?_
    refine v_icmp_ge (tgt := 120) hk dX11_test_83 (by decide) (fun hc => ?_) (fun hc => ?_)
    · replace h := it_t (g := (lpk (lp (b_X11_test_79) nn))) h hc
      replace h : some (i6_4, fofA_5, fofB_6, fboth_7) = some b9 := h
      replace h := Option.some.inj h
      subst h
      exact kk0 _ rfl
    · replace h := it_f (g := (lpk (lp (b_X11_test_79) nn))) h hc
      refine v_aload_n hk dX11_test_86 rfl ?_
      refine v_get (C := RX11) (T := TX11) (N := 39) (ci := 10) (v := .ref (adA 36)) hk dX11_test_87 w2i_X11_test_X110 5 rfl rfl 36 (by decide) (by decide +kernel) rfl rfl ?_
      refine v_iload hk dX11_test_90 rfl ?_
      refine v_iconst (v := 3) hk dX11_test_92 (by decide) ?_
      refine v_irem hk dX11_test_93 (by decide) ?_
      refine v_iconst (v := 0) hk dX11_test_94 (by decide) ?_
      obtain ⟨hi, h⟩ := ok_e (g := (lpk (lp (b_X11_test_79) nn))) rfl h
      obtain ⟨fofA_8, efofA_8, h⟩ := lt_e (g := (lpk (lp (b_X11_test_79) nn))) h
      refine v_iastV hk dX11_test_95 2 rfl (ix_in hi) (ws' := [((adA 1), .inl (gI (kG K), 5, .inl fvalues)), ((adA 3), .inl (gI (kG K), 80, .inl fcells)), ((adA 36), .inl (gI (kG K), 3, .inl fofA_8)), ((adA 37), .inl (gI (kG K), 3, .inl fofB_6)), ((adA 38), .inl (gI (kG K), 9, .inl fboth_7)), (adm, .inr (10, oM adA o_names o_rows o_strength o_most o_toldGraph o_toldArc))]) (by rw [efofA_8]; rfl) ?_
      refine v_aload_n hk dX11_test_96 rfl ?_
      refine v_get (C := RX11) (T := TX11) (N := 39) (ci := 10) (v := .ref (adA 37)) hk dX11_test_97 w2i_X11_test_X110 5 rfl rfl 37 (by decide) (by decide +kernel) rfl rfl ?_
      refine v_iload hk dX11_test_100 rfl ?_
      refine v_iconst (v := 3) hk dX11_test_102 (by decide) ?_
      refine v_irem hk dX11_test_103 (by decide) ?_
      refine v_iconst (v := 0) hk dX11_test_104 (by decide) ?_
      obtain ⟨hi, h⟩ := ok_e (g := (lpk (lp (b_X11_test_79) nn))) rfl h
      obtain ⟨fofB_9, efofB_9, h⟩ := lt_e (g := (lpk (lp (b_X11_test_79) nn))) h
      refine v_iastV hk dX11_test_105 3 rfl (ix_in hi) (ws' := [((adA 1), .inl (gI (kG K), 5, .inl fvalues)), ((adA 3), .inl (gI (kG K), 80, .inl fcells)), ((adA 36), .inl (gI (kG K), 3, .inl fofA_8)), ((adA 37), .inl (gI (kG K), 3, .inl fofB_9)), ((adA 38), .inl (gI (kG K), 9, .inl fboth_7)), (adm, .inr (10, oM adA o_names o_rows o_strength o_most o_toldGraph o_toldArc))]) (by rw [efofB_9]; rfl) ?_
      refine v_aload_n hk dX11_test_106 rfl ?_
      refine v_get (C := RX11) (T := TX11) (N := 39) (ci := 10) (v := .ref (adA 38)) hk dX11_test_107 w2i_X11_test_X110 5 rfl rfl 38 (by decide) (by decide +kernel) rfl rfl ?_
      refine v_iload hk dX11_test_110 rfl ?_
      refine v_iconst (v := 0) hk dX11_test_112 (by decide) ?_
      obtain ⟨hi, h⟩ := ok_e (g := (lpk (lp (b_X11_test_79) nn))) rfl h
      obtain ⟨fboth_10, efboth_10, h⟩ := lt_e (g := (lpk (lp (b_X11_test_79) nn))) h
      refine v_iastV hk dX11_test_113 4 rfl (ix_in hi) (ws' := [((adA 1), .inl (gI (kG K), 5, .inl fvalues)), ((adA 3), .inl (gI (kG K), 80, .inl fcells)), ((adA 36), .inl (gI (kG K), 3, .inl fofA_8)), ((adA 37), .inl (gI (kG K), 3, .inl fofB_9)), ((adA 38), .inl (gI (kG K), 9, .inl fboth_10)), (adm, .inr (10, oM adA o_names o_rows o_strength o_most o_toldGraph o_toldArc))]) (by rw [efboth_10]; rfl) ?_
      obtain ⟨x6_11, ex6_11, h⟩ := lt_e (g := (lpk (lp (b_X11_test_79) nn))) h
      refine v_iinc (v := x6_11) hk dX11_test_114 rfl (by rw [ex6_11]; rfl) (by decide) [1, 2, 3, 4, 5, 6, 0] (lv' := [(0, .ref adm), (1, .int p0), (2, .int p1), (3, .int p2), (4, .int v), (5, .int part), (6, .int x6_11)]) rfl ?_
      refine v_goto (tgt := 79) hk dX11_test_117 (by decide) ?_
      exact ih x6_11 fofA_8 fofB_9 fboth_10 h
set_option maxHeartbeats 4000000 in
set_option maxRecDepth 100000 in
theorem L_X11_test_123 {K : Cx} {R9 : Room} (hk : Ok K cX11_test 18 RX11 w2_X11_test R9) (hR9 : RoomGe R9 rm_X11_test) (adm : Nat) (adA : Nat → Nat) (o_names : Int32) (o_rows : Int32) (o_strength : Int32) (o_most : Int32) (o_toldGraph : Int32) (o_toldArc : Int32) (fvalues : Nat → Int32) (fcells : Nat → Int32) (p0 : Int32) (p1 : Int32) (p2 : Int32) (v : Int32) (part : Int32) (b9 : (Int32 × (Nat → Int32) × (Nat → Int32) × (Nat → Int32))) (kk0 : ∀ q9 : (Int32 × (Nat → Int32) × (Nat → Int32) × (Nat → Int32)), b9 = q9 → V K 18 [((adA 1), .inl (gI (kG K), 5, .inl fvalues)), ((adA 3), .inl (gI (kG K), 80, .inl fcells)), ((adA 36), .inl (gI (kG K), 3, .inl q9.2.1)), ((adA 37), .inl (gI (kG K), 3, .inl q9.2.2.1)), ((adA 38), .inl (gI (kG K), 9, .inl q9.2.2.2)), (adm, .inr (10, oM adA o_names o_rows o_strength o_most o_toldGraph o_toldArc))] 0 0 223 [(0, .ref adm), (1, .int p0), (2, .int p1), (3, .int p2), (4, .int v), (5, .int part), (6, .int q9.1)] []) : ∀ (nn : Nat) (i6_13 : Int32) (fofA_14 : Nat → Int32) (fofB_15 : Nat → Int32) (fboth_16 : Nat → Int32), lp (b_X11_test_123 o_rows fcells p0 p1 p2 v) nn (i6_13, fofA_14, fofB_15, fboth_16) = some b9 → V K 18 [((adA 1), .inl (gI (kG K), 5, .inl fvalues)), ((adA 3), .inl (gI (kG K), 80, .inl fcells)), ((adA 36), .inl (gI (kG K), 3, .inl fofA_14)), ((adA 37), .inl (gI (kG K), 3, .inl fofB_15)), ((adA 38), .inl (gI (kG K), 9, .inl fboth_16)), (adm, .inr (10, oM adA o_names o_rows o_strength o_most o_toldGraph o_toldArc))] 0 0 123 [(0, .ref adm), (1, .int p0), (2, .int p1), (3, .int p2), (4, .int v), (5, .int part), (6, .int i6_13)] [] := by
  intro nn
  induction nn with
  | zero => intro i6_13 fofA_14 fofB_15 fboth_16 h; exact absurd h (by simp [lp])
  | succ nn ih =>
    intro i6_13 fofA_14 fofB_15 fboth_16 h
    replace h := lp_s h
    rw [eb_X11_test_123] at h
    refine v_iload hk dX11_test_123 rfl ?_
    refine v_aload_n hk dX11_test_125 rfl ?_
    refine v_get (C := RX11) (T := TX11) (N := 39) (ci := 10) (v := .int o_rows) hk dX11_test_126 w2i_X11_test_X110 5 rfl rfl 2 (by decide) (by decide +kernel) rfl rfl ?_
    refine v_icmp_ge (tgt := 223) hk dX11_test_129 (by decide) (fun hc => ?_) (fun hc => ?_)
    · replace h := it_t (g := (lpk (lp (b_X11_test_123 o_rows fcells p0 p1 p2 v) nn))) h hc
      replace h : some (i6_13, fofA_14, fofB_15, fboth_16) = some b9 := h
      replace h := Option.some.inj h
      subst h
      exact kk0 _ rfl
    · replace h := it_f (g := (lpk (lp (b_X11_test_123 o_rows fcells p0 p1 p2 v) nn))) h hc
      refine v_iload_n hk dX11_test_132 rfl ?_
      refine v_iconst (v := (-1)) hk dX11_test_133 (by decide) ?_
      obtain ⟨y_17, ey_17, h⟩ := bd_e (g := (lpk (lp (b_X11_test_123 o_rows fcells p0 p1 p2 v) nn))) rfl h
      have Jay_17 : y_17 = true → V K 18 [((adA 1), .inl (gI (kG K), 5, .inl fvalues)), ((adA 3), .inl (gI (kG K), 80, .inl fcells)), ((adA 36), .inl (gI (kG K), 3, .inl fofA_14)), ((adA 37), .inl (gI (kG K), 3, .inl fofB_15)), ((adA 38), .inl (gI (kG K), 9, .inl fboth_16)), (adm, .inr (10, oM adA o_names o_rows o_strength o_most o_toldGraph o_toldArc))] 0 0 153 [(0, .ref adm), (1, .int p0), (2, .int p1), (3, .int p2), (4, .int v), (5, .int part), (6, .int i6_13)] [] := by
        intro hz9
        replace h := it_t (g := (lpk (lp (b_X11_test_123 o_rows fcells p0 p1 p2 v) nn))) h hz9
        refine v_aload_n hk dX11_test_153 rfl ?_
        refine v_get (C := RX11) (T := TX11) (N := 39) (ci := 10) (v := .ref (adA 3)) hk dX11_test_154 w2i_X11_test_X110 5 rfl rfl 3 (by decide) (by decide +kernel) rfl rfl ?_
        refine v_iconst (v := 5) hk dX11_test_157 (by decide) ?_
        refine v_iload hk dX11_test_158 rfl ?_
        refine v_imul hk dX11_test_160 ?_
        refine v_iload_n hk dX11_test_161 rfl ?_
        refine v_iadd hk dX11_test_162 ?_
        obtain ⟨hi, h⟩ := ok_e (g := (lpk (lp (b_X11_test_123 o_rows fcells p0 p1 p2 v) nn))) rfl h
        refine v_ialdV hk dX11_test_163 1 rfl (ix_in hi) ?_
        obtain ⟨x7_18, ex7_18, h⟩ := lt_e (g := (lpk (lp (b_X11_test_123 o_rows fcells p0 p1 p2 v) nn))) h
        refine v_topi ex7_18.symm ?_
        refine v_istore hk dX11_test_164 (by decide) [1, 2, 3, 4, 5, 6, 7, 0] (lv' := [(0, .ref adm), (1, .int p0), (2, .int p1), (3, .int p2), (4, .int v), (5, .int part), (6, .int i6_13), (7, .int x7_18)]) rfl ?_
        refine v_aload_n hk dX11_test_166 rfl ?_
        refine v_get (C := RX11) (T := TX11) (N := 39) (ci := 10) (v := .ref (adA 3)) hk dX11_test_167 w2i_X11_test_X110 5 rfl rfl 3 (by decide) (by decide +kernel) rfl rfl ?_
        refine v_iconst (v := 5) hk dX11_test_170 (by decide) ?_
        refine v_iload hk dX11_test_171 rfl ?_
        refine v_imul hk dX11_test_173 ?_
        refine v_iload_n hk dX11_test_174 rfl ?_
        refine v_iadd hk dX11_test_175 ?_
        obtain ⟨hi, h⟩ := ok_e (g := (lpk (lp (b_X11_test_123 o_rows fcells p0 p1 p2 v) nn))) rfl h
        refine v_ialdV hk dX11_test_176 1 rfl (ix_in hi) ?_
        obtain ⟨x8_19, ex8_19, h⟩ := lt_e (g := (lpk (lp (b_X11_test_123 o_rows fcells p0 p1 p2 v) nn))) h
        refine v_topi ex8_19.symm ?_
        refine v_istore hk dX11_test_177 (by decide) [1, 2, 3, 4, 5, 6, 7, 8, 0] (lv' := [(0, .ref adm), (1, .int p0), (2, .int p1), (3, .int p2), (4, .int v), (5, .int part), (6, .int i6_13), (7, .int x7_18), (8, .int x8_19)]) rfl ?_
        refine v_aload_n hk dX11_test_179 rfl ?_
        refine v_get (C := RX11) (T := TX11) (N := 39) (ci := 10) (v := .ref (adA 36)) hk dX11_test_180 w2i_X11_test_X110 5 rfl rfl 36 (by decide) (by decide +kernel) rfl rfl ?_
        refine v_iload hk dX11_test_183 rfl ?_
        refine v_dup2 hk dX11_test_185 rfl rfl ?_
        obtain ⟨hi, h⟩ := ok_e (g := (lpk (lp (b_X11_test_123 o_rows fcells p0 p1 p2 v) nn))) rfl h
        refine v_ialdV hk dX11_test_186 2 rfl (ix_in hi) ?_
        refine v_iconst (v := 1) hk dX11_test_187 (by decide) ?_
        refine v_iadd hk dX11_test_188 ?_
        obtain ⟨hi, h⟩ := ok_e (g := (lpk (lp (b_X11_test_123 o_rows fcells p0 p1 p2 v) nn))) rfl h
        obtain ⟨fofA_20, efofA_20, h⟩ := lt_e (g := (lpk (lp (b_X11_test_123 o_rows fcells p0 p1 p2 v) nn))) h
        refine v_iastV hk dX11_test_189 2 rfl (ix_in hi) (ws' := [((adA 1), .inl (gI (kG K), 5, .inl fvalues)), ((adA 3), .inl (gI (kG K), 80, .inl fcells)), ((adA 36), .inl (gI (kG K), 3, .inl fofA_20)), ((adA 37), .inl (gI (kG K), 3, .inl fofB_15)), ((adA 38), .inl (gI (kG K), 9, .inl fboth_16)), (adm, .inr (10, oM adA o_names o_rows o_strength o_most o_toldGraph o_toldArc))]) (by rw [efofA_20]; rfl) ?_
        refine v_aload_n hk dX11_test_190 rfl ?_
        refine v_get (C := RX11) (T := TX11) (N := 39) (ci := 10) (v := .ref (adA 37)) hk dX11_test_191 w2i_X11_test_X110 5 rfl rfl 37 (by decide) (by decide +kernel) rfl rfl ?_
        refine v_iload hk dX11_test_194 rfl ?_
        refine v_dup2 hk dX11_test_196 rfl rfl ?_
        obtain ⟨hi, h⟩ := ok_e (g := (lpk (lp (b_X11_test_123 o_rows fcells p0 p1 p2 v) nn))) rfl h
        refine v_ialdV hk dX11_test_197 3 rfl (ix_in hi) ?_
        refine v_iconst (v := 1) hk dX11_test_198 (by decide) ?_
        refine v_iadd hk dX11_test_199 ?_
        obtain ⟨hi, h⟩ := ok_e (g := (lpk (lp (b_X11_test_123 o_rows fcells p0 p1 p2 v) nn))) rfl h
        obtain ⟨fofB_21, efofB_21, h⟩ := lt_e (g := (lpk (lp (b_X11_test_123 o_rows fcells p0 p1 p2 v) nn))) h
        refine v_iastV hk dX11_test_200 3 rfl (ix_in hi) (ws' := [((adA 1), .inl (gI (kG K), 5, .inl fvalues)), ((adA 3), .inl (gI (kG K), 80, .inl fcells)), ((adA 36), .inl (gI (kG K), 3, .inl fofA_20)), ((adA 37), .inl (gI (kG K), 3, .inl fofB_21)), ((adA 38), .inl (gI (kG K), 9, .inl fboth_16)), (adm, .inr (10, oM adA o_names o_rows o_strength o_most o_toldGraph o_toldArc))]) (by rw [efofB_21]; rfl) ?_
        refine v_aload_n hk dX11_test_201 rfl ?_
        refine v_get (C := RX11) (T := TX11) (N := 39) (ci := 10) (v := .ref (adA 38)) hk dX11_test_202 w2i_X11_test_X110 5 rfl rfl 38 (by decide) (by decide +kernel) rfl rfl ?_
        refine v_iconst (v := 3) hk dX11_test_205 (by decide) ?_
        refine v_iload hk dX11_test_206 rfl ?_
        refine v_imul hk dX11_test_208 ?_
        refine v_iload hk dX11_test_209 rfl ?_
        refine v_iadd hk dX11_test_211 ?_
        refine v_dup2 hk dX11_test_212 rfl rfl ?_
        obtain ⟨hi, h⟩ := ok_e (g := (lpk (lp (b_X11_test_123 o_rows fcells p0 p1 p2 v) nn))) rfl h
        refine v_ialdV hk dX11_test_213 4 rfl (ix_in hi) ?_
        refine v_iconst (v := 1) hk dX11_test_214 (by decide) ?_
        refine v_iadd hk dX11_test_215 ?_
        obtain ⟨hi, h⟩ := ok_e (g := (lpk (lp (b_X11_test_123 o_rows fcells p0 p1 p2 v) nn))) rfl h
        obtain ⟨fboth_22, efboth_22, h⟩ := lt_e (g := (lpk (lp (b_X11_test_123 o_rows fcells p0 p1 p2 v) nn))) h
        refine v_iastV hk dX11_test_216 4 rfl (ix_in hi) (ws' := [((adA 1), .inl (gI (kG K), 5, .inl fvalues)), ((adA 3), .inl (gI (kG K), 80, .inl fcells)), ((adA 36), .inl (gI (kG K), 3, .inl fofA_20)), ((adA 37), .inl (gI (kG K), 3, .inl fofB_21)), ((adA 38), .inl (gI (kG K), 9, .inl fboth_22)), (adm, .inr (10, oM adA o_names o_rows o_strength o_most o_toldGraph o_toldArc))]) (by rw [efboth_22]; rfl) ?_
        obtain ⟨x6_23, ex6_23, h⟩ := lt_e (g := (lpk (lp (b_X11_test_123 o_rows fcells p0 p1 p2 v) nn))) h
        refine v_iinc (v := x6_23) hk dX11_test_217 rfl (by rw [ex6_23]; rfl) (by decide) [1, 2, 3, 4, 5, 6, 0, 7, 8] (lv' := [(0, .ref adm), (1, .int p0), (2, .int p1), (3, .int p2), (4, .int v), (5, .int part), (6, .int x6_23), (7, .int x7_18), (8, .int x8_19)]) rfl ?_
        refine v_goto (tgt := 123) hk dX11_test_220 (by decide) ?_
        refine v_loc [0, 1, 2, 3, 4, 5, 6] (lv' := [(0, .ref adm), (1, .int p0), (2, .int p1), (3, .int p2), (4, .int v), (5, .int part), (6, .int x6_23)]) rfl ?_
        exact ih x6_23 fofA_20 fofB_21 fboth_22 h
      have Jby_17 : y_17 = false → V K 18 [((adA 1), .inl (gI (kG K), 5, .inl fvalues)), ((adA 3), .inl (gI (kG K), 80, .inl fcells)), ((adA 36), .inl (gI (kG K), 3, .inl fofA_14)), ((adA 37), .inl (gI (kG K), 3, .inl fofB_15)), ((adA 38), .inl (gI (kG K), 9, .inl fboth_16)), (adm, .inr (10, oM adA o_names o_rows o_strength o_most o_toldGraph o_toldArc))] 0 0 217 [(0, .ref adm), (1, .int p0), (2, .int p1), (3, .int p2), (4, .int v), (5, .int part), (6, .int i6_13)] [] := by
        intro hz9
        replace h := it_f (g := (lpk (lp (b_X11_test_123 o_rows fcells p0 p1 p2 v) nn))) h (by rw [hz9]; decide)
        obtain ⟨x6_24, ex6_24, h⟩ := lt_e (g := (lpk (lp (b_X11_test_123 o_rows fcells p0 p1 p2 v) nn))) h
        refine v_iinc (v := x6_24) hk dX11_test_217 rfl (by rw [ex6_24]; rfl) (by decide) [1, 2, 3, 4, 5, 6, 0] (lv' := [(0, .ref adm), (1, .int p0), (2, .int p1), (3, .int p2), (4, .int v), (5, .int part), (6, .int x6_24)]) rfl ?_
        refine v_goto (tgt := 123) hk dX11_test_220 (by decide) ?_
        exact ih x6_24 fofA_14 fofB_15 fboth_16 h
      clear h
      have h := id_e ey_17
      clear ey_17
      refine v_icmp_eq (tgt := 153) hk dX11_test_134 (by decide) (fun hc => ?_) (fun hc => ?_)
      · replace h := it_t (g := id) h hc
        replace h : some true = some y_17 := h
        replace h := Option.some.inj h
        subst h
        exact Jay_17 rfl
      · replace h := it_f (g := id) h hc
        refine v_aload_n hk dX11_test_137 rfl ?_
        refine v_get (C := RX11) (T := TX11) (N := 39) (ci := 10) (v := .ref (adA 3)) hk dX11_test_138 w2i_X11_test_X110 5 rfl rfl 3 (by decide) (by decide +kernel) rfl rfl ?_
        refine v_iconst (v := 5) hk dX11_test_141 (by decide) ?_
        refine v_iload hk dX11_test_142 rfl ?_
        refine v_imul hk dX11_test_144 ?_
        refine v_iload_n hk dX11_test_145 rfl ?_
        refine v_iadd hk dX11_test_146 ?_
        obtain ⟨hi, h⟩ := ok_e (g := id) rfl h
        refine v_ialdV hk dX11_test_147 1 rfl (ix_in hi) ?_
        refine v_iload hk dX11_test_148 rfl ?_
        refine v_icmp_ne (tgt := 217) hk dX11_test_150 (by decide) (fun hc => ?_) (fun hc => ?_)
        · replace h := it_f (g := id) h hc
          replace h : some false = some y_17 := h
          replace h := Option.some.inj h
          subst h
          exact Jby_17 rfl
        · replace h := it_t (g := id) h hc
          replace h : some true = some y_17 := h
          replace h := Option.some.inj h
          subst h
          exact Jay_17 rfl
set_option maxHeartbeats 4000000 in
set_option maxRecDepth 100000 in
theorem L_X11_test_427 {K : Cx} {R9 : Room} (hk : Ok K cX11_test 18 RX11 w2_X11_test R9) (hR9 : RoomGe R9 rm_X11_test) (adm : Nat) (adA : Nat → Nat) (o_names : Int32) (o_rows : Int32) (o_strength : Int32) (o_most : Int32) (o_toldGraph : Int32) (o_toldArc : Int32) (fvalues : Nat → Int32) (fcells : Nat → Int32) (p0 : Int32) (p1 : Int32) (p2 : Int32) (v : Int32) (part : Int32) (q_25 : Int32 × (Nat → Int32) × (Nat → Int32) × (Nat → Int32)) (x6_29 : Int64) (i10_31 : Int32) (i11_34 : Int32) (x12_36 : Int32) (i13_38 : Int32) (b9 : (Int64 × Int32)) (kk0 : ∀ q9 : (Int64 × Int32), b9 = q9 → V K 18 [((adA 1), .inl (gI (kG K), 5, .inl fvalues)), ((adA 3), .inl (gI (kG K), 80, .inl fcells)), ((adA 36), .inl (gI (kG K), 3, .inl q_25.2.1)), ((adA 37), .inl (gI (kG K), 3, .inl q_25.2.2.1)), ((adA 38), .inl (gI (kG K), 9, .inl q_25.2.2.2)), (adm, .inr (10, oM adA o_names o_rows o_strength o_most o_toldGraph o_toldArc))] 0 0 567 [(0, .ref adm), (1, .int p0), (2, .int p1), (3, .int p2), (4, .int v), (5, .int part), (6, .long x6_29), (8, .long q9.1), (10, .int i10_31), (11, .int i11_34), (12, .int x12_36), (13, .int i13_38), (14, .int q9.2)] []) : ∀ (nn : Nat) (i8_40 : Int64) (i14_41 : Int32), lp (b_X11_test_427 q_25 x6_29 i10_31 i11_34 x12_36 i13_38) nn (i8_40, i14_41) = some b9 → V K 18 [((adA 1), .inl (gI (kG K), 5, .inl fvalues)), ((adA 3), .inl (gI (kG K), 80, .inl fcells)), ((adA 36), .inl (gI (kG K), 3, .inl q_25.2.1)), ((adA 37), .inl (gI (kG K), 3, .inl q_25.2.2.1)), ((adA 38), .inl (gI (kG K), 9, .inl q_25.2.2.2)), (adm, .inr (10, oM adA o_names o_rows o_strength o_most o_toldGraph o_toldArc))] 0 0 427 [(0, .ref adm), (1, .int p0), (2, .int p1), (3, .int p2), (4, .int v), (5, .int part), (6, .long x6_29), (8, .long i8_40), (10, .int i10_31), (11, .int i11_34), (12, .int x12_36), (13, .int i13_38), (14, .int i14_41)] [] := by
  intro nn
  induction nn with
  | zero => intro i8_40 i14_41 h; exact absurd h (by simp [lp])
  | succ nn ih =>
    intro i8_40 i14_41 h
    replace h := lp_s h
    rw [eb_X11_test_427] at h
    refine v_iload hk dX11_test_427 rfl ?_
    refine v_aload_n hk dX11_test_429 rfl ?_
    refine v_get (C := RX11) (T := TX11) (N := 39) (ci := 10) (v := .ref (adA 36)) hk dX11_test_430 w2i_X11_test_X110 5 rfl rfl 36 (by decide) (by decide +kernel) rfl rfl ?_
    refine v_iconst (v := 1) hk dX11_test_433 (by decide) ?_
    obtain ⟨hi, h⟩ := ok_e (g := (lpk (lp (b_X11_test_427 q_25 x6_29 i10_31 i11_34 x12_36 i13_38) nn))) rfl h
    refine v_ialdV hk dX11_test_434 2 rfl (ix_in hi) ?_
    refine v_iload hk dX11_test_435 rfl ?_
    refine v_isub hk dX11_test_437 ?_
    refine v_aload_n hk dX11_test_438 rfl ?_
    refine v_get (C := RX11) (T := TX11) (N := 39) (ci := 10) (v := .ref (adA 37)) hk dX11_test_439 w2i_X11_test_X110 5 rfl rfl 37 (by decide) (by decide +kernel) rfl rfl ?_
    refine v_iconst (v := 1) hk dX11_test_442 (by decide) ?_
    obtain ⟨hi, h⟩ := ok_e (g := (lpk (lp (b_X11_test_427 q_25 x6_29 i10_31 i11_34 x12_36 i13_38) nn))) rfl h
    refine v_ialdV hk dX11_test_443 3 rfl (ix_in hi) ?_
    refine v_iload hk dX11_test_444 rfl ?_
    refine v_isub hk dX11_test_446 ?_
    obtain ⟨r_42, er_42, h⟩ := bd_e (g := (lpk (lp (b_X11_test_427 q_25 x6_29 i10_31 i11_34 x12_36 i13_38) nn))) rfl h
    refine v_callS (n := 2) (st := [.int i14_41]) hk dX11_test_447 (c_X11_lesser (kl K) (kG K) ((q_25.2.1 (1 : Int32).toNatClampNeg) - i13_38) ((q_25.2.2.1 (1 : Int32).toNatClampNeg) - i11_34) r_42 er_42) gd_X11_test_X11_lesser rfl (by decide +kernel) (frok hR9 (Nat.le_of_ble_eq_true rfl) (Nat.le_of_ble_eq_true rfl)) (roomk hR9 (Nat.le_of_ble_eq_true rfl) (Nat.le_of_ble_eq_true rfl)) rfl rfl (Nat.le_of_ble_eq_true rfl) [] [0, 1, 2, 3, 4, 5] (wr := [((adA 1), .inl (gI (kG K), 5, .inl fvalues)), ((adA 3), .inl (gI (kG K), 80, .inl fcells)), ((adA 36), .inl (gI (kG K), 3, .inl q_25.2.1)), ((adA 37), .inl (gI (kG K), 3, .inl q_25.2.2.1)), ((adA 38), .inl (gI (kG K), 9, .inl q_25.2.2.2)), (adm, .inr (10, oM adA o_names o_rows o_strength o_most o_toldGraph o_toldArc))]) rfl rfl (by decide) (by decide) (by decide) ?_
    intro v9 w9 hp9
    obtain ⟨rfl, rfl⟩ := hp9
    show V K 18 [((adA 1), .inl (gI (kG K), 5, .inl fvalues)), ((adA 3), .inl (gI (kG K), 80, .inl fcells)), ((adA 36), .inl (gI (kG K), 3, .inl q_25.2.1)), ((adA 37), .inl (gI (kG K), 3, .inl q_25.2.2.1)), ((adA 38), .inl (gI (kG K), 9, .inl q_25.2.2.2)), (adm, .inr (10, oM adA o_names o_rows o_strength o_most o_toldGraph o_toldArc))] 0 0 450 [(0, .ref adm), (1, .int p0), (2, .int p1), (3, .int p2), (4, .int v), (5, .int part), (6, .long x6_29), (8, .long i8_40), (10, .int i10_31), (11, .int i11_34), (12, .int x12_36), (13, .int i13_38), (14, .int i14_41)] [.int r_42, .int i14_41]
    refine v_icmp_gt (tgt := 567) hk dX11_test_450 (by decide) (fun hc => ?_) (fun hc => ?_)
    · replace h := it_t (g := (lpk (lp (b_X11_test_427 q_25 x6_29 i10_31 i11_34 x12_36 i13_38) nn))) h hc
      replace h : some (i8_40, i14_41) = some b9 := h
      replace h := Option.some.inj h
      subst h
      exact kk0 _ rfl
    · replace h := it_f (g := (lpk (lp (b_X11_test_427 q_25 x6_29 i10_31 i11_34 x12_36 i13_38) nn))) h hc
      refine v_aload_n hk dX11_test_453 rfl ?_
      refine v_get (C := RX11) (T := TX11) (N := 39) (ci := 10) (v := .ref (adA 36)) hk dX11_test_454 w2i_X11_test_X110 5 rfl rfl 36 (by decide) (by decide +kernel) rfl rfl ?_
      refine v_iconst (v := 1) hk dX11_test_457 (by decide) ?_
      obtain ⟨hi, h⟩ := ok_e (g := (lpk (lp (b_X11_test_427 q_25 x6_29 i10_31 i11_34 x12_36 i13_38) nn))) rfl h
      refine v_ialdV hk dX11_test_458 2 rfl (ix_in hi) ?_
      refine v_iload hk dX11_test_459 rfl ?_
      refine v_isub hk dX11_test_461 ?_
      refine v_iload hk dX11_test_462 rfl ?_
      refine v_isub hk dX11_test_464 ?_
      obtain ⟨x15_43, ex15_43, h⟩ := lt_e (g := (lpk (lp (b_X11_test_427 q_25 x6_29 i10_31 i11_34 x12_36 i13_38) nn))) h
      refine v_topi ex15_43.symm ?_
      refine v_istore hk dX11_test_465 (by decide) [1, 2, 3, 4, 5, 6, 7, 8, 9, 10, 11, 12, 13, 0] (lv' := [(0, .ref adm), (1, .int p0), (2, .int p1), (3, .int p2), (4, .int v), (5, .int part), (6, .long x6_29), (8, .long i8_40), (10, .int i10_31), (11, .int i11_34), (12, .int x12_36), (13, .int i13_38), (14, .int i14_41), (15, .int x15_43)]) rfl ?_
      refine v_iload hk dX11_test_467 rfl ?_
      refine v_aload_n hk dX11_test_469 rfl ?_
      refine v_get (C := RX11) (T := TX11) (N := 39) (ci := 10) (v := .ref (adA 37)) hk dX11_test_470 w2i_X11_test_X110 5 rfl rfl 37 (by decide) (by decide +kernel) rfl rfl ?_
      refine v_iconst (v := 2) hk dX11_test_473 (by decide) ?_
      obtain ⟨hi, h⟩ := ok_e (g := (lpk (lp (b_X11_test_427 q_25 x6_29 i10_31 i11_34 x12_36 i13_38) nn))) rfl h
      refine v_ialdV hk dX11_test_474 3 rfl (ix_in hi) ?_
      refine v_iload hk dX11_test_475 rfl ?_
      refine v_isub hk dX11_test_477 ?_
      refine v_icmp_gt (tgt := 561) hk dX11_test_478 (by decide) (fun hc => ?_) (fun hc => ?_)
      · replace h := it_t (g := (lpk (lp (b_X11_test_427 q_25 x6_29 i10_31 i11_34 x12_36 i13_38) nn))) h hc
        obtain ⟨x14_44, ex14_44, h⟩ := lt_e (g := (lpk (lp (b_X11_test_427 q_25 x6_29 i10_31 i11_34 x12_36 i13_38) nn))) h
        refine v_iinc (v := x14_44) hk dX11_test_561 rfl (by rw [ex14_44]; rfl) (by decide) [1, 2, 3, 4, 5, 6, 7, 8, 9, 10, 11, 12, 0, 13] (lv' := [(0, .ref adm), (1, .int p0), (2, .int p1), (3, .int p2), (4, .int v), (5, .int part), (6, .long x6_29), (8, .long i8_40), (10, .int i10_31), (11, .int i11_34), (12, .int x12_36), (13, .int i13_38), (14, .int x14_44), (15, .int x15_43)]) rfl ?_
        refine v_goto (tgt := 427) hk dX11_test_564 (by decide) ?_
        refine v_loc [0, 1, 2, 3, 4, 5, 6, 7, 8, 9, 10, 11, 12] (lv' := [(0, .ref adm), (1, .int p0), (2, .int p1), (3, .int p2), (4, .int v), (5, .int part), (6, .long x6_29), (8, .long i8_40), (10, .int i10_31), (11, .int i11_34), (12, .int x12_36), (13, .int i13_38), (14, .int x14_44)]) rfl ?_
        exact ih i8_40 x14_44 h
      · replace h := it_f (g := (lpk (lp (b_X11_test_427 q_25 x6_29 i10_31 i11_34 x12_36 i13_38) nn))) h hc
        refine v_iload hk dX11_test_481 rfl ?_
        refine v_iload hk dX11_test_483 rfl ?_
        refine v_iload hk dX11_test_485 rfl ?_
        obtain ⟨r_45, er_45, h⟩ := bd_e (g := (lpk (lp (b_X11_test_427 q_25 x6_29 i10_31 i11_34 x12_36 i13_38) nn))) rfl h
        refine v_callS (n := 3) (st := []) hk dX11_test_487 (c_X11_ways (kl K) (kG K) i10_31 i11_34 x12_36 r_45 er_45) gd_X11_test_X11_ways rfl (by decide +kernel) (frok hR9 (Nat.le_of_ble_eq_true rfl) (Nat.le_of_ble_eq_true rfl)) (roomk hR9 (Nat.le_of_ble_eq_true rfl) (Nat.le_of_ble_eq_true rfl)) rfl rfl (Nat.le_of_ble_eq_true rfl) [] [0, 1, 2, 3, 4, 5] (wr := [((adA 1), .inl (gI (kG K), 5, .inl fvalues)), ((adA 3), .inl (gI (kG K), 80, .inl fcells)), ((adA 36), .inl (gI (kG K), 3, .inl q_25.2.1)), ((adA 37), .inl (gI (kG K), 3, .inl q_25.2.2.1)), ((adA 38), .inl (gI (kG K), 9, .inl q_25.2.2.2)), (adm, .inr (10, oM adA o_names o_rows o_strength o_most o_toldGraph o_toldArc))]) rfl rfl (by decide) (by decide) (by decide) ?_
        intro v9 w9 hp9
        obtain ⟨rfl, rfl⟩ := hp9
        show V K 18 [((adA 1), .inl (gI (kG K), 5, .inl fvalues)), ((adA 3), .inl (gI (kG K), 80, .inl fcells)), ((adA 36), .inl (gI (kG K), 3, .inl q_25.2.1)), ((adA 37), .inl (gI (kG K), 3, .inl q_25.2.2.1)), ((adA 38), .inl (gI (kG K), 9, .inl q_25.2.2.2)), (adm, .inr (10, oM adA o_names o_rows o_strength o_most o_toldGraph o_toldArc))] 0 0 490 [(0, .ref adm), (1, .int p0), (2, .int p1), (3, .int p2), (4, .int v), (5, .int part), (6, .long x6_29), (8, .long i8_40), (10, .int i10_31), (11, .int i11_34), (12, .int x12_36), (13, .int i13_38), (14, .int i14_41), (15, .int x15_43)] [.long r_45]
        refine v_iload hk dX11_test_490 rfl ?_
        refine v_iload hk dX11_test_492 rfl ?_
        refine v_iload hk dX11_test_494 rfl ?_
        obtain ⟨r_46, er_46, h⟩ := bd_e (g := (lpk (lp (b_X11_test_427 q_25 x6_29 i10_31 i11_34 x12_36 i13_38) nn))) rfl h
        refine v_callS (n := 3) (st := [.long r_45]) hk dX11_test_496 (c_X11_ways (kl K) (kG K) i13_38 i14_41 x15_43 r_46 er_46) gd_X11_test_X11_ways rfl (by decide +kernel) (frok hR9 (Nat.le_of_ble_eq_true rfl) (Nat.le_of_ble_eq_true rfl)) (roomk hR9 (Nat.le_of_ble_eq_true rfl) (Nat.le_of_ble_eq_true rfl)) rfl rfl (Nat.le_of_ble_eq_true rfl) [] [0, 1, 2, 3, 4, 5] (wr := [((adA 1), .inl (gI (kG K), 5, .inl fvalues)), ((adA 3), .inl (gI (kG K), 80, .inl fcells)), ((adA 36), .inl (gI (kG K), 3, .inl q_25.2.1)), ((adA 37), .inl (gI (kG K), 3, .inl q_25.2.2.1)), ((adA 38), .inl (gI (kG K), 9, .inl q_25.2.2.2)), (adm, .inr (10, oM adA o_names o_rows o_strength o_most o_toldGraph o_toldArc))]) rfl rfl (by decide) (by decide) (by decide) ?_
        intro v9 w9 hp9
        obtain ⟨rfl, rfl⟩ := hp9
        show V K 18 [((adA 1), .inl (gI (kG K), 5, .inl fvalues)), ((adA 3), .inl (gI (kG K), 80, .inl fcells)), ((adA 36), .inl (gI (kG K), 3, .inl q_25.2.1)), ((adA 37), .inl (gI (kG K), 3, .inl q_25.2.2.1)), ((adA 38), .inl (gI (kG K), 9, .inl q_25.2.2.2)), (adm, .inr (10, oM adA o_names o_rows o_strength o_most o_toldGraph o_toldArc))] 0 0 499 [(0, .ref adm), (1, .int p0), (2, .int p1), (3, .int p2), (4, .int v), (5, .int part), (6, .long x6_29), (8, .long i8_40), (10, .int i10_31), (11, .int i11_34), (12, .int x12_36), (13, .int i13_38), (14, .int i14_41), (15, .int x15_43)] [.long r_46, .long r_45]
        refine v_lmul hk dX11_test_499 ?_
        refine v_aload_n hk dX11_test_500 rfl ?_
        refine v_get (C := RX11) (T := TX11) (N := 39) (ci := 10) (v := .ref (adA 37)) hk dX11_test_501 w2i_X11_test_X110 5 rfl rfl 37 (by decide) (by decide +kernel) rfl rfl ?_
        refine v_iconst (v := 0) hk dX11_test_504 (by decide) ?_
        obtain ⟨hi, h⟩ := ok_e (g := (lpk (lp (b_X11_test_427 q_25 x6_29 i10_31 i11_34 x12_36 i13_38) nn))) rfl h
        refine v_ialdV hk dX11_test_505 3 rfl (ix_in hi) ?_
        refine v_iload hk dX11_test_506 rfl ?_
        refine v_isub hk dX11_test_508 ?_
        refine v_iload hk dX11_test_509 rfl ?_
        refine v_isub hk dX11_test_511 ?_
        refine v_aload_n hk dX11_test_512 rfl ?_
        refine v_get (C := RX11) (T := TX11) (N := 39) (ci := 10) (v := .ref (adA 37)) hk dX11_test_513 w2i_X11_test_X110 5 rfl rfl 37 (by decide) (by decide +kernel) rfl rfl ?_
        refine v_iconst (v := 1) hk dX11_test_516 (by decide) ?_
        obtain ⟨hi, h⟩ := ok_e (g := (lpk (lp (b_X11_test_427 q_25 x6_29 i10_31 i11_34 x12_36 i13_38) nn))) rfl h
        refine v_ialdV hk dX11_test_517 3 rfl (ix_in hi) ?_
        refine v_iload hk dX11_test_518 rfl ?_
        refine v_isub hk dX11_test_520 ?_
        refine v_iload hk dX11_test_521 rfl ?_
        refine v_isub hk dX11_test_523 ?_
        refine v_aload_n hk dX11_test_524 rfl ?_
        refine v_get (C := RX11) (T := TX11) (N := 39) (ci := 10) (v := .ref (adA 37)) hk dX11_test_525 w2i_X11_test_X110 5 rfl rfl 37 (by decide) (by decide +kernel) rfl rfl ?_
        refine v_iconst (v := 2) hk dX11_test_528 (by decide) ?_
        obtain ⟨hi, h⟩ := ok_e (g := (lpk (lp (b_X11_test_427 q_25 x6_29 i10_31 i11_34 x12_36 i13_38) nn))) rfl h
        refine v_ialdV hk dX11_test_529 3 rfl (ix_in hi) ?_
        refine v_iload hk dX11_test_530 rfl ?_
        refine v_isub hk dX11_test_532 ?_
        refine v_iload hk dX11_test_533 rfl ?_
        refine v_isub hk dX11_test_535 ?_
        obtain ⟨r_47, er_47, h⟩ := bd_e (g := (lpk (lp (b_X11_test_427 q_25 x6_29 i10_31 i11_34 x12_36 i13_38) nn))) rfl h
        refine v_callS (n := 3) (st := [.long (r_45 * r_46)]) hk dX11_test_536 (c_X11_ways (kl K) (kG K) (((q_25.2.2.1 (0 : Int32).toNatClampNeg) - i10_31) - i13_38) (((q_25.2.2.1 (1 : Int32).toNatClampNeg) - i11_34) - i14_41) (((q_25.2.2.1 (2 : Int32).toNatClampNeg) - x12_36) - x15_43) r_47 er_47) gd_X11_test_X11_ways rfl (by decide +kernel) (frok hR9 (Nat.le_of_ble_eq_true rfl) (Nat.le_of_ble_eq_true rfl)) (roomk hR9 (Nat.le_of_ble_eq_true rfl) (Nat.le_of_ble_eq_true rfl)) rfl rfl (Nat.le_of_ble_eq_true rfl) [] [0, 1, 2, 3, 4, 5] (wr := [((adA 1), .inl (gI (kG K), 5, .inl fvalues)), ((adA 3), .inl (gI (kG K), 80, .inl fcells)), ((adA 36), .inl (gI (kG K), 3, .inl q_25.2.1)), ((adA 37), .inl (gI (kG K), 3, .inl q_25.2.2.1)), ((adA 38), .inl (gI (kG K), 9, .inl q_25.2.2.2)), (adm, .inr (10, oM adA o_names o_rows o_strength o_most o_toldGraph o_toldArc))]) rfl rfl (by decide) (by decide) (by decide) ?_
        intro v9 w9 hp9
        obtain ⟨rfl, rfl⟩ := hp9
        show V K 18 [((adA 1), .inl (gI (kG K), 5, .inl fvalues)), ((adA 3), .inl (gI (kG K), 80, .inl fcells)), ((adA 36), .inl (gI (kG K), 3, .inl q_25.2.1)), ((adA 37), .inl (gI (kG K), 3, .inl q_25.2.2.1)), ((adA 38), .inl (gI (kG K), 9, .inl q_25.2.2.2)), (adm, .inr (10, oM adA o_names o_rows o_strength o_most o_toldGraph o_toldArc))] 0 0 539 [(0, .ref adm), (1, .int p0), (2, .int p1), (3, .int p2), (4, .int v), (5, .int part), (6, .long x6_29), (8, .long i8_40), (10, .int i10_31), (11, .int i11_34), (12, .int x12_36), (13, .int i13_38), (14, .int i14_41), (15, .int x15_43)] [.long r_47, .long (r_45 * r_46)]
        refine v_lmul hk dX11_test_539 ?_
        obtain ⟨x16_48, ex16_48, h⟩ := lt_e (g := (lpk (lp (b_X11_test_427 q_25 x6_29 i10_31 i11_34 x12_36 i13_38) nn))) h
        refine v_topl ex16_48.symm ?_
        refine v_lstore hk dX11_test_540 (by decide) [1, 2, 3, 4, 5, 6, 7, 8, 9, 10, 11, 12, 13, 14, 0] (lv' := [(0, .ref adm), (1, .int p0), (2, .int p1), (3, .int p2), (4, .int v), (5, .int part), (6, .long x6_29), (8, .long i8_40), (10, .int i10_31), (11, .int i11_34), (12, .int x12_36), (13, .int i13_38), (14, .int i14_41), (15, .int x15_43), (16, .long x16_48)]) rfl ?_
        refine v_lload hk dX11_test_542 rfl ?_
        refine v_lload hk dX11_test_544 rfl ?_
        refine v_lload hk dX11_test_546 rfl ?_
        refine v_lcmp hk dX11_test_548 ?_
        obtain ⟨y_49, ey_49, h⟩ := bd_e (g := (lpk (lp (b_X11_test_427 q_25 x6_29 i10_31 i11_34 x12_36 i13_38) nn))) rfl h
        have Jy_49 : V K 18 [((adA 1), .inl (gI (kG K), 5, .inl fvalues)), ((adA 3), .inl (gI (kG K), 80, .inl fcells)), ((adA 36), .inl (gI (kG K), 3, .inl q_25.2.1)), ((adA 37), .inl (gI (kG K), 3, .inl q_25.2.2.1)), ((adA 38), .inl (gI (kG K), 9, .inl q_25.2.2.2)), (adm, .inr (10, oM adA o_names o_rows o_strength o_most o_toldGraph o_toldArc))] 0 0 558 [(0, .ref adm), (1, .int p0), (2, .int p1), (3, .int p2), (4, .int v), (5, .int part), (6, .long x6_29), (8, .long i8_40), (10, .int i10_31), (11, .int i11_34), (12, .int x12_36), (13, .int i13_38), (14, .int i14_41), (15, .int x15_43), (16, .long x16_48)] [.long y_49, .long i8_40] := by
          refine v_ladd hk dX11_test_558 ?_
          obtain ⟨x8_50, ex8_50, h⟩ := lt_e (g := (lpk (lp (b_X11_test_427 q_25 x6_29 i10_31 i11_34 x12_36 i13_38) nn))) h
          refine v_topl ex8_50.symm ?_
          refine v_lstore hk dX11_test_559 (by decide) [1, 2, 3, 4, 5, 6, 7, 0, 8, 9, 10, 11, 12, 13, 14] (lv' := [(0, .ref adm), (1, .int p0), (2, .int p1), (3, .int p2), (4, .int v), (5, .int part), (6, .long x6_29), (8, .long x8_50), (10, .int i10_31), (11, .int i11_34), (12, .int x12_36), (13, .int i13_38), (14, .int i14_41), (15, .int x15_43), (16, .long x16_48)]) rfl ?_
          obtain ⟨x14_51, ex14_51, h⟩ := lt_e (g := (lpk (lp (b_X11_test_427 q_25 x6_29 i10_31 i11_34 x12_36 i13_38) nn))) h
          refine v_iinc (v := x14_51) hk dX11_test_561 rfl (by rw [ex14_51]; rfl) (by decide) [1, 2, 3, 4, 5, 6, 7, 8, 9, 10, 11, 12, 0, 13, 14] (lv' := [(0, .ref adm), (1, .int p0), (2, .int p1), (3, .int p2), (4, .int v), (5, .int part), (6, .long x6_29), (8, .long x8_50), (10, .int i10_31), (11, .int i11_34), (12, .int x12_36), (13, .int i13_38), (14, .int x14_51), (15, .int x15_43), (16, .long x16_48)]) rfl ?_
          refine v_goto (tgt := 427) hk dX11_test_564 (by decide) ?_
          refine v_loc [0, 1, 2, 3, 4, 5, 6, 7, 8, 9, 10, 11, 12] (lv' := [(0, .ref adm), (1, .int p0), (2, .int p1), (3, .int p2), (4, .int v), (5, .int part), (6, .long x6_29), (8, .long x8_50), (10, .int i10_31), (11, .int i11_34), (12, .int x12_36), (13, .int i13_38), (14, .int x14_51)]) rfl ?_
          exact ih x8_50 x14_51 h
        clear h
        have h := id_e ey_49
        clear ey_49
        refine v_if_gt (tgt := 557) hk dX11_test_549 (by decide) (fun hc => ?_) (fun hc => ?_)
        · replace h := it_t (g := id) h hc
          refine v_lconst (v := 0) hk dX11_test_557 (by decide) ?_
          replace h : some (0 : Int64) = some y_49 := h
          replace h := Option.some.inj h
          subst h
          exact Jy_49
        · replace h := it_f (g := id) h hc
          refine v_lload hk dX11_test_552 rfl ?_
          refine v_goto (tgt := 558) hk dX11_test_554 (by decide) ?_
          replace h : some (x16_48 : Int64) = some y_49 := h
          replace h := Option.some.inj h
          subst h
          exact Jy_49
set_option maxHeartbeats 4000000 in
set_option maxRecDepth 100000 in
theorem L_X11_test_390 {K : Cx} {R9 : Room} (hk : Ok K cX11_test 18 RX11 w2_X11_test R9) (hR9 : RoomGe R9 rm_X11_test) (adm : Nat) (adA : Nat → Nat) (o_names : Int32) (o_rows : Int32) (o_strength : Int32) (o_most : Int32) (o_toldGraph : Int32) (o_toldArc : Int32) (fvalues : Nat → Int32) (fcells : Nat → Int32) (p0 : Int32) (p1 : Int32) (p2 : Int32) (v : Int32) (part : Int32) (q_25 : Int32 × (Nat → Int32) × (Nat → Int32) × (Nat → Int32)) (x6_29 : Int64) (i10_31 : Int32) (i11_34 : Int32) (x12_36 : Int32) (b9 : (Int64 × Int32)) (kk0 : ∀ q9 : (Int64 × Int32), b9 = q9 → V K 18 [((adA 1), .inl (gI (kG K), 5, .inl fvalues)), ((adA 3), .inl (gI (kG K), 80, .inl fcells)), ((adA 36), .inl (gI (kG K), 3, .inl q_25.2.1)), ((adA 37), .inl (gI (kG K), 3, .inl q_25.2.2.1)), ((adA 38), .inl (gI (kG K), 9, .inl q_25.2.2.2)), (adm, .inr (10, oM adA o_names o_rows o_strength o_most o_toldGraph o_toldArc))] 0 0 573 [(0, .ref adm), (1, .int p0), (2, .int p1), (3, .int p2), (4, .int v), (5, .int part), (6, .long x6_29), (8, .long q9.1), (10, .int i10_31), (11, .int i11_34), (12, .int x12_36), (13, .int q9.2)] []) : ∀ (nn : Nat) (i8_37 : Int64) (i13_38 : Int32), lp (b_X11_test_390 q_25 x6_29 i10_31 i11_34 x12_36) nn (i8_37, i13_38) = some b9 → V K 18 [((adA 1), .inl (gI (kG K), 5, .inl fvalues)), ((adA 3), .inl (gI (kG K), 80, .inl fcells)), ((adA 36), .inl (gI (kG K), 3, .inl q_25.2.1)), ((adA 37), .inl (gI (kG K), 3, .inl q_25.2.2.1)), ((adA 38), .inl (gI (kG K), 9, .inl q_25.2.2.2)), (adm, .inr (10, oM adA o_names o_rows o_strength o_most o_toldGraph o_toldArc))] 0 0 390 [(0, .ref adm), (1, .int p0), (2, .int p1), (3, .int p2), (4, .int v), (5, .int part), (6, .long x6_29), (8, .long i8_37), (10, .int i10_31), (11, .int i11_34), (12, .int x12_36), (13, .int i13_38)] [] := by
  intro nn
  induction nn with
  | zero => intro i8_37 i13_38 h; exact absurd h (by simp [lp])
  | succ nn ih =>
    intro i8_37 i13_38 h
    replace h := lp_s h
    rw [eb_X11_test_390] at h
    refine v_iload hk dX11_test_390 rfl ?_
    refine v_aload_n hk dX11_test_392 rfl ?_
    refine v_get (C := RX11) (T := TX11) (N := 39) (ci := 10) (v := .ref (adA 37)) hk dX11_test_393 w2i_X11_test_X110 5 rfl rfl 37 (by decide) (by decide +kernel) rfl rfl ?_
    refine v_iconst (v := 2) hk dX11_test_396 (by decide) ?_
    obtain ⟨hi, h⟩ := ok_e (g := (lpk (lp (b_X11_test_390 q_25 x6_29 i10_31 i11_34 x12_36) nn))) rfl h
    refine v_ialdV hk dX11_test_397 3 rfl (ix_in hi) ?_
    refine v_icmp_gt (tgt := 573) hk dX11_test_398 (by decide) (fun hc => ?_) (fun hc => ?_)
    · replace h := it_t (g := (lpk (lp (b_X11_test_390 q_25 x6_29 i10_31 i11_34 x12_36) nn))) h hc
      replace h : some (i8_37, i13_38) = some b9 := h
      replace h := Option.some.inj h
      subst h
      exact kk0 _ rfl
    · replace h := it_f (g := (lpk (lp (b_X11_test_390 q_25 x6_29 i10_31 i11_34 x12_36) nn))) h hc
      refine v_iload hk dX11_test_401 rfl ?_
      refine v_aload_n hk dX11_test_403 rfl ?_
      refine v_get (C := RX11) (T := TX11) (N := 39) (ci := 10) (v := .ref (adA 36)) hk dX11_test_404 w2i_X11_test_X110 5 rfl rfl 36 (by decide) (by decide +kernel) rfl rfl ?_
      refine v_iconst (v := 1) hk dX11_test_407 (by decide) ?_
      obtain ⟨hi, h⟩ := ok_e (g := (lpk (lp (b_X11_test_390 q_25 x6_29 i10_31 i11_34 x12_36) nn))) rfl h
      refine v_ialdV hk dX11_test_408 2 rfl (ix_in hi) ?_
      refine v_aload_n hk dX11_test_409 rfl ?_
      refine v_get (C := RX11) (T := TX11) (N := 39) (ci := 10) (v := .ref (adA 37)) hk dX11_test_410 w2i_X11_test_X110 5 rfl rfl 37 (by decide) (by decide +kernel) rfl rfl ?_
      refine v_iconst (v := 0) hk dX11_test_413 (by decide) ?_
      obtain ⟨hi, h⟩ := ok_e (g := (lpk (lp (b_X11_test_390 q_25 x6_29 i10_31 i11_34 x12_36) nn))) rfl h
      refine v_ialdV hk dX11_test_414 3 rfl (ix_in hi) ?_
      refine v_iload hk dX11_test_415 rfl ?_
      refine v_isub hk dX11_test_417 ?_
      obtain ⟨r_39, er_39, h⟩ := bd_e (g := (lpk (lp (b_X11_test_390 q_25 x6_29 i10_31 i11_34 x12_36) nn))) rfl h
      refine v_callS (n := 2) (st := [.int i13_38]) hk dX11_test_418 (c_X11_lesser (kl K) (kG K) (q_25.2.1 (1 : Int32).toNatClampNeg) ((q_25.2.2.1 (0 : Int32).toNatClampNeg) - i10_31) r_39 er_39) gd_X11_test_X11_lesser rfl (by decide +kernel) (frok hR9 (Nat.le_of_ble_eq_true rfl) (Nat.le_of_ble_eq_true rfl)) (roomk hR9 (Nat.le_of_ble_eq_true rfl) (Nat.le_of_ble_eq_true rfl)) rfl rfl (Nat.le_of_ble_eq_true rfl) [] [0, 1, 2, 3, 4, 5] (wr := [((adA 1), .inl (gI (kG K), 5, .inl fvalues)), ((adA 3), .inl (gI (kG K), 80, .inl fcells)), ((adA 36), .inl (gI (kG K), 3, .inl q_25.2.1)), ((adA 37), .inl (gI (kG K), 3, .inl q_25.2.2.1)), ((adA 38), .inl (gI (kG K), 9, .inl q_25.2.2.2)), (adm, .inr (10, oM adA o_names o_rows o_strength o_most o_toldGraph o_toldArc))]) rfl rfl (by decide) (by decide) (by decide) ?_
      intro v9 w9 hp9
      obtain ⟨rfl, rfl⟩ := hp9
      show V K 18 [((adA 1), .inl (gI (kG K), 5, .inl fvalues)), ((adA 3), .inl (gI (kG K), 80, .inl fcells)), ((adA 36), .inl (gI (kG K), 3, .inl q_25.2.1)), ((adA 37), .inl (gI (kG K), 3, .inl q_25.2.2.1)), ((adA 38), .inl (gI (kG K), 9, .inl q_25.2.2.2)), (adm, .inr (10, oM adA o_names o_rows o_strength o_most o_toldGraph o_toldArc))] 0 0 421 [(0, .ref adm), (1, .int p0), (2, .int p1), (3, .int p2), (4, .int v), (5, .int part), (6, .long x6_29), (8, .long i8_37), (10, .int i10_31), (11, .int i11_34), (12, .int x12_36), (13, .int i13_38)] [.int r_39, .int i13_38]
      refine v_icmp_gt (tgt := 573) hk dX11_test_421 (by decide) (fun hc => ?_) (fun hc => ?_)
      · replace h := it_t (g := (lpk (lp (b_X11_test_390 q_25 x6_29 i10_31 i11_34 x12_36) nn))) h hc
        replace h : some (i8_37, i13_38) = some b9 := h
        replace h := Option.some.inj h
        subst h
        exact kk0 _ rfl
      · replace h := it_f (g := (lpk (lp (b_X11_test_390 q_25 x6_29 i10_31 i11_34 x12_36) nn))) h hc
        refine v_iconst (v := 0) hk dX11_test_424 (by decide) ?_
        refine v_istore hk dX11_test_425 (by decide) [1, 2, 3, 4, 5, 6, 7, 8, 9, 10, 11, 12, 0] (lv' := [(0, .ref adm), (1, .int p0), (2, .int p1), (3, .int p2), (4, .int v), (5, .int part), (6, .long x6_29), (8, .long i8_37), (10, .int i10_31), (11, .int i11_34), (12, .int x12_36), (13, .int i13_38), (14, .int 0)]) rfl ?_
        obtain ⟨b_54, eb_54, h⟩ := bd_e (g := (lpk (lp (b_X11_test_390 q_25 x6_29 i10_31 i11_34 x12_36) nn))) rfl h
        refine L_X11_test_427 hk hR9 adm adA o_names o_rows o_strength o_most o_toldGraph o_toldArc fvalues fcells p0 p1 p2 v part q_25 x6_29 i10_31 i11_34 x12_36 i13_38 b_54 (fun q_52 eq_52 => ?_) FU i8_37 0 eb_54
        · replace eq_52 := eq_52.symm
          subst eq_52
          obtain ⟨x13_53, ex13_53, h⟩ := lt_e (g := (lpk (lp (b_X11_test_390 q_25 x6_29 i10_31 i11_34 x12_36) nn))) h
          refine v_iinc (v := x13_53) hk dX11_test_567 rfl (by rw [ex13_53]; rfl) (by decide) [1, 2, 3, 4, 5, 6, 7, 8, 9, 10, 11, 0, 12] (lv' := [(0, .ref adm), (1, .int p0), (2, .int p1), (3, .int p2), (4, .int v), (5, .int part), (6, .long x6_29), (8, .long q_52.1), (10, .int i10_31), (11, .int i11_34), (12, .int x12_36), (13, .int x13_53), (14, .int q_52.2)]) rfl ?_
          refine v_goto (tgt := 390) hk dX11_test_570 (by decide) ?_
          refine v_loc [0, 1, 2, 3, 4, 5, 6, 7, 8, 9, 10, 11] (lv' := [(0, .ref adm), (1, .int p0), (2, .int p1), (3, .int p2), (4, .int v), (5, .int part), (6, .long x6_29), (8, .long q_52.1), (10, .int i10_31), (11, .int i11_34), (12, .int x12_36), (13, .int x13_53)]) rfl ?_
          exact ih q_52.1 x13_53 h
set_option maxHeartbeats 4000000 in
set_option maxRecDepth 100000 in
theorem L_X11_test_350 {K : Cx} {R9 : Room} (hk : Ok K cX11_test 18 RX11 w2_X11_test R9) (hR9 : RoomGe R9 rm_X11_test) (adm : Nat) (adA : Nat → Nat) (o_names : Int32) (o_rows : Int32) (o_strength : Int32) (o_most : Int32) (o_toldGraph : Int32) (o_toldArc : Int32) (fvalues : Nat → Int32) (fcells : Nat → Int32) (p0 : Int32) (p1 : Int32) (p2 : Int32) (v : Int32) (part : Int32) (q_25 : Int32 × (Nat → Int32) × (Nat → Int32) × (Nat → Int32)) (x6_29 : Int64) (i10_31 : Int32) (b9 : (Int64 × Int32)) (kk0 : ∀ q9 : (Int64 × Int32), b9 = q9 → V K 18 [((adA 1), .inl (gI (kG K), 5, .inl fvalues)), ((adA 3), .inl (gI (kG K), 80, .inl fcells)), ((adA 36), .inl (gI (kG K), 3, .inl q_25.2.1)), ((adA 37), .inl (gI (kG K), 3, .inl q_25.2.2.1)), ((adA 38), .inl (gI (kG K), 9, .inl q_25.2.2.2)), (adm, .inr (10, oM adA o_names o_rows o_strength o_most o_toldGraph o_toldArc))] 0 0 579 [(0, .ref adm), (1, .int p0), (2, .int p1), (3, .int p2), (4, .int v), (5, .int part), (6, .long x6_29), (8, .long q9.1), (10, .int i10_31), (11, .int q9.2)] []) : ∀ (nn : Nat) (i8_33 : Int64) (i11_34 : Int32), lp (b_X11_test_350 q_25 x6_29 i10_31) nn (i8_33, i11_34) = some b9 → V K 18 [((adA 1), .inl (gI (kG K), 5, .inl fvalues)), ((adA 3), .inl (gI (kG K), 80, .inl fcells)), ((adA 36), .inl (gI (kG K), 3, .inl q_25.2.1)), ((adA 37), .inl (gI (kG K), 3, .inl q_25.2.2.1)), ((adA 38), .inl (gI (kG K), 9, .inl q_25.2.2.2)), (adm, .inr (10, oM adA o_names o_rows o_strength o_most o_toldGraph o_toldArc))] 0 0 350 [(0, .ref adm), (1, .int p0), (2, .int p1), (3, .int p2), (4, .int v), (5, .int part), (6, .long x6_29), (8, .long i8_33), (10, .int i10_31), (11, .int i11_34)] [] := by
  intro nn
  induction nn with
  | zero => intro i8_33 i11_34 h; exact absurd h (by simp [lp])
  | succ nn ih =>
    intro i8_33 i11_34 h
    replace h := lp_s h
    rw [eb_X11_test_350] at h
    refine v_iload hk dX11_test_350 rfl ?_
    refine v_aload_n hk dX11_test_352 rfl ?_
    refine v_get (C := RX11) (T := TX11) (N := 39) (ci := 10) (v := .ref (adA 36)) hk dX11_test_353 w2i_X11_test_X110 5 rfl rfl 36 (by decide) (by decide +kernel) rfl rfl ?_
    refine v_iconst (v := 0) hk dX11_test_356 (by decide) ?_
    obtain ⟨hi, h⟩ := ok_e (g := (lpk (lp (b_X11_test_350 q_25 x6_29 i10_31) nn))) rfl h
    refine v_ialdV hk dX11_test_357 2 rfl (ix_in hi) ?_
    refine v_iload hk dX11_test_358 rfl ?_
    refine v_isub hk dX11_test_360 ?_
    refine v_aload_n hk dX11_test_361 rfl ?_
    refine v_get (C := RX11) (T := TX11) (N := 39) (ci := 10) (v := .ref (adA 37)) hk dX11_test_362 w2i_X11_test_X110 5 rfl rfl 37 (by decide) (by decide +kernel) rfl rfl ?_
    refine v_iconst (v := 1) hk dX11_test_365 (by decide) ?_
    obtain ⟨hi, h⟩ := ok_e (g := (lpk (lp (b_X11_test_350 q_25 x6_29 i10_31) nn))) rfl h
    refine v_ialdV hk dX11_test_366 3 rfl (ix_in hi) ?_
    obtain ⟨r_35, er_35, h⟩ := bd_e (g := (lpk (lp (b_X11_test_350 q_25 x6_29 i10_31) nn))) rfl h
    refine v_callS (n := 2) (st := [.int i11_34]) hk dX11_test_367 (c_X11_lesser (kl K) (kG K) ((q_25.2.1 (0 : Int32).toNatClampNeg) - i10_31) (q_25.2.2.1 (1 : Int32).toNatClampNeg) r_35 er_35) gd_X11_test_X11_lesser rfl (by decide +kernel) (frok hR9 (Nat.le_of_ble_eq_true rfl) (Nat.le_of_ble_eq_true rfl)) (roomk hR9 (Nat.le_of_ble_eq_true rfl) (Nat.le_of_ble_eq_true rfl)) rfl rfl (Nat.le_of_ble_eq_true rfl) [] [0, 1, 2, 3, 4, 5] (wr := [((adA 1), .inl (gI (kG K), 5, .inl fvalues)), ((adA 3), .inl (gI (kG K), 80, .inl fcells)), ((adA 36), .inl (gI (kG K), 3, .inl q_25.2.1)), ((adA 37), .inl (gI (kG K), 3, .inl q_25.2.2.1)), ((adA 38), .inl (gI (kG K), 9, .inl q_25.2.2.2)), (adm, .inr (10, oM adA o_names o_rows o_strength o_most o_toldGraph o_toldArc))]) rfl rfl (by decide) (by decide) (by decide) ?_
    intro v9 w9 hp9
    obtain ⟨rfl, rfl⟩ := hp9
    show V K 18 [((adA 1), .inl (gI (kG K), 5, .inl fvalues)), ((adA 3), .inl (gI (kG K), 80, .inl fcells)), ((adA 36), .inl (gI (kG K), 3, .inl q_25.2.1)), ((adA 37), .inl (gI (kG K), 3, .inl q_25.2.2.1)), ((adA 38), .inl (gI (kG K), 9, .inl q_25.2.2.2)), (adm, .inr (10, oM adA o_names o_rows o_strength o_most o_toldGraph o_toldArc))] 0 0 370 [(0, .ref adm), (1, .int p0), (2, .int p1), (3, .int p2), (4, .int v), (5, .int part), (6, .long x6_29), (8, .long i8_33), (10, .int i10_31), (11, .int i11_34)] [.int r_35, .int i11_34]
    refine v_icmp_gt (tgt := 579) hk dX11_test_370 (by decide) (fun hc => ?_) (fun hc => ?_)
    · replace h := it_t (g := (lpk (lp (b_X11_test_350 q_25 x6_29 i10_31) nn))) h hc
      replace h : some (i8_33, i11_34) = some b9 := h
      replace h := Option.some.inj h
      subst h
      exact kk0 _ rfl
    · replace h := it_f (g := (lpk (lp (b_X11_test_350 q_25 x6_29 i10_31) nn))) h hc
      refine v_aload_n hk dX11_test_373 rfl ?_
      refine v_get (C := RX11) (T := TX11) (N := 39) (ci := 10) (v := .ref (adA 36)) hk dX11_test_374 w2i_X11_test_X110 5 rfl rfl 36 (by decide) (by decide +kernel) rfl rfl ?_
      refine v_iconst (v := 0) hk dX11_test_377 (by decide) ?_
      obtain ⟨hi, h⟩ := ok_e (g := (lpk (lp (b_X11_test_350 q_25 x6_29 i10_31) nn))) rfl h
      refine v_ialdV hk dX11_test_378 2 rfl (ix_in hi) ?_
      refine v_iload hk dX11_test_379 rfl ?_
      refine v_isub hk dX11_test_381 ?_
      refine v_iload hk dX11_test_382 rfl ?_
      refine v_isub hk dX11_test_384 ?_
      obtain ⟨x12_36, ex12_36, h⟩ := lt_e (g := (lpk (lp (b_X11_test_350 q_25 x6_29 i10_31) nn))) h
      refine v_topi ex12_36.symm ?_
      refine v_istore hk dX11_test_385 (by decide) [1, 2, 3, 4, 5, 6, 7, 8, 9, 10, 0] (lv' := [(0, .ref adm), (1, .int p0), (2, .int p1), (3, .int p2), (4, .int v), (5, .int part), (6, .long x6_29), (8, .long i8_33), (10, .int i10_31), (11, .int i11_34), (12, .int x12_36)]) rfl ?_
      refine v_iconst (v := 0) hk dX11_test_387 (by decide) ?_
      refine v_istore hk dX11_test_388 (by decide) [1, 2, 3, 4, 5, 6, 7, 8, 9, 10, 11, 0] (lv' := [(0, .ref adm), (1, .int p0), (2, .int p1), (3, .int p2), (4, .int v), (5, .int part), (6, .long x6_29), (8, .long i8_33), (10, .int i10_31), (11, .int i11_34), (12, .int x12_36), (13, .int 0)]) rfl ?_
      obtain ⟨b_57, eb_57, h⟩ := bd_e (g := (lpk (lp (b_X11_test_350 q_25 x6_29 i10_31) nn))) rfl h
      refine L_X11_test_390 hk hR9 adm adA o_names o_rows o_strength o_most o_toldGraph o_toldArc fvalues fcells p0 p1 p2 v part q_25 x6_29 i10_31 i11_34 x12_36 b_57 (fun q_55 eq_55 => ?_) FU i8_33 0 eb_57
      · replace eq_55 := eq_55.symm
        subst eq_55
        obtain ⟨x11_56, ex11_56, h⟩ := lt_e (g := (lpk (lp (b_X11_test_350 q_25 x6_29 i10_31) nn))) h
        refine v_iinc (v := x11_56) hk dX11_test_573 rfl (by rw [ex11_56]; rfl) (by decide) [1, 2, 3, 4, 5, 6, 7, 8, 9, 0, 10, 11] (lv' := [(0, .ref adm), (1, .int p0), (2, .int p1), (3, .int p2), (4, .int v), (5, .int part), (6, .long x6_29), (8, .long q_55.1), (10, .int i10_31), (11, .int x11_56), (12, .int x12_36), (13, .int q_55.2)]) rfl ?_
        refine v_goto (tgt := 350) hk dX11_test_576 (by decide) ?_
        refine v_loc [0, 1, 2, 3, 4, 5, 6, 7, 8, 9] (lv' := [(0, .ref adm), (1, .int p0), (2, .int p1), (3, .int p2), (4, .int v), (5, .int part), (6, .long x6_29), (8, .long q_55.1), (10, .int i10_31), (11, .int x11_56)]) rfl ?_
        exact ih q_55.1 x11_56 h
set_option maxHeartbeats 4000000 in
set_option maxRecDepth 100000 in
theorem L_X11_test_327 {K : Cx} {R9 : Room} (hk : Ok K cX11_test 18 RX11 w2_X11_test R9) (hR9 : RoomGe R9 rm_X11_test) (adm : Nat) (adA : Nat → Nat) (o_names : Int32) (o_rows : Int32) (o_strength : Int32) (o_most : Int32) (o_toldGraph : Int32) (o_toldArc : Int32) (fvalues : Nat → Int32) (fcells : Nat → Int32) (p0 : Int32) (p1 : Int32) (p2 : Int32) (v : Int32) (part : Int32) (q_25 : Int32 × (Nat → Int32) × (Nat → Int32) × (Nat → Int32)) (x6_29 : Int64) (b9 : (Int64 × Int32)) (kk0 : ∀ q9 : (Int64 × Int32), b9 = q9 → V K 18 [((adA 1), .inl (gI (kG K), 5, .inl fvalues)), ((adA 3), .inl (gI (kG K), 80, .inl fcells)), ((adA 36), .inl (gI (kG K), 3, .inl q_25.2.1)), ((adA 37), .inl (gI (kG K), 3, .inl q_25.2.2.1)), ((adA 38), .inl (gI (kG K), 9, .inl q_25.2.2.2)), (adm, .inr (10, oM adA o_names o_rows o_strength o_most o_toldGraph o_toldArc))] 0 0 585 [(0, .ref adm), (1, .int p0), (2, .int p1), (3, .int p2), (4, .int v), (5, .int part), (6, .long x6_29), (8, .long q9.1), (10, .int q9.2)] []) : ∀ (nn : Nat) (i8_30 : Int64) (i10_31 : Int32), lp (b_X11_test_327 q_25 x6_29) nn (i8_30, i10_31) = some b9 → V K 18 [((adA 1), .inl (gI (kG K), 5, .inl fvalues)), ((adA 3), .inl (gI (kG K), 80, .inl fcells)), ((adA 36), .inl (gI (kG K), 3, .inl q_25.2.1)), ((adA 37), .inl (gI (kG K), 3, .inl q_25.2.2.1)), ((adA 38), .inl (gI (kG K), 9, .inl q_25.2.2.2)), (adm, .inr (10, oM adA o_names o_rows o_strength o_most o_toldGraph o_toldArc))] 0 0 327 [(0, .ref adm), (1, .int p0), (2, .int p1), (3, .int p2), (4, .int v), (5, .int part), (6, .long x6_29), (8, .long i8_30), (10, .int i10_31)] [] := by
  intro nn
  induction nn with
  | zero => intro i8_30 i10_31 h; exact absurd h (by simp [lp])
  | succ nn ih =>
    intro i8_30 i10_31 h
    replace h := lp_s h
    rw [eb_X11_test_327] at h
    refine v_iload hk dX11_test_327 rfl ?_
    refine v_aload_n hk dX11_test_329 rfl ?_
    refine v_get (C := RX11) (T := TX11) (N := 39) (ci := 10) (v := .ref (adA 36)) hk dX11_test_330 w2i_X11_test_X110 5 rfl rfl 36 (by decide) (by decide +kernel) rfl rfl ?_
    refine v_iconst (v := 0) hk dX11_test_333 (by decide) ?_
    obtain ⟨hi, h⟩ := ok_e (g := (lpk (lp (b_X11_test_327 q_25 x6_29) nn))) rfl h
    refine v_ialdV hk dX11_test_334 2 rfl (ix_in hi) ?_
    refine v_aload_n hk dX11_test_335 rfl ?_
    refine v_get (C := RX11) (T := TX11) (N := 39) (ci := 10) (v := .ref (adA 37)) hk dX11_test_336 w2i_X11_test_X110 5 rfl rfl 37 (by decide) (by decide +kernel) rfl rfl ?_
    refine v_iconst (v := 0) hk dX11_test_339 (by decide) ?_
    obtain ⟨hi, h⟩ := ok_e (g := (lpk (lp (b_X11_test_327 q_25 x6_29) nn))) rfl h
    refine v_ialdV hk dX11_test_340 3 rfl (ix_in hi) ?_
    obtain ⟨r_32, er_32, h⟩ := bd_e (g := (lpk (lp (b_X11_test_327 q_25 x6_29) nn))) rfl h
    refine v_callS (n := 2) (st := [.int i10_31]) hk dX11_test_341 (c_X11_lesser (kl K) (kG K) (q_25.2.1 (0 : Int32).toNatClampNeg) (q_25.2.2.1 (0 : Int32).toNatClampNeg) r_32 er_32) gd_X11_test_X11_lesser rfl (by decide +kernel) (frok hR9 (Nat.le_of_ble_eq_true rfl) (Nat.le_of_ble_eq_true rfl)) (roomk hR9 (Nat.le_of_ble_eq_true rfl) (Nat.le_of_ble_eq_true rfl)) rfl rfl (Nat.le_of_ble_eq_true rfl) [] [0, 1, 2, 3, 4, 5] (wr := [((adA 1), .inl (gI (kG K), 5, .inl fvalues)), ((adA 3), .inl (gI (kG K), 80, .inl fcells)), ((adA 36), .inl (gI (kG K), 3, .inl q_25.2.1)), ((adA 37), .inl (gI (kG K), 3, .inl q_25.2.2.1)), ((adA 38), .inl (gI (kG K), 9, .inl q_25.2.2.2)), (adm, .inr (10, oM adA o_names o_rows o_strength o_most o_toldGraph o_toldArc))]) rfl rfl (by decide) (by decide) (by decide) ?_
    intro v9 w9 hp9
    obtain ⟨rfl, rfl⟩ := hp9
    show V K 18 [((adA 1), .inl (gI (kG K), 5, .inl fvalues)), ((adA 3), .inl (gI (kG K), 80, .inl fcells)), ((adA 36), .inl (gI (kG K), 3, .inl q_25.2.1)), ((adA 37), .inl (gI (kG K), 3, .inl q_25.2.2.1)), ((adA 38), .inl (gI (kG K), 9, .inl q_25.2.2.2)), (adm, .inr (10, oM adA o_names o_rows o_strength o_most o_toldGraph o_toldArc))] 0 0 344 [(0, .ref adm), (1, .int p0), (2, .int p1), (3, .int p2), (4, .int v), (5, .int part), (6, .long x6_29), (8, .long i8_30), (10, .int i10_31)] [.int r_32, .int i10_31]
    refine v_icmp_gt (tgt := 585) hk dX11_test_344 (by decide) (fun hc => ?_) (fun hc => ?_)
    · replace h := it_t (g := (lpk (lp (b_X11_test_327 q_25 x6_29) nn))) h hc
      replace h : some (i8_30, i10_31) = some b9 := h
      replace h := Option.some.inj h
      subst h
      exact kk0 _ rfl
    · replace h := it_f (g := (lpk (lp (b_X11_test_327 q_25 x6_29) nn))) h hc
      refine v_iconst (v := 0) hk dX11_test_347 (by decide) ?_
      refine v_istore hk dX11_test_348 (by decide) [1, 2, 3, 4, 5, 6, 7, 8, 9, 0] (lv' := [(0, .ref adm), (1, .int p0), (2, .int p1), (3, .int p2), (4, .int v), (5, .int part), (6, .long x6_29), (8, .long i8_30), (10, .int i10_31), (11, .int 0)]) rfl ?_
      obtain ⟨b_60, eb_60, h⟩ := bd_e (g := (lpk (lp (b_X11_test_327 q_25 x6_29) nn))) rfl h
      refine L_X11_test_350 hk hR9 adm adA o_names o_rows o_strength o_most o_toldGraph o_toldArc fvalues fcells p0 p1 p2 v part q_25 x6_29 i10_31 b_60 (fun q_58 eq_58 => ?_) FU i8_30 0 eb_60
      · replace eq_58 := eq_58.symm
        subst eq_58
        obtain ⟨x10_59, ex10_59, h⟩ := lt_e (g := (lpk (lp (b_X11_test_327 q_25 x6_29) nn))) h
        refine v_iinc (v := x10_59) hk dX11_test_579 rfl (by rw [ex10_59]; rfl) (by decide) [1, 2, 3, 4, 5, 6, 7, 8, 0, 9] (lv' := [(0, .ref adm), (1, .int p0), (2, .int p1), (3, .int p2), (4, .int v), (5, .int part), (6, .long x6_29), (8, .long q_58.1), (10, .int x10_59), (11, .int q_58.2)]) rfl ?_
        refine v_goto (tgt := 327) hk dX11_test_582 (by decide) ?_
        refine v_loc [0, 1, 2, 3, 4, 5, 6, 7, 8] (lv' := [(0, .ref adm), (1, .int p0), (2, .int p1), (3, .int p2), (4, .int v), (5, .int part), (6, .long x6_29), (8, .long q_58.1), (10, .int x10_59)]) rfl ?_
        exact ih q_58.1 x10_59 h
set_option maxHeartbeats 4000000 in
set_option maxRecDepth 100000 in
theorem L_X11_test_427v1 {K : Cx} {R9 : Room} (hk : Ok K cX11_test 18 RX11 w2_X11_test R9) (hR9 : RoomGe R9 rm_X11_test) (adm : Nat) (adA : Nat → Nat) (o_names : Int32) (o_rows : Int32) (o_strength : Int32) (o_most : Int32) (o_toldGraph : Int32) (o_toldArc : Int32) (fvalues : Nat → Int32) (fcells : Nat → Int32) (p0 : Int32) (p1 : Int32) (p2 : Int32) (v : Int32) (part : Int32) (q_69 : Int32 × (Nat → Int32) × (Nat → Int32) × (Nat → Int32)) (x6_73 : Int64) (i10_75 : Int32) (i11_78 : Int32) (x12_80 : Int32) (i13_82 : Int32) (b9 : (Int64 × Int32)) (kk0 : ∀ q9 : (Int64 × Int32), b9 = q9 → V K 18 [((adA 1), .inl (gI (kG K), 5, .inl fvalues)), ((adA 3), .inl (gI (kG K), 80, .inl fcells)), ((adA 36), .inl (gI (kG K), 3, .inl q_69.2.1)), ((adA 37), .inl (gI (kG K), 3, .inl q_69.2.2.1)), ((adA 38), .inl (gI (kG K), 9, .inl q_69.2.2.2)), (adm, .inr (10, oM adA o_names o_rows o_strength o_most o_toldGraph o_toldArc))] 0 0 567 [(0, .ref adm), (1, .int p0), (2, .int p1), (3, .int p2), (4, .int v), (5, .int part), (6, .long x6_73), (8, .long q9.1), (10, .int i10_75), (11, .int i11_78), (12, .int x12_80), (13, .int i13_82), (14, .int q9.2)] []) : ∀ (nn : Nat) (i8_84 : Int64) (i14_85 : Int32), lp (b_X11_test_427v1 q_69 x6_73 i10_75 i11_78 x12_80 i13_82) nn (i8_84, i14_85) = some b9 → V K 18 [((adA 1), .inl (gI (kG K), 5, .inl fvalues)), ((adA 3), .inl (gI (kG K), 80, .inl fcells)), ((adA 36), .inl (gI (kG K), 3, .inl q_69.2.1)), ((adA 37), .inl (gI (kG K), 3, .inl q_69.2.2.1)), ((adA 38), .inl (gI (kG K), 9, .inl q_69.2.2.2)), (adm, .inr (10, oM adA o_names o_rows o_strength o_most o_toldGraph o_toldArc))] 0 0 427 [(0, .ref adm), (1, .int p0), (2, .int p1), (3, .int p2), (4, .int v), (5, .int part), (6, .long x6_73), (8, .long i8_84), (10, .int i10_75), (11, .int i11_78), (12, .int x12_80), (13, .int i13_82), (14, .int i14_85)] [] := by
  intro nn
  induction nn with
  | zero => intro i8_84 i14_85 h; exact absurd h (by simp [lp])
  | succ nn ih =>
    intro i8_84 i14_85 h
    replace h := lp_s h
    rw [eb_X11_test_427v1] at h
    refine v_iload hk dX11_test_427 rfl ?_
    refine v_aload_n hk dX11_test_429 rfl ?_
    refine v_get (C := RX11) (T := TX11) (N := 39) (ci := 10) (v := .ref (adA 36)) hk dX11_test_430 w2i_X11_test_X110 5 rfl rfl 36 (by decide) (by decide +kernel) rfl rfl ?_
    refine v_iconst (v := 1) hk dX11_test_433 (by decide) ?_
    obtain ⟨hi, h⟩ := ok_e (g := (lpk (lp (b_X11_test_427v1 q_69 x6_73 i10_75 i11_78 x12_80 i13_82) nn))) rfl h
    refine v_ialdV hk dX11_test_434 2 rfl (ix_in hi) ?_
    refine v_iload hk dX11_test_435 rfl ?_
    refine v_isub hk dX11_test_437 ?_
    refine v_aload_n hk dX11_test_438 rfl ?_
    refine v_get (C := RX11) (T := TX11) (N := 39) (ci := 10) (v := .ref (adA 37)) hk dX11_test_439 w2i_X11_test_X110 5 rfl rfl 37 (by decide) (by decide +kernel) rfl rfl ?_
    refine v_iconst (v := 1) hk dX11_test_442 (by decide) ?_
    obtain ⟨hi, h⟩ := ok_e (g := (lpk (lp (b_X11_test_427v1 q_69 x6_73 i10_75 i11_78 x12_80 i13_82) nn))) rfl h
    refine v_ialdV hk dX11_test_443 3 rfl (ix_in hi) ?_
    refine v_iload hk dX11_test_444 rfl ?_
    refine v_isub hk dX11_test_446 ?_
    obtain ⟨r_86, er_86, h⟩ := bd_e (g := (lpk (lp (b_X11_test_427v1 q_69 x6_73 i10_75 i11_78 x12_80 i13_82) nn))) rfl h
    refine v_callS (n := 2) (st := [.int i14_85]) hk dX11_test_447 (c_X11_lesser (kl K) (kG K) ((q_69.2.1 (1 : Int32).toNatClampNeg) - i13_82) ((q_69.2.2.1 (1 : Int32).toNatClampNeg) - i11_78) r_86 er_86) gd_X11_test_X11_lesser rfl (by decide +kernel) (frok hR9 (Nat.le_of_ble_eq_true rfl) (Nat.le_of_ble_eq_true rfl)) (roomk hR9 (Nat.le_of_ble_eq_true rfl) (Nat.le_of_ble_eq_true rfl)) rfl rfl (Nat.le_of_ble_eq_true rfl) [] [0, 1, 2, 3, 4, 5] (wr := [((adA 1), .inl (gI (kG K), 5, .inl fvalues)), ((adA 3), .inl (gI (kG K), 80, .inl fcells)), ((adA 36), .inl (gI (kG K), 3, .inl q_69.2.1)), ((adA 37), .inl (gI (kG K), 3, .inl q_69.2.2.1)), ((adA 38), .inl (gI (kG K), 9, .inl q_69.2.2.2)), (adm, .inr (10, oM adA o_names o_rows o_strength o_most o_toldGraph o_toldArc))]) rfl rfl (by decide) (by decide) (by decide) ?_
    intro v9 w9 hp9
    obtain ⟨rfl, rfl⟩ := hp9
    show V K 18 [((adA 1), .inl (gI (kG K), 5, .inl fvalues)), ((adA 3), .inl (gI (kG K), 80, .inl fcells)), ((adA 36), .inl (gI (kG K), 3, .inl q_69.2.1)), ((adA 37), .inl (gI (kG K), 3, .inl q_69.2.2.1)), ((adA 38), .inl (gI (kG K), 9, .inl q_69.2.2.2)), (adm, .inr (10, oM adA o_names o_rows o_strength o_most o_toldGraph o_toldArc))] 0 0 450 [(0, .ref adm), (1, .int p0), (2, .int p1), (3, .int p2), (4, .int v), (5, .int part), (6, .long x6_73), (8, .long i8_84), (10, .int i10_75), (11, .int i11_78), (12, .int x12_80), (13, .int i13_82), (14, .int i14_85)] [.int r_86, .int i14_85]
    refine v_icmp_gt (tgt := 567) hk dX11_test_450 (by decide) (fun hc => ?_) (fun hc => ?_)
    · replace h := it_t (g := (lpk (lp (b_X11_test_427v1 q_69 x6_73 i10_75 i11_78 x12_80 i13_82) nn))) h hc
      replace h : some (i8_84, i14_85) = some b9 := h
      replace h := Option.some.inj h
      subst h
      exact kk0 _ rfl
    · replace h := it_f (g := (lpk (lp (b_X11_test_427v1 q_69 x6_73 i10_75 i11_78 x12_80 i13_82) nn))) h hc
      refine v_aload_n hk dX11_test_453 rfl ?_
      refine v_get (C := RX11) (T := TX11) (N := 39) (ci := 10) (v := .ref (adA 36)) hk dX11_test_454 w2i_X11_test_X110 5 rfl rfl 36 (by decide) (by decide +kernel) rfl rfl ?_
      refine v_iconst (v := 1) hk dX11_test_457 (by decide) ?_
      obtain ⟨hi, h⟩ := ok_e (g := (lpk (lp (b_X11_test_427v1 q_69 x6_73 i10_75 i11_78 x12_80 i13_82) nn))) rfl h
      refine v_ialdV hk dX11_test_458 2 rfl (ix_in hi) ?_
      refine v_iload hk dX11_test_459 rfl ?_
      refine v_isub hk dX11_test_461 ?_
      refine v_iload hk dX11_test_462 rfl ?_
      refine v_isub hk dX11_test_464 ?_
      obtain ⟨x15_87, ex15_87, h⟩ := lt_e (g := (lpk (lp (b_X11_test_427v1 q_69 x6_73 i10_75 i11_78 x12_80 i13_82) nn))) h
      refine v_topi ex15_87.symm ?_
      refine v_istore hk dX11_test_465 (by decide) [1, 2, 3, 4, 5, 6, 7, 8, 9, 10, 11, 12, 13, 0] (lv' := [(0, .ref adm), (1, .int p0), (2, .int p1), (3, .int p2), (4, .int v), (5, .int part), (6, .long x6_73), (8, .long i8_84), (10, .int i10_75), (11, .int i11_78), (12, .int x12_80), (13, .int i13_82), (14, .int i14_85), (15, .int x15_87)]) rfl ?_
      refine v_iload hk dX11_test_467 rfl ?_
      refine v_aload_n hk dX11_test_469 rfl ?_
      refine v_get (C := RX11) (T := TX11) (N := 39) (ci := 10) (v := .ref (adA 37)) hk dX11_test_470 w2i_X11_test_X110 5 rfl rfl 37 (by decide) (by decide +kernel) rfl rfl ?_
      refine v_iconst (v := 2) hk dX11_test_473 (by decide) ?_
      obtain ⟨hi, h⟩ := ok_e (g := (lpk (lp (b_X11_test_427v1 q_69 x6_73 i10_75 i11_78 x12_80 i13_82) nn))) rfl h
      refine v_ialdV hk dX11_test_474 3 rfl (ix_in hi) ?_
      refine v_iload hk dX11_test_475 rfl ?_
      refine v_isub hk dX11_test_477 ?_
      refine v_icmp_gt (tgt := 561) hk dX11_test_478 (by decide) (fun hc => ?_) (fun hc => ?_)
      · replace h := it_t (g := (lpk (lp (b_X11_test_427v1 q_69 x6_73 i10_75 i11_78 x12_80 i13_82) nn))) h hc
        obtain ⟨x14_88, ex14_88, h⟩ := lt_e (g := (lpk (lp (b_X11_test_427v1 q_69 x6_73 i10_75 i11_78 x12_80 i13_82) nn))) h
        refine v_iinc (v := x14_88) hk dX11_test_561 rfl (by rw [ex14_88]; rfl) (by decide) [1, 2, 3, 4, 5, 6, 7, 8, 9, 10, 11, 12, 0, 13] (lv' := [(0, .ref adm), (1, .int p0), (2, .int p1), (3, .int p2), (4, .int v), (5, .int part), (6, .long x6_73), (8, .long i8_84), (10, .int i10_75), (11, .int i11_78), (12, .int x12_80), (13, .int i13_82), (14, .int x14_88), (15, .int x15_87)]) rfl ?_
        refine v_goto (tgt := 427) hk dX11_test_564 (by decide) ?_
        refine v_loc [0, 1, 2, 3, 4, 5, 6, 7, 8, 9, 10, 11, 12] (lv' := [(0, .ref adm), (1, .int p0), (2, .int p1), (3, .int p2), (4, .int v), (5, .int part), (6, .long x6_73), (8, .long i8_84), (10, .int i10_75), (11, .int i11_78), (12, .int x12_80), (13, .int i13_82), (14, .int x14_88)]) rfl ?_
        exact ih i8_84 x14_88 h
      · replace h := it_f (g := (lpk (lp (b_X11_test_427v1 q_69 x6_73 i10_75 i11_78 x12_80 i13_82) nn))) h hc
        refine v_iload hk dX11_test_481 rfl ?_
        refine v_iload hk dX11_test_483 rfl ?_
        refine v_iload hk dX11_test_485 rfl ?_
        obtain ⟨r_89, er_89, h⟩ := bd_e (g := (lpk (lp (b_X11_test_427v1 q_69 x6_73 i10_75 i11_78 x12_80 i13_82) nn))) rfl h
        refine v_callS (n := 3) (st := []) hk dX11_test_487 (c_X11_ways (kl K) (kG K) i10_75 i11_78 x12_80 r_89 er_89) gd_X11_test_X11_ways rfl (by decide +kernel) (frok hR9 (Nat.le_of_ble_eq_true rfl) (Nat.le_of_ble_eq_true rfl)) (roomk hR9 (Nat.le_of_ble_eq_true rfl) (Nat.le_of_ble_eq_true rfl)) rfl rfl (Nat.le_of_ble_eq_true rfl) [] [0, 1, 2, 3, 4, 5] (wr := [((adA 1), .inl (gI (kG K), 5, .inl fvalues)), ((adA 3), .inl (gI (kG K), 80, .inl fcells)), ((adA 36), .inl (gI (kG K), 3, .inl q_69.2.1)), ((adA 37), .inl (gI (kG K), 3, .inl q_69.2.2.1)), ((adA 38), .inl (gI (kG K), 9, .inl q_69.2.2.2)), (adm, .inr (10, oM adA o_names o_rows o_strength o_most o_toldGraph o_toldArc))]) rfl rfl (by decide) (by decide) (by decide) ?_
        intro v9 w9 hp9
        obtain ⟨rfl, rfl⟩ := hp9
        show V K 18 [((adA 1), .inl (gI (kG K), 5, .inl fvalues)), ((adA 3), .inl (gI (kG K), 80, .inl fcells)), ((adA 36), .inl (gI (kG K), 3, .inl q_69.2.1)), ((adA 37), .inl (gI (kG K), 3, .inl q_69.2.2.1)), ((adA 38), .inl (gI (kG K), 9, .inl q_69.2.2.2)), (adm, .inr (10, oM adA o_names o_rows o_strength o_most o_toldGraph o_toldArc))] 0 0 490 [(0, .ref adm), (1, .int p0), (2, .int p1), (3, .int p2), (4, .int v), (5, .int part), (6, .long x6_73), (8, .long i8_84), (10, .int i10_75), (11, .int i11_78), (12, .int x12_80), (13, .int i13_82), (14, .int i14_85), (15, .int x15_87)] [.long r_89]
        refine v_iload hk dX11_test_490 rfl ?_
        refine v_iload hk dX11_test_492 rfl ?_
        refine v_iload hk dX11_test_494 rfl ?_
        obtain ⟨r_90, er_90, h⟩ := bd_e (g := (lpk (lp (b_X11_test_427v1 q_69 x6_73 i10_75 i11_78 x12_80 i13_82) nn))) rfl h
        refine v_callS (n := 3) (st := [.long r_89]) hk dX11_test_496 (c_X11_ways (kl K) (kG K) i13_82 i14_85 x15_87 r_90 er_90) gd_X11_test_X11_ways rfl (by decide +kernel) (frok hR9 (Nat.le_of_ble_eq_true rfl) (Nat.le_of_ble_eq_true rfl)) (roomk hR9 (Nat.le_of_ble_eq_true rfl) (Nat.le_of_ble_eq_true rfl)) rfl rfl (Nat.le_of_ble_eq_true rfl) [] [0, 1, 2, 3, 4, 5] (wr := [((adA 1), .inl (gI (kG K), 5, .inl fvalues)), ((adA 3), .inl (gI (kG K), 80, .inl fcells)), ((adA 36), .inl (gI (kG K), 3, .inl q_69.2.1)), ((adA 37), .inl (gI (kG K), 3, .inl q_69.2.2.1)), ((adA 38), .inl (gI (kG K), 9, .inl q_69.2.2.2)), (adm, .inr (10, oM adA o_names o_rows o_strength o_most o_toldGraph o_toldArc))]) rfl rfl (by decide) (by decide) (by decide) ?_
        intro v9 w9 hp9
        obtain ⟨rfl, rfl⟩ := hp9
        show V K 18 [((adA 1), .inl (gI (kG K), 5, .inl fvalues)), ((adA 3), .inl (gI (kG K), 80, .inl fcells)), ((adA 36), .inl (gI (kG K), 3, .inl q_69.2.1)), ((adA 37), .inl (gI (kG K), 3, .inl q_69.2.2.1)), ((adA 38), .inl (gI (kG K), 9, .inl q_69.2.2.2)), (adm, .inr (10, oM adA o_names o_rows o_strength o_most o_toldGraph o_toldArc))] 0 0 499 [(0, .ref adm), (1, .int p0), (2, .int p1), (3, .int p2), (4, .int v), (5, .int part), (6, .long x6_73), (8, .long i8_84), (10, .int i10_75), (11, .int i11_78), (12, .int x12_80), (13, .int i13_82), (14, .int i14_85), (15, .int x15_87)] [.long r_90, .long r_89]
        refine v_lmul hk dX11_test_499 ?_
        refine v_aload_n hk dX11_test_500 rfl ?_
        refine v_get (C := RX11) (T := TX11) (N := 39) (ci := 10) (v := .ref (adA 37)) hk dX11_test_501 w2i_X11_test_X110 5 rfl rfl 37 (by decide) (by decide +kernel) rfl rfl ?_
        refine v_iconst (v := 0) hk dX11_test_504 (by decide) ?_
        obtain ⟨hi, h⟩ := ok_e (g := (lpk (lp (b_X11_test_427v1 q_69 x6_73 i10_75 i11_78 x12_80 i13_82) nn))) rfl h
        refine v_ialdV hk dX11_test_505 3 rfl (ix_in hi) ?_
        refine v_iload hk dX11_test_506 rfl ?_
        refine v_isub hk dX11_test_508 ?_
        refine v_iload hk dX11_test_509 rfl ?_
        refine v_isub hk dX11_test_511 ?_
        refine v_aload_n hk dX11_test_512 rfl ?_
        refine v_get (C := RX11) (T := TX11) (N := 39) (ci := 10) (v := .ref (adA 37)) hk dX11_test_513 w2i_X11_test_X110 5 rfl rfl 37 (by decide) (by decide +kernel) rfl rfl ?_
        refine v_iconst (v := 1) hk dX11_test_516 (by decide) ?_
        obtain ⟨hi, h⟩ := ok_e (g := (lpk (lp (b_X11_test_427v1 q_69 x6_73 i10_75 i11_78 x12_80 i13_82) nn))) rfl h
        refine v_ialdV hk dX11_test_517 3 rfl (ix_in hi) ?_
        refine v_iload hk dX11_test_518 rfl ?_
        refine v_isub hk dX11_test_520 ?_
        refine v_iload hk dX11_test_521 rfl ?_
        refine v_isub hk dX11_test_523 ?_
        refine v_aload_n hk dX11_test_524 rfl ?_
        refine v_get (C := RX11) (T := TX11) (N := 39) (ci := 10) (v := .ref (adA 37)) hk dX11_test_525 w2i_X11_test_X110 5 rfl rfl 37 (by decide) (by decide +kernel) rfl rfl ?_
        refine v_iconst (v := 2) hk dX11_test_528 (by decide) ?_
        obtain ⟨hi, h⟩ := ok_e (g := (lpk (lp (b_X11_test_427v1 q_69 x6_73 i10_75 i11_78 x12_80 i13_82) nn))) rfl h
        refine v_ialdV hk dX11_test_529 3 rfl (ix_in hi) ?_
        refine v_iload hk dX11_test_530 rfl ?_
        refine v_isub hk dX11_test_532 ?_
        refine v_iload hk dX11_test_533 rfl ?_
        refine v_isub hk dX11_test_535 ?_
        obtain ⟨r_91, er_91, h⟩ := bd_e (g := (lpk (lp (b_X11_test_427v1 q_69 x6_73 i10_75 i11_78 x12_80 i13_82) nn))) rfl h
        refine v_callS (n := 3) (st := [.long (r_89 * r_90)]) hk dX11_test_536 (c_X11_ways (kl K) (kG K) (((q_69.2.2.1 (0 : Int32).toNatClampNeg) - i10_75) - i13_82) (((q_69.2.2.1 (1 : Int32).toNatClampNeg) - i11_78) - i14_85) (((q_69.2.2.1 (2 : Int32).toNatClampNeg) - x12_80) - x15_87) r_91 er_91) gd_X11_test_X11_ways rfl (by decide +kernel) (frok hR9 (Nat.le_of_ble_eq_true rfl) (Nat.le_of_ble_eq_true rfl)) (roomk hR9 (Nat.le_of_ble_eq_true rfl) (Nat.le_of_ble_eq_true rfl)) rfl rfl (Nat.le_of_ble_eq_true rfl) [] [0, 1, 2, 3, 4, 5] (wr := [((adA 1), .inl (gI (kG K), 5, .inl fvalues)), ((adA 3), .inl (gI (kG K), 80, .inl fcells)), ((adA 36), .inl (gI (kG K), 3, .inl q_69.2.1)), ((adA 37), .inl (gI (kG K), 3, .inl q_69.2.2.1)), ((adA 38), .inl (gI (kG K), 9, .inl q_69.2.2.2)), (adm, .inr (10, oM adA o_names o_rows o_strength o_most o_toldGraph o_toldArc))]) rfl rfl (by decide) (by decide) (by decide) ?_
        intro v9 w9 hp9
        obtain ⟨rfl, rfl⟩ := hp9
        show V K 18 [((adA 1), .inl (gI (kG K), 5, .inl fvalues)), ((adA 3), .inl (gI (kG K), 80, .inl fcells)), ((adA 36), .inl (gI (kG K), 3, .inl q_69.2.1)), ((adA 37), .inl (gI (kG K), 3, .inl q_69.2.2.1)), ((adA 38), .inl (gI (kG K), 9, .inl q_69.2.2.2)), (adm, .inr (10, oM adA o_names o_rows o_strength o_most o_toldGraph o_toldArc))] 0 0 539 [(0, .ref adm), (1, .int p0), (2, .int p1), (3, .int p2), (4, .int v), (5, .int part), (6, .long x6_73), (8, .long i8_84), (10, .int i10_75), (11, .int i11_78), (12, .int x12_80), (13, .int i13_82), (14, .int i14_85), (15, .int x15_87)] [.long r_91, .long (r_89 * r_90)]
        refine v_lmul hk dX11_test_539 ?_
        obtain ⟨x16_92, ex16_92, h⟩ := lt_e (g := (lpk (lp (b_X11_test_427v1 q_69 x6_73 i10_75 i11_78 x12_80 i13_82) nn))) h
        refine v_topl ex16_92.symm ?_
        refine v_lstore hk dX11_test_540 (by decide) [1, 2, 3, 4, 5, 6, 7, 8, 9, 10, 11, 12, 13, 14, 0] (lv' := [(0, .ref adm), (1, .int p0), (2, .int p1), (3, .int p2), (4, .int v), (5, .int part), (6, .long x6_73), (8, .long i8_84), (10, .int i10_75), (11, .int i11_78), (12, .int x12_80), (13, .int i13_82), (14, .int i14_85), (15, .int x15_87), (16, .long x16_92)]) rfl ?_
        refine v_lload hk dX11_test_542 rfl ?_
        refine v_lload hk dX11_test_544 rfl ?_
        refine v_lload hk dX11_test_546 rfl ?_
        refine v_lcmp hk dX11_test_548 ?_
        obtain ⟨y_93, ey_93, h⟩ := bd_e (g := (lpk (lp (b_X11_test_427v1 q_69 x6_73 i10_75 i11_78 x12_80 i13_82) nn))) rfl h
        have Jy_93 : V K 18 [((adA 1), .inl (gI (kG K), 5, .inl fvalues)), ((adA 3), .inl (gI (kG K), 80, .inl fcells)), ((adA 36), .inl (gI (kG K), 3, .inl q_69.2.1)), ((adA 37), .inl (gI (kG K), 3, .inl q_69.2.2.1)), ((adA 38), .inl (gI (kG K), 9, .inl q_69.2.2.2)), (adm, .inr (10, oM adA o_names o_rows o_strength o_most o_toldGraph o_toldArc))] 0 0 558 [(0, .ref adm), (1, .int p0), (2, .int p1), (3, .int p2), (4, .int v), (5, .int part), (6, .long x6_73), (8, .long i8_84), (10, .int i10_75), (11, .int i11_78), (12, .int x12_80), (13, .int i13_82), (14, .int i14_85), (15, .int x15_87), (16, .long x16_92)] [.long y_93, .long i8_84] := by
          refine v_ladd hk dX11_test_558 ?_
          obtain ⟨x8_94, ex8_94, h⟩ := lt_e (g := (lpk (lp (b_X11_test_427v1 q_69 x6_73 i10_75 i11_78 x12_80 i13_82) nn))) h
          refine v_topl ex8_94.symm ?_
          refine v_lstore hk dX11_test_559 (by decide) [1, 2, 3, 4, 5, 6, 7, 0, 8, 9, 10, 11, 12, 13, 14] (lv' := [(0, .ref adm), (1, .int p0), (2, .int p1), (3, .int p2), (4, .int v), (5, .int part), (6, .long x6_73), (8, .long x8_94), (10, .int i10_75), (11, .int i11_78), (12, .int x12_80), (13, .int i13_82), (14, .int i14_85), (15, .int x15_87), (16, .long x16_92)]) rfl ?_
          obtain ⟨x14_95, ex14_95, h⟩ := lt_e (g := (lpk (lp (b_X11_test_427v1 q_69 x6_73 i10_75 i11_78 x12_80 i13_82) nn))) h
          refine v_iinc (v := x14_95) hk dX11_test_561 rfl (by rw [ex14_95]; rfl) (by decide) [1, 2, 3, 4, 5, 6, 7, 8, 9, 10, 11, 12, 0, 13, 14] (lv' := [(0, .ref adm), (1, .int p0), (2, .int p1), (3, .int p2), (4, .int v), (5, .int part), (6, .long x6_73), (8, .long x8_94), (10, .int i10_75), (11, .int i11_78), (12, .int x12_80), (13, .int i13_82), (14, .int x14_95), (15, .int x15_87), (16, .long x16_92)]) rfl ?_
          refine v_goto (tgt := 427) hk dX11_test_564 (by decide) ?_
          refine v_loc [0, 1, 2, 3, 4, 5, 6, 7, 8, 9, 10, 11, 12] (lv' := [(0, .ref adm), (1, .int p0), (2, .int p1), (3, .int p2), (4, .int v), (5, .int part), (6, .long x6_73), (8, .long x8_94), (10, .int i10_75), (11, .int i11_78), (12, .int x12_80), (13, .int i13_82), (14, .int x14_95)]) rfl ?_
          exact ih x8_94 x14_95 h
        clear h
        have h := id_e ey_93
        clear ey_93
        refine v_if_gt (tgt := 557) hk dX11_test_549 (by decide) (fun hc => ?_) (fun hc => ?_)
        · replace h := it_t (g := id) h hc
          refine v_lconst (v := 0) hk dX11_test_557 (by decide) ?_
          replace h : some (0 : Int64) = some y_93 := h
          replace h := Option.some.inj h
          subst h
          exact Jy_93
        · replace h := it_f (g := id) h hc
          refine v_lload hk dX11_test_552 rfl ?_
          refine v_goto (tgt := 558) hk dX11_test_554 (by decide) ?_
          replace h : some (x16_92 : Int64) = some y_93 := h
          replace h := Option.some.inj h
          subst h
          exact Jy_93
set_option maxHeartbeats 4000000 in
set_option maxRecDepth 100000 in
theorem L_X11_test_390v1 {K : Cx} {R9 : Room} (hk : Ok K cX11_test 18 RX11 w2_X11_test R9) (hR9 : RoomGe R9 rm_X11_test) (adm : Nat) (adA : Nat → Nat) (o_names : Int32) (o_rows : Int32) (o_strength : Int32) (o_most : Int32) (o_toldGraph : Int32) (o_toldArc : Int32) (fvalues : Nat → Int32) (fcells : Nat → Int32) (p0 : Int32) (p1 : Int32) (p2 : Int32) (v : Int32) (part : Int32) (q_69 : Int32 × (Nat → Int32) × (Nat → Int32) × (Nat → Int32)) (x6_73 : Int64) (i10_75 : Int32) (i11_78 : Int32) (x12_80 : Int32) (b9 : (Int64 × Int32)) (kk0 : ∀ q9 : (Int64 × Int32), b9 = q9 → V K 18 [((adA 1), .inl (gI (kG K), 5, .inl fvalues)), ((adA 3), .inl (gI (kG K), 80, .inl fcells)), ((adA 36), .inl (gI (kG K), 3, .inl q_69.2.1)), ((adA 37), .inl (gI (kG K), 3, .inl q_69.2.2.1)), ((adA 38), .inl (gI (kG K), 9, .inl q_69.2.2.2)), (adm, .inr (10, oM adA o_names o_rows o_strength o_most o_toldGraph o_toldArc))] 0 0 573 [(0, .ref adm), (1, .int p0), (2, .int p1), (3, .int p2), (4, .int v), (5, .int part), (6, .long x6_73), (8, .long q9.1), (10, .int i10_75), (11, .int i11_78), (12, .int x12_80), (13, .int q9.2)] []) : ∀ (nn : Nat) (i8_81 : Int64) (i13_82 : Int32), lp (b_X11_test_390v1 q_69 x6_73 i10_75 i11_78 x12_80) nn (i8_81, i13_82) = some b9 → V K 18 [((adA 1), .inl (gI (kG K), 5, .inl fvalues)), ((adA 3), .inl (gI (kG K), 80, .inl fcells)), ((adA 36), .inl (gI (kG K), 3, .inl q_69.2.1)), ((adA 37), .inl (gI (kG K), 3, .inl q_69.2.2.1)), ((adA 38), .inl (gI (kG K), 9, .inl q_69.2.2.2)), (adm, .inr (10, oM adA o_names o_rows o_strength o_most o_toldGraph o_toldArc))] 0 0 390 [(0, .ref adm), (1, .int p0), (2, .int p1), (3, .int p2), (4, .int v), (5, .int part), (6, .long x6_73), (8, .long i8_81), (10, .int i10_75), (11, .int i11_78), (12, .int x12_80), (13, .int i13_82)] [] := by
  intro nn
  induction nn with
  | zero => intro i8_81 i13_82 h; exact absurd h (by simp [lp])
  | succ nn ih =>
    intro i8_81 i13_82 h
    replace h := lp_s h
    rw [eb_X11_test_390v1] at h
    refine v_iload hk dX11_test_390 rfl ?_
    refine v_aload_n hk dX11_test_392 rfl ?_
    refine v_get (C := RX11) (T := TX11) (N := 39) (ci := 10) (v := .ref (adA 37)) hk dX11_test_393 w2i_X11_test_X110 5 rfl rfl 37 (by decide) (by decide +kernel) rfl rfl ?_
    refine v_iconst (v := 2) hk dX11_test_396 (by decide) ?_
    obtain ⟨hi, h⟩ := ok_e (g := (lpk (lp (b_X11_test_390v1 q_69 x6_73 i10_75 i11_78 x12_80) nn))) rfl h
    refine v_ialdV hk dX11_test_397 3 rfl (ix_in hi) ?_
    refine v_icmp_gt (tgt := 573) hk dX11_test_398 (by decide) (fun hc => ?_) (fun hc => ?_)
    · replace h := it_t (g := (lpk (lp (b_X11_test_390v1 q_69 x6_73 i10_75 i11_78 x12_80) nn))) h hc
      replace h : some (i8_81, i13_82) = some b9 := h
      replace h := Option.some.inj h
      subst h
      exact kk0 _ rfl
    · replace h := it_f (g := (lpk (lp (b_X11_test_390v1 q_69 x6_73 i10_75 i11_78 x12_80) nn))) h hc
      refine v_iload hk dX11_test_401 rfl ?_
      refine v_aload_n hk dX11_test_403 rfl ?_
      refine v_get (C := RX11) (T := TX11) (N := 39) (ci := 10) (v := .ref (adA 36)) hk dX11_test_404 w2i_X11_test_X110 5 rfl rfl 36 (by decide) (by decide +kernel) rfl rfl ?_
      refine v_iconst (v := 1) hk dX11_test_407 (by decide) ?_
      obtain ⟨hi, h⟩ := ok_e (g := (lpk (lp (b_X11_test_390v1 q_69 x6_73 i10_75 i11_78 x12_80) nn))) rfl h
      refine v_ialdV hk dX11_test_408 2 rfl (ix_in hi) ?_
      refine v_aload_n hk dX11_test_409 rfl ?_
      refine v_get (C := RX11) (T := TX11) (N := 39) (ci := 10) (v := .ref (adA 37)) hk dX11_test_410 w2i_X11_test_X110 5 rfl rfl 37 (by decide) (by decide +kernel) rfl rfl ?_
      refine v_iconst (v := 0) hk dX11_test_413 (by decide) ?_
      obtain ⟨hi, h⟩ := ok_e (g := (lpk (lp (b_X11_test_390v1 q_69 x6_73 i10_75 i11_78 x12_80) nn))) rfl h
      refine v_ialdV hk dX11_test_414 3 rfl (ix_in hi) ?_
      refine v_iload hk dX11_test_415 rfl ?_
      refine v_isub hk dX11_test_417 ?_
      obtain ⟨r_83, er_83, h⟩ := bd_e (g := (lpk (lp (b_X11_test_390v1 q_69 x6_73 i10_75 i11_78 x12_80) nn))) rfl h
      refine v_callS (n := 2) (st := [.int i13_82]) hk dX11_test_418 (c_X11_lesser (kl K) (kG K) (q_69.2.1 (1 : Int32).toNatClampNeg) ((q_69.2.2.1 (0 : Int32).toNatClampNeg) - i10_75) r_83 er_83) gd_X11_test_X11_lesser rfl (by decide +kernel) (frok hR9 (Nat.le_of_ble_eq_true rfl) (Nat.le_of_ble_eq_true rfl)) (roomk hR9 (Nat.le_of_ble_eq_true rfl) (Nat.le_of_ble_eq_true rfl)) rfl rfl (Nat.le_of_ble_eq_true rfl) [] [0, 1, 2, 3, 4, 5] (wr := [((adA 1), .inl (gI (kG K), 5, .inl fvalues)), ((adA 3), .inl (gI (kG K), 80, .inl fcells)), ((adA 36), .inl (gI (kG K), 3, .inl q_69.2.1)), ((adA 37), .inl (gI (kG K), 3, .inl q_69.2.2.1)), ((adA 38), .inl (gI (kG K), 9, .inl q_69.2.2.2)), (adm, .inr (10, oM adA o_names o_rows o_strength o_most o_toldGraph o_toldArc))]) rfl rfl (by decide) (by decide) (by decide) ?_
      intro v9 w9 hp9
      obtain ⟨rfl, rfl⟩ := hp9
      show V K 18 [((adA 1), .inl (gI (kG K), 5, .inl fvalues)), ((adA 3), .inl (gI (kG K), 80, .inl fcells)), ((adA 36), .inl (gI (kG K), 3, .inl q_69.2.1)), ((adA 37), .inl (gI (kG K), 3, .inl q_69.2.2.1)), ((adA 38), .inl (gI (kG K), 9, .inl q_69.2.2.2)), (adm, .inr (10, oM adA o_names o_rows o_strength o_most o_toldGraph o_toldArc))] 0 0 421 [(0, .ref adm), (1, .int p0), (2, .int p1), (3, .int p2), (4, .int v), (5, .int part), (6, .long x6_73), (8, .long i8_81), (10, .int i10_75), (11, .int i11_78), (12, .int x12_80), (13, .int i13_82)] [.int r_83, .int i13_82]
      refine v_icmp_gt (tgt := 573) hk dX11_test_421 (by decide) (fun hc => ?_) (fun hc => ?_)
      · replace h := it_t (g := (lpk (lp (b_X11_test_390v1 q_69 x6_73 i10_75 i11_78 x12_80) nn))) h hc
        replace h : some (i8_81, i13_82) = some b9 := h
        replace h := Option.some.inj h
        subst h
        exact kk0 _ rfl
      · replace h := it_f (g := (lpk (lp (b_X11_test_390v1 q_69 x6_73 i10_75 i11_78 x12_80) nn))) h hc
        refine v_iconst (v := 0) hk dX11_test_424 (by decide) ?_
        refine v_istore hk dX11_test_425 (by decide) [1, 2, 3, 4, 5, 6, 7, 8, 9, 10, 11, 12, 0] (lv' := [(0, .ref adm), (1, .int p0), (2, .int p1), (3, .int p2), (4, .int v), (5, .int part), (6, .long x6_73), (8, .long i8_81), (10, .int i10_75), (11, .int i11_78), (12, .int x12_80), (13, .int i13_82), (14, .int 0)]) rfl ?_
        obtain ⟨b_98, eb_98, h⟩ := bd_e (g := (lpk (lp (b_X11_test_390v1 q_69 x6_73 i10_75 i11_78 x12_80) nn))) rfl h
        refine L_X11_test_427v1 hk hR9 adm adA o_names o_rows o_strength o_most o_toldGraph o_toldArc fvalues fcells p0 p1 p2 v part q_69 x6_73 i10_75 i11_78 x12_80 i13_82 b_98 (fun q_96 eq_96 => ?_) FU i8_81 0 eb_98
        · replace eq_96 := eq_96.symm
          subst eq_96
          obtain ⟨x13_97, ex13_97, h⟩ := lt_e (g := (lpk (lp (b_X11_test_390v1 q_69 x6_73 i10_75 i11_78 x12_80) nn))) h
          refine v_iinc (v := x13_97) hk dX11_test_567 rfl (by rw [ex13_97]; rfl) (by decide) [1, 2, 3, 4, 5, 6, 7, 8, 9, 10, 11, 0, 12] (lv' := [(0, .ref adm), (1, .int p0), (2, .int p1), (3, .int p2), (4, .int v), (5, .int part), (6, .long x6_73), (8, .long q_96.1), (10, .int i10_75), (11, .int i11_78), (12, .int x12_80), (13, .int x13_97), (14, .int q_96.2)]) rfl ?_
          refine v_goto (tgt := 390) hk dX11_test_570 (by decide) ?_
          refine v_loc [0, 1, 2, 3, 4, 5, 6, 7, 8, 9, 10, 11] (lv' := [(0, .ref adm), (1, .int p0), (2, .int p1), (3, .int p2), (4, .int v), (5, .int part), (6, .long x6_73), (8, .long q_96.1), (10, .int i10_75), (11, .int i11_78), (12, .int x12_80), (13, .int x13_97)]) rfl ?_
          exact ih q_96.1 x13_97 h
set_option maxHeartbeats 4000000 in
set_option maxRecDepth 100000 in
theorem L_X11_test_350v1 {K : Cx} {R9 : Room} (hk : Ok K cX11_test 18 RX11 w2_X11_test R9) (hR9 : RoomGe R9 rm_X11_test) (adm : Nat) (adA : Nat → Nat) (o_names : Int32) (o_rows : Int32) (o_strength : Int32) (o_most : Int32) (o_toldGraph : Int32) (o_toldArc : Int32) (fvalues : Nat → Int32) (fcells : Nat → Int32) (p0 : Int32) (p1 : Int32) (p2 : Int32) (v : Int32) (part : Int32) (q_69 : Int32 × (Nat → Int32) × (Nat → Int32) × (Nat → Int32)) (x6_73 : Int64) (i10_75 : Int32) (b9 : (Int64 × Int32)) (kk0 : ∀ q9 : (Int64 × Int32), b9 = q9 → V K 18 [((adA 1), .inl (gI (kG K), 5, .inl fvalues)), ((adA 3), .inl (gI (kG K), 80, .inl fcells)), ((adA 36), .inl (gI (kG K), 3, .inl q_69.2.1)), ((adA 37), .inl (gI (kG K), 3, .inl q_69.2.2.1)), ((adA 38), .inl (gI (kG K), 9, .inl q_69.2.2.2)), (adm, .inr (10, oM adA o_names o_rows o_strength o_most o_toldGraph o_toldArc))] 0 0 579 [(0, .ref adm), (1, .int p0), (2, .int p1), (3, .int p2), (4, .int v), (5, .int part), (6, .long x6_73), (8, .long q9.1), (10, .int i10_75), (11, .int q9.2)] []) : ∀ (nn : Nat) (i8_77 : Int64) (i11_78 : Int32), lp (b_X11_test_350v1 q_69 x6_73 i10_75) nn (i8_77, i11_78) = some b9 → V K 18 [((adA 1), .inl (gI (kG K), 5, .inl fvalues)), ((adA 3), .inl (gI (kG K), 80, .inl fcells)), ((adA 36), .inl (gI (kG K), 3, .inl q_69.2.1)), ((adA 37), .inl (gI (kG K), 3, .inl q_69.2.2.1)), ((adA 38), .inl (gI (kG K), 9, .inl q_69.2.2.2)), (adm, .inr (10, oM adA o_names o_rows o_strength o_most o_toldGraph o_toldArc))] 0 0 350 [(0, .ref adm), (1, .int p0), (2, .int p1), (3, .int p2), (4, .int v), (5, .int part), (6, .long x6_73), (8, .long i8_77), (10, .int i10_75), (11, .int i11_78)] [] := by
  intro nn
  induction nn with
  | zero => intro i8_77 i11_78 h; exact absurd h (by simp [lp])
  | succ nn ih =>
    intro i8_77 i11_78 h
    replace h := lp_s h
    rw [eb_X11_test_350v1] at h
    refine v_iload hk dX11_test_350 rfl ?_
    refine v_aload_n hk dX11_test_352 rfl ?_
    refine v_get (C := RX11) (T := TX11) (N := 39) (ci := 10) (v := .ref (adA 36)) hk dX11_test_353 w2i_X11_test_X110 5 rfl rfl 36 (by decide) (by decide +kernel) rfl rfl ?_
    refine v_iconst (v := 0) hk dX11_test_356 (by decide) ?_
    obtain ⟨hi, h⟩ := ok_e (g := (lpk (lp (b_X11_test_350v1 q_69 x6_73 i10_75) nn))) rfl h
    refine v_ialdV hk dX11_test_357 2 rfl (ix_in hi) ?_
    refine v_iload hk dX11_test_358 rfl ?_
    refine v_isub hk dX11_test_360 ?_
    refine v_aload_n hk dX11_test_361 rfl ?_
    refine v_get (C := RX11) (T := TX11) (N := 39) (ci := 10) (v := .ref (adA 37)) hk dX11_test_362 w2i_X11_test_X110 5 rfl rfl 37 (by decide) (by decide +kernel) rfl rfl ?_
    refine v_iconst (v := 1) hk dX11_test_365 (by decide) ?_
    obtain ⟨hi, h⟩ := ok_e (g := (lpk (lp (b_X11_test_350v1 q_69 x6_73 i10_75) nn))) rfl h
    refine v_ialdV hk dX11_test_366 3 rfl (ix_in hi) ?_
    obtain ⟨r_79, er_79, h⟩ := bd_e (g := (lpk (lp (b_X11_test_350v1 q_69 x6_73 i10_75) nn))) rfl h
    refine v_callS (n := 2) (st := [.int i11_78]) hk dX11_test_367 (c_X11_lesser (kl K) (kG K) ((q_69.2.1 (0 : Int32).toNatClampNeg) - i10_75) (q_69.2.2.1 (1 : Int32).toNatClampNeg) r_79 er_79) gd_X11_test_X11_lesser rfl (by decide +kernel) (frok hR9 (Nat.le_of_ble_eq_true rfl) (Nat.le_of_ble_eq_true rfl)) (roomk hR9 (Nat.le_of_ble_eq_true rfl) (Nat.le_of_ble_eq_true rfl)) rfl rfl (Nat.le_of_ble_eq_true rfl) [] [0, 1, 2, 3, 4, 5] (wr := [((adA 1), .inl (gI (kG K), 5, .inl fvalues)), ((adA 3), .inl (gI (kG K), 80, .inl fcells)), ((adA 36), .inl (gI (kG K), 3, .inl q_69.2.1)), ((adA 37), .inl (gI (kG K), 3, .inl q_69.2.2.1)), ((adA 38), .inl (gI (kG K), 9, .inl q_69.2.2.2)), (adm, .inr (10, oM adA o_names o_rows o_strength o_most o_toldGraph o_toldArc))]) rfl rfl (by decide) (by decide) (by decide) ?_
    intro v9 w9 hp9
    obtain ⟨rfl, rfl⟩ := hp9
    show V K 18 [((adA 1), .inl (gI (kG K), 5, .inl fvalues)), ((adA 3), .inl (gI (kG K), 80, .inl fcells)), ((adA 36), .inl (gI (kG K), 3, .inl q_69.2.1)), ((adA 37), .inl (gI (kG K), 3, .inl q_69.2.2.1)), ((adA 38), .inl (gI (kG K), 9, .inl q_69.2.2.2)), (adm, .inr (10, oM adA o_names o_rows o_strength o_most o_toldGraph o_toldArc))] 0 0 370 [(0, .ref adm), (1, .int p0), (2, .int p1), (3, .int p2), (4, .int v), (5, .int part), (6, .long x6_73), (8, .long i8_77), (10, .int i10_75), (11, .int i11_78)] [.int r_79, .int i11_78]
    refine v_icmp_gt (tgt := 579) hk dX11_test_370 (by decide) (fun hc => ?_) (fun hc => ?_)
    · replace h := it_t (g := (lpk (lp (b_X11_test_350v1 q_69 x6_73 i10_75) nn))) h hc
      replace h : some (i8_77, i11_78) = some b9 := h
      replace h := Option.some.inj h
      subst h
      exact kk0 _ rfl
    · replace h := it_f (g := (lpk (lp (b_X11_test_350v1 q_69 x6_73 i10_75) nn))) h hc
      refine v_aload_n hk dX11_test_373 rfl ?_
      refine v_get (C := RX11) (T := TX11) (N := 39) (ci := 10) (v := .ref (adA 36)) hk dX11_test_374 w2i_X11_test_X110 5 rfl rfl 36 (by decide) (by decide +kernel) rfl rfl ?_
      refine v_iconst (v := 0) hk dX11_test_377 (by decide) ?_
      obtain ⟨hi, h⟩ := ok_e (g := (lpk (lp (b_X11_test_350v1 q_69 x6_73 i10_75) nn))) rfl h
      refine v_ialdV hk dX11_test_378 2 rfl (ix_in hi) ?_
      refine v_iload hk dX11_test_379 rfl ?_
      refine v_isub hk dX11_test_381 ?_
      refine v_iload hk dX11_test_382 rfl ?_
      refine v_isub hk dX11_test_384 ?_
      obtain ⟨x12_80, ex12_80, h⟩ := lt_e (g := (lpk (lp (b_X11_test_350v1 q_69 x6_73 i10_75) nn))) h
      refine v_topi ex12_80.symm ?_
      refine v_istore hk dX11_test_385 (by decide) [1, 2, 3, 4, 5, 6, 7, 8, 9, 10, 0] (lv' := [(0, .ref adm), (1, .int p0), (2, .int p1), (3, .int p2), (4, .int v), (5, .int part), (6, .long x6_73), (8, .long i8_77), (10, .int i10_75), (11, .int i11_78), (12, .int x12_80)]) rfl ?_
      refine v_iconst (v := 0) hk dX11_test_387 (by decide) ?_
      refine v_istore hk dX11_test_388 (by decide) [1, 2, 3, 4, 5, 6, 7, 8, 9, 10, 11, 0] (lv' := [(0, .ref adm), (1, .int p0), (2, .int p1), (3, .int p2), (4, .int v), (5, .int part), (6, .long x6_73), (8, .long i8_77), (10, .int i10_75), (11, .int i11_78), (12, .int x12_80), (13, .int 0)]) rfl ?_
      obtain ⟨b_101, eb_101, h⟩ := bd_e (g := (lpk (lp (b_X11_test_350v1 q_69 x6_73 i10_75) nn))) rfl h
      refine L_X11_test_390v1 hk hR9 adm adA o_names o_rows o_strength o_most o_toldGraph o_toldArc fvalues fcells p0 p1 p2 v part q_69 x6_73 i10_75 i11_78 x12_80 b_101 (fun q_99 eq_99 => ?_) FU i8_77 0 eb_101
      · replace eq_99 := eq_99.symm
        subst eq_99
        obtain ⟨x11_100, ex11_100, h⟩ := lt_e (g := (lpk (lp (b_X11_test_350v1 q_69 x6_73 i10_75) nn))) h
        refine v_iinc (v := x11_100) hk dX11_test_573 rfl (by rw [ex11_100]; rfl) (by decide) [1, 2, 3, 4, 5, 6, 7, 8, 9, 0, 10, 11] (lv' := [(0, .ref adm), (1, .int p0), (2, .int p1), (3, .int p2), (4, .int v), (5, .int part), (6, .long x6_73), (8, .long q_99.1), (10, .int i10_75), (11, .int x11_100), (12, .int x12_80), (13, .int q_99.2)]) rfl ?_
        refine v_goto (tgt := 350) hk dX11_test_576 (by decide) ?_
        refine v_loc [0, 1, 2, 3, 4, 5, 6, 7, 8, 9] (lv' := [(0, .ref adm), (1, .int p0), (2, .int p1), (3, .int p2), (4, .int v), (5, .int part), (6, .long x6_73), (8, .long q_99.1), (10, .int i10_75), (11, .int x11_100)]) rfl ?_
        exact ih q_99.1 x11_100 h
set_option maxHeartbeats 4000000 in
set_option maxRecDepth 100000 in
theorem L_X11_test_327v1 {K : Cx} {R9 : Room} (hk : Ok K cX11_test 18 RX11 w2_X11_test R9) (hR9 : RoomGe R9 rm_X11_test) (adm : Nat) (adA : Nat → Nat) (o_names : Int32) (o_rows : Int32) (o_strength : Int32) (o_most : Int32) (o_toldGraph : Int32) (o_toldArc : Int32) (fvalues : Nat → Int32) (fcells : Nat → Int32) (p0 : Int32) (p1 : Int32) (p2 : Int32) (v : Int32) (part : Int32) (q_69 : Int32 × (Nat → Int32) × (Nat → Int32) × (Nat → Int32)) (x6_73 : Int64) (b9 : (Int64 × Int32)) (kk0 : ∀ q9 : (Int64 × Int32), b9 = q9 → V K 18 [((adA 1), .inl (gI (kG K), 5, .inl fvalues)), ((adA 3), .inl (gI (kG K), 80, .inl fcells)), ((adA 36), .inl (gI (kG K), 3, .inl q_69.2.1)), ((adA 37), .inl (gI (kG K), 3, .inl q_69.2.2.1)), ((adA 38), .inl (gI (kG K), 9, .inl q_69.2.2.2)), (adm, .inr (10, oM adA o_names o_rows o_strength o_most o_toldGraph o_toldArc))] 0 0 585 [(0, .ref adm), (1, .int p0), (2, .int p1), (3, .int p2), (4, .int v), (5, .int part), (6, .long x6_73), (8, .long q9.1), (10, .int q9.2)] []) : ∀ (nn : Nat) (i8_74 : Int64) (i10_75 : Int32), lp (b_X11_test_327v1 q_69 x6_73) nn (i8_74, i10_75) = some b9 → V K 18 [((adA 1), .inl (gI (kG K), 5, .inl fvalues)), ((adA 3), .inl (gI (kG K), 80, .inl fcells)), ((adA 36), .inl (gI (kG K), 3, .inl q_69.2.1)), ((adA 37), .inl (gI (kG K), 3, .inl q_69.2.2.1)), ((adA 38), .inl (gI (kG K), 9, .inl q_69.2.2.2)), (adm, .inr (10, oM adA o_names o_rows o_strength o_most o_toldGraph o_toldArc))] 0 0 327 [(0, .ref adm), (1, .int p0), (2, .int p1), (3, .int p2), (4, .int v), (5, .int part), (6, .long x6_73), (8, .long i8_74), (10, .int i10_75)] [] := by
  intro nn
  induction nn with
  | zero => intro i8_74 i10_75 h; exact absurd h (by simp [lp])
  | succ nn ih =>
    intro i8_74 i10_75 h
    replace h := lp_s h
    rw [eb_X11_test_327v1] at h
    refine v_iload hk dX11_test_327 rfl ?_
    refine v_aload_n hk dX11_test_329 rfl ?_
    refine v_get (C := RX11) (T := TX11) (N := 39) (ci := 10) (v := .ref (adA 36)) hk dX11_test_330 w2i_X11_test_X110 5 rfl rfl 36 (by decide) (by decide +kernel) rfl rfl ?_
    refine v_iconst (v := 0) hk dX11_test_333 (by decide) ?_
    obtain ⟨hi, h⟩ := ok_e (g := (lpk (lp (b_X11_test_327v1 q_69 x6_73) nn))) rfl h
    refine v_ialdV hk dX11_test_334 2 rfl (ix_in hi) ?_
    refine v_aload_n hk dX11_test_335 rfl ?_
    refine v_get (C := RX11) (T := TX11) (N := 39) (ci := 10) (v := .ref (adA 37)) hk dX11_test_336 w2i_X11_test_X110 5 rfl rfl 37 (by decide) (by decide +kernel) rfl rfl ?_
    refine v_iconst (v := 0) hk dX11_test_339 (by decide) ?_
    obtain ⟨hi, h⟩ := ok_e (g := (lpk (lp (b_X11_test_327v1 q_69 x6_73) nn))) rfl h
    refine v_ialdV hk dX11_test_340 3 rfl (ix_in hi) ?_
    obtain ⟨r_76, er_76, h⟩ := bd_e (g := (lpk (lp (b_X11_test_327v1 q_69 x6_73) nn))) rfl h
    refine v_callS (n := 2) (st := [.int i10_75]) hk dX11_test_341 (c_X11_lesser (kl K) (kG K) (q_69.2.1 (0 : Int32).toNatClampNeg) (q_69.2.2.1 (0 : Int32).toNatClampNeg) r_76 er_76) gd_X11_test_X11_lesser rfl (by decide +kernel) (frok hR9 (Nat.le_of_ble_eq_true rfl) (Nat.le_of_ble_eq_true rfl)) (roomk hR9 (Nat.le_of_ble_eq_true rfl) (Nat.le_of_ble_eq_true rfl)) rfl rfl (Nat.le_of_ble_eq_true rfl) [] [0, 1, 2, 3, 4, 5] (wr := [((adA 1), .inl (gI (kG K), 5, .inl fvalues)), ((adA 3), .inl (gI (kG K), 80, .inl fcells)), ((adA 36), .inl (gI (kG K), 3, .inl q_69.2.1)), ((adA 37), .inl (gI (kG K), 3, .inl q_69.2.2.1)), ((adA 38), .inl (gI (kG K), 9, .inl q_69.2.2.2)), (adm, .inr (10, oM adA o_names o_rows o_strength o_most o_toldGraph o_toldArc))]) rfl rfl (by decide) (by decide) (by decide) ?_
    intro v9 w9 hp9
    obtain ⟨rfl, rfl⟩ := hp9
    show V K 18 [((adA 1), .inl (gI (kG K), 5, .inl fvalues)), ((adA 3), .inl (gI (kG K), 80, .inl fcells)), ((adA 36), .inl (gI (kG K), 3, .inl q_69.2.1)), ((adA 37), .inl (gI (kG K), 3, .inl q_69.2.2.1)), ((adA 38), .inl (gI (kG K), 9, .inl q_69.2.2.2)), (adm, .inr (10, oM adA o_names o_rows o_strength o_most o_toldGraph o_toldArc))] 0 0 344 [(0, .ref adm), (1, .int p0), (2, .int p1), (3, .int p2), (4, .int v), (5, .int part), (6, .long x6_73), (8, .long i8_74), (10, .int i10_75)] [.int r_76, .int i10_75]
    refine v_icmp_gt (tgt := 585) hk dX11_test_344 (by decide) (fun hc => ?_) (fun hc => ?_)
    · replace h := it_t (g := (lpk (lp (b_X11_test_327v1 q_69 x6_73) nn))) h hc
      replace h : some (i8_74, i10_75) = some b9 := h
      replace h := Option.some.inj h
      subst h
      exact kk0 _ rfl
    · replace h := it_f (g := (lpk (lp (b_X11_test_327v1 q_69 x6_73) nn))) h hc
      refine v_iconst (v := 0) hk dX11_test_347 (by decide) ?_
      refine v_istore hk dX11_test_348 (by decide) [1, 2, 3, 4, 5, 6, 7, 8, 9, 0] (lv' := [(0, .ref adm), (1, .int p0), (2, .int p1), (3, .int p2), (4, .int v), (5, .int part), (6, .long x6_73), (8, .long i8_74), (10, .int i10_75), (11, .int 0)]) rfl ?_
      obtain ⟨b_104, eb_104, h⟩ := bd_e (g := (lpk (lp (b_X11_test_327v1 q_69 x6_73) nn))) rfl h
      refine L_X11_test_350v1 hk hR9 adm adA o_names o_rows o_strength o_most o_toldGraph o_toldArc fvalues fcells p0 p1 p2 v part q_69 x6_73 i10_75 b_104 (fun q_102 eq_102 => ?_) FU i8_74 0 eb_104
      · replace eq_102 := eq_102.symm
        subst eq_102
        obtain ⟨x10_103, ex10_103, h⟩ := lt_e (g := (lpk (lp (b_X11_test_327v1 q_69 x6_73) nn))) h
        refine v_iinc (v := x10_103) hk dX11_test_579 rfl (by rw [ex10_103]; rfl) (by decide) [1, 2, 3, 4, 5, 6, 7, 8, 0, 9] (lv' := [(0, .ref adm), (1, .int p0), (2, .int p1), (3, .int p2), (4, .int v), (5, .int part), (6, .long x6_73), (8, .long q_102.1), (10, .int x10_103), (11, .int q_102.2)]) rfl ?_
        refine v_goto (tgt := 327) hk dX11_test_582 (by decide) ?_
        refine v_loc [0, 1, 2, 3, 4, 5, 6, 7, 8] (lv' := [(0, .ref adm), (1, .int p0), (2, .int p1), (3, .int p2), (4, .int v), (5, .int part), (6, .long x6_73), (8, .long q_102.1), (10, .int x10_103)]) rfl ?_
        exact ih q_102.1 x10_103 h
set_option maxHeartbeats 4000000 in
set_option maxRecDepth 100000 in
theorem c_X11_test (l : Launch) (G : GG) (adm : Nat) (adA : Nat → Nat) (o_names : Int32) (o_rows : Int32) (o_strength : Int32) (o_most : Int32) (o_toldGraph : Int32) (o_toldArc : Int32) (fvalues : Nat → Int32) (fcells : Nat → Int32) (fofA : Nat → Int32) (fofB : Nat → Int32) (fboth : Nat → Int32) (p0 : Int32) (p1 : Int32) (p2 : Int32) (v : Int32) (part : Int32) (r : Int64 × (Nat → Int32) × (Nat → Int32) × (Nat → Int32)) (h : m_X11_test o_names o_rows o_strength o_most o_toldGraph o_toldArc fvalues fcells fofA fofB fboth p0 p1 p2 v part = some r) : Ctr l G yX11_test w2_X11_test rm_X11_test [.ref adm, .int p0, .int p1, .int p2, .int v, .int part] [(adm, .inr (10, oM adA o_names o_rows o_strength o_most o_toldGraph o_toldArc)), ((adA 1), .inl (gI G, 5, .inl fvalues)), ((adA 3), .inl (gI G, 80, .inl fcells)), ((adA 36), .inl (gI G, 3, .inl fofA)), ((adA 37), .inl (gI G, 3, .inl fofB)), ((adA 38), .inl (gI G, 9, .inl fboth))] (fun v w => v = some (.long r.1) ∧ w = [(adm, .inr (10, oM adA o_names o_rows o_strength o_most o_toldGraph o_toldArc)), ((adA 1), .inl (gI G, 5, .inl fvalues)), ((adA 3), .inl (gI G, 80, .inl fcells)), ((adA 36), .inl (gI G, 3, .inl r.2.1)), ((adA 37), .inl (gI G, 3, .inl r.2.2.1)), ((adA 38), .inl (gI G, 9, .inl r.2.2.2))]) := by
  refine ctr_entry (cc := cX11_test) (maxL := 18) (ret := some .long) (lv0 := [(0, .ref adm), (1, .int p0), (2, .int p1), (3, .int p2), (4, .int v), (5, .int part)]) (by decide) rfl (Nat.le_of_ble_eq_true rfl) (rfl) ?_
  intro K hl9 hG9 hk hn9 hrt
  subst hl9
  subst hG9
  have hR9 : RoomGe rm_X11_test rm_X11_test := RoomGe.rf
  replace h := id_e h
  rw [em_X11_test] at h
  refine v_aload_n hk dX11_test_0 rfl ?_
  refine v_iload_n hk dX11_test_1 rfl ?_
  obtain ⟨r_1, er_1, h⟩ := bd_e (g := id) rfl h
  refine v_callV (n := 1) (st := []) (b := adm) (T := TX11) (N := 39) hk dX11_test_2 (c_X11_isName (kl K) (kG K) adm adA o_names o_rows o_strength o_most o_toldGraph o_toldArc p0 r_1 er_1) rfl gd_X11_test_X11_isName rfl (by decide +kernel) (frok hR9 (Nat.le_of_ble_eq_true rfl) (Nat.le_of_ble_eq_true rfl)) (roomk hR9 (Nat.le_of_ble_eq_true rfl) (Nat.le_of_ble_eq_true rfl)) rfl rfl (Nat.le_of_ble_eq_true rfl) 0 rfl rfl [0] [1, 2, 3, 4, 5] (wr := [((adA 1), .inl (gI (kG K), 5, .inl fvalues)), ((adA 3), .inl (gI (kG K), 80, .inl fcells)), ((adA 36), .inl (gI (kG K), 3, .inl fofA)), ((adA 37), .inl (gI (kG K), 3, .inl fofB)), ((adA 38), .inl (gI (kG K), 9, .inl fboth))]) rfl rfl (by decide) (by decide) (by decide) ?_
  intro v9 w9 hp9
  obtain ⟨rfl, rfl⟩ := hp9
  show V K 18 [((adA 1), .inl (gI (kG K), 5, .inl fvalues)), ((adA 3), .inl (gI (kG K), 80, .inl fcells)), ((adA 36), .inl (gI (kG K), 3, .inl fofA)), ((adA 37), .inl (gI (kG K), 3, .inl fofB)), ((adA 38), .inl (gI (kG K), 9, .inl fboth)), (adm, .inr (10, oM adA o_names o_rows o_strength o_most o_toldGraph o_toldArc))] 0 0 5 [(0, .ref adm), (1, .int p0), (2, .int p1), (3, .int p2), (4, .int v), (5, .int part)] [.int r_1]
  refine v_if_eq (tgt := 29) hk dX11_test_5 (by decide) (fun hc => ?_) (fun hc => ?_)
  · replace h := it_t (g := id) h hc
    refine v_ldc2 (v := (-1)) hk dX11_test_29 (by decide +kernel) ?_
    replace h : some ((-1), fofA, fofB, fboth) = some r := h
    replace h := Option.some.inj h
    subst h
    refine v_perm [5, 0, 1, 2, 3, 4] (ws' := [(adm, .inr (10, oM adA o_names o_rows o_strength o_most o_toldGraph o_toldArc)), ((adA 1), .inl (gI (kG K), 5, .inl fvalues)), ((adA 3), .inl (gI (kG K), 80, .inl fcells)), ((adA 36), .inl (gI (kG K), 3, .inl fofA)), ((adA 37), .inl (gI (kG K), 3, .inl fofB)), ((adA 38), .inl (gI (kG K), 9, .inl fboth))]) rfl rfl (by decide) ?_
    refine hrt (some (.long (-1))) _ _ _ _ _ (⟨rfl, rfl⟩) (Nat.zero_le _) (Nat.zero_le _) (dX11_test_32)
  · replace h := it_f (g := id) h hc
    refine v_aload_n hk dX11_test_8 rfl ?_
    refine v_iload_n hk dX11_test_9 rfl ?_
    obtain ⟨r_2, er_2, h⟩ := bd_e (g := id) rfl h
    refine v_callV (n := 1) (st := []) (b := adm) (T := TX11) (N := 39) hk dX11_test_10 (c_X11_isName (kl K) (kG K) adm adA o_names o_rows o_strength o_most o_toldGraph o_toldArc p1 r_2 er_2) rfl gd_X11_test_X11_isName rfl (by decide +kernel) (frok hR9 (Nat.le_of_ble_eq_true rfl) (Nat.le_of_ble_eq_true rfl)) (roomk hR9 (Nat.le_of_ble_eq_true rfl) (Nat.le_of_ble_eq_true rfl)) rfl rfl (Nat.le_of_ble_eq_true rfl) 5 rfl rfl [5] [0, 1, 2, 3, 4] (wr := [((adA 1), .inl (gI (kG K), 5, .inl fvalues)), ((adA 3), .inl (gI (kG K), 80, .inl fcells)), ((adA 36), .inl (gI (kG K), 3, .inl fofA)), ((adA 37), .inl (gI (kG K), 3, .inl fofB)), ((adA 38), .inl (gI (kG K), 9, .inl fboth))]) rfl rfl (by decide) (by decide) (by decide) ?_
    intro v9 w9 hp9
    obtain ⟨rfl, rfl⟩ := hp9
    show V K 18 [((adA 1), .inl (gI (kG K), 5, .inl fvalues)), ((adA 3), .inl (gI (kG K), 80, .inl fcells)), ((adA 36), .inl (gI (kG K), 3, .inl fofA)), ((adA 37), .inl (gI (kG K), 3, .inl fofB)), ((adA 38), .inl (gI (kG K), 9, .inl fboth)), (adm, .inr (10, oM adA o_names o_rows o_strength o_most o_toldGraph o_toldArc))] 0 0 13 [(0, .ref adm), (1, .int p0), (2, .int p1), (3, .int p2), (4, .int v), (5, .int part)] [.int r_2]
    refine v_if_eq (tgt := 29) hk dX11_test_13 (by decide) (fun hc => ?_) (fun hc => ?_)
    · replace h := it_t (g := id) h hc
      refine v_ldc2 (v := (-1)) hk dX11_test_29 (by decide +kernel) ?_
      replace h : some ((-1), fofA, fofB, fboth) = some r := h
      replace h := Option.some.inj h
      subst h
      refine v_perm [5, 0, 1, 2, 3, 4] (ws' := [(adm, .inr (10, oM adA o_names o_rows o_strength o_most o_toldGraph o_toldArc)), ((adA 1), .inl (gI (kG K), 5, .inl fvalues)), ((adA 3), .inl (gI (kG K), 80, .inl fcells)), ((adA 36), .inl (gI (kG K), 3, .inl fofA)), ((adA 37), .inl (gI (kG K), 3, .inl fofB)), ((adA 38), .inl (gI (kG K), 9, .inl fboth))]) rfl rfl (by decide) ?_
      refine hrt (some (.long (-1))) _ _ _ _ _ (⟨rfl, rfl⟩) (Nat.zero_le _) (Nat.zero_le _) (dX11_test_32)
    · replace h := it_f (g := id) h hc
      refine v_iload_n hk dX11_test_16 rfl ?_
      refine v_iload_n hk dX11_test_17 rfl ?_
      refine v_icmp_eq (tgt := 29) hk dX11_test_18 (by decide) (fun hc => ?_) (fun hc => ?_)
      · replace h := it_t (g := id) h hc
        refine v_ldc2 (v := (-1)) hk dX11_test_29 (by decide +kernel) ?_
        replace h : some ((-1), fofA, fofB, fboth) = some r := h
        replace h := Option.some.inj h
        subst h
        refine v_perm [5, 0, 1, 2, 3, 4] (ws' := [(adm, .inr (10, oM adA o_names o_rows o_strength o_most o_toldGraph o_toldArc)), ((adA 1), .inl (gI (kG K), 5, .inl fvalues)), ((adA 3), .inl (gI (kG K), 80, .inl fcells)), ((adA 36), .inl (gI (kG K), 3, .inl fofA)), ((adA 37), .inl (gI (kG K), 3, .inl fofB)), ((adA 38), .inl (gI (kG K), 9, .inl fboth))]) rfl rfl (by decide) ?_
        refine hrt (some (.long (-1))) _ _ _ _ _ (⟨rfl, rfl⟩) (Nat.zero_le _) (Nat.zero_le _) (dX11_test_32)
      · replace h := it_f (g := id) h hc
        refine v_iload hk dX11_test_21 rfl ?_
        obtain ⟨r_3, er_3, h⟩ := bd_e (g := id) rfl h
        refine v_callS (n := 1) (st := []) hk dX11_test_23 (c_X11_isPart (kl K) (kG K) part r_3 er_3) gd_X11_test_X11_isPart rfl (by decide +kernel) (frok hR9 (Nat.le_of_ble_eq_true rfl) (Nat.le_of_ble_eq_true rfl)) (roomk hR9 (Nat.le_of_ble_eq_true rfl) (Nat.le_of_ble_eq_true rfl)) rfl rfl (Nat.le_of_ble_eq_true rfl) [] [0, 1, 2, 3, 4, 5] (wr := [((adA 1), .inl (gI (kG K), 5, .inl fvalues)), ((adA 3), .inl (gI (kG K), 80, .inl fcells)), ((adA 36), .inl (gI (kG K), 3, .inl fofA)), ((adA 37), .inl (gI (kG K), 3, .inl fofB)), ((adA 38), .inl (gI (kG K), 9, .inl fboth)), (adm, .inr (10, oM adA o_names o_rows o_strength o_most o_toldGraph o_toldArc))]) rfl rfl (by decide) (by decide) (by decide) ?_
        intro v9 w9 hp9
        obtain ⟨rfl, rfl⟩ := hp9
        show V K 18 [((adA 1), .inl (gI (kG K), 5, .inl fvalues)), ((adA 3), .inl (gI (kG K), 80, .inl fcells)), ((adA 36), .inl (gI (kG K), 3, .inl fofA)), ((adA 37), .inl (gI (kG K), 3, .inl fofB)), ((adA 38), .inl (gI (kG K), 9, .inl fboth)), (adm, .inr (10, oM adA o_names o_rows o_strength o_most o_toldGraph o_toldArc))] 0 0 26 [(0, .ref adm), (1, .int p0), (2, .int p1), (3, .int p2), (4, .int v), (5, .int part)] [.int r_3]
        refine v_if_ne (tgt := 33) hk dX11_test_26 (by decide) (fun hc => ?_) (fun hc => ?_)
        · replace h := it_f (g := id) h hc
          refine v_iload_n hk dX11_test_33 rfl ?_
          refine v_iconst (v := (-1)) hk dX11_test_34 (by decide) ?_
          refine v_icmp_eq (tgt := 76) hk dX11_test_35 (by decide) (fun hc => ?_) (fun hc => ?_)
          · replace h := it_t (g := id) h hc
            refine v_iconst (v := 0) hk dX11_test_76 (by decide) ?_
            refine v_istore hk dX11_test_77 (by decide) [1, 2, 3, 4, 5, 6, 0] (lv' := [(0, .ref adm), (1, .int p0), (2, .int p1), (3, .int p2), (4, .int v), (5, .int part), (6, .int 0)]) rfl ?_
            obtain ⟨b_65, eb_65, h⟩ := bd_e (g := id) rfl h
            refine L_X11_test_79 hk hR9 adm adA o_names o_rows o_strength o_most o_toldGraph o_toldArc fvalues fcells p0 p1 p2 v part b_65 (fun q_12 eq_12 => ?_) FU 0 fofA fofB fboth eb_65
            · replace eq_12 := eq_12.symm
              subst eq_12
              refine v_iconst (v := 0) hk dX11_test_120 (by decide) ?_
              refine v_istore hk dX11_test_121 (by decide) [1, 2, 3, 4, 5, 6, 0] (lv' := [(0, .ref adm), (1, .int p0), (2, .int p1), (3, .int p2), (4, .int v), (5, .int part), (6, .int 0)]) rfl ?_
              obtain ⟨b_64, eb_64, h⟩ := bd_e (g := id) rfl h
              refine L_X11_test_123 hk hR9 adm adA o_names o_rows o_strength o_most o_toldGraph o_toldArc fvalues fcells p0 p1 p2 v part b_64 (fun q_25 eq_25 => ?_) FU 0 q_12.2.1 q_12.2.2.1 q_12.2.2.2 eb_64
              · replace eq_25 := eq_25.symm
                subst eq_25
                refine v_iload hk dX11_test_223 rfl ?_
                refine v_iconst (v := 1) hk dX11_test_225 (by decide) ?_
                refine v_icmp_ne (tgt := 251) hk dX11_test_226 (by decide) (fun hc => ?_) (fun hc => ?_)
                · replace h := it_f (g := id) h hc
                  refine v_aload_n hk dX11_test_251 rfl ?_
                  refine v_get (C := RX11) (T := TX11) (N := 39) (ci := 10) (v := .ref (adA 38)) hk dX11_test_252 w2i_X11_test_X110 5 rfl rfl 38 (by decide) (by decide +kernel) rfl rfl ?_
                  refine v_iconst (v := 0) hk dX11_test_255 (by decide) ?_
                  obtain ⟨hi, h⟩ := ok_e (g := id) rfl h
                  refine v_ialdV hk dX11_test_256 4 rfl (ix_in hi) ?_
                  refine v_aload_n hk dX11_test_257 rfl ?_
                  refine v_get (C := RX11) (T := TX11) (N := 39) (ci := 10) (v := .ref (adA 38)) hk dX11_test_258 w2i_X11_test_X110 5 rfl rfl 38 (by decide) (by decide +kernel) rfl rfl ?_
                  refine v_iconst (v := 1) hk dX11_test_261 (by decide) ?_
                  obtain ⟨hi, h⟩ := ok_e (g := id) rfl h
                  refine v_ialdV hk dX11_test_262 4 rfl (ix_in hi) ?_
                  refine v_aload_n hk dX11_test_263 rfl ?_
                  refine v_get (C := RX11) (T := TX11) (N := 39) (ci := 10) (v := .ref (adA 38)) hk dX11_test_264 w2i_X11_test_X110 5 rfl rfl 38 (by decide) (by decide +kernel) rfl rfl ?_
                  refine v_iconst (v := 2) hk dX11_test_267 (by decide) ?_
                  obtain ⟨hi, h⟩ := ok_e (g := id) rfl h
                  refine v_ialdV hk dX11_test_268 4 rfl (ix_in hi) ?_
                  obtain ⟨r_26, er_26, h⟩ := bd_e (g := id) rfl h
                  refine v_callS (n := 3) (st := []) hk dX11_test_269 (c_X11_ways (kl K) (kG K) (q_25.2.2.2 (0 : Int32).toNatClampNeg) (q_25.2.2.2 (1 : Int32).toNatClampNeg) (q_25.2.2.2 (2 : Int32).toNatClampNeg) r_26 er_26) gd_X11_test_X11_ways rfl (by decide +kernel) (frok hR9 (Nat.le_of_ble_eq_true rfl) (Nat.le_of_ble_eq_true rfl)) (roomk hR9 (Nat.le_of_ble_eq_true rfl) (Nat.le_of_ble_eq_true rfl)) rfl rfl (Nat.le_of_ble_eq_true rfl) [] [0, 1, 2, 3, 4, 5] (wr := [((adA 1), .inl (gI (kG K), 5, .inl fvalues)), ((adA 3), .inl (gI (kG K), 80, .inl fcells)), ((adA 36), .inl (gI (kG K), 3, .inl q_25.2.1)), ((adA 37), .inl (gI (kG K), 3, .inl q_25.2.2.1)), ((adA 38), .inl (gI (kG K), 9, .inl q_25.2.2.2)), (adm, .inr (10, oM adA o_names o_rows o_strength o_most o_toldGraph o_toldArc))]) rfl rfl (by decide) (by decide) (by decide) ?_
                  intro v9 w9 hp9
                  obtain ⟨rfl, rfl⟩ := hp9
                  show V K 18 [((adA 1), .inl (gI (kG K), 5, .inl fvalues)), ((adA 3), .inl (gI (kG K), 80, .inl fcells)), ((adA 36), .inl (gI (kG K), 3, .inl q_25.2.1)), ((adA 37), .inl (gI (kG K), 3, .inl q_25.2.2.1)), ((adA 38), .inl (gI (kG K), 9, .inl q_25.2.2.2)), (adm, .inr (10, oM adA o_names o_rows o_strength o_most o_toldGraph o_toldArc))] 0 0 272 [(0, .ref adm), (1, .int p0), (2, .int p1), (3, .int p2), (4, .int v), (5, .int part), (6, .int q_25.1)] [.long r_26]
                  refine v_aload_n hk dX11_test_272 rfl ?_
                  refine v_get (C := RX11) (T := TX11) (N := 39) (ci := 10) (v := .ref (adA 38)) hk dX11_test_273 w2i_X11_test_X110 5 rfl rfl 38 (by decide) (by decide +kernel) rfl rfl ?_
                  refine v_iconst (v := 3) hk dX11_test_276 (by decide) ?_
                  obtain ⟨hi, h⟩ := ok_e (g := id) rfl h
                  refine v_ialdV hk dX11_test_277 4 rfl (ix_in hi) ?_
                  refine v_aload_n hk dX11_test_278 rfl ?_
                  refine v_get (C := RX11) (T := TX11) (N := 39) (ci := 10) (v := .ref (adA 38)) hk dX11_test_279 w2i_X11_test_X110 5 rfl rfl 38 (by decide) (by decide +kernel) rfl rfl ?_
                  refine v_iconst (v := 4) hk dX11_test_282 (by decide) ?_
                  obtain ⟨hi, h⟩ := ok_e (g := id) rfl h
                  refine v_ialdV hk dX11_test_283 4 rfl (ix_in hi) ?_
                  refine v_aload_n hk dX11_test_284 rfl ?_
                  refine v_get (C := RX11) (T := TX11) (N := 39) (ci := 10) (v := .ref (adA 38)) hk dX11_test_285 w2i_X11_test_X110 5 rfl rfl 38 (by decide) (by decide +kernel) rfl rfl ?_
                  refine v_iconst (v := 5) hk dX11_test_288 (by decide) ?_
                  obtain ⟨hi, h⟩ := ok_e (g := id) rfl h
                  refine v_ialdV hk dX11_test_289 4 rfl (ix_in hi) ?_
                  obtain ⟨r_27, er_27, h⟩ := bd_e (g := id) rfl h
                  refine v_callS (n := 3) (st := [.long r_26]) hk dX11_test_290 (c_X11_ways (kl K) (kG K) (q_25.2.2.2 (3 : Int32).toNatClampNeg) (q_25.2.2.2 (4 : Int32).toNatClampNeg) (q_25.2.2.2 (5 : Int32).toNatClampNeg) r_27 er_27) gd_X11_test_X11_ways rfl (by decide +kernel) (frok hR9 (Nat.le_of_ble_eq_true rfl) (Nat.le_of_ble_eq_true rfl)) (roomk hR9 (Nat.le_of_ble_eq_true rfl) (Nat.le_of_ble_eq_true rfl)) rfl rfl (Nat.le_of_ble_eq_true rfl) [] [0, 1, 2, 3, 4, 5] (wr := [((adA 1), .inl (gI (kG K), 5, .inl fvalues)), ((adA 3), .inl (gI (kG K), 80, .inl fcells)), ((adA 36), .inl (gI (kG K), 3, .inl q_25.2.1)), ((adA 37), .inl (gI (kG K), 3, .inl q_25.2.2.1)), ((adA 38), .inl (gI (kG K), 9, .inl q_25.2.2.2)), (adm, .inr (10, oM adA o_names o_rows o_strength o_most o_toldGraph o_toldArc))]) rfl rfl (by decide) (by decide) (by decide) ?_
                  intro v9 w9 hp9
                  obtain ⟨rfl, rfl⟩ := hp9
                  show V K 18 [((adA 1), .inl (gI (kG K), 5, .inl fvalues)), ((adA 3), .inl (gI (kG K), 80, .inl fcells)), ((adA 36), .inl (gI (kG K), 3, .inl q_25.2.1)), ((adA 37), .inl (gI (kG K), 3, .inl q_25.2.2.1)), ((adA 38), .inl (gI (kG K), 9, .inl q_25.2.2.2)), (adm, .inr (10, oM adA o_names o_rows o_strength o_most o_toldGraph o_toldArc))] 0 0 293 [(0, .ref adm), (1, .int p0), (2, .int p1), (3, .int p2), (4, .int v), (5, .int part), (6, .int q_25.1)] [.long r_27, .long r_26]
                  refine v_lmul hk dX11_test_293 ?_
                  refine v_aload_n hk dX11_test_294 rfl ?_
                  refine v_get (C := RX11) (T := TX11) (N := 39) (ci := 10) (v := .ref (adA 38)) hk dX11_test_295 w2i_X11_test_X110 5 rfl rfl 38 (by decide) (by decide +kernel) rfl rfl ?_
                  refine v_bipush (v := 6) hk dX11_test_298 (by decide) ?_
                  obtain ⟨hi, h⟩ := ok_e (g := id) rfl h
                  refine v_ialdV hk dX11_test_300 4 rfl (ix_in hi) ?_
                  refine v_aload_n hk dX11_test_301 rfl ?_
                  refine v_get (C := RX11) (T := TX11) (N := 39) (ci := 10) (v := .ref (adA 38)) hk dX11_test_302 w2i_X11_test_X110 5 rfl rfl 38 (by decide) (by decide +kernel) rfl rfl ?_
                  refine v_bipush (v := 7) hk dX11_test_305 (by decide) ?_
                  obtain ⟨hi, h⟩ := ok_e (g := id) rfl h
                  refine v_ialdV hk dX11_test_307 4 rfl (ix_in hi) ?_
                  refine v_aload_n hk dX11_test_308 rfl ?_
                  refine v_get (C := RX11) (T := TX11) (N := 39) (ci := 10) (v := .ref (adA 38)) hk dX11_test_309 w2i_X11_test_X110 5 rfl rfl 38 (by decide) (by decide +kernel) rfl rfl ?_
                  refine v_bipush (v := 8) hk dX11_test_312 (by decide) ?_
                  obtain ⟨hi, h⟩ := ok_e (g := id) rfl h
                  refine v_ialdV hk dX11_test_314 4 rfl (ix_in hi) ?_
                  obtain ⟨r_28, er_28, h⟩ := bd_e (g := id) rfl h
                  refine v_callS (n := 3) (st := [.long (r_26 * r_27)]) hk dX11_test_315 (c_X11_ways (kl K) (kG K) (q_25.2.2.2 (6 : Int32).toNatClampNeg) (q_25.2.2.2 (7 : Int32).toNatClampNeg) (q_25.2.2.2 (8 : Int32).toNatClampNeg) r_28 er_28) gd_X11_test_X11_ways rfl (by decide +kernel) (frok hR9 (Nat.le_of_ble_eq_true rfl) (Nat.le_of_ble_eq_true rfl)) (roomk hR9 (Nat.le_of_ble_eq_true rfl) (Nat.le_of_ble_eq_true rfl)) rfl rfl (Nat.le_of_ble_eq_true rfl) [] [0, 1, 2, 3, 4, 5] (wr := [((adA 1), .inl (gI (kG K), 5, .inl fvalues)), ((adA 3), .inl (gI (kG K), 80, .inl fcells)), ((adA 36), .inl (gI (kG K), 3, .inl q_25.2.1)), ((adA 37), .inl (gI (kG K), 3, .inl q_25.2.2.1)), ((adA 38), .inl (gI (kG K), 9, .inl q_25.2.2.2)), (adm, .inr (10, oM adA o_names o_rows o_strength o_most o_toldGraph o_toldArc))]) rfl rfl (by decide) (by decide) (by decide) ?_
                  intro v9 w9 hp9
                  obtain ⟨rfl, rfl⟩ := hp9
                  show V K 18 [((adA 1), .inl (gI (kG K), 5, .inl fvalues)), ((adA 3), .inl (gI (kG K), 80, .inl fcells)), ((adA 36), .inl (gI (kG K), 3, .inl q_25.2.1)), ((adA 37), .inl (gI (kG K), 3, .inl q_25.2.2.1)), ((adA 38), .inl (gI (kG K), 9, .inl q_25.2.2.2)), (adm, .inr (10, oM adA o_names o_rows o_strength o_most o_toldGraph o_toldArc))] 0 0 318 [(0, .ref adm), (1, .int p0), (2, .int p1), (3, .int p2), (4, .int v), (5, .int part), (6, .int q_25.1)] [.long r_28, .long (r_26 * r_27)]
                  refine v_lmul hk dX11_test_318 ?_
                  obtain ⟨x6_29, ex6_29, h⟩ := lt_e (g := id) h
                  refine v_topl ex6_29.symm ?_
                  refine v_lstore hk dX11_test_319 (by decide) [1, 2, 3, 4, 5, 6, 0] (lv' := [(0, .ref adm), (1, .int p0), (2, .int p1), (3, .int p2), (4, .int v), (5, .int part), (6, .long x6_29)]) rfl ?_
                  refine v_lconst (v := 0) hk dX11_test_321 (by decide) ?_
                  refine v_lstore hk dX11_test_322 (by decide) [1, 2, 3, 4, 5, 6, 7, 0] (lv' := [(0, .ref adm), (1, .int p0), (2, .int p1), (3, .int p2), (4, .int v), (5, .int part), (6, .long x6_29), (8, .long 0)]) rfl ?_
                  refine v_iconst (v := 0) hk dX11_test_324 (by decide) ?_
                  refine v_istore hk dX11_test_325 (by decide) [1, 2, 3, 4, 5, 6, 7, 8, 0] (lv' := [(0, .ref adm), (1, .int p0), (2, .int p1), (3, .int p2), (4, .int v), (5, .int part), (6, .long x6_29), (8, .long 0), (10, .int 0)]) rfl ?_
                  obtain ⟨b_62, eb_62, h⟩ := bd_e (g := id) rfl h
                  refine L_X11_test_327 hk hR9 adm adA o_names o_rows o_strength o_most o_toldGraph o_toldArc fvalues fcells p0 p1 p2 v part q_25 x6_29 b_62 (fun q_61 eq_61 => ?_) FU 0 0 eb_62
                  · replace eq_61 := eq_61.symm
                    subst eq_61
                    refine v_lload hk dX11_test_585 rfl ?_
                    replace h : some (q_61.1, q_25.2.1, q_25.2.2.1, q_25.2.2.2) = some r := h
                    replace h := Option.some.inj h
                    subst h
                    refine v_perm [5, 0, 1, 2, 3, 4] (ws' := [(adm, .inr (10, oM adA o_names o_rows o_strength o_most o_toldGraph o_toldArc)), ((adA 1), .inl (gI (kG K), 5, .inl fvalues)), ((adA 3), .inl (gI (kG K), 80, .inl fcells)), ((adA 36), .inl (gI (kG K), 3, .inl q_25.2.1)), ((adA 37), .inl (gI (kG K), 3, .inl q_25.2.2.1)), ((adA 38), .inl (gI (kG K), 9, .inl q_25.2.2.2))]) rfl rfl (by decide) ?_
                    refine hrt (some (.long q_61.1)) _ _ _ _ _ (⟨rfl, rfl⟩) (Nat.zero_le _) (Nat.zero_le _) (dX11_test_587)
                · replace h := it_t (g := id) h hc
                  refine v_aload_n hk dX11_test_229 rfl ?_
                  refine v_get (C := RX11) (T := TX11) (N := 39) (ci := 10) (v := .ref (adA 37)) hk dX11_test_230 w2i_X11_test_X110 5 rfl rfl 37 (by decide) (by decide +kernel) rfl rfl ?_
                  refine v_iconst (v := 0) hk dX11_test_233 (by decide) ?_
                  obtain ⟨hi, h⟩ := ok_e (g := id) rfl h
                  refine v_ialdV hk dX11_test_234 3 rfl (ix_in hi) ?_
                  refine v_aload_n hk dX11_test_235 rfl ?_
                  refine v_get (C := RX11) (T := TX11) (N := 39) (ci := 10) (v := .ref (adA 37)) hk dX11_test_236 w2i_X11_test_X110 5 rfl rfl 37 (by decide) (by decide +kernel) rfl rfl ?_
                  refine v_iconst (v := 1) hk dX11_test_239 (by decide) ?_
                  obtain ⟨hi, h⟩ := ok_e (g := id) rfl h
                  refine v_ialdV hk dX11_test_240 3 rfl (ix_in hi) ?_
                  refine v_aload_n hk dX11_test_241 rfl ?_
                  refine v_get (C := RX11) (T := TX11) (N := 39) (ci := 10) (v := .ref (adA 37)) hk dX11_test_242 w2i_X11_test_X110 5 rfl rfl 37 (by decide) (by decide +kernel) rfl rfl ?_
                  refine v_iconst (v := 2) hk dX11_test_245 (by decide) ?_
                  obtain ⟨hi, h⟩ := ok_e (g := id) rfl h
                  refine v_ialdV hk dX11_test_246 3 rfl (ix_in hi) ?_
                  obtain ⟨r_63, er_63, h⟩ := bd_e (g := id) rfl h
                  refine v_callS (n := 3) (st := []) hk dX11_test_247 (c_X11_ways (kl K) (kG K) (q_25.2.2.1 (0 : Int32).toNatClampNeg) (q_25.2.2.1 (1 : Int32).toNatClampNeg) (q_25.2.2.1 (2 : Int32).toNatClampNeg) r_63 er_63) gd_X11_test_X11_ways rfl (by decide +kernel) (frok hR9 (Nat.le_of_ble_eq_true rfl) (Nat.le_of_ble_eq_true rfl)) (roomk hR9 (Nat.le_of_ble_eq_true rfl) (Nat.le_of_ble_eq_true rfl)) rfl rfl (Nat.le_of_ble_eq_true rfl) [] [0, 1, 2, 3, 4, 5] (wr := [((adA 1), .inl (gI (kG K), 5, .inl fvalues)), ((adA 3), .inl (gI (kG K), 80, .inl fcells)), ((adA 36), .inl (gI (kG K), 3, .inl q_25.2.1)), ((adA 37), .inl (gI (kG K), 3, .inl q_25.2.2.1)), ((adA 38), .inl (gI (kG K), 9, .inl q_25.2.2.2)), (adm, .inr (10, oM adA o_names o_rows o_strength o_most o_toldGraph o_toldArc))]) rfl rfl (by decide) (by decide) (by decide) ?_
                  intro v9 w9 hp9
                  obtain ⟨rfl, rfl⟩ := hp9
                  show V K 18 [((adA 1), .inl (gI (kG K), 5, .inl fvalues)), ((adA 3), .inl (gI (kG K), 80, .inl fcells)), ((adA 36), .inl (gI (kG K), 3, .inl q_25.2.1)), ((adA 37), .inl (gI (kG K), 3, .inl q_25.2.2.1)), ((adA 38), .inl (gI (kG K), 9, .inl q_25.2.2.2)), (adm, .inr (10, oM adA o_names o_rows o_strength o_most o_toldGraph o_toldArc))] 0 0 250 [(0, .ref adm), (1, .int p0), (2, .int p1), (3, .int p2), (4, .int v), (5, .int part), (6, .int q_25.1)] [.long r_63]
                  replace h : some (r_63, q_25.2.1, q_25.2.2.1, q_25.2.2.2) = some r := h
                  replace h := Option.some.inj h
                  subst h
                  refine v_perm [5, 0, 1, 2, 3, 4] (ws' := [(adm, .inr (10, oM adA o_names o_rows o_strength o_most o_toldGraph o_toldArc)), ((adA 1), .inl (gI (kG K), 5, .inl fvalues)), ((adA 3), .inl (gI (kG K), 80, .inl fcells)), ((adA 36), .inl (gI (kG K), 3, .inl q_25.2.1)), ((adA 37), .inl (gI (kG K), 3, .inl q_25.2.2.1)), ((adA 38), .inl (gI (kG K), 9, .inl q_25.2.2.2))]) rfl rfl (by decide) ?_
                  refine hrt (some (.long r_63)) _ _ _ _ _ (⟨rfl, rfl⟩) (Nat.zero_le _) (Nat.zero_le _) (dX11_test_250)
          · replace h := it_f (g := id) h hc
            refine v_aload_n hk dX11_test_38 rfl ?_
            refine v_iload_n hk dX11_test_39 rfl ?_
            obtain ⟨r_66, er_66, h⟩ := bd_e (g := id) rfl h
            refine v_callV (n := 1) (st := []) (b := adm) (T := TX11) (N := 39) hk dX11_test_40 (c_X11_isName (kl K) (kG K) adm adA o_names o_rows o_strength o_most o_toldGraph o_toldArc p2 r_66 er_66) rfl gd_X11_test_X11_isName rfl (by decide +kernel) (frok hR9 (Nat.le_of_ble_eq_true rfl) (Nat.le_of_ble_eq_true rfl)) (roomk hR9 (Nat.le_of_ble_eq_true rfl) (Nat.le_of_ble_eq_true rfl)) rfl rfl (Nat.le_of_ble_eq_true rfl) 5 rfl rfl [5] [0, 1, 2, 3, 4] (wr := [((adA 1), .inl (gI (kG K), 5, .inl fvalues)), ((adA 3), .inl (gI (kG K), 80, .inl fcells)), ((adA 36), .inl (gI (kG K), 3, .inl fofA)), ((adA 37), .inl (gI (kG K), 3, .inl fofB)), ((adA 38), .inl (gI (kG K), 9, .inl fboth))]) rfl rfl (by decide) (by decide) (by decide) ?_
            intro v9 w9 hp9
            obtain ⟨rfl, rfl⟩ := hp9
            show V K 18 [((adA 1), .inl (gI (kG K), 5, .inl fvalues)), ((adA 3), .inl (gI (kG K), 80, .inl fcells)), ((adA 36), .inl (gI (kG K), 3, .inl fofA)), ((adA 37), .inl (gI (kG K), 3, .inl fofB)), ((adA 38), .inl (gI (kG K), 9, .inl fboth)), (adm, .inr (10, oM adA o_names o_rows o_strength o_most o_toldGraph o_toldArc))] 0 0 43 [(0, .ref adm), (1, .int p0), (2, .int p1), (3, .int p2), (4, .int v), (5, .int part)] [.int r_66]
            obtain ⟨y_67, ey_67, h⟩ := bd_e (g := id) rfl h
            have Jay_67 : y_67 = true → V K 18 [((adA 1), .inl (gI (kG K), 5, .inl fvalues)), ((adA 3), .inl (gI (kG K), 80, .inl fcells)), ((adA 36), .inl (gI (kG K), 3, .inl fofA)), ((adA 37), .inl (gI (kG K), 3, .inl fofB)), ((adA 38), .inl (gI (kG K), 9, .inl fboth)), (adm, .inr (10, oM adA o_names o_rows o_strength o_most o_toldGraph o_toldArc))] 0 0 72 [(0, .ref adm), (1, .int p0), (2, .int p1), (3, .int p2), (4, .int v), (5, .int part)] [] := by
              intro hz9
              replace h := it_t (g := id) h hz9
              refine v_ldc2 (v := (-1)) hk dX11_test_72 (by decide +kernel) ?_
              replace h : some ((-1), fofA, fofB, fboth) = some r := h
              replace h := Option.some.inj h
              subst h
              refine v_perm [5, 0, 1, 2, 3, 4] (ws' := [(adm, .inr (10, oM adA o_names o_rows o_strength o_most o_toldGraph o_toldArc)), ((adA 1), .inl (gI (kG K), 5, .inl fvalues)), ((adA 3), .inl (gI (kG K), 80, .inl fcells)), ((adA 36), .inl (gI (kG K), 3, .inl fofA)), ((adA 37), .inl (gI (kG K), 3, .inl fofB)), ((adA 38), .inl (gI (kG K), 9, .inl fboth))]) rfl rfl (by decide) ?_
              refine hrt (some (.long (-1))) _ _ _ _ _ (⟨rfl, rfl⟩) (Nat.zero_le _) (Nat.zero_le _) (dX11_test_75)
            have Jby_67 : y_67 = false → V K 18 [((adA 1), .inl (gI (kG K), 5, .inl fvalues)), ((adA 3), .inl (gI (kG K), 80, .inl fcells)), ((adA 36), .inl (gI (kG K), 3, .inl fofA)), ((adA 37), .inl (gI (kG K), 3, .inl fofB)), ((adA 38), .inl (gI (kG K), 9, .inl fboth)), (adm, .inr (10, oM adA o_names o_rows o_strength o_most o_toldGraph o_toldArc))] 0 0 76 [(0, .ref adm), (1, .int p0), (2, .int p1), (3, .int p2), (4, .int v), (5, .int part)] [] := by
              intro hz9
              replace h := it_f (g := id) h (by rw [hz9]; decide)
              refine v_iconst (v := 0) hk dX11_test_76 (by decide) ?_
              refine v_istore hk dX11_test_77 (by decide) [1, 2, 3, 4, 5, 6, 0] (lv' := [(0, .ref adm), (1, .int p0), (2, .int p1), (3, .int p2), (4, .int v), (5, .int part), (6, .int 0)]) rfl ?_
              obtain ⟨b_109, eb_109, h⟩ := bd_e (g := id) rfl h
              refine L_X11_test_79 hk hR9 adm adA o_names o_rows o_strength o_most o_toldGraph o_toldArc fvalues fcells p0 p1 p2 v part b_109 (fun q_68 eq_68 => ?_) FU 0 fofA fofB fboth eb_109
              · replace eq_68 := eq_68.symm
                subst eq_68
                refine v_iconst (v := 0) hk dX11_test_120 (by decide) ?_
                refine v_istore hk dX11_test_121 (by decide) [1, 2, 3, 4, 5, 6, 0] (lv' := [(0, .ref adm), (1, .int p0), (2, .int p1), (3, .int p2), (4, .int v), (5, .int part), (6, .int 0)]) rfl ?_
                obtain ⟨b_108, eb_108, h⟩ := bd_e (g := id) rfl h
                refine L_X11_test_123 hk hR9 adm adA o_names o_rows o_strength o_most o_toldGraph o_toldArc fvalues fcells p0 p1 p2 v part b_108 (fun q_69 eq_69 => ?_) FU 0 q_68.2.1 q_68.2.2.1 q_68.2.2.2 eb_108
                · replace eq_69 := eq_69.symm
                  subst eq_69
                  refine v_iload hk dX11_test_223 rfl ?_
                  refine v_iconst (v := 1) hk dX11_test_225 (by decide) ?_
                  refine v_icmp_ne (tgt := 251) hk dX11_test_226 (by decide) (fun hc => ?_) (fun hc => ?_)
                  · replace h := it_f (g := id) h hc
                    refine v_aload_n hk dX11_test_251 rfl ?_
                    refine v_get (C := RX11) (T := TX11) (N := 39) (ci := 10) (v := .ref (adA 38)) hk dX11_test_252 w2i_X11_test_X110 5 rfl rfl 38 (by decide) (by decide +kernel) rfl rfl ?_
                    refine v_iconst (v := 0) hk dX11_test_255 (by decide) ?_
                    obtain ⟨hi, h⟩ := ok_e (g := id) rfl h
                    refine v_ialdV hk dX11_test_256 4 rfl (ix_in hi) ?_
                    refine v_aload_n hk dX11_test_257 rfl ?_
                    refine v_get (C := RX11) (T := TX11) (N := 39) (ci := 10) (v := .ref (adA 38)) hk dX11_test_258 w2i_X11_test_X110 5 rfl rfl 38 (by decide) (by decide +kernel) rfl rfl ?_
                    refine v_iconst (v := 1) hk dX11_test_261 (by decide) ?_
                    obtain ⟨hi, h⟩ := ok_e (g := id) rfl h
                    refine v_ialdV hk dX11_test_262 4 rfl (ix_in hi) ?_
                    refine v_aload_n hk dX11_test_263 rfl ?_
                    refine v_get (C := RX11) (T := TX11) (N := 39) (ci := 10) (v := .ref (adA 38)) hk dX11_test_264 w2i_X11_test_X110 5 rfl rfl 38 (by decide) (by decide +kernel) rfl rfl ?_
                    refine v_iconst (v := 2) hk dX11_test_267 (by decide) ?_
                    obtain ⟨hi, h⟩ := ok_e (g := id) rfl h
                    refine v_ialdV hk dX11_test_268 4 rfl (ix_in hi) ?_
                    obtain ⟨r_70, er_70, h⟩ := bd_e (g := id) rfl h
                    refine v_callS (n := 3) (st := []) hk dX11_test_269 (c_X11_ways (kl K) (kG K) (q_69.2.2.2 (0 : Int32).toNatClampNeg) (q_69.2.2.2 (1 : Int32).toNatClampNeg) (q_69.2.2.2 (2 : Int32).toNatClampNeg) r_70 er_70) gd_X11_test_X11_ways rfl (by decide +kernel) (frok hR9 (Nat.le_of_ble_eq_true rfl) (Nat.le_of_ble_eq_true rfl)) (roomk hR9 (Nat.le_of_ble_eq_true rfl) (Nat.le_of_ble_eq_true rfl)) rfl rfl (Nat.le_of_ble_eq_true rfl) [] [0, 1, 2, 3, 4, 5] (wr := [((adA 1), .inl (gI (kG K), 5, .inl fvalues)), ((adA 3), .inl (gI (kG K), 80, .inl fcells)), ((adA 36), .inl (gI (kG K), 3, .inl q_69.2.1)), ((adA 37), .inl (gI (kG K), 3, .inl q_69.2.2.1)), ((adA 38), .inl (gI (kG K), 9, .inl q_69.2.2.2)), (adm, .inr (10, oM adA o_names o_rows o_strength o_most o_toldGraph o_toldArc))]) rfl rfl (by decide) (by decide) (by decide) ?_
                    intro v9 w9 hp9
                    obtain ⟨rfl, rfl⟩ := hp9
                    show V K 18 [((adA 1), .inl (gI (kG K), 5, .inl fvalues)), ((adA 3), .inl (gI (kG K), 80, .inl fcells)), ((adA 36), .inl (gI (kG K), 3, .inl q_69.2.1)), ((adA 37), .inl (gI (kG K), 3, .inl q_69.2.2.1)), ((adA 38), .inl (gI (kG K), 9, .inl q_69.2.2.2)), (adm, .inr (10, oM adA o_names o_rows o_strength o_most o_toldGraph o_toldArc))] 0 0 272 [(0, .ref adm), (1, .int p0), (2, .int p1), (3, .int p2), (4, .int v), (5, .int part), (6, .int q_69.1)] [.long r_70]
                    refine v_aload_n hk dX11_test_272 rfl ?_
                    refine v_get (C := RX11) (T := TX11) (N := 39) (ci := 10) (v := .ref (adA 38)) hk dX11_test_273 w2i_X11_test_X110 5 rfl rfl 38 (by decide) (by decide +kernel) rfl rfl ?_
                    refine v_iconst (v := 3) hk dX11_test_276 (by decide) ?_
                    obtain ⟨hi, h⟩ := ok_e (g := id) rfl h
                    refine v_ialdV hk dX11_test_277 4 rfl (ix_in hi) ?_
                    refine v_aload_n hk dX11_test_278 rfl ?_
                    refine v_get (C := RX11) (T := TX11) (N := 39) (ci := 10) (v := .ref (adA 38)) hk dX11_test_279 w2i_X11_test_X110 5 rfl rfl 38 (by decide) (by decide +kernel) rfl rfl ?_
                    refine v_iconst (v := 4) hk dX11_test_282 (by decide) ?_
                    obtain ⟨hi, h⟩ := ok_e (g := id) rfl h
                    refine v_ialdV hk dX11_test_283 4 rfl (ix_in hi) ?_
                    refine v_aload_n hk dX11_test_284 rfl ?_
                    refine v_get (C := RX11) (T := TX11) (N := 39) (ci := 10) (v := .ref (adA 38)) hk dX11_test_285 w2i_X11_test_X110 5 rfl rfl 38 (by decide) (by decide +kernel) rfl rfl ?_
                    refine v_iconst (v := 5) hk dX11_test_288 (by decide) ?_
                    obtain ⟨hi, h⟩ := ok_e (g := id) rfl h
                    refine v_ialdV hk dX11_test_289 4 rfl (ix_in hi) ?_
                    obtain ⟨r_71, er_71, h⟩ := bd_e (g := id) rfl h
                    refine v_callS (n := 3) (st := [.long r_70]) hk dX11_test_290 (c_X11_ways (kl K) (kG K) (q_69.2.2.2 (3 : Int32).toNatClampNeg) (q_69.2.2.2 (4 : Int32).toNatClampNeg) (q_69.2.2.2 (5 : Int32).toNatClampNeg) r_71 er_71) gd_X11_test_X11_ways rfl (by decide +kernel) (frok hR9 (Nat.le_of_ble_eq_true rfl) (Nat.le_of_ble_eq_true rfl)) (roomk hR9 (Nat.le_of_ble_eq_true rfl) (Nat.le_of_ble_eq_true rfl)) rfl rfl (Nat.le_of_ble_eq_true rfl) [] [0, 1, 2, 3, 4, 5] (wr := [((adA 1), .inl (gI (kG K), 5, .inl fvalues)), ((adA 3), .inl (gI (kG K), 80, .inl fcells)), ((adA 36), .inl (gI (kG K), 3, .inl q_69.2.1)), ((adA 37), .inl (gI (kG K), 3, .inl q_69.2.2.1)), ((adA 38), .inl (gI (kG K), 9, .inl q_69.2.2.2)), (adm, .inr (10, oM adA o_names o_rows o_strength o_most o_toldGraph o_toldArc))]) rfl rfl (by decide) (by decide) (by decide) ?_
                    intro v9 w9 hp9
                    obtain ⟨rfl, rfl⟩ := hp9
                    show V K 18 [((adA 1), .inl (gI (kG K), 5, .inl fvalues)), ((adA 3), .inl (gI (kG K), 80, .inl fcells)), ((adA 36), .inl (gI (kG K), 3, .inl q_69.2.1)), ((adA 37), .inl (gI (kG K), 3, .inl q_69.2.2.1)), ((adA 38), .inl (gI (kG K), 9, .inl q_69.2.2.2)), (adm, .inr (10, oM adA o_names o_rows o_strength o_most o_toldGraph o_toldArc))] 0 0 293 [(0, .ref adm), (1, .int p0), (2, .int p1), (3, .int p2), (4, .int v), (5, .int part), (6, .int q_69.1)] [.long r_71, .long r_70]
                    refine v_lmul hk dX11_test_293 ?_
                    refine v_aload_n hk dX11_test_294 rfl ?_
                    refine v_get (C := RX11) (T := TX11) (N := 39) (ci := 10) (v := .ref (adA 38)) hk dX11_test_295 w2i_X11_test_X110 5 rfl rfl 38 (by decide) (by decide +kernel) rfl rfl ?_
                    refine v_bipush (v := 6) hk dX11_test_298 (by decide) ?_
                    obtain ⟨hi, h⟩ := ok_e (g := id) rfl h
                    refine v_ialdV hk dX11_test_300 4 rfl (ix_in hi) ?_
                    refine v_aload_n hk dX11_test_301 rfl ?_
                    refine v_get (C := RX11) (T := TX11) (N := 39) (ci := 10) (v := .ref (adA 38)) hk dX11_test_302 w2i_X11_test_X110 5 rfl rfl 38 (by decide) (by decide +kernel) rfl rfl ?_
                    refine v_bipush (v := 7) hk dX11_test_305 (by decide) ?_
                    obtain ⟨hi, h⟩ := ok_e (g := id) rfl h
                    refine v_ialdV hk dX11_test_307 4 rfl (ix_in hi) ?_
                    refine v_aload_n hk dX11_test_308 rfl ?_
                    refine v_get (C := RX11) (T := TX11) (N := 39) (ci := 10) (v := .ref (adA 38)) hk dX11_test_309 w2i_X11_test_X110 5 rfl rfl 38 (by decide) (by decide +kernel) rfl rfl ?_
                    refine v_bipush (v := 8) hk dX11_test_312 (by decide) ?_
                    obtain ⟨hi, h⟩ := ok_e (g := id) rfl h
                    refine v_ialdV hk dX11_test_314 4 rfl (ix_in hi) ?_
                    obtain ⟨r_72, er_72, h⟩ := bd_e (g := id) rfl h
                    refine v_callS (n := 3) (st := [.long (r_70 * r_71)]) hk dX11_test_315 (c_X11_ways (kl K) (kG K) (q_69.2.2.2 (6 : Int32).toNatClampNeg) (q_69.2.2.2 (7 : Int32).toNatClampNeg) (q_69.2.2.2 (8 : Int32).toNatClampNeg) r_72 er_72) gd_X11_test_X11_ways rfl (by decide +kernel) (frok hR9 (Nat.le_of_ble_eq_true rfl) (Nat.le_of_ble_eq_true rfl)) (roomk hR9 (Nat.le_of_ble_eq_true rfl) (Nat.le_of_ble_eq_true rfl)) rfl rfl (Nat.le_of_ble_eq_true rfl) [] [0, 1, 2, 3, 4, 5] (wr := [((adA 1), .inl (gI (kG K), 5, .inl fvalues)), ((adA 3), .inl (gI (kG K), 80, .inl fcells)), ((adA 36), .inl (gI (kG K), 3, .inl q_69.2.1)), ((adA 37), .inl (gI (kG K), 3, .inl q_69.2.2.1)), ((adA 38), .inl (gI (kG K), 9, .inl q_69.2.2.2)), (adm, .inr (10, oM adA o_names o_rows o_strength o_most o_toldGraph o_toldArc))]) rfl rfl (by decide) (by decide) (by decide) ?_
                    intro v9 w9 hp9
                    obtain ⟨rfl, rfl⟩ := hp9
                    show V K 18 [((adA 1), .inl (gI (kG K), 5, .inl fvalues)), ((adA 3), .inl (gI (kG K), 80, .inl fcells)), ((adA 36), .inl (gI (kG K), 3, .inl q_69.2.1)), ((adA 37), .inl (gI (kG K), 3, .inl q_69.2.2.1)), ((adA 38), .inl (gI (kG K), 9, .inl q_69.2.2.2)), (adm, .inr (10, oM adA o_names o_rows o_strength o_most o_toldGraph o_toldArc))] 0 0 318 [(0, .ref adm), (1, .int p0), (2, .int p1), (3, .int p2), (4, .int v), (5, .int part), (6, .int q_69.1)] [.long r_72, .long (r_70 * r_71)]
                    refine v_lmul hk dX11_test_318 ?_
                    obtain ⟨x6_73, ex6_73, h⟩ := lt_e (g := id) h
                    refine v_topl ex6_73.symm ?_
                    refine v_lstore hk dX11_test_319 (by decide) [1, 2, 3, 4, 5, 6, 0] (lv' := [(0, .ref adm), (1, .int p0), (2, .int p1), (3, .int p2), (4, .int v), (5, .int part), (6, .long x6_73)]) rfl ?_
                    refine v_lconst (v := 0) hk dX11_test_321 (by decide) ?_
                    refine v_lstore hk dX11_test_322 (by decide) [1, 2, 3, 4, 5, 6, 7, 0] (lv' := [(0, .ref adm), (1, .int p0), (2, .int p1), (3, .int p2), (4, .int v), (5, .int part), (6, .long x6_73), (8, .long 0)]) rfl ?_
                    refine v_iconst (v := 0) hk dX11_test_324 (by decide) ?_
                    refine v_istore hk dX11_test_325 (by decide) [1, 2, 3, 4, 5, 6, 7, 8, 0] (lv' := [(0, .ref adm), (1, .int p0), (2, .int p1), (3, .int p2), (4, .int v), (5, .int part), (6, .long x6_73), (8, .long 0), (10, .int 0)]) rfl ?_
                    obtain ⟨b_106, eb_106, h⟩ := bd_e (g := id) rfl h
                    refine L_X11_test_327v1 hk hR9 adm adA o_names o_rows o_strength o_most o_toldGraph o_toldArc fvalues fcells p0 p1 p2 v part q_69 x6_73 b_106 (fun q_105 eq_105 => ?_) FU 0 0 eb_106
                    · replace eq_105 := eq_105.symm
                      subst eq_105
                      refine v_lload hk dX11_test_585 rfl ?_
                      replace h : some (q_105.1, q_69.2.1, q_69.2.2.1, q_69.2.2.2) = some r := h
                      replace h := Option.some.inj h
                      subst h
                      refine v_perm [5, 0, 1, 2, 3, 4] (ws' := [(adm, .inr (10, oM adA o_names o_rows o_strength o_most o_toldGraph o_toldArc)), ((adA 1), .inl (gI (kG K), 5, .inl fvalues)), ((adA 3), .inl (gI (kG K), 80, .inl fcells)), ((adA 36), .inl (gI (kG K), 3, .inl q_69.2.1)), ((adA 37), .inl (gI (kG K), 3, .inl q_69.2.2.1)), ((adA 38), .inl (gI (kG K), 9, .inl q_69.2.2.2))]) rfl rfl (by decide) ?_
                      refine hrt (some (.long q_105.1)) _ _ _ _ _ (⟨rfl, rfl⟩) (Nat.zero_le _) (Nat.zero_le _) (dX11_test_587)
                  · replace h := it_t (g := id) h hc
                    refine v_aload_n hk dX11_test_229 rfl ?_
                    refine v_get (C := RX11) (T := TX11) (N := 39) (ci := 10) (v := .ref (adA 37)) hk dX11_test_230 w2i_X11_test_X110 5 rfl rfl 37 (by decide) (by decide +kernel) rfl rfl ?_
                    refine v_iconst (v := 0) hk dX11_test_233 (by decide) ?_
                    obtain ⟨hi, h⟩ := ok_e (g := id) rfl h
                    refine v_ialdV hk dX11_test_234 3 rfl (ix_in hi) ?_
                    refine v_aload_n hk dX11_test_235 rfl ?_
                    refine v_get (C := RX11) (T := TX11) (N := 39) (ci := 10) (v := .ref (adA 37)) hk dX11_test_236 w2i_X11_test_X110 5 rfl rfl 37 (by decide) (by decide +kernel) rfl rfl ?_
                    refine v_iconst (v := 1) hk dX11_test_239 (by decide) ?_
                    obtain ⟨hi, h⟩ := ok_e (g := id) rfl h
                    refine v_ialdV hk dX11_test_240 3 rfl (ix_in hi) ?_
                    refine v_aload_n hk dX11_test_241 rfl ?_
                    refine v_get (C := RX11) (T := TX11) (N := 39) (ci := 10) (v := .ref (adA 37)) hk dX11_test_242 w2i_X11_test_X110 5 rfl rfl 37 (by decide) (by decide +kernel) rfl rfl ?_
                    refine v_iconst (v := 2) hk dX11_test_245 (by decide) ?_
                    obtain ⟨hi, h⟩ := ok_e (g := id) rfl h
                    refine v_ialdV hk dX11_test_246 3 rfl (ix_in hi) ?_
                    obtain ⟨r_107, er_107, h⟩ := bd_e (g := id) rfl h
                    refine v_callS (n := 3) (st := []) hk dX11_test_247 (c_X11_ways (kl K) (kG K) (q_69.2.2.1 (0 : Int32).toNatClampNeg) (q_69.2.2.1 (1 : Int32).toNatClampNeg) (q_69.2.2.1 (2 : Int32).toNatClampNeg) r_107 er_107) gd_X11_test_X11_ways rfl (by decide +kernel) (frok hR9 (Nat.le_of_ble_eq_true rfl) (Nat.le_of_ble_eq_true rfl)) (roomk hR9 (Nat.le_of_ble_eq_true rfl) (Nat.le_of_ble_eq_true rfl)) rfl rfl (Nat.le_of_ble_eq_true rfl) [] [0, 1, 2, 3, 4, 5] (wr := [((adA 1), .inl (gI (kG K), 5, .inl fvalues)), ((adA 3), .inl (gI (kG K), 80, .inl fcells)), ((adA 36), .inl (gI (kG K), 3, .inl q_69.2.1)), ((adA 37), .inl (gI (kG K), 3, .inl q_69.2.2.1)), ((adA 38), .inl (gI (kG K), 9, .inl q_69.2.2.2)), (adm, .inr (10, oM adA o_names o_rows o_strength o_most o_toldGraph o_toldArc))]) rfl rfl (by decide) (by decide) (by decide) ?_
                    intro v9 w9 hp9
                    obtain ⟨rfl, rfl⟩ := hp9
                    show V K 18 [((adA 1), .inl (gI (kG K), 5, .inl fvalues)), ((adA 3), .inl (gI (kG K), 80, .inl fcells)), ((adA 36), .inl (gI (kG K), 3, .inl q_69.2.1)), ((adA 37), .inl (gI (kG K), 3, .inl q_69.2.2.1)), ((adA 38), .inl (gI (kG K), 9, .inl q_69.2.2.2)), (adm, .inr (10, oM adA o_names o_rows o_strength o_most o_toldGraph o_toldArc))] 0 0 250 [(0, .ref adm), (1, .int p0), (2, .int p1), (3, .int p2), (4, .int v), (5, .int part), (6, .int q_69.1)] [.long r_107]
                    replace h : some (r_107, q_69.2.1, q_69.2.2.1, q_69.2.2.2) = some r := h
                    replace h := Option.some.inj h
                    subst h
                    refine v_perm [5, 0, 1, 2, 3, 4] (ws' := [(adm, .inr (10, oM adA o_names o_rows o_strength o_most o_toldGraph o_toldArc)), ((adA 1), .inl (gI (kG K), 5, .inl fvalues)), ((adA 3), .inl (gI (kG K), 80, .inl fcells)), ((adA 36), .inl (gI (kG K), 3, .inl q_69.2.1)), ((adA 37), .inl (gI (kG K), 3, .inl q_69.2.2.1)), ((adA 38), .inl (gI (kG K), 9, .inl q_69.2.2.2))]) rfl rfl (by decide) ?_
                    refine hrt (some (.long r_107)) _ _ _ _ _ (⟨rfl, rfl⟩) (Nat.zero_le _) (Nat.zero_le _) (dX11_test_250)
            clear h
            have h := id_e ey_67
            clear ey_67
            refine v_if_eq (tgt := 72) hk dX11_test_43 (by decide) (fun hc => ?_) (fun hc => ?_)
            · replace h := it_t (g := id) h hc
              replace h : some true = some y_67 := h
              replace h := Option.some.inj h
              subst h
              exact Jay_67 rfl
            · replace h := it_f (g := id) h hc
              refine v_iload_n hk dX11_test_46 rfl ?_
              refine v_iload_n hk dX11_test_47 rfl ?_
              obtain ⟨y_110, ey_110, h⟩ := bd_e (g := id) rfl h
              have Jay_110 : y_110 = true → V K 18 [((adA 1), .inl (gI (kG K), 5, .inl fvalues)), ((adA 3), .inl (gI (kG K), 80, .inl fcells)), ((adA 36), .inl (gI (kG K), 3, .inl fofA)), ((adA 37), .inl (gI (kG K), 3, .inl fofB)), ((adA 38), .inl (gI (kG K), 9, .inl fboth)), (adm, .inr (10, oM adA o_names o_rows o_strength o_most o_toldGraph o_toldArc))] 0 0 72 [(0, .ref adm), (1, .int p0), (2, .int p1), (3, .int p2), (4, .int v), (5, .int part)] [] := by
                intro hz9
                replace h := it_t (g := id) h hz9
                replace h : some true = some y_67 := h
                replace h := Option.some.inj h
                subst h
                exact Jay_67 rfl
              have Jby_110 : y_110 = false → V K 18 [((adA 1), .inl (gI (kG K), 5, .inl fvalues)), ((adA 3), .inl (gI (kG K), 80, .inl fcells)), ((adA 36), .inl (gI (kG K), 3, .inl fofA)), ((adA 37), .inl (gI (kG K), 3, .inl fofB)), ((adA 38), .inl (gI (kG K), 9, .inl fboth)), (adm, .inr (10, oM adA o_names o_rows o_strength o_most o_toldGraph o_toldArc))] 0 0 76 [(0, .ref adm), (1, .int p0), (2, .int p1), (3, .int p2), (4, .int v), (5, .int part)] [] := by
                intro hz9
                replace h := it_f (g := id) h (by rw [hz9]; decide)
                replace h : some false = some y_67 := h
                replace h := Option.some.inj h
                subst h
                exact Jby_67 rfl
              clear h
              have h := id_e ey_110
              clear ey_110
              refine v_icmp_eq (tgt := 72) hk dX11_test_48 (by decide) (fun hc => ?_) (fun hc => ?_)
              · replace h := it_t (g := id) h hc
                replace h : some true = some y_110 := h
                replace h := Option.some.inj h
                subst h
                exact Jay_110 rfl
              · replace h := it_f (g := id) h hc
                refine v_iload_n hk dX11_test_51 rfl ?_
                refine v_iload_n hk dX11_test_52 rfl ?_
                obtain ⟨y_111, ey_111, h⟩ := bd_e (g := id) rfl h
                have Jay_111 : y_111 = true → V K 18 [((adA 1), .inl (gI (kG K), 5, .inl fvalues)), ((adA 3), .inl (gI (kG K), 80, .inl fcells)), ((adA 36), .inl (gI (kG K), 3, .inl fofA)), ((adA 37), .inl (gI (kG K), 3, .inl fofB)), ((adA 38), .inl (gI (kG K), 9, .inl fboth)), (adm, .inr (10, oM adA o_names o_rows o_strength o_most o_toldGraph o_toldArc))] 0 0 72 [(0, .ref adm), (1, .int p0), (2, .int p1), (3, .int p2), (4, .int v), (5, .int part)] [] := by
                  intro hz9
                  replace h := it_t (g := id) h hz9
                  replace h : some true = some y_110 := h
                  replace h := Option.some.inj h
                  subst h
                  exact Jay_110 rfl
                have Jby_111 : y_111 = false → V K 18 [((adA 1), .inl (gI (kG K), 5, .inl fvalues)), ((adA 3), .inl (gI (kG K), 80, .inl fcells)), ((adA 36), .inl (gI (kG K), 3, .inl fofA)), ((adA 37), .inl (gI (kG K), 3, .inl fofB)), ((adA 38), .inl (gI (kG K), 9, .inl fboth)), (adm, .inr (10, oM adA o_names o_rows o_strength o_most o_toldGraph o_toldArc))] 0 0 76 [(0, .ref adm), (1, .int p0), (2, .int p1), (3, .int p2), (4, .int v), (5, .int part)] [] := by
                  intro hz9
                  replace h := it_f (g := id) h (by rw [hz9]; decide)
                  replace h : some false = some y_110 := h
                  replace h := Option.some.inj h
                  subst h
                  exact Jby_110 rfl
                clear h
                have h := id_e ey_111
                clear ey_111
                refine v_icmp_eq (tgt := 72) hk dX11_test_53 (by decide) (fun hc => ?_) (fun hc => ?_)
                · replace h := it_t (g := id) h hc
                  replace h : some true = some y_111 := h
                  replace h := Option.some.inj h
                  subst h
                  exact Jay_111 rfl
                · replace h := it_f (g := id) h hc
                  refine v_iload hk dX11_test_56 rfl ?_
                  obtain ⟨y_112, ey_112, h⟩ := bd_e (g := id) rfl h
                  have Jay_112 : y_112 = true → V K 18 [((adA 1), .inl (gI (kG K), 5, .inl fvalues)), ((adA 3), .inl (gI (kG K), 80, .inl fcells)), ((adA 36), .inl (gI (kG K), 3, .inl fofA)), ((adA 37), .inl (gI (kG K), 3, .inl fofB)), ((adA 38), .inl (gI (kG K), 9, .inl fboth)), (adm, .inr (10, oM adA o_names o_rows o_strength o_most o_toldGraph o_toldArc))] 0 0 72 [(0, .ref adm), (1, .int p0), (2, .int p1), (3, .int p2), (4, .int v), (5, .int part)] [] := by
                    intro hz9
                    replace h := it_t (g := id) h hz9
                    replace h : some true = some y_111 := h
                    replace h := Option.some.inj h
                    subst h
                    exact Jay_111 rfl
                  have Jby_112 : y_112 = false → V K 18 [((adA 1), .inl (gI (kG K), 5, .inl fvalues)), ((adA 3), .inl (gI (kG K), 80, .inl fcells)), ((adA 36), .inl (gI (kG K), 3, .inl fofA)), ((adA 37), .inl (gI (kG K), 3, .inl fofB)), ((adA 38), .inl (gI (kG K), 9, .inl fboth)), (adm, .inr (10, oM adA o_names o_rows o_strength o_most o_toldGraph o_toldArc))] 0 0 76 [(0, .ref adm), (1, .int p0), (2, .int p1), (3, .int p2), (4, .int v), (5, .int part)] [] := by
                    intro hz9
                    replace h := it_f (g := id) h (by rw [hz9]; decide)
                    replace h : some false = some y_111 := h
                    replace h := Option.some.inj h
                    subst h
                    exact Jby_111 rfl
                  clear h
                  have h := id_e ey_112
                  clear ey_112
                  refine v_if_lt (tgt := 72) hk dX11_test_58 (by decide) (fun hc => ?_) (fun hc => ?_)
                  · replace h := it_t (g := id) h hc
                    replace h : some true = some y_112 := h
                    replace h := Option.some.inj h
                    subst h
                    exact Jay_112 rfl
                  · replace h := it_f (g := id) h hc
                    refine v_iload hk dX11_test_61 rfl ?_
                    refine v_aload_n hk dX11_test_63 rfl ?_
                    refine v_get (C := RX11) (T := TX11) (N := 39) (ci := 10) (v := .ref (adA 1)) hk dX11_test_64 w2i_X11_test_X110 5 rfl rfl 1 (by decide) (by decide +kernel) rfl rfl ?_
                    refine v_iload_n hk dX11_test_67 rfl ?_
                    obtain ⟨hi, h⟩ := ok_e (g := id) rfl h
                    refine v_ialdV hk dX11_test_68 0 rfl (ix_in hi) ?_
                    refine v_icmp_lt (tgt := 76) hk dX11_test_69 (by decide) (fun hc => ?_) (fun hc => ?_)
                    · replace h := it_t (g := id) h hc
                      replace h : some false = some y_112 := h
                      replace h := Option.some.inj h
                      subst h
                      exact Jby_112 rfl
                    · replace h := it_f (g := id) h hc
                      replace h : some true = some y_112 := h
                      replace h := Option.some.inj h
                      subst h
                      exact Jay_112 rfl
        · replace h := it_t (g := id) h hc
          refine v_ldc2 (v := (-1)) hk dX11_test_29 (by decide +kernel) ?_
          replace h : some ((-1), fofA, fofB, fboth) = some r := h
          replace h := Option.some.inj h
          subst h
          refine v_perm [5, 0, 1, 2, 3, 4] (ws' := [(adm, .inr (10, oM adA o_names o_rows o_strength o_most o_toldGraph o_toldArc)), ((adA 1), .inl (gI (kG K), 5, .inl fvalues)), ((adA 3), .inl (gI (kG K), 80, .inl fcells)), ((adA 36), .inl (gI (kG K), 3, .inl fofA)), ((adA 37), .inl (gI (kG K), 3, .inl fofB)), ((adA 38), .inl (gI (kG K), 9, .inl fboth))]) rfl rfl (by decide) ?_
          refine hrt (some (.long (-1))) _ _ _ _ _ (⟨rfl, rfl⟩) (Nat.zero_le _) (Nat.zero_le _) (dX11_test_32)
