abbrev rm_X11_common : Room := { frames := 2, cells := 0, slots := 0, locals := 48 }
set_option maxHeartbeats 4000000 in
set_option maxRecDepth 100000 in
theorem L_X11_common_18 {K : Cx} {R9 : Room} (hk : Ok K cX11_common 5 RX11 w2_X11_common R9) (hR9 : RoomGe R9 rm_X11_common) (adm : Nat) (adA : Nat → Nat) (adx : Nat) (ady : Nat) (o_names : Int32) (o_rows : Int32) (o_strength : Int32) (o_most : Int32) (o_toldGraph : Int32) (o_toldArc : Int32) (frest : Nat → Int32) (nx : Nat) (fx : Nat → Int32) (ny : Nat) (fy : Nat → Int32) (b9 : (Int32 × (Nat → Int32) × (Nat → Int32))) (kk0 : ∀ q9 : (Int32 × (Nat → Int32) × (Nat → Int32)), b9 = q9 → V K 5 [(adm, .inr (10, oM adA o_names o_rows o_strength o_most o_toldGraph o_toldArc)), ((adA 8), .inl (gI (kG K), 320, .inl frest)), (adx, .inl (gI (kG K), nx, .inl fx)), ((adA 6), .inl (gI (kG K), 320, .inl q9.2.1)), (ady, .inl (gI (kG K), ny, .inl fy)), ((adA 7), .inl (gI (kG K), 320, .inl q9.2.2))] 0 0 58 [(0, .ref adm), (1, .ref adx), (2, .ref ady), (3, .int q9.1)] []) : ∀ (nn : Nat) (i3_3 : Int32) (fone_4 : Nat → Int32) (ftwo_5 : Nat → Int32), lp (b_X11_common_18) nn (i3_3, fone_4, ftwo_5) = some b9 → V K 5 [(adm, .inr (10, oM adA o_names o_rows o_strength o_most o_toldGraph o_toldArc)), ((adA 8), .inl (gI (kG K), 320, .inl frest)), (adx, .inl (gI (kG K), nx, .inl fx)), ((adA 6), .inl (gI (kG K), 320, .inl fone_4)), (ady, .inl (gI (kG K), ny, .inl fy)), ((adA 7), .inl (gI (kG K), 320, .inl ftwo_5))] 0 0 18 [(0, .ref adm), (1, .ref adx), (2, .ref ady), (3, .int i3_3)] [] := by
  intro nn
  induction nn with
  | zero => intro i3_3 fone_4 ftwo_5 h; exact absurd h (by simp [lp])
  | succ nn ih =>
    intro i3_3 fone_4 ftwo_5 h
    replace h := lp_s h
    rw [eb_X11_common_18] at h
    refine v_aload_n hk dX11_common_18 rfl ?_
    refine v_get (C := RX11) (T := TX11) (N := 39) (ci := 10) (v := .ref (adA 6)) hk dX11_common_19 w2i_X11_common_X110 0 rfl rfl 6 (by decide) (by decide +kernel) rfl rfl ?_
    obtain ⟨r_6, er_6, h⟩ := bd_e (g := (lpk (lp (b_X11_common_18) nn))) rfl h
    refine v_callS (n := 1) (st := []) hk dX11_common_22 (c_X11_isEven (kl K) (kG K) (adA 6) 320 fone_4 r_6 er_6) gd_X11_common_X11_isEven rfl (by decide +kernel) (frok hR9 (Nat.le_of_ble_eq_true rfl) (Nat.le_of_ble_eq_true rfl)) (roomk hR9 (Nat.le_of_ble_eq_true rfl) (Nat.le_of_ble_eq_true rfl)) rfl rfl (Nat.le_of_ble_eq_true rfl) [3] [0, 1, 2, 4, 5] (wr := [(adm, .inr (10, oM adA o_names o_rows o_strength o_most o_toldGraph o_toldArc)), ((adA 8), .inl (gI (kG K), 320, .inl frest)), (adx, .inl (gI (kG K), nx, .inl fx)), (ady, .inl (gI (kG K), ny, .inl fy)), ((adA 7), .inl (gI (kG K), 320, .inl ftwo_5))]) rfl rfl (by decide) (by decide) (by decide) ?_
    intro v9 w9 hp9
    obtain ⟨rfl, rfl⟩ := hp9
    show V K 5 [(adm, .inr (10, oM adA o_names o_rows o_strength o_most o_toldGraph o_toldArc)), ((adA 8), .inl (gI (kG K), 320, .inl frest)), (adx, .inl (gI (kG K), nx, .inl fx)), (ady, .inl (gI (kG K), ny, .inl fy)), ((adA 7), .inl (gI (kG K), 320, .inl ftwo_5)), ((adA 6), .inl (gI (kG K), 320, .inl fone_4))] 0 0 25 [(0, .ref adm), (1, .ref adx), (2, .ref ady), (3, .int i3_3)] [.int r_6]
    refine v_if_eq (tgt := 58) hk dX11_common_25 (by decide) (fun hc => ?_) (fun hc => ?_)
    · replace h := it_t (g := (lpk (lp (b_X11_common_18) nn))) h hc
      refine v_perm [0, 1, 2, 5, 3, 4] (ws' := [(adm, .inr (10, oM adA o_names o_rows o_strength o_most o_toldGraph o_toldArc)), ((adA 8), .inl (gI (kG K), 320, .inl frest)), (adx, .inl (gI (kG K), nx, .inl fx)), ((adA 6), .inl (gI (kG K), 320, .inl fone_4)), (ady, .inl (gI (kG K), ny, .inl fy)), ((adA 7), .inl (gI (kG K), 320, .inl ftwo_5))]) rfl rfl (by decide) ?_
      replace h : some (i3_3, fone_4, ftwo_5) = some b9 := h
      replace h := Option.some.inj h
      subst h
      exact kk0 _ rfl
    · replace h := it_f (g := (lpk (lp (b_X11_common_18) nn))) h hc
      refine v_aload_n hk dX11_common_28 rfl ?_
      refine v_get (C := RX11) (T := TX11) (N := 39) (ci := 10) (v := .ref (adA 7)) hk dX11_common_29 w2i_X11_common_X110 0 rfl rfl 7 (by decide) (by decide +kernel) rfl rfl ?_
      obtain ⟨r_7, er_7, h⟩ := bd_e (g := (lpk (lp (b_X11_common_18) nn))) rfl h
      refine v_callS (n := 1) (st := []) hk dX11_common_32 (c_X11_isEven (kl K) (kG K) (adA 7) 320 ftwo_5 r_7 er_7) gd_X11_common_X11_isEven rfl (by decide +kernel) (frok hR9 (Nat.le_of_ble_eq_true rfl) (Nat.le_of_ble_eq_true rfl)) (roomk hR9 (Nat.le_of_ble_eq_true rfl) (Nat.le_of_ble_eq_true rfl)) rfl rfl (Nat.le_of_ble_eq_true rfl) [4] [0, 1, 2, 3, 5] (wr := [(adm, .inr (10, oM adA o_names o_rows o_strength o_most o_toldGraph o_toldArc)), ((adA 8), .inl (gI (kG K), 320, .inl frest)), (adx, .inl (gI (kG K), nx, .inl fx)), (ady, .inl (gI (kG K), ny, .inl fy)), ((adA 6), .inl (gI (kG K), 320, .inl fone_4))]) rfl rfl (by decide) (by decide) (by decide) ?_
      intro v9 w9 hp9
      obtain ⟨rfl, rfl⟩ := hp9
      show V K 5 [(adm, .inr (10, oM adA o_names o_rows o_strength o_most o_toldGraph o_toldArc)), ((adA 8), .inl (gI (kG K), 320, .inl frest)), (adx, .inl (gI (kG K), nx, .inl fx)), (ady, .inl (gI (kG K), ny, .inl fy)), ((adA 6), .inl (gI (kG K), 320, .inl fone_4)), ((adA 7), .inl (gI (kG K), 320, .inl ftwo_5))] 0 0 35 [(0, .ref adm), (1, .ref adx), (2, .ref ady), (3, .int i3_3)] [.int r_7]
      refine v_if_eq (tgt := 58) hk dX11_common_35 (by decide) (fun hc => ?_) (fun hc => ?_)
      · replace h := it_t (g := (lpk (lp (b_X11_common_18) nn))) h hc
        refine v_perm [0, 1, 2, 4, 3, 5] (ws' := [(adm, .inr (10, oM adA o_names o_rows o_strength o_most o_toldGraph o_toldArc)), ((adA 8), .inl (gI (kG K), 320, .inl frest)), (adx, .inl (gI (kG K), nx, .inl fx)), ((adA 6), .inl (gI (kG K), 320, .inl fone_4)), (ady, .inl (gI (kG K), ny, .inl fy)), ((adA 7), .inl (gI (kG K), 320, .inl ftwo_5))]) rfl rfl (by decide) ?_
        replace h : some (i3_3, fone_4, ftwo_5) = some b9 := h
        replace h := Option.some.inj h
        subst h
        exact kk0 _ rfl
      · replace h := it_f (g := (lpk (lp (b_X11_common_18) nn))) h hc
        refine v_aload_n hk dX11_common_38 rfl ?_
        refine v_get (C := RX11) (T := TX11) (N := 39) (ci := 10) (v := .ref (adA 6)) hk dX11_common_39 w2i_X11_common_X110 0 rfl rfl 6 (by decide) (by decide +kernel) rfl rfl ?_
        obtain ⟨r_8, er_8, h⟩ := bd_e (g := (lpk (lp (b_X11_common_18) nn))) rfl h
        refine v_callS (n := 1) (st := []) hk dX11_common_42 (c_X11_halve (kl K) (kG K) (adA 6) 320 fone_4 r_8 er_8) gd_X11_common_X11_halve rfl (by decide +kernel) (frok hR9 (Nat.le_of_ble_eq_true rfl) (Nat.le_of_ble_eq_true rfl)) (roomk hR9 (Nat.le_of_ble_eq_true rfl) (Nat.le_of_ble_eq_true rfl)) rfl rfl (Nat.le_of_ble_eq_true rfl) [4] [0, 1, 2, 3, 5] (wr := [(adm, .inr (10, oM adA o_names o_rows o_strength o_most o_toldGraph o_toldArc)), ((adA 8), .inl (gI (kG K), 320, .inl frest)), (adx, .inl (gI (kG K), nx, .inl fx)), (ady, .inl (gI (kG K), ny, .inl fy)), ((adA 7), .inl (gI (kG K), 320, .inl ftwo_5))]) rfl rfl (by decide) (by decide) (by decide) ?_
        intro v9 w9 hp9
        obtain ⟨rfl, rfl⟩ := hp9
        show V K 5 [(adm, .inr (10, oM adA o_names o_rows o_strength o_most o_toldGraph o_toldArc)), ((adA 8), .inl (gI (kG K), 320, .inl frest)), (adx, .inl (gI (kG K), nx, .inl fx)), (ady, .inl (gI (kG K), ny, .inl fy)), ((adA 7), .inl (gI (kG K), 320, .inl ftwo_5)), ((adA 6), .inl (gI (kG K), 320, .inl r_8))] 0 0 45 [(0, .ref adm), (1, .ref adx), (2, .ref ady), (3, .int i3_3)] []
        refine v_aload_n hk dX11_common_45 rfl ?_
        refine v_get (C := RX11) (T := TX11) (N := 39) (ci := 10) (v := .ref (adA 7)) hk dX11_common_46 w2i_X11_common_X110 0 rfl rfl 7 (by decide) (by decide +kernel) rfl rfl ?_
        obtain ⟨r_9, er_9, h⟩ := bd_e (g := (lpk (lp (b_X11_common_18) nn))) rfl h
        refine v_callS (n := 1) (st := []) hk dX11_common_49 (c_X11_halve (kl K) (kG K) (adA 7) 320 ftwo_5 r_9 er_9) gd_X11_common_X11_halve rfl (by decide +kernel) (frok hR9 (Nat.le_of_ble_eq_true rfl) (Nat.le_of_ble_eq_true rfl)) (roomk hR9 (Nat.le_of_ble_eq_true rfl) (Nat.le_of_ble_eq_true rfl)) rfl rfl (Nat.le_of_ble_eq_true rfl) [4] [0, 1, 2, 3, 5] (wr := [(adm, .inr (10, oM adA o_names o_rows o_strength o_most o_toldGraph o_toldArc)), ((adA 8), .inl (gI (kG K), 320, .inl frest)), (adx, .inl (gI (kG K), nx, .inl fx)), (ady, .inl (gI (kG K), ny, .inl fy)), ((adA 6), .inl (gI (kG K), 320, .inl r_8))]) rfl rfl (by decide) (by decide) (by decide) ?_
        intro v9 w9 hp9
        obtain ⟨rfl, rfl⟩ := hp9
        show V K 5 [(adm, .inr (10, oM adA o_names o_rows o_strength o_most o_toldGraph o_toldArc)), ((adA 8), .inl (gI (kG K), 320, .inl frest)), (adx, .inl (gI (kG K), nx, .inl fx)), (ady, .inl (gI (kG K), ny, .inl fy)), ((adA 6), .inl (gI (kG K), 320, .inl r_8)), ((adA 7), .inl (gI (kG K), 320, .inl r_9))] 0 0 52 [(0, .ref adm), (1, .ref adx), (2, .ref ady), (3, .int i3_3)] []
        obtain ⟨x3_10, ex3_10, h⟩ := lt_e (g := (lpk (lp (b_X11_common_18) nn))) h
        refine v_iinc (v := x3_10) hk dX11_common_52 rfl (by rw [ex3_10]; rfl) (by decide) [1, 2, 3, 0] (lv' := [(0, .ref adm), (1, .ref adx), (2, .ref ady), (3, .int x3_10)]) rfl ?_
        refine v_goto (tgt := 18) hk dX11_common_55 (by decide) ?_
        refine v_perm [0, 1, 2, 4, 3, 5] (ws' := [(adm, .inr (10, oM adA o_names o_rows o_strength o_most o_toldGraph o_toldArc)), ((adA 8), .inl (gI (kG K), 320, .inl frest)), (adx, .inl (gI (kG K), nx, .inl fx)), ((adA 6), .inl (gI (kG K), 320, .inl r_8)), (ady, .inl (gI (kG K), ny, .inl fy)), ((adA 7), .inl (gI (kG K), 320, .inl r_9))]) rfl rfl (by decide) ?_
        exact ih x3_10 r_8 r_9 h
set_option maxHeartbeats 4000000 in
set_option maxRecDepth 100000 in
theorem L_X11_common_67 {K : Cx} {R9 : Room} (hk : Ok K cX11_common 5 RX11 w2_X11_common R9) (hR9 : RoomGe R9 rm_X11_common) (adm : Nat) (adA : Nat → Nat) (adx : Nat) (ady : Nat) (o_names : Int32) (o_rows : Int32) (o_strength : Int32) (o_most : Int32) (o_toldGraph : Int32) (o_toldArc : Int32) (nx : Nat) (fx : Nat → Int32) (ny : Nat) (fy : Nat → Int32) (q_11 : Int32 × (Nat → Int32) × (Nat → Int32)) (frest_12 : Nat → Int32) (ftwo_14 : Nat → Int32) (b9 : ((Nat → Int32))) (kk0 : ∀ q9 : ((Nat → Int32)), b9 = q9 → V K 5 [(adm, .inr (10, oM adA o_names o_rows o_strength o_most o_toldGraph o_toldArc)), ((adA 8), .inl (gI (kG K), 320, .inl frest_12)), (adx, .inl (gI (kG K), nx, .inl fx)), ((adA 6), .inl (gI (kG K), 320, .inl q9)), (ady, .inl (gI (kG K), ny, .inl fy)), ((adA 7), .inl (gI (kG K), 320, .inl ftwo_14))] 0 0 87 [(0, .ref adm), (1, .ref adx), (2, .ref ady), (3, .int q_11.1)] []) : ∀ (nn : Nat) (fone_15 : Nat → Int32), lp (b_X11_common_67) nn fone_15 = some b9 → V K 5 [(adm, .inr (10, oM adA o_names o_rows o_strength o_most o_toldGraph o_toldArc)), ((adA 8), .inl (gI (kG K), 320, .inl frest_12)), (adx, .inl (gI (kG K), nx, .inl fx)), ((adA 6), .inl (gI (kG K), 320, .inl fone_15)), (ady, .inl (gI (kG K), ny, .inl fy)), ((adA 7), .inl (gI (kG K), 320, .inl ftwo_14))] 0 0 67 [(0, .ref adm), (1, .ref adx), (2, .ref ady), (3, .int q_11.1)] [] := by
  intro nn
  induction nn with
  | zero => intro fone_15 h; exact absurd h (by simp [lp])
  | succ nn ih =>
    intro fone_15 h
    replace h := lp_s h
    rw [eb_X11_common_67] at h
    refine v_aload_n hk dX11_common_67 rfl ?_
    refine v_get (C := RX11) (T := TX11) (N := 39) (ci := 10) (v := .ref (adA 6)) hk dX11_common_68 w2i_X11_common_X110 0 rfl rfl 6 (by decide) (by decide +kernel) rfl rfl ?_
    obtain ⟨r_16, er_16, h⟩ := bd_e (g := (lpk (lp (b_X11_common_67) nn))) rfl h
    refine v_callS (n := 1) (st := []) hk dX11_common_71 (c_X11_isEven (kl K) (kG K) (adA 6) 320 fone_15 r_16 er_16) gd_X11_common_X11_isEven rfl (by decide +kernel) (frok hR9 (Nat.le_of_ble_eq_true rfl) (Nat.le_of_ble_eq_true rfl)) (roomk hR9 (Nat.le_of_ble_eq_true rfl) (Nat.le_of_ble_eq_true rfl)) rfl rfl (Nat.le_of_ble_eq_true rfl) [3] [0, 1, 2, 4, 5] (wr := [(adm, .inr (10, oM adA o_names o_rows o_strength o_most o_toldGraph o_toldArc)), ((adA 8), .inl (gI (kG K), 320, .inl frest_12)), (adx, .inl (gI (kG K), nx, .inl fx)), (ady, .inl (gI (kG K), ny, .inl fy)), ((adA 7), .inl (gI (kG K), 320, .inl ftwo_14))]) rfl rfl (by decide) (by decide) (by decide) ?_
    intro v9 w9 hp9
    obtain ⟨rfl, rfl⟩ := hp9
    show V K 5 [(adm, .inr (10, oM adA o_names o_rows o_strength o_most o_toldGraph o_toldArc)), ((adA 8), .inl (gI (kG K), 320, .inl frest_12)), (adx, .inl (gI (kG K), nx, .inl fx)), (ady, .inl (gI (kG K), ny, .inl fy)), ((adA 7), .inl (gI (kG K), 320, .inl ftwo_14)), ((adA 6), .inl (gI (kG K), 320, .inl fone_15))] 0 0 74 [(0, .ref adm), (1, .ref adx), (2, .ref ady), (3, .int q_11.1)] [.int r_16]
    refine v_if_eq (tgt := 87) hk dX11_common_74 (by decide) (fun hc => ?_) (fun hc => ?_)
    · replace h := it_t (g := (lpk (lp (b_X11_common_67) nn))) h hc
      refine v_perm [0, 1, 2, 5, 3, 4] (ws' := [(adm, .inr (10, oM adA o_names o_rows o_strength o_most o_toldGraph o_toldArc)), ((adA 8), .inl (gI (kG K), 320, .inl frest_12)), (adx, .inl (gI (kG K), nx, .inl fx)), ((adA 6), .inl (gI (kG K), 320, .inl fone_15)), (ady, .inl (gI (kG K), ny, .inl fy)), ((adA 7), .inl (gI (kG K), 320, .inl ftwo_14))]) rfl rfl (by decide) ?_
      replace h : some fone_15 = some b9 := h
      replace h := Option.some.inj h
      subst h
      exact kk0 _ rfl
    · replace h := it_f (g := (lpk (lp (b_X11_common_67) nn))) h hc
      refine v_aload_n hk dX11_common_77 rfl ?_
      refine v_get (C := RX11) (T := TX11) (N := 39) (ci := 10) (v := .ref (adA 6)) hk dX11_common_78 w2i_X11_common_X110 0 rfl rfl 6 (by decide) (by decide +kernel) rfl rfl ?_
      obtain ⟨r_17, er_17, h⟩ := bd_e (g := (lpk (lp (b_X11_common_67) nn))) rfl h
      refine v_callS (n := 1) (st := []) hk dX11_common_81 (c_X11_halve (kl K) (kG K) (adA 6) 320 fone_15 r_17 er_17) gd_X11_common_X11_halve rfl (by decide +kernel) (frok hR9 (Nat.le_of_ble_eq_true rfl) (Nat.le_of_ble_eq_true rfl)) (roomk hR9 (Nat.le_of_ble_eq_true rfl) (Nat.le_of_ble_eq_true rfl)) rfl rfl (Nat.le_of_ble_eq_true rfl) [5] [0, 1, 2, 3, 4] (wr := [(adm, .inr (10, oM adA o_names o_rows o_strength o_most o_toldGraph o_toldArc)), ((adA 8), .inl (gI (kG K), 320, .inl frest_12)), (adx, .inl (gI (kG K), nx, .inl fx)), (ady, .inl (gI (kG K), ny, .inl fy)), ((adA 7), .inl (gI (kG K), 320, .inl ftwo_14))]) rfl rfl (by decide) (by decide) (by decide) ?_
      intro v9 w9 hp9
      obtain ⟨rfl, rfl⟩ := hp9
      show V K 5 [(adm, .inr (10, oM adA o_names o_rows o_strength o_most o_toldGraph o_toldArc)), ((adA 8), .inl (gI (kG K), 320, .inl frest_12)), (adx, .inl (gI (kG K), nx, .inl fx)), (ady, .inl (gI (kG K), ny, .inl fy)), ((adA 7), .inl (gI (kG K), 320, .inl ftwo_14)), ((adA 6), .inl (gI (kG K), 320, .inl r_17))] 0 0 84 [(0, .ref adm), (1, .ref adx), (2, .ref ady), (3, .int q_11.1)] []
      refine v_goto (tgt := 67) hk dX11_common_84 (by decide) ?_
      refine v_perm [0, 1, 2, 5, 3, 4] (ws' := [(adm, .inr (10, oM adA o_names o_rows o_strength o_most o_toldGraph o_toldArc)), ((adA 8), .inl (gI (kG K), 320, .inl frest_12)), (adx, .inl (gI (kG K), nx, .inl fx)), ((adA 6), .inl (gI (kG K), 320, .inl r_17)), (ady, .inl (gI (kG K), ny, .inl fy)), ((adA 7), .inl (gI (kG K), 320, .inl ftwo_14))]) rfl rfl (by decide) ?_
      exact ih r_17 h
set_option maxHeartbeats 4000000 in
set_option maxRecDepth 100000 in
theorem L_X11_common_87 {K : Cx} {R9 : Room} (hk : Ok K cX11_common 5 RX11 w2_X11_common R9) (hR9 : RoomGe R9 rm_X11_common) (adm : Nat) (adA : Nat → Nat) (adx : Nat) (ady : Nat) (o_names : Int32) (o_rows : Int32) (o_strength : Int32) (o_most : Int32) (o_toldGraph : Int32) (o_toldArc : Int32) (nx : Nat) (fx : Nat → Int32) (ny : Nat) (fy : Nat → Int32) (q_11 : Int32 × (Nat → Int32) × (Nat → Int32)) (frest_12 : Nat → Int32) (q_18 : (Nat → Int32)) (b9 : ((Nat → Int32))) (kk0 : ∀ q9 : ((Nat → Int32)), b9 = q9 → V K 5 [(adm, .inr (10, oM adA o_names o_rows o_strength o_most o_toldGraph o_toldArc)), ((adA 8), .inl (gI (kG K), 320, .inl frest_12)), (adx, .inl (gI (kG K), nx, .inl fx)), ((adA 6), .inl (gI (kG K), 320, .inl q_18)), (ady, .inl (gI (kG K), ny, .inl fy)), ((adA 7), .inl (gI (kG K), 320, .inl q9))] 0 0 107 [(0, .ref adm), (1, .ref adx), (2, .ref ady), (3, .int q_11.1)] []) : ∀ (nn : Nat) (ftwo_19 : Nat → Int32), lp (b_X11_common_87) nn ftwo_19 = some b9 → V K 5 [(adm, .inr (10, oM adA o_names o_rows o_strength o_most o_toldGraph o_toldArc)), ((adA 8), .inl (gI (kG K), 320, .inl frest_12)), (adx, .inl (gI (kG K), nx, .inl fx)), ((adA 6), .inl (gI (kG K), 320, .inl q_18)), (ady, .inl (gI (kG K), ny, .inl fy)), ((adA 7), .inl (gI (kG K), 320, .inl ftwo_19))] 0 0 87 [(0, .ref adm), (1, .ref adx), (2, .ref ady), (3, .int q_11.1)] [] := by
  intro nn
  induction nn with
  | zero => intro ftwo_19 h; exact absurd h (by simp [lp])
  | succ nn ih =>
    intro ftwo_19 h
    replace h := lp_s h
    rw [eb_X11_common_87] at h
    refine v_aload_n hk dX11_common_87 rfl ?_
    refine v_get (C := RX11) (T := TX11) (N := 39) (ci := 10) (v := .ref (adA 7)) hk dX11_common_88 w2i_X11_common_X110 0 rfl rfl 7 (by decide) (by decide +kernel) rfl rfl ?_
    obtain ⟨r_20, er_20, h⟩ := bd_e (g := (lpk (lp (b_X11_common_87) nn))) rfl h
    refine v_callS (n := 1) (st := []) hk dX11_common_91 (c_X11_isEven (kl K) (kG K) (adA 7) 320 ftwo_19 r_20 er_20) gd_X11_common_X11_isEven rfl (by decide +kernel) (frok hR9 (Nat.le_of_ble_eq_true rfl) (Nat.le_of_ble_eq_true rfl)) (roomk hR9 (Nat.le_of_ble_eq_true rfl) (Nat.le_of_ble_eq_true rfl)) rfl rfl (Nat.le_of_ble_eq_true rfl) [5] [0, 1, 2, 3, 4] (wr := [(adm, .inr (10, oM adA o_names o_rows o_strength o_most o_toldGraph o_toldArc)), ((adA 8), .inl (gI (kG K), 320, .inl frest_12)), (adx, .inl (gI (kG K), nx, .inl fx)), ((adA 6), .inl (gI (kG K), 320, .inl q_18)), (ady, .inl (gI (kG K), ny, .inl fy))]) rfl rfl (by decide) (by decide) (by decide) ?_
    intro v9 w9 hp9
    obtain ⟨rfl, rfl⟩ := hp9
    show V K 5 [(adm, .inr (10, oM adA o_names o_rows o_strength o_most o_toldGraph o_toldArc)), ((adA 8), .inl (gI (kG K), 320, .inl frest_12)), (adx, .inl (gI (kG K), nx, .inl fx)), ((adA 6), .inl (gI (kG K), 320, .inl q_18)), (ady, .inl (gI (kG K), ny, .inl fy)), ((adA 7), .inl (gI (kG K), 320, .inl ftwo_19))] 0 0 94 [(0, .ref adm), (1, .ref adx), (2, .ref ady), (3, .int q_11.1)] [.int r_20]
    refine v_if_eq (tgt := 107) hk dX11_common_94 (by decide) (fun hc => ?_) (fun hc => ?_)
    · replace h := it_t (g := (lpk (lp (b_X11_common_87) nn))) h hc
      replace h : some ftwo_19 = some b9 := h
      replace h := Option.some.inj h
      subst h
      exact kk0 _ rfl
    · replace h := it_f (g := (lpk (lp (b_X11_common_87) nn))) h hc
      refine v_aload_n hk dX11_common_97 rfl ?_
      refine v_get (C := RX11) (T := TX11) (N := 39) (ci := 10) (v := .ref (adA 7)) hk dX11_common_98 w2i_X11_common_X110 0 rfl rfl 7 (by decide) (by decide +kernel) rfl rfl ?_
      obtain ⟨r_21, er_21, h⟩ := bd_e (g := (lpk (lp (b_X11_common_87) nn))) rfl h
      refine v_callS (n := 1) (st := []) hk dX11_common_101 (c_X11_halve (kl K) (kG K) (adA 7) 320 ftwo_19 r_21 er_21) gd_X11_common_X11_halve rfl (by decide +kernel) (frok hR9 (Nat.le_of_ble_eq_true rfl) (Nat.le_of_ble_eq_true rfl)) (roomk hR9 (Nat.le_of_ble_eq_true rfl) (Nat.le_of_ble_eq_true rfl)) rfl rfl (Nat.le_of_ble_eq_true rfl) [5] [0, 1, 2, 3, 4] (wr := [(adm, .inr (10, oM adA o_names o_rows o_strength o_most o_toldGraph o_toldArc)), ((adA 8), .inl (gI (kG K), 320, .inl frest_12)), (adx, .inl (gI (kG K), nx, .inl fx)), ((adA 6), .inl (gI (kG K), 320, .inl q_18)), (ady, .inl (gI (kG K), ny, .inl fy))]) rfl rfl (by decide) (by decide) (by decide) ?_
      intro v9 w9 hp9
      obtain ⟨rfl, rfl⟩ := hp9
      show V K 5 [(adm, .inr (10, oM adA o_names o_rows o_strength o_most o_toldGraph o_toldArc)), ((adA 8), .inl (gI (kG K), 320, .inl frest_12)), (adx, .inl (gI (kG K), nx, .inl fx)), ((adA 6), .inl (gI (kG K), 320, .inl q_18)), (ady, .inl (gI (kG K), ny, .inl fy)), ((adA 7), .inl (gI (kG K), 320, .inl r_21))] 0 0 104 [(0, .ref adm), (1, .ref adx), (2, .ref ady), (3, .int q_11.1)] []
      refine v_goto (tgt := 87) hk dX11_common_104 (by decide) ?_
      exact ih r_21 h
set_option maxHeartbeats 4000000 in
set_option maxRecDepth 100000 in
theorem L_X11_common_58 {K : Cx} {R9 : Room} (hk : Ok K cX11_common 5 RX11 w2_X11_common R9) (hR9 : RoomGe R9 rm_X11_common) (adm : Nat) (adA : Nat → Nat) (adx : Nat) (ady : Nat) (o_names : Int32) (o_rows : Int32) (o_strength : Int32) (o_most : Int32) (o_toldGraph : Int32) (o_toldArc : Int32) (nx : Nat) (fx : Nat → Int32) (ny : Nat) (fy : Nat → Int32) (q_11 : Int32 × (Nat → Int32) × (Nat → Int32)) (b9 : ((Nat → Int32) × (Nat → Int32) × (Nat → Int32))) (kk0 : ∀ q9 : ((Nat → Int32) × (Nat → Int32) × (Nat → Int32)), b9 = q9 → V K 5 [(adm, .inr (10, oM adA o_names o_rows o_strength o_most o_toldGraph o_toldArc)), ((adA 8), .inl (gI (kG K), 320, .inl q9.1)), (adx, .inl (gI (kG K), nx, .inl fx)), ((adA 6), .inl (gI (kG K), 320, .inl q9.2.1)), (ady, .inl (gI (kG K), ny, .inl fy)), ((adA 7), .inl (gI (kG K), 320, .inl q9.2.2))] 0 0 168 [(0, .ref adm), (1, .ref adx), (2, .ref ady), (3, .int q_11.1)] []) : ∀ (nn : Nat) (frest_12 : Nat → Int32) (fone_13 : Nat → Int32) (ftwo_14 : Nat → Int32), lp (b_X11_common_58) nn (frest_12, fone_13, ftwo_14) = some b9 → V K 5 [(adm, .inr (10, oM adA o_names o_rows o_strength o_most o_toldGraph o_toldArc)), ((adA 8), .inl (gI (kG K), 320, .inl frest_12)), (adx, .inl (gI (kG K), nx, .inl fx)), ((adA 6), .inl (gI (kG K), 320, .inl fone_13)), (ady, .inl (gI (kG K), ny, .inl fy)), ((adA 7), .inl (gI (kG K), 320, .inl ftwo_14))] 0 0 58 [(0, .ref adm), (1, .ref adx), (2, .ref ady), (3, .int q_11.1)] [] := by
  intro nn
  induction nn with
  | zero => intro frest_12 fone_13 ftwo_14 h; exact absurd h (by simp [lp])
  | succ nn ih =>
    intro frest_12 fone_13 ftwo_14 h
    replace h := lp_s h
    rw [eb_X11_common_58] at h
    refine v_aload_n hk dX11_common_58 rfl ?_
    refine v_get (C := RX11) (T := TX11) (N := 39) (ci := 10) (v := .ref (adA 7)) hk dX11_common_59 w2i_X11_common_X110 0 rfl rfl 7 (by decide) (by decide +kernel) rfl rfl ?_
    refine v_iconst (v := 0) hk dX11_common_62 (by decide) ?_
    obtain ⟨hi, h⟩ := ok_e (g := (lpk (lp (b_X11_common_58) nn))) rfl h
    refine v_ialdV hk dX11_common_63 5 rfl (ix_in hi) ?_
    refine v_if_le (tgt := 168) hk dX11_common_64 (by decide) (fun hc => ?_) (fun hc => ?_)
    · replace h := it_t (g := (lpk (lp (b_X11_common_58) nn))) h hc
      replace h : some (frest_12, fone_13, ftwo_14) = some b9 := h
      replace h := Option.some.inj h
      subst h
      exact kk0 _ rfl
    · replace h := it_f (g := (lpk (lp (b_X11_common_58) nn))) h hc
      obtain ⟨b_30, eb_30, h⟩ := bd_e (g := (lpk (lp (b_X11_common_58) nn))) rfl h
      refine L_X11_common_67 hk hR9 adm adA adx ady o_names o_rows o_strength o_most o_toldGraph o_toldArc nx fx ny fy q_11 frest_12 ftwo_14 b_30 (fun q_18 eq_18 => ?_) FU fone_13 eb_30
      · replace eq_18 := eq_18.symm
        subst eq_18
        obtain ⟨b_29, eb_29, h⟩ := bd_e (g := (lpk (lp (b_X11_common_58) nn))) rfl h
        refine L_X11_common_87 hk hR9 adm adA adx ady o_names o_rows o_strength o_most o_toldGraph o_toldArc nx fx ny fy q_11 frest_12 q_18 b_29 (fun q_22 eq_22 => ?_) FU ftwo_14 eb_29
        · replace eq_22 := eq_22.symm
          subst eq_22
          refine v_aload_n hk dX11_common_107 rfl ?_
          refine v_get (C := RX11) (T := TX11) (N := 39) (ci := 10) (v := .ref (adA 6)) hk dX11_common_108 w2i_X11_common_X110 0 rfl rfl 6 (by decide) (by decide +kernel) rfl rfl ?_
          refine v_aload_n hk dX11_common_111 rfl ?_
          refine v_get (C := RX11) (T := TX11) (N := 39) (ci := 10) (v := .ref (adA 7)) hk dX11_common_112 w2i_X11_common_X110 0 rfl rfl 7 (by decide) (by decide +kernel) rfl rfl ?_
          obtain ⟨r_23, er_23, h⟩ := bd_e (g := (lpk (lp (b_X11_common_58) nn))) rfl h
          refine v_callS (n := 2) (st := []) hk dX11_common_115 (c_X11_compareTo (kl K) (kG K) (adA 6) (adA 7) 320 q_18 320 q_22 r_23 er_23) gd_X11_common_X11_compareTo rfl (by decide +kernel) (frok hR9 (Nat.le_of_ble_eq_true rfl) (Nat.le_of_ble_eq_true rfl)) (roomk hR9 (Nat.le_of_ble_eq_true rfl) (Nat.le_of_ble_eq_true rfl)) rfl rfl (Nat.le_of_ble_eq_true rfl) [3, 5] [0, 1, 2, 4] (wr := [(adm, .inr (10, oM adA o_names o_rows o_strength o_most o_toldGraph o_toldArc)), ((adA 8), .inl (gI (kG K), 320, .inl frest_12)), (adx, .inl (gI (kG K), nx, .inl fx)), (ady, .inl (gI (kG K), ny, .inl fy))]) rfl rfl (by decide) (by decide) (by decide) ?_
          intro v9 w9 hp9
          obtain ⟨rfl, rfl⟩ := hp9
          show V K 5 [(adm, .inr (10, oM adA o_names o_rows o_strength o_most o_toldGraph o_toldArc)), ((adA 8), .inl (gI (kG K), 320, .inl frest_12)), (adx, .inl (gI (kG K), nx, .inl fx)), (ady, .inl (gI (kG K), ny, .inl fy)), ((adA 6), .inl (gI (kG K), 320, .inl q_18)), ((adA 7), .inl (gI (kG K), 320, .inl q_22))] 0 0 118 [(0, .ref adm), (1, .ref adx), (2, .ref ady), (3, .int q_11.1)] [.int r_23]
          refine v_if_le (tgt := 154) hk dX11_common_118 (by decide) (fun hc => ?_) (fun hc => ?_)
          · replace h := it_t (g := (lpk (lp (b_X11_common_58) nn))) h hc
            refine v_aload_n hk dX11_common_154 rfl ?_
            refine v_get (C := RX11) (T := TX11) (N := 39) (ci := 10) (v := .ref (adA 7)) hk dX11_common_155 w2i_X11_common_X110 0 rfl rfl 7 (by decide) (by decide +kernel) rfl rfl ?_
            refine v_aload_n hk dX11_common_158 rfl ?_
            refine v_get (C := RX11) (T := TX11) (N := 39) (ci := 10) (v := .ref (adA 6)) hk dX11_common_159 w2i_X11_common_X110 0 rfl rfl 6 (by decide) (by decide +kernel) rfl rfl ?_
            obtain ⟨r_24, er_24, h⟩ := bd_e (g := (lpk (lp (b_X11_common_58) nn))) rfl h
            refine v_callS (n := 2) (st := []) hk dX11_common_162 (c_X11_less (kl K) (kG K) (adA 7) (adA 6) 320 q_22 320 q_18 r_24 er_24) gd_X11_common_X11_less rfl (by decide +kernel) (frok hR9 (Nat.le_of_ble_eq_true rfl) (Nat.le_of_ble_eq_true rfl)) (roomk hR9 (Nat.le_of_ble_eq_true rfl) (Nat.le_of_ble_eq_true rfl)) rfl rfl (Nat.le_of_ble_eq_true rfl) [5, 4] [0, 1, 2, 3] (wr := [(adm, .inr (10, oM adA o_names o_rows o_strength o_most o_toldGraph o_toldArc)), ((adA 8), .inl (gI (kG K), 320, .inl frest_12)), (adx, .inl (gI (kG K), nx, .inl fx)), (ady, .inl (gI (kG K), ny, .inl fy))]) rfl rfl (by decide) (by decide) (by decide) ?_
            intro v9 w9 hp9
            obtain ⟨rfl, rfl⟩ := hp9
            show V K 5 [(adm, .inr (10, oM adA o_names o_rows o_strength o_most o_toldGraph o_toldArc)), ((adA 8), .inl (gI (kG K), 320, .inl frest_12)), (adx, .inl (gI (kG K), nx, .inl fx)), (ady, .inl (gI (kG K), ny, .inl fy)), ((adA 7), .inl (gI (kG K), 320, .inl r_24)), ((adA 6), .inl (gI (kG K), 320, .inl q_18))] 0 0 165 [(0, .ref adm), (1, .ref adx), (2, .ref ady), (3, .int q_11.1)] []
            refine v_goto (tgt := 58) hk dX11_common_165 (by decide) ?_
            refine v_perm [0, 1, 2, 5, 3, 4] (ws' := [(adm, .inr (10, oM adA o_names o_rows o_strength o_most o_toldGraph o_toldArc)), ((adA 8), .inl (gI (kG K), 320, .inl frest_12)), (adx, .inl (gI (kG K), nx, .inl fx)), ((adA 6), .inl (gI (kG K), 320, .inl q_18)), (ady, .inl (gI (kG K), ny, .inl fy)), ((adA 7), .inl (gI (kG K), 320, .inl r_24))]) rfl rfl (by decide) ?_
            exact ih frest_12 q_18 r_24 h
          · replace h := it_f (g := (lpk (lp (b_X11_common_58) nn))) h hc
            refine v_aload_n hk dX11_common_121 rfl ?_
            refine v_get (C := RX11) (T := TX11) (N := 39) (ci := 10) (v := .ref (adA 6)) hk dX11_common_122 w2i_X11_common_X110 0 rfl rfl 6 (by decide) (by decide +kernel) rfl rfl ?_
            refine v_aload_n hk dX11_common_125 rfl ?_
            refine v_get (C := RX11) (T := TX11) (N := 39) (ci := 10) (v := .ref (adA 8)) hk dX11_common_126 w2i_X11_common_X110 0 rfl rfl 8 (by decide) (by decide +kernel) rfl rfl ?_
            obtain ⟨r_25, er_25, h⟩ := bd_e (g := (lpk (lp (b_X11_common_58) nn))) rfl h
            refine v_callS (n := 2) (st := []) hk dX11_common_129 (c_X11_copy (kl K) (kG K) (adA 6) (adA 8) 320 q_18 320 frest_12 r_25 er_25) gd_X11_common_X11_copy rfl (by decide +kernel) (frok hR9 (Nat.le_of_ble_eq_true rfl) (Nat.le_of_ble_eq_true rfl)) (roomk hR9 (Nat.le_of_ble_eq_true rfl) (Nat.le_of_ble_eq_true rfl)) rfl rfl (Nat.le_of_ble_eq_true rfl) [4, 1] [0, 2, 3, 5] (wr := [(adm, .inr (10, oM adA o_names o_rows o_strength o_most o_toldGraph o_toldArc)), (adx, .inl (gI (kG K), nx, .inl fx)), (ady, .inl (gI (kG K), ny, .inl fy)), ((adA 7), .inl (gI (kG K), 320, .inl q_22))]) rfl rfl (by decide) (by decide) (by decide) ?_
            intro v9 w9 hp9
            obtain ⟨rfl, rfl⟩ := hp9
            show V K 5 [(adm, .inr (10, oM adA o_names o_rows o_strength o_most o_toldGraph o_toldArc)), (adx, .inl (gI (kG K), nx, .inl fx)), (ady, .inl (gI (kG K), ny, .inl fy)), ((adA 7), .inl (gI (kG K), 320, .inl q_22)), ((adA 6), .inl (gI (kG K), 320, .inl q_18)), ((adA 8), .inl (gI (kG K), 320, .inl r_25))] 0 0 132 [(0, .ref adm), (1, .ref adx), (2, .ref ady), (3, .int q_11.1)] []
            refine v_aload_n hk dX11_common_132 rfl ?_
            refine v_get (C := RX11) (T := TX11) (N := 39) (ci := 10) (v := .ref (adA 7)) hk dX11_common_133 w2i_X11_common_X110 0 rfl rfl 7 (by decide) (by decide +kernel) rfl rfl ?_
            refine v_aload_n hk dX11_common_136 rfl ?_
            refine v_get (C := RX11) (T := TX11) (N := 39) (ci := 10) (v := .ref (adA 6)) hk dX11_common_137 w2i_X11_common_X110 0 rfl rfl 6 (by decide) (by decide +kernel) rfl rfl ?_
            obtain ⟨r_26, er_26, h⟩ := bd_e (g := (lpk (lp (b_X11_common_58) nn))) rfl h
            refine v_callS (n := 2) (st := []) hk dX11_common_140 (c_X11_copy (kl K) (kG K) (adA 7) (adA 6) 320 q_22 320 q_18 r_26 er_26) gd_X11_common_X11_copy rfl (by decide +kernel) (frok hR9 (Nat.le_of_ble_eq_true rfl) (Nat.le_of_ble_eq_true rfl)) (roomk hR9 (Nat.le_of_ble_eq_true rfl) (Nat.le_of_ble_eq_true rfl)) rfl rfl (Nat.le_of_ble_eq_true rfl) [3, 4] [0, 1, 2, 5] (wr := [(adm, .inr (10, oM adA o_names o_rows o_strength o_most o_toldGraph o_toldArc)), (adx, .inl (gI (kG K), nx, .inl fx)), (ady, .inl (gI (kG K), ny, .inl fy)), ((adA 8), .inl (gI (kG K), 320, .inl r_25))]) rfl rfl (by decide) (by decide) (by decide) ?_
            intro v9 w9 hp9
            obtain ⟨rfl, rfl⟩ := hp9
            show V K 5 [(adm, .inr (10, oM adA o_names o_rows o_strength o_most o_toldGraph o_toldArc)), (adx, .inl (gI (kG K), nx, .inl fx)), (ady, .inl (gI (kG K), ny, .inl fy)), ((adA 8), .inl (gI (kG K), 320, .inl r_25)), ((adA 7), .inl (gI (kG K), 320, .inl q_22)), ((adA 6), .inl (gI (kG K), 320, .inl r_26))] 0 0 143 [(0, .ref adm), (1, .ref adx), (2, .ref ady), (3, .int q_11.1)] []
            refine v_aload_n hk dX11_common_143 rfl ?_
            refine v_get (C := RX11) (T := TX11) (N := 39) (ci := 10) (v := .ref (adA 8)) hk dX11_common_144 w2i_X11_common_X110 0 rfl rfl 8 (by decide) (by decide +kernel) rfl rfl ?_
            refine v_aload_n hk dX11_common_147 rfl ?_
            refine v_get (C := RX11) (T := TX11) (N := 39) (ci := 10) (v := .ref (adA 7)) hk dX11_common_148 w2i_X11_common_X110 0 rfl rfl 7 (by decide) (by decide +kernel) rfl rfl ?_
            obtain ⟨r_27, er_27, h⟩ := bd_e (g := (lpk (lp (b_X11_common_58) nn))) rfl h
            refine v_callS (n := 2) (st := []) hk dX11_common_151 (c_X11_copy (kl K) (kG K) (adA 8) (adA 7) 320 r_25 320 q_22 r_27 er_27) gd_X11_common_X11_copy rfl (by decide +kernel) (frok hR9 (Nat.le_of_ble_eq_true rfl) (Nat.le_of_ble_eq_true rfl)) (roomk hR9 (Nat.le_of_ble_eq_true rfl) (Nat.le_of_ble_eq_true rfl)) rfl rfl (Nat.le_of_ble_eq_true rfl) [3, 4] [0, 1, 2, 5] (wr := [(adm, .inr (10, oM adA o_names o_rows o_strength o_most o_toldGraph o_toldArc)), (adx, .inl (gI (kG K), nx, .inl fx)), (ady, .inl (gI (kG K), ny, .inl fy)), ((adA 6), .inl (gI (kG K), 320, .inl r_26))]) rfl rfl (by decide) (by decide) (by decide) ?_
            intro v9 w9 hp9
            obtain ⟨rfl, rfl⟩ := hp9
            show V K 5 [(adm, .inr (10, oM adA o_names o_rows o_strength o_most o_toldGraph o_toldArc)), (adx, .inl (gI (kG K), nx, .inl fx)), (ady, .inl (gI (kG K), ny, .inl fy)), ((adA 6), .inl (gI (kG K), 320, .inl r_26)), ((adA 8), .inl (gI (kG K), 320, .inl r_25)), ((adA 7), .inl (gI (kG K), 320, .inl r_27))] 0 0 154 [(0, .ref adm), (1, .ref adx), (2, .ref ady), (3, .int q_11.1)] []
            refine v_aload_n hk dX11_common_154 rfl ?_
            refine v_get (C := RX11) (T := TX11) (N := 39) (ci := 10) (v := .ref (adA 7)) hk dX11_common_155 w2i_X11_common_X110 0 rfl rfl 7 (by decide) (by decide +kernel) rfl rfl ?_
            refine v_aload_n hk dX11_common_158 rfl ?_
            refine v_get (C := RX11) (T := TX11) (N := 39) (ci := 10) (v := .ref (adA 6)) hk dX11_common_159 w2i_X11_common_X110 0 rfl rfl 6 (by decide) (by decide +kernel) rfl rfl ?_
            obtain ⟨r_28, er_28, h⟩ := bd_e (g := (lpk (lp (b_X11_common_58) nn))) rfl h
            refine v_callS (n := 2) (st := []) hk dX11_common_162 (c_X11_less (kl K) (kG K) (adA 7) (adA 6) 320 r_27 320 r_26 r_28 er_28) gd_X11_common_X11_less rfl (by decide +kernel) (frok hR9 (Nat.le_of_ble_eq_true rfl) (Nat.le_of_ble_eq_true rfl)) (roomk hR9 (Nat.le_of_ble_eq_true rfl) (Nat.le_of_ble_eq_true rfl)) rfl rfl (Nat.le_of_ble_eq_true rfl) [5, 3] [0, 1, 2, 4] (wr := [(adm, .inr (10, oM adA o_names o_rows o_strength o_most o_toldGraph o_toldArc)), (adx, .inl (gI (kG K), nx, .inl fx)), (ady, .inl (gI (kG K), ny, .inl fy)), ((adA 8), .inl (gI (kG K), 320, .inl r_25))]) rfl rfl (by decide) (by decide) (by decide) ?_
            intro v9 w9 hp9
            obtain ⟨rfl, rfl⟩ := hp9
            show V K 5 [(adm, .inr (10, oM adA o_names o_rows o_strength o_most o_toldGraph o_toldArc)), (adx, .inl (gI (kG K), nx, .inl fx)), (ady, .inl (gI (kG K), ny, .inl fy)), ((adA 8), .inl (gI (kG K), 320, .inl r_25)), ((adA 7), .inl (gI (kG K), 320, .inl r_28)), ((adA 6), .inl (gI (kG K), 320, .inl r_26))] 0 0 165 [(0, .ref adm), (1, .ref adx), (2, .ref ady), (3, .int q_11.1)] []
            refine v_goto (tgt := 58) hk dX11_common_165 (by decide) ?_
            refine v_perm [0, 3, 1, 5, 2, 4] (ws' := [(adm, .inr (10, oM adA o_names o_rows o_strength o_most o_toldGraph o_toldArc)), ((adA 8), .inl (gI (kG K), 320, .inl r_25)), (adx, .inl (gI (kG K), nx, .inl fx)), ((adA 6), .inl (gI (kG K), 320, .inl r_26)), (ady, .inl (gI (kG K), ny, .inl fy)), ((adA 7), .inl (gI (kG K), 320, .inl r_28))]) rfl rfl (by decide) ?_
            exact ih r_25 r_26 r_28 h
set_option maxHeartbeats 4000000 in
set_option maxRecDepth 100000 in
theorem L_X11_common_171 {K : Cx} {R9 : Room} (hk : Ok K cX11_common 5 RX11 w2_X11_common R9) (hR9 : RoomGe R9 rm_X11_common) (adm : Nat) (adA : Nat → Nat) (adx : Nat) (ady : Nat) (o_names : Int32) (o_rows : Int32) (o_strength : Int32) (o_most : Int32) (o_toldGraph : Int32) (o_toldArc : Int32) (nx : Nat) (fx : Nat → Int32) (ny : Nat) (fy : Nat → Int32) (q_11 : Int32 × (Nat → Int32) × (Nat → Int32)) (q_31 : (Nat → Int32) × (Nat → Int32) × (Nat → Int32)) (b9 : (Int32 × (Nat → Int32))) (kk0 : ∀ q9 : (Int32 × (Nat → Int32)), b9 = q9 → V K 5 [(adm, .inr (10, oM adA o_names o_rows o_strength o_most o_toldGraph o_toldArc)), ((adA 8), .inl (gI (kG K), 320, .inl q_31.1)), (adx, .inl (gI (kG K), nx, .inl fx)), ((adA 6), .inl (gI (kG K), 320, .inl q9.2)), (ady, .inl (gI (kG K), ny, .inl fy)), ((adA 7), .inl (gI (kG K), 320, .inl q_31.2.2))] 0 0 191 [(0, .ref adm), (1, .ref adx), (2, .ref ady), (3, .int q_11.1), (4, .int q9.1)] []) : ∀ (nn : Nat) (i4_32 : Int32) (fone_33 : Nat → Int32), lp (b_X11_common_171 q_11) nn (i4_32, fone_33) = some b9 → V K 5 [(adm, .inr (10, oM adA o_names o_rows o_strength o_most o_toldGraph o_toldArc)), ((adA 8), .inl (gI (kG K), 320, .inl q_31.1)), (adx, .inl (gI (kG K), nx, .inl fx)), ((adA 6), .inl (gI (kG K), 320, .inl fone_33)), (ady, .inl (gI (kG K), ny, .inl fy)), ((adA 7), .inl (gI (kG K), 320, .inl q_31.2.2))] 0 0 171 [(0, .ref adm), (1, .ref adx), (2, .ref ady), (3, .int q_11.1), (4, .int i4_32)] [] := by
  intro nn
  induction nn with
  | zero => intro i4_32 fone_33 h; exact absurd h (by simp [lp])
  | succ nn ih =>
    intro i4_32 fone_33 h
    replace h := lp_s h
    rw [eb_X11_common_171] at h
    refine v_iload hk dX11_common_171 rfl ?_
    refine v_iload_n hk dX11_common_173 rfl ?_
    refine v_icmp_ge (tgt := 191) hk dX11_common_174 (by decide) (fun hc => ?_) (fun hc => ?_)
    · replace h := it_t (g := (lpk (lp (b_X11_common_171 q_11) nn))) h hc
      replace h : some (i4_32, fone_33) = some b9 := h
      replace h := Option.some.inj h
      subst h
      exact kk0 _ rfl
    · replace h := it_f (g := (lpk (lp (b_X11_common_171 q_11) nn))) h hc
      refine v_aload_n hk dX11_common_177 rfl ?_
      refine v_get (C := RX11) (T := TX11) (N := 39) (ci := 10) (v := .ref (adA 6)) hk dX11_common_178 w2i_X11_common_X110 0 rfl rfl 6 (by decide) (by decide +kernel) rfl rfl ?_
      refine v_iconst (v := 0) hk dX11_common_181 (by decide) ?_
      obtain ⟨r_34, er_34, h⟩ := bd_e (g := (lpk (lp (b_X11_common_171 q_11) nn))) rfl h
      refine v_callS (n := 2) (st := []) hk dX11_common_182 (c_X11_twice (kl K) (kG K) (adA 6) 320 fone_33 0 r_34 er_34) gd_X11_common_X11_twice rfl (by decide +kernel) (frok hR9 (Nat.le_of_ble_eq_true rfl) (Nat.le_of_ble_eq_true rfl)) (roomk hR9 (Nat.le_of_ble_eq_true rfl) (Nat.le_of_ble_eq_true rfl)) rfl rfl (Nat.le_of_ble_eq_true rfl) [3] [0, 1, 2, 4, 5] (wr := [(adm, .inr (10, oM adA o_names o_rows o_strength o_most o_toldGraph o_toldArc)), ((adA 8), .inl (gI (kG K), 320, .inl q_31.1)), (adx, .inl (gI (kG K), nx, .inl fx)), (ady, .inl (gI (kG K), ny, .inl fy)), ((adA 7), .inl (gI (kG K), 320, .inl q_31.2.2))]) rfl rfl (by decide) (by decide) (by decide) ?_
      intro v9 w9 hp9
      obtain ⟨rfl, rfl⟩ := hp9
      show V K 5 [(adm, .inr (10, oM adA o_names o_rows o_strength o_most o_toldGraph o_toldArc)), ((adA 8), .inl (gI (kG K), 320, .inl q_31.1)), (adx, .inl (gI (kG K), nx, .inl fx)), (ady, .inl (gI (kG K), ny, .inl fy)), ((adA 7), .inl (gI (kG K), 320, .inl q_31.2.2)), ((adA 6), .inl (gI (kG K), 320, .inl r_34))] 0 0 185 [(0, .ref adm), (1, .ref adx), (2, .ref ady), (3, .int q_11.1), (4, .int i4_32)] []
      obtain ⟨x4_35, ex4_35, h⟩ := lt_e (g := (lpk (lp (b_X11_common_171 q_11) nn))) h
      refine v_iinc (v := x4_35) hk dX11_common_185 rfl (by rw [ex4_35]; rfl) (by decide) [1, 2, 3, 4, 0] (lv' := [(0, .ref adm), (1, .ref adx), (2, .ref ady), (3, .int q_11.1), (4, .int x4_35)]) rfl ?_
      refine v_goto (tgt := 171) hk dX11_common_188 (by decide) ?_
      refine v_perm [0, 1, 2, 5, 3, 4] (ws' := [(adm, .inr (10, oM adA o_names o_rows o_strength o_most o_toldGraph o_toldArc)), ((adA 8), .inl (gI (kG K), 320, .inl q_31.1)), (adx, .inl (gI (kG K), nx, .inl fx)), ((adA 6), .inl (gI (kG K), 320, .inl r_34)), (ady, .inl (gI (kG K), ny, .inl fy)), ((adA 7), .inl (gI (kG K), 320, .inl q_31.2.2))]) rfl rfl (by decide) ?_
      exact ih x4_35 r_34 h
set_option maxHeartbeats 4000000 in
set_option maxRecDepth 100000 in
theorem c_X11_common (l : Launch) (G : GG) (adm : Nat) (adA : Nat → Nat) (adx : Nat) (ady : Nat) (o_names : Int32) (o_rows : Int32) (o_strength : Int32) (o_most : Int32) (o_toldGraph : Int32) (o_toldArc : Int32) (fone : Nat → Int32) (ftwo : Nat → Int32) (frest : Nat → Int32) (nx : Nat) (fx : Nat → Int32) (ny : Nat) (fy : Nat → Int32) (r : (Nat → Int32) × (Nat → Int32) × (Nat → Int32)) (h : m_X11_common o_names o_rows o_strength o_most o_toldGraph o_toldArc fone ftwo frest nx fx ny fy = some r) : Ctr l G yX11_common w2_X11_common rm_X11_common [.ref adm, .ref adx, .ref ady] [(adm, .inr (10, oM adA o_names o_rows o_strength o_most o_toldGraph o_toldArc)), ((adA 6), .inl (gI G, 320, .inl fone)), ((adA 7), .inl (gI G, 320, .inl ftwo)), ((adA 8), .inl (gI G, 320, .inl frest)), (adx, .inl (gI G, nx, .inl fx)), (ady, .inl (gI G, ny, .inl fy))] (fun v w => v = none ∧ w = [(adm, .inr (10, oM adA o_names o_rows o_strength o_most o_toldGraph o_toldArc)), ((adA 6), .inl (gI G, 320, .inl r.1)), ((adA 7), .inl (gI G, 320, .inl r.2.1)), ((adA 8), .inl (gI G, 320, .inl r.2.2)), (adx, .inl (gI G, nx, .inl fx)), (ady, .inl (gI G, ny, .inl fy))]) := by
  refine ctr_entry (cc := cX11_common) (maxL := 5) (ret := none) (lv0 := [(0, .ref adm), (1, .ref adx), (2, .ref ady)]) (by decide) rfl (Nat.le_of_ble_eq_true rfl) (rfl) ?_
  intro K hl9 hG9 hk hn9 hrt
  subst hl9
  subst hG9
  have hR9 : RoomGe rm_X11_common rm_X11_common := RoomGe.rf
  replace h := id_e h
  rw [em_X11_common] at h
  refine v_aload_n hk dX11_common_0 rfl ?_
  refine v_aload_n hk dX11_common_1 rfl ?_
  refine v_get (C := RX11) (T := TX11) (N := 39) (ci := 10) (v := .ref (adA 6)) hk dX11_common_2 w2i_X11_common_X110 0 rfl rfl 6 (by decide) (by decide +kernel) rfl rfl ?_
  obtain ⟨r_1, er_1, h⟩ := bd_e (g := id) rfl h
  refine v_callS (n := 2) (st := []) hk dX11_common_5 (c_X11_copy (kl K) (kG K) adx (adA 6) nx fx 320 fone r_1 er_1) gd_X11_common_X11_copy rfl (by decide +kernel) (frok hR9 (Nat.le_of_ble_eq_true rfl) (Nat.le_of_ble_eq_true rfl)) (roomk hR9 (Nat.le_of_ble_eq_true rfl) (Nat.le_of_ble_eq_true rfl)) rfl rfl (Nat.le_of_ble_eq_true rfl) [4, 1] [0, 2, 3, 5] (wr := [(adm, .inr (10, oM adA o_names o_rows o_strength o_most o_toldGraph o_toldArc)), ((adA 7), .inl (gI (kG K), 320, .inl ftwo)), ((adA 8), .inl (gI (kG K), 320, .inl frest)), (ady, .inl (gI (kG K), ny, .inl fy))]) rfl rfl (by decide) (by decide) (by decide) ?_
  intro v9 w9 hp9
  obtain ⟨rfl, rfl⟩ := hp9
  show V K 5 [(adm, .inr (10, oM adA o_names o_rows o_strength o_most o_toldGraph o_toldArc)), ((adA 7), .inl (gI (kG K), 320, .inl ftwo)), ((adA 8), .inl (gI (kG K), 320, .inl frest)), (ady, .inl (gI (kG K), ny, .inl fy)), (adx, .inl (gI (kG K), nx, .inl fx)), ((adA 6), .inl (gI (kG K), 320, .inl r_1))] 0 0 8 [(0, .ref adm), (1, .ref adx), (2, .ref ady)] []
  refine v_aload_n hk dX11_common_8 rfl ?_
  refine v_aload_n hk dX11_common_9 rfl ?_
  refine v_get (C := RX11) (T := TX11) (N := 39) (ci := 10) (v := .ref (adA 7)) hk dX11_common_10 w2i_X11_common_X110 0 rfl rfl 7 (by decide) (by decide +kernel) rfl rfl ?_
  obtain ⟨r_2, er_2, h⟩ := bd_e (g := id) rfl h
  refine v_callS (n := 2) (st := []) hk dX11_common_13 (c_X11_copy (kl K) (kG K) ady (adA 7) ny fy 320 ftwo r_2 er_2) gd_X11_common_X11_copy rfl (by decide +kernel) (frok hR9 (Nat.le_of_ble_eq_true rfl) (Nat.le_of_ble_eq_true rfl)) (roomk hR9 (Nat.le_of_ble_eq_true rfl) (Nat.le_of_ble_eq_true rfl)) rfl rfl (Nat.le_of_ble_eq_true rfl) [3, 1] [0, 2, 4, 5] (wr := [(adm, .inr (10, oM adA o_names o_rows o_strength o_most o_toldGraph o_toldArc)), ((adA 8), .inl (gI (kG K), 320, .inl frest)), (adx, .inl (gI (kG K), nx, .inl fx)), ((adA 6), .inl (gI (kG K), 320, .inl r_1))]) rfl rfl (by decide) (by decide) (by decide) ?_
  intro v9 w9 hp9
  obtain ⟨rfl, rfl⟩ := hp9
  show V K 5 [(adm, .inr (10, oM adA o_names o_rows o_strength o_most o_toldGraph o_toldArc)), ((adA 8), .inl (gI (kG K), 320, .inl frest)), (adx, .inl (gI (kG K), nx, .inl fx)), ((adA 6), .inl (gI (kG K), 320, .inl r_1)), (ady, .inl (gI (kG K), ny, .inl fy)), ((adA 7), .inl (gI (kG K), 320, .inl r_2))] 0 0 16 [(0, .ref adm), (1, .ref adx), (2, .ref ady)] []
  refine v_iconst (v := 0) hk dX11_common_16 (by decide) ?_
  refine v_istore_n hk dX11_common_17 rfl (by decide) [1, 2, 3, 0] (lv' := [(0, .ref adm), (1, .ref adx), (2, .ref ady), (3, .int 0)]) rfl ?_
  obtain ⟨b_39, eb_39, h⟩ := bd_e (g := id) rfl h
  refine L_X11_common_18 hk hR9 adm adA adx ady o_names o_rows o_strength o_most o_toldGraph o_toldArc frest nx fx ny fy b_39 (fun q_11 eq_11 => ?_) FU 0 r_1 r_2 eb_39
  · replace eq_11 := eq_11.symm
    subst eq_11
    obtain ⟨b_38, eb_38, h⟩ := bd_e (g := id) rfl h
    refine L_X11_common_58 hk hR9 adm adA adx ady o_names o_rows o_strength o_most o_toldGraph o_toldArc nx fx ny fy q_11 b_38 (fun q_31 eq_31 => ?_) FU frest q_11.2.1 q_11.2.2 eb_38
    · replace eq_31 := eq_31.symm
      subst eq_31
      refine v_iconst (v := 0) hk dX11_common_168 (by decide) ?_
      refine v_istore hk dX11_common_169 (by decide) [1, 2, 3, 4, 0] (lv' := [(0, .ref adm), (1, .ref adx), (2, .ref ady), (3, .int q_11.1), (4, .int 0)]) rfl ?_
      obtain ⟨b_37, eb_37, h⟩ := bd_e (g := id) rfl h
      refine L_X11_common_171 hk hR9 adm adA adx ady o_names o_rows o_strength o_most o_toldGraph o_toldArc nx fx ny fy q_11 q_31 b_37 (fun q_36 eq_36 => ?_) FU 0 q_31.2.1 eb_37
      · replace eq_36 := eq_36.symm
        subst eq_36
        replace h : some (q_36.2, q_31.2.2, q_31.1) = some r := h
        replace h := Option.some.inj h
        subst h
        refine v_perm [0, 3, 5, 1, 2, 4] (ws' := [(adm, .inr (10, oM adA o_names o_rows o_strength o_most o_toldGraph o_toldArc)), ((adA 6), .inl (gI (kG K), 320, .inl q_36.2)), ((adA 7), .inl (gI (kG K), 320, .inl q_31.2.2)), ((adA 8), .inl (gI (kG K), 320, .inl q_31.1)), (adx, .inl (gI (kG K), nx, .inl fx)), (ady, .inl (gI (kG K), ny, .inl fy))]) rfl rfl (by decide) ?_
        refine hrt (none) _ _ _ _ _ (⟨rfl, rfl⟩) (Nat.zero_le _) (Nat.zero_le _) (dX11_common_191)
abbrev rm_X11_divide : Room := { frames := 2, cells := 0, slots := 0, locals := 48 }
set_option maxHeartbeats 4000000 in
set_option maxRecDepth 100000 in
theorem L_X11_divide_29 {K : Cx} {R9 : Room} (hk : Ok K cX11_divide 7 RX11 w2_X11_divide R9) (hR9 : RoomGe R9 rm_X11_divide) (adm : Nat) (adA : Nat → Nat) (adx : Nat) (o_names : Int32) (o_rows : Int32) (o_strength : Int32) (o_most : Int32) (o_toldGraph : Int32) (o_toldArc : Int32) (fone : Nat → Int32) (nx : Nat) (x2_2 : Int32) (i3_3 : Int32) (fx_5 : Nat → Int32) (x4_6 : Int32) (b9 : (Int32 × Int32 × (Nat → Int32))) (kk0 : ∀ q9 : (Int32 × Int32 × (Nat → Int32)), b9 = q9 → V K 7 [(adm, .inr (10, oM adA o_names o_rows o_strength o_most o_toldGraph o_toldArc)), ((adA 6), .inl (gI (kG K), 320, .inl fone)), ((adA 8), .inl (gI (kG K), 320, .inl q9.2.2)), (adx, .inl (gI (kG K), nx, .inl fx_5))] 0 0 88 [(0, .ref adm), (1, .ref adx), (2, .int x2_2), (3, .int i3_3), (4, .int x4_6), (5, .int q9.1), (6, .int q9.2.1)] []) : ∀ (nn : Nat) (i5_7 : Int32) (i6_8 : Int32) (frest_9 : Nat → Int32), lp (b_X11_divide_29 fone x4_6) nn (i5_7, i6_8, frest_9) = some b9 → V K 7 [(adm, .inr (10, oM adA o_names o_rows o_strength o_most o_toldGraph o_toldArc)), ((adA 6), .inl (gI (kG K), 320, .inl fone)), ((adA 8), .inl (gI (kG K), 320, .inl frest_9)), (adx, .inl (gI (kG K), nx, .inl fx_5))] 0 0 29 [(0, .ref adm), (1, .ref adx), (2, .int x2_2), (3, .int i3_3), (4, .int x4_6), (5, .int i5_7), (6, .int i6_8)] [] := by
  intro nn
  induction nn with
  | zero => intro i5_7 i6_8 frest_9 h; exact absurd h (by simp [lp])
  | succ nn ih =>
    intro i5_7 i6_8 frest_9 h
    replace h := lp_s h
    rw [eb_X11_divide_29] at h
    refine v_iload hk dX11_divide_29 rfl ?_
    refine v_if_lt (tgt := 88) hk dX11_divide_31 (by decide) (fun hc => ?_) (fun hc => ?_)
    · replace h := it_t (g := (lpk (lp (b_X11_divide_29 fone x4_6) nn))) h hc
      replace h : some (i5_7, i6_8, frest_9) = some b9 := h
      replace h := Option.some.inj h
      subst h
      exact kk0 _ rfl
    · replace h := it_f (g := (lpk (lp (b_X11_divide_29 fone x4_6) nn))) h hc
      refine v_aload_n hk dX11_divide_34 rfl ?_
      refine v_get (C := RX11) (T := TX11) (N := 39) (ci := 10) (v := .ref (adA 8)) hk dX11_divide_35 w2i_X11_divide_X110 0 rfl rfl 8 (by decide) (by decide +kernel) rfl rfl ?_
      refine v_iload hk dX11_divide_38 rfl ?_
      refine v_iload hk dX11_divide_40 rfl ?_
      refine v_iushr hk dX11_divide_42 ?_
      refine v_iconst (v := 1) hk dX11_divide_43 (by decide) ?_
      refine v_iand hk dX11_divide_44 ?_
      obtain ⟨r_10, er_10, h⟩ := bd_e (g := (lpk (lp (b_X11_divide_29 fone x4_6) nn))) rfl h
      refine v_callS (n := 2) (st := []) hk dX11_divide_45 (c_X11_twice (kl K) (kG K) (adA 8) 320 frest_9 (((x4_6.toUInt32 >>> (i6_8.toUInt32 &&& Int32.toUInt32 31)).toInt32) &&& 1) r_10 er_10) gd_X11_divide_X11_twice rfl (by decide +kernel) (frok hR9 (Nat.le_of_ble_eq_true rfl) (Nat.le_of_ble_eq_true rfl)) (roomk hR9 (Nat.le_of_ble_eq_true rfl) (Nat.le_of_ble_eq_true rfl)) rfl rfl (Nat.le_of_ble_eq_true rfl) [2] [0, 1, 3] (wr := [(adm, .inr (10, oM adA o_names o_rows o_strength o_most o_toldGraph o_toldArc)), ((adA 6), .inl (gI (kG K), 320, .inl fone)), (adx, .inl (gI (kG K), nx, .inl fx_5))]) rfl rfl (by decide) (by decide) (by decide) ?_
      intro v9 w9 hp9
      obtain ⟨rfl, rfl⟩ := hp9
      show V K 7 [(adm, .inr (10, oM adA o_names o_rows o_strength o_most o_toldGraph o_toldArc)), ((adA 6), .inl (gI (kG K), 320, .inl fone)), (adx, .inl (gI (kG K), nx, .inl fx_5)), ((adA 8), .inl (gI (kG K), 320, .inl r_10))] 0 0 48 [(0, .ref adm), (1, .ref adx), (2, .int x2_2), (3, .int i3_3), (4, .int x4_6), (5, .int i5_7), (6, .int i6_8)] []
      refine v_aload_n hk dX11_divide_48 rfl ?_
      refine v_get (C := RX11) (T := TX11) (N := 39) (ci := 10) (v := .ref (adA 8)) hk dX11_divide_49 w2i_X11_divide_X110 0 rfl rfl 8 (by decide) (by decide +kernel) rfl rfl ?_
      refine v_aload_n hk dX11_divide_52 rfl ?_
      refine v_get (C := RX11) (T := TX11) (N := 39) (ci := 10) (v := .ref (adA 6)) hk dX11_divide_53 w2i_X11_divide_X110 0 rfl rfl 6 (by decide) (by decide +kernel) rfl rfl ?_
      obtain ⟨r_11, er_11, h⟩ := bd_e (g := (lpk (lp (b_X11_divide_29 fone x4_6) nn))) rfl h
      refine v_callS (n := 2) (st := []) hk dX11_divide_56 (c_X11_compareTo (kl K) (kG K) (adA 8) (adA 6) 320 r_10 320 fone r_11 er_11) gd_X11_divide_X11_compareTo rfl (by decide +kernel) (frok hR9 (Nat.le_of_ble_eq_true rfl) (Nat.le_of_ble_eq_true rfl)) (roomk hR9 (Nat.le_of_ble_eq_true rfl) (Nat.le_of_ble_eq_true rfl)) rfl rfl (Nat.le_of_ble_eq_true rfl) [3, 1] [0, 2] (wr := [(adm, .inr (10, oM adA o_names o_rows o_strength o_most o_toldGraph o_toldArc)), (adx, .inl (gI (kG K), nx, .inl fx_5))]) rfl rfl (by decide) (by decide) (by decide) ?_
      intro v9 w9 hp9
      obtain ⟨rfl, rfl⟩ := hp9
      show V K 7 [(adm, .inr (10, oM adA o_names o_rows o_strength o_most o_toldGraph o_toldArc)), (adx, .inl (gI (kG K), nx, .inl fx_5)), ((adA 8), .inl (gI (kG K), 320, .inl r_10)), ((adA 6), .inl (gI (kG K), 320, .inl fone))] 0 0 59 [(0, .ref adm), (1, .ref adx), (2, .int x2_2), (3, .int i3_3), (4, .int x4_6), (5, .int i5_7), (6, .int i6_8)] [.int r_11]
      refine v_if_lt (tgt := 82) hk dX11_divide_59 (by decide) (fun hc => ?_) (fun hc => ?_)
      · replace h := it_t (g := (lpk (lp (b_X11_divide_29 fone x4_6) nn))) h hc
        obtain ⟨x6_12, ex6_12, h⟩ := lt_e (g := (lpk (lp (b_X11_divide_29 fone x4_6) nn))) h
        refine v_iinc (v := x6_12) hk dX11_divide_82 rfl (by rw [ex6_12]; rfl) (by decide) [1, 2, 3, 4, 5, 6, 0] (lv' := [(0, .ref adm), (1, .ref adx), (2, .int x2_2), (3, .int i3_3), (4, .int x4_6), (5, .int i5_7), (6, .int x6_12)]) rfl ?_
        refine v_goto (tgt := 29) hk dX11_divide_85 (by decide) ?_
        refine v_perm [0, 3, 2, 1] (ws' := [(adm, .inr (10, oM adA o_names o_rows o_strength o_most o_toldGraph o_toldArc)), ((adA 6), .inl (gI (kG K), 320, .inl fone)), ((adA 8), .inl (gI (kG K), 320, .inl r_10)), (adx, .inl (gI (kG K), nx, .inl fx_5))]) rfl rfl (by decide) ?_
        exact ih i5_7 x6_12 r_10 h
      · replace h := it_f (g := (lpk (lp (b_X11_divide_29 fone x4_6) nn))) h hc
        refine v_aload_n hk dX11_divide_62 rfl ?_
        refine v_get (C := RX11) (T := TX11) (N := 39) (ci := 10) (v := .ref (adA 8)) hk dX11_divide_63 w2i_X11_divide_X110 0 rfl rfl 8 (by decide) (by decide +kernel) rfl rfl ?_
        refine v_aload_n hk dX11_divide_66 rfl ?_
        refine v_get (C := RX11) (T := TX11) (N := 39) (ci := 10) (v := .ref (adA 6)) hk dX11_divide_67 w2i_X11_divide_X110 0 rfl rfl 6 (by decide) (by decide +kernel) rfl rfl ?_
        obtain ⟨r_13, er_13, h⟩ := bd_e (g := (lpk (lp (b_X11_divide_29 fone x4_6) nn))) rfl h
        refine v_callS (n := 2) (st := []) hk dX11_divide_70 (c_X11_less (kl K) (kG K) (adA 8) (adA 6) 320 r_10 320 fone r_13 er_13) gd_X11_divide_X11_less rfl (by decide +kernel) (frok hR9 (Nat.le_of_ble_eq_true rfl) (Nat.le_of_ble_eq_true rfl)) (roomk hR9 (Nat.le_of_ble_eq_true rfl) (Nat.le_of_ble_eq_true rfl)) rfl rfl (Nat.le_of_ble_eq_true rfl) [2, 3] [0, 1] (wr := [(adm, .inr (10, oM adA o_names o_rows o_strength o_most o_toldGraph o_toldArc)), (adx, .inl (gI (kG K), nx, .inl fx_5))]) rfl rfl (by decide) (by decide) (by decide) ?_
        intro v9 w9 hp9
        obtain ⟨rfl, rfl⟩ := hp9
        show V K 7 [(adm, .inr (10, oM adA o_names o_rows o_strength o_most o_toldGraph o_toldArc)), (adx, .inl (gI (kG K), nx, .inl fx_5)), ((adA 8), .inl (gI (kG K), 320, .inl r_13)), ((adA 6), .inl (gI (kG K), 320, .inl fone))] 0 0 73 [(0, .ref adm), (1, .ref adx), (2, .int x2_2), (3, .int i3_3), (4, .int x4_6), (5, .int i5_7), (6, .int i6_8)] []
        refine v_iload hk dX11_divide_73 rfl ?_
        refine v_iconst (v := 1) hk dX11_divide_75 (by decide) ?_
        refine v_iload hk dX11_divide_76 rfl ?_
        refine v_ishl hk dX11_divide_78 ?_
        refine v_ior hk dX11_divide_79 ?_
        obtain ⟨x5_14, ex5_14, h⟩ := lt_e (g := (lpk (lp (b_X11_divide_29 fone x4_6) nn))) h
        refine v_topi ex5_14.symm ?_
        refine v_istore hk dX11_divide_80 (by decide) [1, 2, 3, 4, 5, 0, 6] (lv' := [(0, .ref adm), (1, .ref adx), (2, .int x2_2), (3, .int i3_3), (4, .int x4_6), (5, .int x5_14), (6, .int i6_8)]) rfl ?_
        obtain ⟨x6_15, ex6_15, h⟩ := lt_e (g := (lpk (lp (b_X11_divide_29 fone x4_6) nn))) h
        refine v_iinc (v := x6_15) hk dX11_divide_82 rfl (by rw [ex6_15]; rfl) (by decide) [1, 2, 3, 4, 5, 6, 0] (lv' := [(0, .ref adm), (1, .ref adx), (2, .int x2_2), (3, .int i3_3), (4, .int x4_6), (5, .int x5_14), (6, .int x6_15)]) rfl ?_
        refine v_goto (tgt := 29) hk dX11_divide_85 (by decide) ?_
        refine v_perm [0, 3, 2, 1] (ws' := [(adm, .inr (10, oM adA o_names o_rows o_strength o_most o_toldGraph o_toldArc)), ((adA 6), .inl (gI (kG K), 320, .inl fone)), ((adA 8), .inl (gI (kG K), 320, .inl r_13)), (adx, .inl (gI (kG K), nx, .inl fx_5))]) rfl rfl (by decide) ?_
        exact ih x5_14 x6_15 r_13 h
set_option maxHeartbeats 4000000 in
set_option maxRecDepth 100000 in
theorem L_X11_divide_13 {K : Cx} {R9 : Room} (hk : Ok K cX11_divide 7 RX11 w2_X11_divide R9) (hR9 : RoomGe R9 rm_X11_divide) (adm : Nat) (adA : Nat → Nat) (adx : Nat) (o_names : Int32) (o_rows : Int32) (o_strength : Int32) (o_most : Int32) (o_toldGraph : Int32) (o_toldArc : Int32) (fone : Nat → Int32) (nx : Nat) (x2_2 : Int32) (b9 : (Int32 × (Nat → Int32) × (Nat → Int32))) (kk0 : ∀ q9 : (Int32 × (Nat → Int32) × (Nat → Int32)), b9 = q9 → V K 7 [(adm, .inr (10, oM adA o_names o_rows o_strength o_most o_toldGraph o_toldArc)), ((adA 6), .inl (gI (kG K), 320, .inl fone)), ((adA 8), .inl (gI (kG K), 320, .inl q9.2.1)), (adx, .inl (gI (kG K), nx, .inl q9.2.2))] 0 0 99 [(0, .ref adm), (1, .ref adx), (2, .int x2_2), (3, .int q9.1)] []) : ∀ (nn : Nat) (i3_3 : Int32) (frest_4 : Nat → Int32) (fx_5 : Nat → Int32), lp (b_X11_divide_13 fone nx) nn (i3_3, frest_4, fx_5) = some b9 → V K 7 [(adm, .inr (10, oM adA o_names o_rows o_strength o_most o_toldGraph o_toldArc)), ((adA 6), .inl (gI (kG K), 320, .inl fone)), ((adA 8), .inl (gI (kG K), 320, .inl frest_4)), (adx, .inl (gI (kG K), nx, .inl fx_5))] 0 0 13 [(0, .ref adm), (1, .ref adx), (2, .int x2_2), (3, .int i3_3)] [] := by
  intro nn
  induction nn with
  | zero => intro i3_3 frest_4 fx_5 h; exact absurd h (by simp [lp])
  | succ nn ih =>
    intro i3_3 frest_4 fx_5 h
    replace h := lp_s h
    rw [eb_X11_divide_13] at h
    refine v_iload_n hk dX11_divide_13 rfl ?_
    refine v_if_le (tgt := 99) hk dX11_divide_14 (by decide) (fun hc => ?_) (fun hc => ?_)
    · replace h := it_t (g := (lpk (lp (b_X11_divide_13 fone nx) nn))) h hc
      replace h : some (i3_3, frest_4, fx_5) = some b9 := h
      replace h := Option.some.inj h
      subst h
      exact kk0 _ rfl
    · replace h := it_f (g := (lpk (lp (b_X11_divide_13 fone nx) nn))) h hc
      refine v_aload_n hk dX11_divide_17 rfl ?_
      refine v_iload_n hk dX11_divide_18 rfl ?_
      obtain ⟨hi, h⟩ := ok_e (g := (lpk (lp (b_X11_divide_13 fone nx) nn))) rfl h
      refine v_ialdV hk dX11_divide_19 3 rfl (ix_in hi) ?_
      obtain ⟨x4_6, ex4_6, h⟩ := lt_e (g := (lpk (lp (b_X11_divide_13 fone nx) nn))) h
      refine v_topi ex4_6.symm ?_
      refine v_istore hk dX11_divide_20 (by decide) [1, 2, 3, 4, 0] (lv' := [(0, .ref adm), (1, .ref adx), (2, .int x2_2), (3, .int i3_3), (4, .int x4_6)]) rfl ?_
      refine v_iconst (v := 0) hk dX11_divide_22 (by decide) ?_
      refine v_istore hk dX11_divide_23 (by decide) [1, 2, 3, 4, 5, 0] (lv' := [(0, .ref adm), (1, .ref adx), (2, .int x2_2), (3, .int i3_3), (4, .int x4_6), (5, .int 0)]) rfl ?_
      refine v_bipush (v := 31) hk dX11_divide_25 (by decide) ?_
      refine v_istore hk dX11_divide_27 (by decide) [1, 2, 3, 4, 5, 6, 0] (lv' := [(0, .ref adm), (1, .ref adx), (2, .int x2_2), (3, .int i3_3), (4, .int x4_6), (5, .int 0), (6, .int 31)]) rfl ?_
      obtain ⟨b_19, eb_19, h⟩ := bd_e (g := (lpk (lp (b_X11_divide_13 fone nx) nn))) rfl h
      refine L_X11_divide_29 hk hR9 adm adA adx o_names o_rows o_strength o_most o_toldGraph o_toldArc fone nx x2_2 i3_3 fx_5 x4_6 b_19 (fun q_16 eq_16 => ?_) FU 0 31 frest_4 eb_19
      · replace eq_16 := eq_16.symm
        subst eq_16
        refine v_aload_n hk dX11_divide_88 rfl ?_
        refine v_iload_n hk dX11_divide_89 rfl ?_
        refine v_iload hk dX11_divide_90 rfl ?_
        obtain ⟨hi, h⟩ := ok_e (g := (lpk (lp (b_X11_divide_13 fone nx) nn))) rfl h
        obtain ⟨fx_17, efx_17, h⟩ := lt_e (g := (lpk (lp (b_X11_divide_13 fone nx) nn))) h
        refine v_iastV hk dX11_divide_92 3 rfl (ix_in hi) (ws' := [(adm, .inr (10, oM adA o_names o_rows o_strength o_most o_toldGraph o_toldArc)), ((adA 6), .inl (gI (kG K), 320, .inl fone)), ((adA 8), .inl (gI (kG K), 320, .inl q_16.2.2)), (adx, .inl (gI (kG K), nx, .inl fx_17))]) (by rw [efx_17]; rfl) ?_
        obtain ⟨x3_18, ex3_18, h⟩ := lt_e (g := (lpk (lp (b_X11_divide_13 fone nx) nn))) h
        refine v_iinc (v := x3_18) hk dX11_divide_93 rfl (by rw [ex3_18]; rfl) (by decide) [1, 2, 3, 0, 4, 5, 6] (lv' := [(0, .ref adm), (1, .ref adx), (2, .int x2_2), (3, .int x3_18), (4, .int x4_6), (5, .int q_16.1), (6, .int q_16.2.1)]) rfl ?_
        refine v_goto (tgt := 13) hk dX11_divide_96 (by decide) ?_
        refine v_loc [0, 1, 2, 3] (lv' := [(0, .ref adm), (1, .ref adx), (2, .int x2_2), (3, .int x3_18)]) rfl ?_
        exact ih x3_18 q_16.2.2 fx_17 h
set_option maxHeartbeats 4000000 in
set_option maxRecDepth 100000 in
theorem c_X11_divide (l : Launch) (G : GG) (adm : Nat) (adA : Nat → Nat) (adx : Nat) (o_names : Int32) (o_rows : Int32) (o_strength : Int32) (o_most : Int32) (o_toldGraph : Int32) (o_toldArc : Int32) (fone : Nat → Int32) (frest : Nat → Int32) (nx : Nat) (fx : Nat → Int32) (r : (Nat → Int32) × (Nat → Int32)) (h : m_X11_divide o_names o_rows o_strength o_most o_toldGraph o_toldArc fone frest nx fx = some r) : Ctr l G yX11_divide w2_X11_divide rm_X11_divide [.ref adm, .ref adx] [(adm, .inr (10, oM adA o_names o_rows o_strength o_most o_toldGraph o_toldArc)), ((adA 6), .inl (gI G, 320, .inl fone)), ((adA 8), .inl (gI G, 320, .inl frest)), (adx, .inl (gI G, nx, .inl fx))] (fun v w => v = none ∧ w = [(adm, .inr (10, oM adA o_names o_rows o_strength o_most o_toldGraph o_toldArc)), ((adA 6), .inl (gI G, 320, .inl fone)), ((adA 8), .inl (gI G, 320, .inl r.1)), (adx, .inl (gI G, nx, .inl r.2))]) := by
  refine ctr_entry (cc := cX11_divide) (maxL := 7) (ret := none) (lv0 := [(0, .ref adm), (1, .ref adx)]) (by decide) rfl (Nat.le_of_ble_eq_true rfl) (rfl) ?_
  intro K hl9 hG9 hk hn9 hrt
  subst hl9
  subst hG9
  have hR9 : RoomGe rm_X11_divide rm_X11_divide := RoomGe.rf
  replace h := id_e h
  rw [em_X11_divide] at h
  refine v_aload_n hk dX11_divide_0 rfl ?_
  refine v_get (C := RX11) (T := TX11) (N := 39) (ci := 10) (v := .ref (adA 8)) hk dX11_divide_1 w2i_X11_divide_X110 0 rfl rfl 8 (by decide) (by decide +kernel) rfl rfl ?_
  refine v_iconst (v := 0) hk dX11_divide_4 (by decide) ?_
  refine v_iconst (v := 0) hk dX11_divide_5 (by decide) ?_
  obtain ⟨hi, h⟩ := ok_e (g := id) rfl h
  obtain ⟨frest_1, efrest_1, h⟩ := lt_e (g := id) h
  refine v_iastV hk dX11_divide_6 2 rfl (ix_in hi) (ws' := [(adm, .inr (10, oM adA o_names o_rows o_strength o_most o_toldGraph o_toldArc)), ((adA 6), .inl (gI (kG K), 320, .inl fone)), ((adA 8), .inl (gI (kG K), 320, .inl frest_1)), (adx, .inl (gI (kG K), nx, .inl fx))]) (by rw [efrest_1]; rfl) ?_
  refine v_aload_n hk dX11_divide_7 rfl ?_
  refine v_iconst (v := 0) hk dX11_divide_8 (by decide) ?_
  obtain ⟨hi, h⟩ := ok_e (g := id) rfl h
  refine v_ialdV hk dX11_divide_9 3 rfl (ix_in hi) ?_
  obtain ⟨x2_2, ex2_2, h⟩ := lt_e (g := id) h
  refine v_topi ex2_2.symm ?_
  refine v_istore_n hk dX11_divide_10 rfl (by decide) [1, 2, 0] (lv' := [(0, .ref adm), (1, .ref adx), (2, .int x2_2)]) rfl ?_
  refine v_iload_n hk dX11_divide_11 rfl ?_
  refine v_istore_n hk dX11_divide_12 rfl (by decide) [1, 2, 3, 0] (lv' := [(0, .ref adm), (1, .ref adx), (2, .int x2_2), (3, .int x2_2)]) rfl ?_
  obtain ⟨b_22, eb_22, h⟩ := bd_e (g := id) rfl h
  refine L_X11_divide_13 hk hR9 adm adA adx o_names o_rows o_strength o_most o_toldGraph o_toldArc fone nx x2_2 b_22 (fun q_20 eq_20 => ?_) FU x2_2 frest_1 fx eb_22
  · replace eq_20 := eq_20.symm
    subst eq_20
    refine v_aload_n hk dX11_divide_99 rfl ?_
    refine v_iload_n hk dX11_divide_100 rfl ?_
    obtain ⟨r_21, er_21, h⟩ := bd_e (g := id) rfl h
    refine v_callS (n := 2) (st := []) hk dX11_divide_101 (c_X11_trim (kl K) (kG K) adx nx q_20.2.2 x2_2 r_21 er_21) gd_X11_divide_X11_trim rfl (by decide +kernel) (frok hR9 (Nat.le_of_ble_eq_true rfl) (Nat.le_of_ble_eq_true rfl)) (roomk hR9 (Nat.le_of_ble_eq_true rfl) (Nat.le_of_ble_eq_true rfl)) rfl rfl (Nat.le_of_ble_eq_true rfl) [3] [0, 1, 2] (wr := [(adm, .inr (10, oM adA o_names o_rows o_strength o_most o_toldGraph o_toldArc)), ((adA 6), .inl (gI (kG K), 320, .inl fone)), ((adA 8), .inl (gI (kG K), 320, .inl q_20.2.1))]) rfl rfl (by decide) (by decide) (by decide) ?_
    intro v9 w9 hp9
    obtain ⟨rfl, rfl⟩ := hp9
    show V K 7 [(adm, .inr (10, oM adA o_names o_rows o_strength o_most o_toldGraph o_toldArc)), ((adA 6), .inl (gI (kG K), 320, .inl fone)), ((adA 8), .inl (gI (kG K), 320, .inl q_20.2.1)), (adx, .inl (gI (kG K), nx, .inl r_21))] 0 0 104 [(0, .ref adm), (1, .ref adx), (2, .int x2_2), (3, .int q_20.1)] []
    replace h : some (q_20.2.1, r_21) = some r := h
    replace h := Option.some.inj h
    subst h
    refine hrt (none) _ _ _ _ _ (⟨rfl, rfl⟩) (Nat.zero_le _) (Nat.zero_le _) (dX11_divide_104)
abbrev rm_X11_least : Room := { frames := 3, cells := 0, slots := 0, locals := 74 }
set_option maxHeartbeats 4000000 in
set_option maxRecDepth 100000 in
theorem c_X11_least (l : Launch) (G : GG) (adm : Nat) (adA : Nat → Nat) (o_names : Int32) (o_rows : Int32) (o_strength : Int32) (o_most : Int32) (o_toldGraph : Int32) (o_toldArc : Int32) (fone : Nat → Int32) (ftwo : Nat → Int32) (frest : Nat → Int32) (fabove : Nat → Int32) (fbelow : Nat → Int32) (r : (Nat → Int32) × (Nat → Int32) × (Nat → Int32) × (Nat → Int32) × (Nat → Int32)) (h : m_X11_least o_names o_rows o_strength o_most o_toldGraph o_toldArc fone ftwo frest fabove fbelow = some r) : Ctr l G yX11_least w2_X11_least rm_X11_least [.ref adm] [(adm, .inr (10, oM adA o_names o_rows o_strength o_most o_toldGraph o_toldArc)), ((adA 6), .inl (gI G, 320, .inl fone)), ((adA 7), .inl (gI G, 320, .inl ftwo)), ((adA 8), .inl (gI G, 320, .inl frest)), ((adA 9), .inl (gI G, 320, .inl fabove)), ((adA 10), .inl (gI G, 320, .inl fbelow))] (fun v w => v = none ∧ w = [(adm, .inr (10, oM adA o_names o_rows o_strength o_most o_toldGraph o_toldArc)), ((adA 6), .inl (gI G, 320, .inl r.1)), ((adA 7), .inl (gI G, 320, .inl r.2.1)), ((adA 8), .inl (gI G, 320, .inl r.2.2.1)), ((adA 9), .inl (gI G, 320, .inl r.2.2.2.1)), ((adA 10), .inl (gI G, 320, .inl r.2.2.2.2))]) := by
  refine ctr_entry (cc := cX11_least) (maxL := 1) (ret := none) (lv0 := [(0, .ref adm)]) (by decide) rfl (Nat.le_of_ble_eq_true rfl) (rfl) ?_
  intro K hl9 hG9 hk hn9 hrt
  subst hl9
  subst hG9
  have hR9 : RoomGe rm_X11_least rm_X11_least := RoomGe.rf
  replace h := id_e h
  rw [em_X11_least] at h
  refine v_aload_n hk dX11_least_0 rfl ?_
  refine v_get (C := RX11) (T := TX11) (N := 39) (ci := 10) (v := .ref (adA 9)) hk dX11_least_1 w2i_X11_least_X110 0 rfl rfl 9 (by decide) (by decide +kernel) rfl rfl ?_
  refine v_iconst (v := 0) hk dX11_least_4 (by decide) ?_
  obtain ⟨hi, h⟩ := ok_e (g := id) rfl h
  refine v_ialdV hk dX11_least_5 4 rfl (ix_in hi) ?_
  refine v_if_ne (tgt := 18) hk dX11_least_6 (by decide) (fun hc => ?_) (fun hc => ?_)
  · replace h := it_f (g := id) h hc
    refine v_aload_n hk dX11_least_18 rfl ?_
    refine v_aload_n hk dX11_least_19 rfl ?_
    refine v_get (C := RX11) (T := TX11) (N := 39) (ci := 10) (v := .ref (adA 9)) hk dX11_least_20 w2i_X11_least_X110 0 rfl rfl 9 (by decide) (by decide +kernel) rfl rfl ?_
    refine v_aload_n hk dX11_least_23 rfl ?_
    refine v_get (C := RX11) (T := TX11) (N := 39) (ci := 10) (v := .ref (adA 10)) hk dX11_least_24 w2i_X11_least_X110 0 rfl rfl 10 (by decide) (by decide +kernel) rfl rfl ?_
    obtain ⟨r_1, er_1, h⟩ := bd_e (g := id) rfl h
    refine v_callV (n := 2) (st := []) (b := adm) (T := TX11) (N := 39) hk dX11_least_27 (c_X11_common (kl K) (kG K) adm adA (adA 9) (adA 10) o_names o_rows o_strength o_most o_toldGraph o_toldArc fone ftwo frest 320 fabove 320 fbelow r_1 er_1) rfl gd_X11_least_X11_common rfl (by decide +kernel) (frok hR9 (Nat.le_of_ble_eq_true rfl) (Nat.le_of_ble_eq_true rfl)) (roomk hR9 (Nat.le_of_ble_eq_true rfl) (Nat.le_of_ble_eq_true rfl)) rfl rfl (Nat.le_of_ble_eq_true rfl) 0 rfl rfl [0, 1, 2, 3, 4, 5] [] (wr := []) rfl rfl (by decide) (by decide) (by decide) ?_
    intro v9 w9 hp9
    obtain ⟨rfl, rfl⟩ := hp9
    show V K 1 [(adm, .inr (10, oM adA o_names o_rows o_strength o_most o_toldGraph o_toldArc)), ((adA 6), .inl (gI (kG K), 320, .inl r_1.1)), ((adA 7), .inl (gI (kG K), 320, .inl r_1.2.1)), ((adA 8), .inl (gI (kG K), 320, .inl r_1.2.2)), ((adA 9), .inl (gI (kG K), 320, .inl fabove)), ((adA 10), .inl (gI (kG K), 320, .inl fbelow))] 0 0 30 [(0, .ref adm)] []
    refine v_aload_n hk dX11_least_30 rfl ?_
    refine v_aload_n hk dX11_least_31 rfl ?_
    refine v_get (C := RX11) (T := TX11) (N := 39) (ci := 10) (v := .ref (adA 9)) hk dX11_least_32 w2i_X11_least_X110 0 rfl rfl 9 (by decide) (by decide +kernel) rfl rfl ?_
    obtain ⟨r_2, er_2, h⟩ := bd_e (g := id) rfl h
    refine v_callV (n := 1) (st := []) (b := adm) (T := TX11) (N := 39) hk dX11_least_35 (c_X11_divide (kl K) (kG K) adm adA (adA 9) o_names o_rows o_strength o_most o_toldGraph o_toldArc r_1.1 r_1.2.2 320 fabove r_2 er_2) rfl gd_X11_least_X11_divide rfl (by decide +kernel) (frok hR9 (Nat.le_of_ble_eq_true rfl) (Nat.le_of_ble_eq_true rfl)) (roomk hR9 (Nat.le_of_ble_eq_true rfl) (Nat.le_of_ble_eq_true rfl)) rfl rfl (Nat.le_of_ble_eq_true rfl) 0 rfl rfl [0, 1, 3, 4] [2, 5] (wr := [((adA 7), .inl (gI (kG K), 320, .inl r_1.2.1)), ((adA 10), .inl (gI (kG K), 320, .inl fbelow))]) rfl rfl (by decide) (by decide) (by decide) ?_
    intro v9 w9 hp9
    obtain ⟨rfl, rfl⟩ := hp9
    show V K 1 [((adA 7), .inl (gI (kG K), 320, .inl r_1.2.1)), ((adA 10), .inl (gI (kG K), 320, .inl fbelow)), (adm, .inr (10, oM adA o_names o_rows o_strength o_most o_toldGraph o_toldArc)), ((adA 6), .inl (gI (kG K), 320, .inl r_1.1)), ((adA 8), .inl (gI (kG K), 320, .inl r_2.1)), ((adA 9), .inl (gI (kG K), 320, .inl r_2.2))] 0 0 38 [(0, .ref adm)] []
    refine v_aload_n hk dX11_least_38 rfl ?_
    refine v_aload_n hk dX11_least_39 rfl ?_
    refine v_get (C := RX11) (T := TX11) (N := 39) (ci := 10) (v := .ref (adA 10)) hk dX11_least_40 w2i_X11_least_X110 2 rfl rfl 10 (by decide) (by decide +kernel) rfl rfl ?_
    obtain ⟨r_3, er_3, h⟩ := bd_e (g := id) rfl h
    refine v_callV (n := 1) (st := []) (b := adm) (T := TX11) (N := 39) hk dX11_least_43 (c_X11_divide (kl K) (kG K) adm adA (adA 10) o_names o_rows o_strength o_most o_toldGraph o_toldArc r_1.1 r_2.1 320 fbelow r_3 er_3) rfl gd_X11_least_X11_divide rfl (by decide +kernel) (frok hR9 (Nat.le_of_ble_eq_true rfl) (Nat.le_of_ble_eq_true rfl)) (roomk hR9 (Nat.le_of_ble_eq_true rfl) (Nat.le_of_ble_eq_true rfl)) rfl rfl (Nat.le_of_ble_eq_true rfl) 2 rfl rfl [2, 3, 4, 1] [0, 5] (wr := [((adA 7), .inl (gI (kG K), 320, .inl r_1.2.1)), ((adA 9), .inl (gI (kG K), 320, .inl r_2.2))]) rfl rfl (by decide) (by decide) (by decide) ?_
    intro v9 w9 hp9
    obtain ⟨rfl, rfl⟩ := hp9
    show V K 1 [((adA 7), .inl (gI (kG K), 320, .inl r_1.2.1)), ((adA 9), .inl (gI (kG K), 320, .inl r_2.2)), (adm, .inr (10, oM adA o_names o_rows o_strength o_most o_toldGraph o_toldArc)), ((adA 6), .inl (gI (kG K), 320, .inl r_1.1)), ((adA 8), .inl (gI (kG K), 320, .inl r_3.1)), ((adA 10), .inl (gI (kG K), 320, .inl r_3.2))] 0 0 46 [(0, .ref adm)] []
    replace h : some (r_1.1, r_1.2.1, r_3.1, r_2.2, r_3.2) = some r := h
    replace h := Option.some.inj h
    subst h
    refine v_perm [2, 3, 0, 4, 1, 5] (ws' := [(adm, .inr (10, oM adA o_names o_rows o_strength o_most o_toldGraph o_toldArc)), ((adA 6), .inl (gI (kG K), 320, .inl r_1.1)), ((adA 7), .inl (gI (kG K), 320, .inl r_1.2.1)), ((adA 8), .inl (gI (kG K), 320, .inl r_3.1)), ((adA 9), .inl (gI (kG K), 320, .inl r_2.2)), ((adA 10), .inl (gI (kG K), 320, .inl r_3.2))]) rfl rfl (by decide) ?_
    refine hrt (none) _ _ _ _ _ (⟨rfl, rfl⟩) (Nat.zero_le _) (Nat.zero_le _) (dX11_least_46)
  · replace h := it_t (g := id) h hc
    refine v_aload_n hk dX11_least_9 rfl ?_
    refine v_get (C := RX11) (T := TX11) (N := 39) (ci := 10) (v := .ref (adA 10)) hk dX11_least_10 w2i_X11_least_X110 0 rfl rfl 10 (by decide) (by decide +kernel) rfl rfl ?_
    refine v_iconst (v := 1) hk dX11_least_13 (by decide) ?_
    obtain ⟨r_4, er_4, h⟩ := bd_e (g := id) rfl h
    refine v_callS (n := 2) (st := []) hk dX11_least_14 (c_X11_put (kl K) (kG K) (adA 10) 320 fbelow 1 r_4 er_4) gd_X11_least_X11_put rfl (by decide +kernel) (frok hR9 (Nat.le_of_ble_eq_true rfl) (Nat.le_of_ble_eq_true rfl)) (roomk hR9 (Nat.le_of_ble_eq_true rfl) (Nat.le_of_ble_eq_true rfl)) rfl rfl (Nat.le_of_ble_eq_true rfl) [5] [0, 1, 2, 3, 4] (wr := [(adm, .inr (10, oM adA o_names o_rows o_strength o_most o_toldGraph o_toldArc)), ((adA 6), .inl (gI (kG K), 320, .inl fone)), ((adA 7), .inl (gI (kG K), 320, .inl ftwo)), ((adA 8), .inl (gI (kG K), 320, .inl frest)), ((adA 9), .inl (gI (kG K), 320, .inl fabove))]) rfl rfl (by decide) (by decide) (by decide) ?_
    intro v9 w9 hp9
    obtain ⟨rfl, rfl⟩ := hp9
    show V K 1 [(adm, .inr (10, oM adA o_names o_rows o_strength o_most o_toldGraph o_toldArc)), ((adA 6), .inl (gI (kG K), 320, .inl fone)), ((adA 7), .inl (gI (kG K), 320, .inl ftwo)), ((adA 8), .inl (gI (kG K), 320, .inl frest)), ((adA 9), .inl (gI (kG K), 320, .inl fabove)), ((adA 10), .inl (gI (kG K), 320, .inl r_4))] 0 0 17 [(0, .ref adm)] []
    replace h : some (fone, ftwo, frest, fabove, r_4) = some r := h
    replace h := Option.some.inj h
    subst h
    refine hrt (none) _ _ _ _ _ (⟨rfl, rfl⟩) (Nat.zero_le _) (Nat.zero_le _) (dX11_least_17)
abbrev rm_X11_agree : Room := { frames := 0, cells := 0, slots := 0, locals := 0 }
set_option maxHeartbeats 4000000 in
set_option maxRecDepth 100000 in
theorem L_X11_agree_6 {K : Cx} {R9 : Room} (hk : Ok K cX11_agree 6 RX11 w2_X11_agree R9) (hR9 : RoomGe R9 rm_X11_agree) (adm : Nat) (adA : Nat → Nat) (o_names : Int32) (o_rows : Int32) (o_strength : Int32) (o_most : Int32) (o_toldGraph : Int32) (o_toldArc : Int32) (fcells : Nat → Int32) (row : Int32) (oth : Int32) (se : Int32) (b9 : (Int32 × Int32)) (kk0 : ∀ q9 : (Int32 × Int32), b9 = q9 → V K 6 [(adm, .inr (10, oM adA o_names o_rows o_strength o_most o_toldGraph o_toldArc)), ((adA 3), .inl (gI (kG K), 80, .inl fcells))] 0 0 67 [(0, .ref adm), (1, .int row), (2, .int oth), (3, .int se), (4, .int q9.1), (5, .int q9.2)] []) : ∀ (nn : Nat) (i4_1 : Int32) (i5_2 : Int32), lp (b_X11_agree_6 o_names fcells row oth se) nn (i4_1, i5_2) = some b9 → V K 6 [(adm, .inr (10, oM adA o_names o_rows o_strength o_most o_toldGraph o_toldArc)), ((adA 3), .inl (gI (kG K), 80, .inl fcells))] 0 0 6 [(0, .ref adm), (1, .int row), (2, .int oth), (3, .int se), (4, .int i4_1), (5, .int i5_2)] [] := by
  intro nn
  induction nn with
  | zero => intro i4_1 i5_2 h; exact absurd h (by simp [lp])
  | succ nn ih =>
    intro i4_1 i5_2 h
    replace h := lp_s h
    rw [eb_X11_agree_6] at h
    refine v_iload hk dX11_agree_6 rfl ?_
    refine v_aload_n hk dX11_agree_8 rfl ?_
    refine v_get (C := RX11) (T := TX11) (N := 39) (ci := 10) (v := .int o_names) hk dX11_agree_9 w2i_X11_agree_X110 0 rfl rfl 0 (by decide) (by decide +kernel) rfl rfl ?_
    refine v_icmp_ge (tgt := 67) hk dX11_agree_12 (by decide) (fun hc => ?_) (fun hc => ?_)
    · replace h := it_t (g := (lpk (lp (b_X11_agree_6 o_names fcells row oth se) nn))) h hc
      replace h : some (i4_1, i5_2) = some b9 := h
      replace h := Option.some.inj h
      subst h
      exact kk0 _ rfl
    · replace h := it_f (g := (lpk (lp (b_X11_agree_6 o_names fcells row oth se) nn))) h hc
      refine v_iload hk dX11_agree_15 rfl ?_
      obtain ⟨y_3, ey_3, h⟩ := bd_e (g := (lpk (lp (b_X11_agree_6 o_names fcells row oth se) nn))) rfl h
      have Jy_3 : V K 6 [(adm, .inr (10, oM adA o_names o_rows o_strength o_most o_toldGraph o_toldArc)), ((adA 3), .inl (gI (kG K), 80, .inl fcells))] 0 0 59 [(0, .ref adm), (1, .int row), (2, .int oth), (3, .int se), (4, .int i4_1), (5, .int i5_2)] [.int y_3] := by
        refine v_istore hk dX11_agree_59 (by decide) [1, 2, 3, 4, 0, 5] (lv' := [(0, .ref adm), (1, .int row), (2, .int oth), (3, .int se), (4, .int y_3), (5, .int i5_2)]) rfl ?_
        obtain ⟨x5_4, ex5_4, h⟩ := lt_e (g := (lpk (lp (b_X11_agree_6 o_names fcells row oth se) nn))) h
        refine v_iinc (v := x5_4) hk dX11_agree_61 rfl (by rw [ex5_4]; rfl) (by decide) [1, 2, 3, 4, 5, 0] (lv' := [(0, .ref adm), (1, .int row), (2, .int oth), (3, .int se), (4, .int y_3), (5, .int x5_4)]) rfl ?_
        refine v_goto (tgt := 6) hk dX11_agree_64 (by decide) ?_
        exact ih y_3 x5_4 h
      clear h
      have h := id_e ey_3
      clear ey_3
      refine v_if_eq (tgt := 58) hk dX11_agree_17 (by decide) (fun hc => ?_) (fun hc => ?_)
      · replace h := it_t (g := id) h hc
        refine v_iconst (v := 0) hk dX11_agree_58 (by decide) ?_
        replace h : some (0 : Int32) = some y_3 := h
        replace h := Option.some.inj h
        subst h
        exact Jy_3
      · replace h := it_f (g := id) h hc
        refine v_iload_n hk dX11_agree_20 rfl ?_
        refine v_iload hk dX11_agree_21 rfl ?_
        refine v_ishr hk dX11_agree_23 ?_
        refine v_iconst (v := 1) hk dX11_agree_24 (by decide) ?_
        refine v_iand hk dX11_agree_25 ?_
        obtain ⟨y_5, ey_5, h⟩ := bd_e (g := id) rfl h
        have Jy_5 : V K 6 [(adm, .inr (10, oM adA o_names o_rows o_strength o_most o_toldGraph o_toldArc)), ((adA 3), .inl (gI (kG K), 80, .inl fcells))] 0 0 59 [(0, .ref adm), (1, .int row), (2, .int oth), (3, .int se), (4, .int i4_1), (5, .int i5_2)] [.int y_5] := by
          replace h : some (y_5 : Int32) = some y_3 := h
          replace h := Option.some.inj h
          subst h
          exact Jy_3
        clear h
        have h := id_e ey_5
        clear ey_5
        refine v_if_eq (tgt := 54) hk dX11_agree_26 (by decide) (fun hc => ?_) (fun hc => ?_)
        · replace h := it_t (g := id) h hc
          refine v_iconst (v := 1) hk dX11_agree_54 (by decide) ?_
          refine v_goto (tgt := 59) hk dX11_agree_55 (by decide) ?_
          replace h : some (1 : Int32) = some y_5 := h
          replace h := Option.some.inj h
          subst h
          exact Jy_5
        · replace h := it_f (g := id) h hc
          refine v_aload_n hk dX11_agree_29 rfl ?_
          refine v_get (C := RX11) (T := TX11) (N := 39) (ci := 10) (v := .ref (adA 3)) hk dX11_agree_30 w2i_X11_agree_X110 0 rfl rfl 3 (by decide) (by decide +kernel) rfl rfl ?_
          refine v_iconst (v := 5) hk dX11_agree_33 (by decide) ?_
          refine v_iload_n hk dX11_agree_34 rfl ?_
          refine v_imul hk dX11_agree_35 ?_
          refine v_iload hk dX11_agree_36 rfl ?_
          refine v_iadd hk dX11_agree_38 ?_
          obtain ⟨hi, h⟩ := ok_e (g := id) rfl h
          refine v_ialdV hk dX11_agree_39 1 rfl (ix_in hi) ?_
          refine v_aload_n hk dX11_agree_40 rfl ?_
          refine v_get (C := RX11) (T := TX11) (N := 39) (ci := 10) (v := .ref (adA 3)) hk dX11_agree_41 w2i_X11_agree_X110 0 rfl rfl 3 (by decide) (by decide +kernel) rfl rfl ?_
          refine v_iconst (v := 5) hk dX11_agree_44 (by decide) ?_
          refine v_iload_n hk dX11_agree_45 rfl ?_
          refine v_imul hk dX11_agree_46 ?_
          refine v_iload hk dX11_agree_47 rfl ?_
          refine v_iadd hk dX11_agree_49 ?_
          obtain ⟨hi, h⟩ := ok_e (g := id) rfl h
          refine v_ialdV hk dX11_agree_50 1 rfl (ix_in hi) ?_
          obtain ⟨z_6, ez_6, h⟩ := lt_e (g := id) h
          have Jz_6 : V K 6 [(adm, .inr (10, oM adA o_names o_rows o_strength o_most o_toldGraph o_toldArc)), ((adA 3), .inl (gI (kG K), 80, .inl fcells))] 0 0 59 [(0, .ref adm), (1, .int row), (2, .int oth), (3, .int se), (4, .int i4_1), (5, .int i5_2)] (.int z_6 :: []) := by
            replace h : some (z_6 : Int32) = some y_5 := h
            replace h := Option.some.inj h
            subst h
            exact Jy_5
          refine v_icmp_ne (tgt := 58) hk dX11_agree_51 (by decide) (fun hc => ?_) (fun hc => ?_)
          · rw [if_neg hc] at ez_6
            subst ez_6
            refine v_iconst (v := 0) hk dX11_agree_58 (by decide) ?_
            exact Jz_6
          · rw [if_pos hc] at ez_6
            subst ez_6
            refine v_iconst (v := 1) hk dX11_agree_54 (by decide) ?_
            refine v_goto (tgt := 59) hk dX11_agree_55 (by decide) ?_
            exact Jz_6
set_option maxHeartbeats 4000000 in
set_option maxRecDepth 100000 in
theorem c_X11_agree (l : Launch) (G : GG) (adm : Nat) (adA : Nat → Nat) (o_names : Int32) (o_rows : Int32) (o_strength : Int32) (o_most : Int32) (o_toldGraph : Int32) (o_toldArc : Int32) (fcells : Nat → Int32) (row : Int32) (oth : Int32) (se : Int32) (r : Int32) (h : m_X11_agree o_names o_rows o_strength o_most o_toldGraph o_toldArc fcells row oth se = some r) : Ctr l G yX11_agree w2_X11_agree rm_X11_agree [.ref adm, .int row, .int oth, .int se] [(adm, .inr (10, oM adA o_names o_rows o_strength o_most o_toldGraph o_toldArc)), ((adA 3), .inl (gI G, 80, .inl fcells))] (fun v w => v = some (.int r) ∧ w = [(adm, .inr (10, oM adA o_names o_rows o_strength o_most o_toldGraph o_toldArc)), ((adA 3), .inl (gI G, 80, .inl fcells))]) := by
  refine ctr_entry (cc := cX11_agree) (maxL := 6) (ret := some .boolean) (lv0 := [(0, .ref adm), (1, .int row), (2, .int oth), (3, .int se)]) (by decide) rfl (Nat.le_of_ble_eq_true rfl) (rfl) ?_
  intro K hl9 hG9 hk hn9 hrt
  subst hl9
  subst hG9
  have hR9 : RoomGe rm_X11_agree rm_X11_agree := RoomGe.rf
  replace h := id_e h
  rw [em_X11_agree] at h
  refine v_iconst (v := 1) hk dX11_agree_0 (by decide) ?_
  refine v_istore hk dX11_agree_1 (by decide) [1, 2, 3, 4, 0] (lv' := [(0, .ref adm), (1, .int row), (2, .int oth), (3, .int se), (4, .int 1)]) rfl ?_
  refine v_iconst (v := 0) hk dX11_agree_3 (by decide) ?_
  refine v_istore hk dX11_agree_4 (by decide) [1, 2, 3, 4, 5, 0] (lv' := [(0, .ref adm), (1, .int row), (2, .int oth), (3, .int se), (4, .int 1), (5, .int 0)]) rfl ?_
  obtain ⟨b_8, eb_8, h⟩ := bd_e (g := id) rfl h
  refine L_X11_agree_6 hk hR9 adm adA o_names o_rows o_strength o_most o_toldGraph o_toldArc fcells row oth se b_8 (fun q_7 eq_7 => ?_) FU 1 0 eb_8
  · replace eq_7 := eq_7.symm
    subst eq_7
    refine v_iload hk dX11_agree_67 rfl ?_
    obtain ⟨hbz, h⟩ := ok_e (g := id) rfl h
    replace h : some q_7.1 = some r := h
    replace h := Option.some.inj h
    subst h
    refine hrt (some (.int q_7.1)) _ _ _ _ _ (⟨rfl, rfl⟩) (Nat.zero_le _) (Nat.zero_le _) (⟨dX11_agree_69, nar_z _ (of_decide_eq_true hbz)⟩)
abbrev rm_X11_work : Room := { frames := 1, cells := 0, slots := 0, locals := 26 }
set_option maxHeartbeats 4000000 in
set_option maxRecDepth 100000 in
theorem L_X11_work_49 {K : Cx} {R9 : Room} (hk : Ok K cX11_work 9 RX11 w2_X11_work R9) (hR9 : RoomGe R9 rm_X11_work) (adm : Nat) (adA : Nat → Nat) (o_names : Int32) (o_rows : Int32) (o_strength : Int32) (o_most : Int32) (o_toldGraph : Int32) (o_toldArc : Int32) (fvalues : Nat → Int32) (fcells : Nat → Int32) (nm : Int32) (se : Int32) (r_1 : Int32) (ftops_3 : Nat → Int32) (flows_5 : Nat → Int32) (b9 : (Int32 × Int32)) (kk0 : ∀ q9 : (Int32 × Int32), b9 = q9 → V K 9 [(adm, .inr (10, oM adA o_names o_rows o_strength o_most o_toldGraph o_toldArc)), ((adA 1), .inl (gI (kG K), 5, .inl fvalues)), ((adA 3), .inl (gI (kG K), 80, .inl fcells)), ((adA 12), .inl (gI (kG K), 1280, .inl ftops_3)), ((adA 13), .inl (gI (kG K), 1280, .inl flows_5))] 0 0 90 [(0, .ref adm), (1, .int nm), (2, .int se), (3, .int r_1), (4, .int q9.1), (5, .int q9.2)] []) : ∀ (nn : Nat) (i4_7 : Int32) (i5_8 : Int32), lp (b_X11_work_49 o_names fvalues se) nn (i4_7, i5_8) = some b9 → V K 9 [(adm, .inr (10, oM adA o_names o_rows o_strength o_most o_toldGraph o_toldArc)), ((adA 1), .inl (gI (kG K), 5, .inl fvalues)), ((adA 3), .inl (gI (kG K), 80, .inl fcells)), ((adA 12), .inl (gI (kG K), 1280, .inl ftops_3)), ((adA 13), .inl (gI (kG K), 1280, .inl flows_5))] 0 0 49 [(0, .ref adm), (1, .int nm), (2, .int se), (3, .int r_1), (4, .int i4_7), (5, .int i5_8)] [] := by
  intro nn
  induction nn with
  | zero => intro i4_7 i5_8 h; exact absurd h (by simp [lp])
  | succ nn ih =>
    intro i4_7 i5_8 h
    replace h := lp_s h
    rw [eb_X11_work_49] at h
    refine v_iload hk dX11_work_49 rfl ?_
    refine v_aload_n hk dX11_work_51 rfl ?_
    refine v_get (C := RX11) (T := TX11) (N := 39) (ci := 10) (v := .int o_names) hk dX11_work_52 w2i_X11_work_X110 0 rfl rfl 0 (by decide) (by decide +kernel) rfl rfl ?_
    refine v_icmp_ge (tgt := 90) hk dX11_work_55 (by decide) (fun hc => ?_) (fun hc => ?_)
    · replace h := it_t (g := (lpk (lp (b_X11_work_49 o_names fvalues se) nn))) h hc
      replace h : some (i4_7, i5_8) = some b9 := h
      replace h := Option.some.inj h
      subst h
      exact kk0 _ rfl
    · replace h := it_f (g := (lpk (lp (b_X11_work_49 o_names fvalues se) nn))) h hc
      refine v_iload hk dX11_work_58 rfl ?_
      refine v_iload_n hk dX11_work_60 rfl ?_
      refine v_iload hk dX11_work_61 rfl ?_
      refine v_ishr hk dX11_work_63 ?_
      refine v_iconst (v := 1) hk dX11_work_64 (by decide) ?_
      refine v_iand hk dX11_work_65 ?_
      refine v_iconst (v := 1) hk dX11_work_66 (by decide) ?_
      obtain ⟨y_10, ey_10, h⟩ := bd_e (g := (lpk (lp (b_X11_work_49 o_names fvalues se) nn))) rfl h
      have Jy_10 : V K 9 [(adm, .inr (10, oM adA o_names o_rows o_strength o_most o_toldGraph o_toldArc)), ((adA 1), .inl (gI (kG K), 5, .inl fvalues)), ((adA 3), .inl (gI (kG K), 80, .inl fcells)), ((adA 12), .inl (gI (kG K), 1280, .inl ftops_3)), ((adA 13), .inl (gI (kG K), 1280, .inl flows_5))] 0 0 81 [(0, .ref adm), (1, .int nm), (2, .int se), (3, .int r_1), (4, .int i4_7), (5, .int i5_8)] [.int y_10, .int i4_7] := by
        refine v_imul hk dX11_work_81 ?_
        obtain ⟨x4_11, ex4_11, h⟩ := lt_e (g := (lpk (lp (b_X11_work_49 o_names fvalues se) nn))) h
        refine v_topi ex4_11.symm ?_
        refine v_istore hk dX11_work_82 (by decide) [1, 2, 3, 4, 0, 5] (lv' := [(0, .ref adm), (1, .int nm), (2, .int se), (3, .int r_1), (4, .int x4_11), (5, .int i5_8)]) rfl ?_
        obtain ⟨x5_12, ex5_12, h⟩ := lt_e (g := (lpk (lp (b_X11_work_49 o_names fvalues se) nn))) h
        refine v_iinc (v := x5_12) hk dX11_work_84 rfl (by rw [ex5_12]; rfl) (by decide) [1, 2, 3, 4, 5, 0] (lv' := [(0, .ref adm), (1, .int nm), (2, .int se), (3, .int r_1), (4, .int x4_11), (5, .int x5_12)]) rfl ?_
        refine v_goto (tgt := 49) hk dX11_work_87 (by decide) ?_
        exact ih x4_11 x5_12 h
      clear h
      have h := id_e ey_10
      clear ey_10
      refine v_icmp_ne (tgt := 80) hk dX11_work_67 (by decide) (fun hc => ?_) (fun hc => ?_)
      · replace h := it_f (g := id) h hc
        refine v_iconst (v := 1) hk dX11_work_80 (by decide) ?_
        replace h : some (1 : Int32) = some y_10 := h
        replace h := Option.some.inj h
        subst h
        exact Jy_10
      · replace h := it_t (g := id) h hc
        refine v_aload_n hk dX11_work_70 rfl ?_
        refine v_get (C := RX11) (T := TX11) (N := 39) (ci := 10) (v := .ref (adA 1)) hk dX11_work_71 w2i_X11_work_X110 0 rfl rfl 1 (by decide) (by decide +kernel) rfl rfl ?_
        refine v_iload hk dX11_work_74 rfl ?_
        obtain ⟨hi, h⟩ := ok_e (g := id) rfl h
        refine v_ialdV hk dX11_work_76 1 rfl (ix_in hi) ?_
        refine v_goto (tgt := 81) hk dX11_work_77 (by decide) ?_
        replace h : some (fvalues i5_8.toNatClampNeg : Int32) = some y_10 := h
        replace h := Option.some.inj h
        subst h
        exact Jy_10
set_option maxHeartbeats 4000000 in
set_option maxRecDepth 100000 in
theorem L_X11_work_111 {K : Cx} {R9 : Room} (hk : Ok K cX11_work 9 RX11 w2_X11_work R9) (hR9 : RoomGe R9 rm_X11_work) (adm : Nat) (adA : Nat → Nat) (o_names : Int32) (o_rows : Int32) (o_strength : Int32) (o_most : Int32) (o_toldGraph : Int32) (o_toldArc : Int32) (fvalues : Nat → Int32) (fcells : Nat → Int32) (nm : Int32) (se : Int32) (r_1 : Int32) (q_13 : Int32 × Int32) (i5_14 : Int32) (ftops_15 : Nat → Int32) (flows_16 : Nat → Int32) (b9 : (Int32 × Int32 × Int32)) (kk0 : ∀ q9 : (Int32 × Int32 × Int32), b9 = q9 → V K 9 [(adm, .inr (10, oM adA o_names o_rows o_strength o_most o_toldGraph o_toldArc)), ((adA 1), .inl (gI (kG K), 5, .inl fvalues)), ((adA 3), .inl (gI (kG K), 80, .inl fcells)), ((adA 12), .inl (gI (kG K), 1280, .inl ftops_15)), ((adA 13), .inl (gI (kG K), 1280, .inl flows_16))] 0 0 174 [(0, .ref adm), (1, .int nm), (2, .int se), (3, .int r_1), (4, .int q_13.1), (5, .int i5_14), (6, .int q9.1), (7, .int q9.2.1), (8, .int q9.2.2)] []) : ∀ (nn : Nat) (i6_17 : Int32) (i7_18 : Int32) (i8_19 : Int32), lp (b_X11_work_111 o_names o_rows o_strength o_most o_toldGraph o_toldArc fcells nm se i5_14) nn (i6_17, i7_18, i8_19) = some b9 → V K 9 [(adm, .inr (10, oM adA o_names o_rows o_strength o_most o_toldGraph o_toldArc)), ((adA 1), .inl (gI (kG K), 5, .inl fvalues)), ((adA 3), .inl (gI (kG K), 80, .inl fcells)), ((adA 12), .inl (gI (kG K), 1280, .inl ftops_15)), ((adA 13), .inl (gI (kG K), 1280, .inl flows_16))] 0 0 111 [(0, .ref adm), (1, .int nm), (2, .int se), (3, .int r_1), (4, .int q_13.1), (5, .int i5_14), (6, .int i6_17), (7, .int i7_18), (8, .int i8_19)] [] := by
  intro nn
  induction nn with
  | zero => intro i6_17 i7_18 i8_19 h; exact absurd h (by simp [lp])
  | succ nn ih =>
    intro i6_17 i7_18 i8_19 h
    replace h := lp_s h
    rw [eb_X11_work_111] at h
    refine v_iload hk dX11_work_111 rfl ?_
    refine v_iload hk dX11_work_113 rfl ?_
    refine v_icmp_ge (tgt := 174) hk dX11_work_115 (by decide) (fun hc => ?_) (fun hc => ?_)
    · replace h := it_t (g := (lpk (lp (b_X11_work_111 o_names o_rows o_strength o_most o_toldGraph o_toldArc fcells nm se i5_14) nn))) h hc
      replace h : some (i6_17, i7_18, i8_19) = some b9 := h
      replace h := Option.some.inj h
      subst h
      exact kk0 _ rfl
    · replace h := it_f (g := (lpk (lp (b_X11_work_111 o_names o_rows o_strength o_most o_toldGraph o_toldArc fcells nm se i5_14) nn))) h hc
      refine v_aload_n hk dX11_work_118 rfl ?_
      refine v_iload hk dX11_work_119 rfl ?_
      refine v_iload hk dX11_work_121 rfl ?_
      refine v_iload_n hk dX11_work_123 rfl ?_
      obtain ⟨r_20, er_20, h⟩ := bd_e (g := (lpk (lp (b_X11_work_111 o_names o_rows o_strength o_most o_toldGraph o_toldArc fcells nm se i5_14) nn))) rfl h
      refine v_callV (n := 3) (st := []) (b := adm) (T := TX11) (N := 39) hk dX11_work_124 (c_X11_agree (kl K) (kG K) adm adA o_names o_rows o_strength o_most o_toldGraph o_toldArc fcells i5_14 i8_19 se r_20 er_20) rfl gd_X11_work_X11_agree rfl (by decide +kernel) (frok hR9 (Nat.le_of_ble_eq_true rfl) (Nat.le_of_ble_eq_true rfl)) (roomk hR9 (Nat.le_of_ble_eq_true rfl) (Nat.le_of_ble_eq_true rfl)) rfl rfl (Nat.le_of_ble_eq_true rfl) 0 rfl rfl [0, 2] [1, 3, 4] (wr := [((adA 1), .inl (gI (kG K), 5, .inl fvalues)), ((adA 12), .inl (gI (kG K), 1280, .inl ftops_15)), ((adA 13), .inl (gI (kG K), 1280, .inl flows_16))]) rfl rfl (by decide) (by decide) (by decide) ?_
      intro v9 w9 hp9
      obtain ⟨rfl, rfl⟩ := hp9
      show V K 9 [((adA 1), .inl (gI (kG K), 5, .inl fvalues)), ((adA 12), .inl (gI (kG K), 1280, .inl ftops_15)), ((adA 13), .inl (gI (kG K), 1280, .inl flows_16)), (adm, .inr (10, oM adA o_names o_rows o_strength o_most o_toldGraph o_toldArc)), ((adA 3), .inl (gI (kG K), 80, .inl fcells))] 0 0 127 [(0, .ref adm), (1, .int nm), (2, .int se), (3, .int r_1), (4, .int q_13.1), (5, .int i5_14), (6, .int i6_17), (7, .int i7_18), (8, .int i8_19)] [.int r_20]
      obtain ⟨y_21, ey_21, h⟩ := bd_e (g := (lpk (lp (b_X11_work_111 o_names o_rows o_strength o_most o_toldGraph o_toldArc fcells nm se i5_14) nn))) rfl h
      have Jy_21 : V K 9 [((adA 1), .inl (gI (kG K), 5, .inl fvalues)), ((adA 12), .inl (gI (kG K), 1280, .inl ftops_15)), ((adA 13), .inl (gI (kG K), 1280, .inl flows_16)), (adm, .inr (10, oM adA o_names o_rows o_strength o_most o_toldGraph o_toldArc)), ((adA 3), .inl (gI (kG K), 80, .inl fcells))] 0 0 168 [(0, .ref adm), (1, .int nm), (2, .int se), (3, .int r_1), (4, .int q_13.1), (5, .int i5_14), (6, .int y_21.1), (7, .int y_21.2), (8, .int i8_19)] [] := by
        obtain ⟨x8_22, ex8_22, h⟩ := lt_e (g := (lpk (lp (b_X11_work_111 o_names o_rows o_strength o_most o_toldGraph o_toldArc fcells nm se i5_14) nn))) h
        refine v_iinc (v := x8_22) hk dX11_work_168 rfl (by rw [ex8_22]; rfl) (by decide) [1, 2, 3, 4, 5, 6, 7, 8, 0] (lv' := [(0, .ref adm), (1, .int nm), (2, .int se), (3, .int r_1), (4, .int q_13.1), (5, .int i5_14), (6, .int y_21.1), (7, .int y_21.2), (8, .int x8_22)]) rfl ?_
        refine v_goto (tgt := 111) hk dX11_work_171 (by decide) ?_
        refine v_perm [3, 0, 4, 1, 2] (ws' := [(adm, .inr (10, oM adA o_names o_rows o_strength o_most o_toldGraph o_toldArc)), ((adA 1), .inl (gI (kG K), 5, .inl fvalues)), ((adA 3), .inl (gI (kG K), 80, .inl fcells)), ((adA 12), .inl (gI (kG K), 1280, .inl ftops_15)), ((adA 13), .inl (gI (kG K), 1280, .inl flows_16))]) rfl rfl (by decide) ?_
        exact ih y_21.1 y_21.2 x8_22 h
      clear h
      have h := id_e ey_21
      clear ey_21
      refine v_if_eq (tgt := 168) hk dX11_work_127 (by decide) (fun hc => ?_) (fun hc => ?_)
      · replace h := it_t (g := id) h hc
        replace h : some (i6_17, i7_18) = some y_21 := h
        replace h := Option.some.inj h
        subst h
        exact Jy_21
      · replace h := it_f (g := id) h hc
        obtain ⟨x6_23, ex6_23, h⟩ := lt_e (g := id) h
        refine v_iinc (v := x6_23) hk dX11_work_130 rfl (by rw [ex6_23]; rfl) (by decide) [1, 2, 3, 4, 5, 6, 0, 7, 8] (lv' := [(0, .ref adm), (1, .int nm), (2, .int se), (3, .int r_1), (4, .int q_13.1), (5, .int i5_14), (6, .int x6_23), (7, .int i7_18), (8, .int i8_19)]) rfl ?_
        refine v_iload hk dX11_work_133 rfl ?_
        refine v_aload_n hk dX11_work_135 rfl ?_
        refine v_get (C := RX11) (T := TX11) (N := 39) (ci := 10) (v := .ref (adA 3)) hk dX11_work_136 w2i_X11_work_X110 3 rfl rfl 3 (by decide) (by decide +kernel) rfl rfl ?_
        refine v_iconst (v := 5) hk dX11_work_139 (by decide) ?_
        refine v_iload hk dX11_work_140 rfl ?_
        refine v_imul hk dX11_work_142 ?_
        refine v_iload_n hk dX11_work_143 rfl ?_
        refine v_iadd hk dX11_work_144 ?_
        obtain ⟨hi, h⟩ := ok_e (g := id) rfl h
        refine v_ialdV hk dX11_work_145 4 rfl (ix_in hi) ?_
        refine v_aload_n hk dX11_work_146 rfl ?_
        refine v_get (C := RX11) (T := TX11) (N := 39) (ci := 10) (v := .ref (adA 3)) hk dX11_work_147 w2i_X11_work_X110 3 rfl rfl 3 (by decide) (by decide +kernel) rfl rfl ?_
        refine v_iconst (v := 5) hk dX11_work_150 (by decide) ?_
        refine v_iload hk dX11_work_151 rfl ?_
        refine v_imul hk dX11_work_153 ?_
        refine v_iload_n hk dX11_work_154 rfl ?_
        refine v_iadd hk dX11_work_155 ?_
        obtain ⟨hi, h⟩ := ok_e (g := id) rfl h
        refine v_ialdV hk dX11_work_156 4 rfl (ix_in hi) ?_
        obtain ⟨z_24, ez_24, h⟩ := lt_e (g := id) h
        have Jz_24 : V K 9 [((adA 1), .inl (gI (kG K), 5, .inl fvalues)), ((adA 12), .inl (gI (kG K), 1280, .inl ftops_15)), ((adA 13), .inl (gI (kG K), 1280, .inl flows_16)), (adm, .inr (10, oM adA o_names o_rows o_strength o_most o_toldGraph o_toldArc)), ((adA 3), .inl (gI (kG K), 80, .inl fcells))] 0 0 165 [(0, .ref adm), (1, .int nm), (2, .int se), (3, .int r_1), (4, .int q_13.1), (5, .int i5_14), (6, .int x6_23), (7, .int i7_18), (8, .int i8_19)] (.int z_24 :: [.int i7_18]) := by
          refine v_iadd hk dX11_work_165 ?_
          obtain ⟨x7_25, ex7_25, h⟩ := lt_e (g := id) h
          refine v_topi ex7_25.symm ?_
          refine v_istore hk dX11_work_166 (by decide) [1, 2, 3, 4, 5, 6, 7, 0, 8] (lv' := [(0, .ref adm), (1, .int nm), (2, .int se), (3, .int r_1), (4, .int q_13.1), (5, .int i5_14), (6, .int x6_23), (7, .int x7_25), (8, .int i8_19)]) rfl ?_
          replace h : some (x6_23, x7_25) = some y_21 := h
          replace h := Option.some.inj h
          subst h
          exact Jy_21
        refine v_icmp_ne (tgt := 164) hk dX11_work_157 (by decide) (fun hc => ?_) (fun hc => ?_)
        · rw [if_neg hc] at ez_24
          subst ez_24
          refine v_iconst (v := 0) hk dX11_work_164 (by decide) ?_
          exact Jz_24
        · rw [if_pos hc] at ez_24
          subst ez_24
          refine v_iconst (v := 1) hk dX11_work_160 (by decide) ?_
          refine v_goto (tgt := 165) hk dX11_work_161 (by decide) ?_
          exact Jz_24
set_option maxHeartbeats 4000000 in
set_option maxRecDepth 100000 in
theorem L_X11_work_93 {K : Cx} {R9 : Room} (hk : Ok K cX11_work 9 RX11 w2_X11_work R9) (hR9 : RoomGe R9 rm_X11_work) (adm : Nat) (adA : Nat → Nat) (o_names : Int32) (o_rows : Int32) (o_strength : Int32) (o_most : Int32) (o_toldGraph : Int32) (o_toldArc : Int32) (fvalues : Nat → Int32) (fcells : Nat → Int32) (nm : Int32) (se : Int32) (r_1 : Int32) (q_13 : Int32 × Int32) (b9 : (Int32 × (Nat → Int32) × (Nat → Int32))) (kk0 : ∀ q9 : (Int32 × (Nat → Int32) × (Nat → Int32)), b9 = q9 → V K 9 [(adm, .inr (10, oM adA o_names o_rows o_strength o_most o_toldGraph o_toldArc)), ((adA 1), .inl (gI (kG K), 5, .inl fvalues)), ((adA 3), .inl (gI (kG K), 80, .inl fcells)), ((adA 12), .inl (gI (kG K), 1280, .inl q9.2.1)), ((adA 13), .inl (gI (kG K), 1280, .inl q9.2.2))] 0 0 223 [(0, .ref adm), (1, .int nm), (2, .int se), (3, .int r_1), (4, .int q_13.1), (5, .int q9.1)] []) : ∀ (nn : Nat) (i5_14 : Int32) (ftops_15 : Nat → Int32) (flows_16 : Nat → Int32), lp (b_X11_work_93 o_names o_rows o_strength o_most o_toldGraph o_toldArc fvalues fcells nm se r_1 q_13) nn (i5_14, ftops_15, flows_16) = some b9 → V K 9 [(adm, .inr (10, oM adA o_names o_rows o_strength o_most o_toldGraph o_toldArc)), ((adA 1), .inl (gI (kG K), 5, .inl fvalues)), ((adA 3), .inl (gI (kG K), 80, .inl fcells)), ((adA 12), .inl (gI (kG K), 1280, .inl ftops_15)), ((adA 13), .inl (gI (kG K), 1280, .inl flows_16))] 0 0 93 [(0, .ref adm), (1, .int nm), (2, .int se), (3, .int r_1), (4, .int q_13.1), (5, .int i5_14)] [] := by
  intro nn
  induction nn with
  | zero => intro i5_14 ftops_15 flows_16 h; exact absurd h (by simp [lp])
  | succ nn ih =>
    intro i5_14 ftops_15 flows_16 h
    replace h := lp_s h
    rw [eb_X11_work_93] at h
    refine v_iload hk dX11_work_93 rfl ?_
    refine v_aload_n hk dX11_work_95 rfl ?_
    refine v_get (C := RX11) (T := TX11) (N := 39) (ci := 10) (v := .int o_rows) hk dX11_work_96 w2i_X11_work_X110 0 rfl rfl 2 (by decide) (by decide +kernel) rfl rfl ?_
    refine v_icmp_ge (tgt := 223) hk dX11_work_99 (by decide) (fun hc => ?_) (fun hc => ?_)
    · replace h := it_t (g := (lpk (lp (b_X11_work_93 o_names o_rows o_strength o_most o_toldGraph o_toldArc fvalues fcells nm se r_1 q_13) nn))) h hc
      replace h : some (i5_14, ftops_15, flows_16) = some b9 := h
      replace h := Option.some.inj h
      subst h
      exact kk0 _ rfl
    · replace h := it_f (g := (lpk (lp (b_X11_work_93 o_names o_rows o_strength o_most o_toldGraph o_toldArc fvalues fcells nm se r_1 q_13) nn))) h hc
      refine v_iconst (v := 0) hk dX11_work_102 (by decide) ?_
      refine v_istore hk dX11_work_103 (by decide) [1, 2, 3, 4, 5, 6, 0] (lv' := [(0, .ref adm), (1, .int nm), (2, .int se), (3, .int r_1), (4, .int q_13.1), (5, .int i5_14), (6, .int 0)]) rfl ?_
      refine v_iconst (v := 0) hk dX11_work_105 (by decide) ?_
      refine v_istore hk dX11_work_106 (by decide) [1, 2, 3, 4, 5, 6, 7, 0] (lv' := [(0, .ref adm), (1, .int nm), (2, .int se), (3, .int r_1), (4, .int q_13.1), (5, .int i5_14), (6, .int 0), (7, .int 0)]) rfl ?_
      refine v_iconst (v := 0) hk dX11_work_108 (by decide) ?_
      refine v_istore hk dX11_work_109 (by decide) [1, 2, 3, 4, 5, 6, 7, 8, 0] (lv' := [(0, .ref adm), (1, .int nm), (2, .int se), (3, .int r_1), (4, .int q_13.1), (5, .int i5_14), (6, .int 0), (7, .int 0), (8, .int 0)]) rfl ?_
      obtain ⟨b_30, eb_30, h⟩ := bd_e (g := (lpk (lp (b_X11_work_93 o_names o_rows o_strength o_most o_toldGraph o_toldArc fvalues fcells nm se r_1 q_13) nn))) rfl h
      refine L_X11_work_111 hk hR9 adm adA o_names o_rows o_strength o_most o_toldGraph o_toldArc fvalues fcells nm se r_1 q_13 i5_14 ftops_15 flows_16 b_30 (fun q_26 eq_26 => ?_) FU 0 0 0 eb_30
      · replace eq_26 := eq_26.symm
        subst eq_26
        refine v_aload_n hk dX11_work_174 rfl ?_
        refine v_get (C := RX11) (T := TX11) (N := 39) (ci := 10) (v := .ref (adA 12)) hk dX11_work_175 w2i_X11_work_X110 0 rfl rfl 12 (by decide) (by decide +kernel) rfl rfl ?_
        refine v_iload_n hk dX11_work_178 rfl ?_
        refine v_aload_n hk dX11_work_179 rfl ?_
        refine v_get (C := RX11) (T := TX11) (N := 39) (ci := 10) (v := .int o_strength) hk dX11_work_180 w2i_X11_work_X110 0 rfl rfl 4 (by decide) (by decide +kernel) rfl rfl ?_
        refine v_iload hk dX11_work_183 rfl ?_
        refine v_iload hk dX11_work_185 rfl ?_
        refine v_imul hk dX11_work_187 ?_
        refine v_iadd hk dX11_work_188 ?_
        obtain ⟨r_27, er_27, h⟩ := bd_e (g := (lpk (lp (b_X11_work_93 o_names o_rows o_strength o_most o_toldGraph o_toldArc fvalues fcells nm se r_1 q_13) nn))) rfl h
        refine v_callS (n := 3) (st := []) hk dX11_work_189 (c_X11_grow (kl K) (kG K) (adA 12) 1280 ftops_15 r_1 (o_strength + (q_26.2.1 * q_13.1)) r_27 er_27) gd_X11_work_X11_grow rfl (by decide +kernel) (frok hR9 (Nat.le_of_ble_eq_true rfl) (Nat.le_of_ble_eq_true rfl)) (roomk hR9 (Nat.le_of_ble_eq_true rfl) (Nat.le_of_ble_eq_true rfl)) rfl rfl (Nat.le_of_ble_eq_true rfl) [3] [0, 1, 2, 4] (wr := [(adm, .inr (10, oM adA o_names o_rows o_strength o_most o_toldGraph o_toldArc)), ((adA 1), .inl (gI (kG K), 5, .inl fvalues)), ((adA 3), .inl (gI (kG K), 80, .inl fcells)), ((adA 13), .inl (gI (kG K), 1280, .inl flows_16))]) rfl rfl (by decide) (by decide) (by decide) ?_
        intro v9 w9 hp9
        obtain ⟨rfl, rfl⟩ := hp9
        show V K 9 [(adm, .inr (10, oM adA o_names o_rows o_strength o_most o_toldGraph o_toldArc)), ((adA 1), .inl (gI (kG K), 5, .inl fvalues)), ((adA 3), .inl (gI (kG K), 80, .inl fcells)), ((adA 13), .inl (gI (kG K), 1280, .inl flows_16)), ((adA 12), .inl (gI (kG K), 1280, .inl r_27))] 0 0 192 [(0, .ref adm), (1, .int nm), (2, .int se), (3, .int r_1), (4, .int q_13.1), (5, .int i5_14), (6, .int q_26.1), (7, .int q_26.2.1), (8, .int q_26.2.2)] []
        refine v_aload_n hk dX11_work_192 rfl ?_
        refine v_get (C := RX11) (T := TX11) (N := 39) (ci := 10) (v := .ref (adA 13)) hk dX11_work_193 w2i_X11_work_X110 0 rfl rfl 13 (by decide) (by decide +kernel) rfl rfl ?_
        refine v_iload_n hk dX11_work_196 rfl ?_
        refine v_aload_n hk dX11_work_197 rfl ?_
        refine v_get (C := RX11) (T := TX11) (N := 39) (ci := 10) (v := .ref (adA 1)) hk dX11_work_198 w2i_X11_work_X110 0 rfl rfl 1 (by decide) (by decide +kernel) rfl rfl ?_
        refine v_iload_n hk dX11_work_201 rfl ?_
        obtain ⟨hi, h⟩ := ok_e (g := (lpk (lp (b_X11_work_93 o_names o_rows o_strength o_most o_toldGraph o_toldArc fvalues fcells nm se r_1 q_13) nn))) rfl h
        refine v_ialdV hk dX11_work_202 1 rfl (ix_in hi) ?_
        refine v_aload_n hk dX11_work_203 rfl ?_
        refine v_get (C := RX11) (T := TX11) (N := 39) (ci := 10) (v := .int o_strength) hk dX11_work_204 w2i_X11_work_X110 0 rfl rfl 4 (by decide) (by decide +kernel) rfl rfl ?_
        refine v_imul hk dX11_work_207 ?_
        refine v_iload hk dX11_work_208 rfl ?_
        refine v_iload hk dX11_work_210 rfl ?_
        refine v_imul hk dX11_work_212 ?_
        refine v_iadd hk dX11_work_213 ?_
        obtain ⟨r_28, er_28, h⟩ := bd_e (g := (lpk (lp (b_X11_work_93 o_names o_rows o_strength o_most o_toldGraph o_toldArc fvalues fcells nm se r_1 q_13) nn))) rfl h
        refine v_callS (n := 3) (st := []) hk dX11_work_214 (c_X11_grow (kl K) (kG K) (adA 13) 1280 flows_16 r_1 (((fvalues nm.toNatClampNeg) * o_strength) + (q_26.1 * q_13.1)) r_28 er_28) gd_X11_work_X11_grow rfl (by decide +kernel) (frok hR9 (Nat.le_of_ble_eq_true rfl) (Nat.le_of_ble_eq_true rfl)) (roomk hR9 (Nat.le_of_ble_eq_true rfl) (Nat.le_of_ble_eq_true rfl)) rfl rfl (Nat.le_of_ble_eq_true rfl) [3] [0, 1, 2, 4] (wr := [(adm, .inr (10, oM adA o_names o_rows o_strength o_most o_toldGraph o_toldArc)), ((adA 1), .inl (gI (kG K), 5, .inl fvalues)), ((adA 3), .inl (gI (kG K), 80, .inl fcells)), ((adA 12), .inl (gI (kG K), 1280, .inl r_27))]) rfl rfl (by decide) (by decide) (by decide) ?_
        intro v9 w9 hp9
        obtain ⟨rfl, rfl⟩ := hp9
        show V K 9 [(adm, .inr (10, oM adA o_names o_rows o_strength o_most o_toldGraph o_toldArc)), ((adA 1), .inl (gI (kG K), 5, .inl fvalues)), ((adA 3), .inl (gI (kG K), 80, .inl fcells)), ((adA 12), .inl (gI (kG K), 1280, .inl r_27)), ((adA 13), .inl (gI (kG K), 1280, .inl r_28))] 0 0 217 [(0, .ref adm), (1, .int nm), (2, .int se), (3, .int r_1), (4, .int q_13.1), (5, .int i5_14), (6, .int q_26.1), (7, .int q_26.2.1), (8, .int q_26.2.2)] []
        obtain ⟨x5_29, ex5_29, h⟩ := lt_e (g := (lpk (lp (b_X11_work_93 o_names o_rows o_strength o_most o_toldGraph o_toldArc fvalues fcells nm se r_1 q_13) nn))) h
        refine v_iinc (v := x5_29) hk dX11_work_217 rfl (by rw [ex5_29]; rfl) (by decide) [1, 2, 3, 4, 5, 0, 6, 7, 8] (lv' := [(0, .ref adm), (1, .int nm), (2, .int se), (3, .int r_1), (4, .int q_13.1), (5, .int x5_29), (6, .int q_26.1), (7, .int q_26.2.1), (8, .int q_26.2.2)]) rfl ?_
        refine v_goto (tgt := 93) hk dX11_work_220 (by decide) ?_
        refine v_loc [0, 1, 2, 3, 4, 5] (lv' := [(0, .ref adm), (1, .int nm), (2, .int se), (3, .int r_1), (4, .int q_13.1), (5, .int x5_29)]) rfl ?_
        exact ih x5_29 r_27 r_28 h
set_option maxHeartbeats 4000000 in
set_option maxRecDepth 100000 in
theorem c_X11_work (l : Launch) (G : GG) (adm : Nat) (adA : Nat → Nat) (o_names : Int32) (o_rows : Int32) (o_strength : Int32) (o_most : Int32) (o_toldGraph : Int32) (o_toldArc : Int32) (fvalues : Nat → Int32) (fcells : Nat → Int32) (ftops : Nat → Int32) (flows : Nat → Int32) (nm : Int32) (se : Int32) (r : (Nat → Int32) × (Nat → Int32)) (h : m_X11_work o_names o_rows o_strength o_most o_toldGraph o_toldArc fvalues fcells ftops flows nm se = some r) : Ctr l G yX11_work w2_X11_work rm_X11_work [.ref adm, .int nm, .int se] [(adm, .inr (10, oM adA o_names o_rows o_strength o_most o_toldGraph o_toldArc)), ((adA 1), .inl (gI G, 5, .inl fvalues)), ((adA 3), .inl (gI G, 80, .inl fcells)), ((adA 12), .inl (gI G, 1280, .inl ftops)), ((adA 13), .inl (gI G, 1280, .inl flows))] (fun v w => v = none ∧ w = [(adm, .inr (10, oM adA o_names o_rows o_strength o_most o_toldGraph o_toldArc)), ((adA 1), .inl (gI G, 5, .inl fvalues)), ((adA 3), .inl (gI G, 80, .inl fcells)), ((adA 12), .inl (gI G, 1280, .inl r.1)), ((adA 13), .inl (gI G, 1280, .inl r.2))]) := by
  refine ctr_entry (cc := cX11_work) (maxL := 9) (ret := none) (lv0 := [(0, .ref adm), (1, .int nm), (2, .int se)]) (by decide) rfl (Nat.le_of_ble_eq_true rfl) (rfl) ?_
  intro K hl9 hG9 hk hn9 hrt
  subst hl9
  subst hG9
  have hR9 : RoomGe rm_X11_work rm_X11_work := RoomGe.rf
  replace h := id_e h
  rw [em_X11_work] at h
  refine v_iload_n hk dX11_work_0 rfl ?_
  refine v_iload_n hk dX11_work_1 rfl ?_
  obtain ⟨r_1, er_1, h⟩ := bd_e (g := id) rfl h
  refine v_callS (n := 2) (st := []) hk dX11_work_2 (c_X11_place (kl K) (kG K) nm se r_1 er_1) gd_X11_work_X11_place rfl (by decide +kernel) (frok hR9 (Nat.le_of_ble_eq_true rfl) (Nat.le_of_ble_eq_true rfl)) (roomk hR9 (Nat.le_of_ble_eq_true rfl) (Nat.le_of_ble_eq_true rfl)) rfl rfl (Nat.le_of_ble_eq_true rfl) [] [0, 1, 2, 3, 4] (wr := [(adm, .inr (10, oM adA o_names o_rows o_strength o_most o_toldGraph o_toldArc)), ((adA 1), .inl (gI (kG K), 5, .inl fvalues)), ((adA 3), .inl (gI (kG K), 80, .inl fcells)), ((adA 12), .inl (gI (kG K), 1280, .inl ftops)), ((adA 13), .inl (gI (kG K), 1280, .inl flows))]) rfl rfl (by decide) (by decide) (by decide) ?_
  intro v9 w9 hp9
  obtain ⟨rfl, rfl⟩ := hp9
  show V K 9 [(adm, .inr (10, oM adA o_names o_rows o_strength o_most o_toldGraph o_toldArc)), ((adA 1), .inl (gI (kG K), 5, .inl fvalues)), ((adA 3), .inl (gI (kG K), 80, .inl fcells)), ((adA 12), .inl (gI (kG K), 1280, .inl ftops)), ((adA 13), .inl (gI (kG K), 1280, .inl flows))] 0 0 5 [(0, .ref adm), (1, .int nm), (2, .int se)] [.int r_1]
  refine v_istore_n hk dX11_work_5 rfl (by decide) [1, 2, 3, 0] (lv' := [(0, .ref adm), (1, .int nm), (2, .int se), (3, .int r_1)]) rfl ?_
  refine v_aload_n hk dX11_work_6 rfl ?_
  refine v_get (C := RX11) (T := TX11) (N := 39) (ci := 10) (v := .ref (adA 12)) hk dX11_work_7 w2i_X11_work_X110 0 rfl rfl 12 (by decide) (by decide +kernel) rfl rfl ?_
  refine v_iload_n hk dX11_work_10 rfl ?_
  refine v_iconst (v := 1) hk dX11_work_11 (by decide) ?_
  obtain ⟨hi, h⟩ := ok_e (g := id) rfl h
  obtain ⟨ftops_2, eftops_2, h⟩ := lt_e (g := id) h
  refine v_iastV hk dX11_work_12 3 rfl (ix_in hi) (ws' := [(adm, .inr (10, oM adA o_names o_rows o_strength o_most o_toldGraph o_toldArc)), ((adA 1), .inl (gI (kG K), 5, .inl fvalues)), ((adA 3), .inl (gI (kG K), 80, .inl fcells)), ((adA 12), .inl (gI (kG K), 1280, .inl ftops_2)), ((adA 13), .inl (gI (kG K), 1280, .inl flows))]) (by rw [eftops_2]; rfl) ?_
  refine v_aload_n hk dX11_work_13 rfl ?_
  refine v_get (C := RX11) (T := TX11) (N := 39) (ci := 10) (v := .ref (adA 12)) hk dX11_work_14 w2i_X11_work_X110 0 rfl rfl 12 (by decide) (by decide +kernel) rfl rfl ?_
  refine v_iload_n hk dX11_work_17 rfl ?_
  refine v_iconst (v := 1) hk dX11_work_18 (by decide) ?_
  refine v_iadd hk dX11_work_19 ?_
  refine v_iconst (v := 1) hk dX11_work_20 (by decide) ?_
  obtain ⟨hi, h⟩ := ok_e (g := id) rfl h
  obtain ⟨ftops_3, eftops_3, h⟩ := lt_e (g := id) h
  refine v_iastV hk dX11_work_21 3 rfl (ix_in hi) (ws' := [(adm, .inr (10, oM adA o_names o_rows o_strength o_most o_toldGraph o_toldArc)), ((adA 1), .inl (gI (kG K), 5, .inl fvalues)), ((adA 3), .inl (gI (kG K), 80, .inl fcells)), ((adA 12), .inl (gI (kG K), 1280, .inl ftops_3)), ((adA 13), .inl (gI (kG K), 1280, .inl flows))]) (by rw [eftops_3]; rfl) ?_
  refine v_aload_n hk dX11_work_22 rfl ?_
  refine v_get (C := RX11) (T := TX11) (N := 39) (ci := 10) (v := .ref (adA 13)) hk dX11_work_23 w2i_X11_work_X110 0 rfl rfl 13 (by decide) (by decide +kernel) rfl rfl ?_
  refine v_iload_n hk dX11_work_26 rfl ?_
  refine v_iconst (v := 1) hk dX11_work_27 (by decide) ?_
  obtain ⟨hi, h⟩ := ok_e (g := id) rfl h
  obtain ⟨flows_4, eflows_4, h⟩ := lt_e (g := id) h
  refine v_iastV hk dX11_work_28 4 rfl (ix_in hi) (ws' := [(adm, .inr (10, oM adA o_names o_rows o_strength o_most o_toldGraph o_toldArc)), ((adA 1), .inl (gI (kG K), 5, .inl fvalues)), ((adA 3), .inl (gI (kG K), 80, .inl fcells)), ((adA 12), .inl (gI (kG K), 1280, .inl ftops_3)), ((adA 13), .inl (gI (kG K), 1280, .inl flows_4))]) (by rw [eflows_4]; rfl) ?_
  refine v_aload_n hk dX11_work_29 rfl ?_
  refine v_get (C := RX11) (T := TX11) (N := 39) (ci := 10) (v := .ref (adA 13)) hk dX11_work_30 w2i_X11_work_X110 0 rfl rfl 13 (by decide) (by decide +kernel) rfl rfl ?_
  refine v_iload_n hk dX11_work_33 rfl ?_
  refine v_iconst (v := 1) hk dX11_work_34 (by decide) ?_
  refine v_iadd hk dX11_work_35 ?_
  refine v_iconst (v := 1) hk dX11_work_36 (by decide) ?_
  obtain ⟨hi, h⟩ := ok_e (g := id) rfl h
  obtain ⟨flows_5, eflows_5, h⟩ := lt_e (g := id) h
  refine v_iastV hk dX11_work_37 4 rfl (ix_in hi) (ws' := [(adm, .inr (10, oM adA o_names o_rows o_strength o_most o_toldGraph o_toldArc)), ((adA 1), .inl (gI (kG K), 5, .inl fvalues)), ((adA 3), .inl (gI (kG K), 80, .inl fcells)), ((adA 12), .inl (gI (kG K), 1280, .inl ftops_3)), ((adA 13), .inl (gI (kG K), 1280, .inl flows_5))]) (by rw [eflows_5]; rfl) ?_
  refine v_aload_n hk dX11_work_38 rfl ?_
  refine v_get (C := RX11) (T := TX11) (N := 39) (ci := 10) (v := .ref (adA 1)) hk dX11_work_39 w2i_X11_work_X110 0 rfl rfl 1 (by decide) (by decide +kernel) rfl rfl ?_
  refine v_iload_n hk dX11_work_42 rfl ?_
  obtain ⟨hi, h⟩ := ok_e (g := id) rfl h
  refine v_ialdV hk dX11_work_43 1 rfl (ix_in hi) ?_
  obtain ⟨x4_6, ex4_6, h⟩ := lt_e (g := id) h
  refine v_topi ex4_6.symm ?_
  refine v_istore hk dX11_work_44 (by decide) [1, 2, 3, 4, 0] (lv' := [(0, .ref adm), (1, .int nm), (2, .int se), (3, .int r_1), (4, .int x4_6)]) rfl ?_
  refine v_iconst (v := 0) hk dX11_work_46 (by decide) ?_
  refine v_istore hk dX11_work_47 (by decide) [1, 2, 3, 4, 5, 0] (lv' := [(0, .ref adm), (1, .int nm), (2, .int se), (3, .int r_1), (4, .int x4_6), (5, .int 0)]) rfl ?_
  obtain ⟨b_33, eb_33, h⟩ := bd_e (g := id) rfl h
  refine L_X11_work_49 hk hR9 adm adA o_names o_rows o_strength o_most o_toldGraph o_toldArc fvalues fcells nm se r_1 ftops_3 flows_5 b_33 (fun q_13 eq_13 => ?_) FU x4_6 0 eb_33
  · replace eq_13 := eq_13.symm
    subst eq_13
    refine v_iconst (v := 0) hk dX11_work_90 (by decide) ?_
    refine v_istore hk dX11_work_91 (by decide) [1, 2, 3, 4, 5, 0] (lv' := [(0, .ref adm), (1, .int nm), (2, .int se), (3, .int r_1), (4, .int q_13.1), (5, .int 0)]) rfl ?_
    obtain ⟨b_32, eb_32, h⟩ := bd_e (g := id) rfl h
    refine L_X11_work_93 hk hR9 adm adA o_names o_rows o_strength o_most o_toldGraph o_toldArc fvalues fcells nm se r_1 q_13 b_32 (fun q_31 eq_31 => ?_) FU 0 ftops_3 flows_5 eb_32
    · replace eq_31 := eq_31.symm
      subst eq_31
      replace h : some (q_31.2.1, q_31.2.2) = some r := h
      replace h := Option.some.inj h
      subst h
      refine hrt (none) _ _ _ _ _ (⟨rfl, rfl⟩) (Nat.zero_le _) (Nat.zero_le _) (dX11_work_223)
abbrev rm_X11_family : Room := { frames := 3, cells := 0, slots := 0, locals := 74 }
set_option maxHeartbeats 4000000 in
set_option maxRecDepth 100000 in
theorem c_X11_family (l : Launch) (G : GG) (adm : Nat) (adA : Nat → Nat) (o_names : Int32) (o_rows : Int32) (o_strength : Int32) (o_most : Int32) (o_toldGraph : Int32) (o_toldArc : Int32) (fvalues : Nat → Int32) (fcells : Nat → Int32) (fisKnown : Nat → Int32) (ftops : Nat → Int32) (flows : Nat → Int32) (fsmall : Nat → Int32) (flarge : Nat → Int32) (fone : Nat → Int32) (ftwo : Nat → Int32) (frest : Nat → Int32) (nm : Int32) (se : Int32) (r : Int32 × (Nat → Int32) × (Nat → Int32) × (Nat → Int32) × (Nat → Int32) × (Nat → Int32) × (Nat → Int32) × (Nat → Int32) × (Nat → Int32)) (h : m_X11_family o_names o_rows o_strength o_most o_toldGraph o_toldArc fvalues fcells fisKnown ftops flows fsmall flarge fone ftwo frest nm se = some r) : Ctr l G yX11_family w2_X11_family rm_X11_family [.ref adm, .int nm, .int se] [(adm, .inr (10, oM adA o_names o_rows o_strength o_most o_toldGraph o_toldArc)), ((adA 1), .inl (gI G, 5, .inl fvalues)), ((adA 3), .inl (gI G, 80, .inl fcells)), ((adA 11), .inl (gZ G, 160, .inl fisKnown)), ((adA 12), .inl (gI G, 1280, .inl ftops)), ((adA 13), .inl (gI G, 1280, .inl flows)), ((adA 14), .inl (gI G, 320, .inl fsmall)), ((adA 15), .inl (gI G, 320, .inl flarge)), ((adA 6), .inl (gI G, 320, .inl fone)), ((adA 7), .inl (gI G, 320, .inl ftwo)), ((adA 8), .inl (gI G, 320, .inl frest))] (fun v w => v = some (.int r.1) ∧ w = [(adm, .inr (10, oM adA o_names o_rows o_strength o_most o_toldGraph o_toldArc)), ((adA 1), .inl (gI G, 5, .inl fvalues)), ((adA 3), .inl (gI G, 80, .inl fcells)), ((adA 11), .inl (gZ G, 160, .inl r.2.1)), ((adA 12), .inl (gI G, 1280, .inl r.2.2.1)), ((adA 13), .inl (gI G, 1280, .inl r.2.2.2.1)), ((adA 14), .inl (gI G, 320, .inl r.2.2.2.2.1)), ((adA 15), .inl (gI G, 320, .inl r.2.2.2.2.2.1)), ((adA 6), .inl (gI G, 320, .inl r.2.2.2.2.2.2.1)), ((adA 7), .inl (gI G, 320, .inl r.2.2.2.2.2.2.2.1)), ((adA 8), .inl (gI G, 320, .inl r.2.2.2.2.2.2.2.2))]) := by
  refine ctr_entry (cc := cX11_family) (maxL := 4) (ret := some .int) (lv0 := [(0, .ref adm), (1, .int nm), (2, .int se)]) (by decide) rfl (Nat.le_of_ble_eq_true rfl) (rfl) ?_
  intro K hl9 hG9 hk hn9 hrt
  subst hl9
  subst hG9
  have hR9 : RoomGe rm_X11_family rm_X11_family := RoomGe.rf
  replace h := id_e h
  rw [em_X11_family] at h
  refine v_iload_n hk dX11_family_0 rfl ?_
  refine v_iload_n hk dX11_family_1 rfl ?_
  obtain ⟨r_1, er_1, h⟩ := bd_e (g := id) rfl h
  refine v_callS (n := 2) (st := []) hk dX11_family_2 (c_X11_place (kl K) (kG K) nm se r_1 er_1) gd_X11_family_X11_place rfl (by decide +kernel) (frok hR9 (Nat.le_of_ble_eq_true rfl) (Nat.le_of_ble_eq_true rfl)) (roomk hR9 (Nat.le_of_ble_eq_true rfl) (Nat.le_of_ble_eq_true rfl)) rfl rfl (Nat.le_of_ble_eq_true rfl) [] [0, 1, 2, 3, 4, 5, 6, 7, 8, 9, 10] (wr := [(adm, .inr (10, oM adA o_names o_rows o_strength o_most o_toldGraph o_toldArc)), ((adA 1), .inl (gI (kG K), 5, .inl fvalues)), ((adA 3), .inl (gI (kG K), 80, .inl fcells)), ((adA 11), .inl (gZ (kG K), 160, .inl fisKnown)), ((adA 12), .inl (gI (kG K), 1280, .inl ftops)), ((adA 13), .inl (gI (kG K), 1280, .inl flows)), ((adA 14), .inl (gI (kG K), 320, .inl fsmall)), ((adA 15), .inl (gI (kG K), 320, .inl flarge)), ((adA 6), .inl (gI (kG K), 320, .inl fone)), ((adA 7), .inl (gI (kG K), 320, .inl ftwo)), ((adA 8), .inl (gI (kG K), 320, .inl frest))]) rfl rfl (by decide) (by decide) (by decide) ?_
  intro v9 w9 hp9
  obtain ⟨rfl, rfl⟩ := hp9
  show V K 4 [(adm, .inr (10, oM adA o_names o_rows o_strength o_most o_toldGraph o_toldArc)), ((adA 1), .inl (gI (kG K), 5, .inl fvalues)), ((adA 3), .inl (gI (kG K), 80, .inl fcells)), ((adA 11), .inl (gZ (kG K), 160, .inl fisKnown)), ((adA 12), .inl (gI (kG K), 1280, .inl ftops)), ((adA 13), .inl (gI (kG K), 1280, .inl flows)), ((adA 14), .inl (gI (kG K), 320, .inl fsmall)), ((adA 15), .inl (gI (kG K), 320, .inl flarge)), ((adA 6), .inl (gI (kG K), 320, .inl fone)), ((adA 7), .inl (gI (kG K), 320, .inl ftwo)), ((adA 8), .inl (gI (kG K), 320, .inl frest))] 0 0 5 [(0, .ref adm), (1, .int nm), (2, .int se)] [.int r_1]
  refine v_istore_n hk dX11_family_5 rfl (by decide) [1, 2, 3, 0] (lv' := [(0, .ref adm), (1, .int nm), (2, .int se), (3, .int r_1)]) rfl ?_
  refine v_aload_n hk dX11_family_6 rfl ?_
  refine v_get (C := RX11) (T := TX11) (N := 39) (ci := 10) (v := .ref (adA 11)) hk dX11_family_7 w2i_X11_family_X110 0 rfl rfl 11 (by decide) (by decide +kernel) rfl rfl ?_
  refine v_bipush (v := 32) hk dX11_family_10 (by decide) ?_
  refine v_iload_n hk dX11_family_12 rfl ?_
  refine v_imul hk dX11_family_13 ?_
  refine v_iload_n hk dX11_family_14 rfl ?_
  refine v_iadd hk dX11_family_15 ?_
  obtain ⟨hi, h⟩ := ok_e (g := id) rfl h
  refine v_zaldV hk dX11_family_16 3 rfl (ix_in hi) ?_
  refine v_if_ne (tgt := 114) hk dX11_family_17 (by decide) (fun hc => ?_) (fun hc => ?_)
  · replace h := it_f (g := id) h hc
    refine v_iload_n hk dX11_family_114 rfl ?_
    replace h : some (r_1, fisKnown, ftops, flows, fsmall, flarge, fone, ftwo, frest) = some r := h
    replace h := Option.some.inj h
    subst h
    refine hrt (some (.int r_1)) _ _ _ _ _ (⟨rfl, rfl⟩) (Nat.zero_le _) (Nat.zero_le _) (dX11_family_115)
  · replace h := it_t (g := id) h hc
    refine v_aload_n hk dX11_family_20 rfl ?_
    refine v_iload_n hk dX11_family_21 rfl ?_
    refine v_iload_n hk dX11_family_22 rfl ?_
    obtain ⟨r_2, er_2, h⟩ := bd_e (g := id) rfl h
    refine v_callV (n := 2) (st := []) (b := adm) (T := TX11) (N := 39) hk dX11_family_23 (c_X11_work (kl K) (kG K) adm adA o_names o_rows o_strength o_most o_toldGraph o_toldArc fvalues fcells ftops flows nm se r_2 er_2) rfl gd_X11_family_X11_work rfl (by decide +kernel) (frok hR9 (Nat.le_of_ble_eq_true rfl) (Nat.le_of_ble_eq_true rfl)) (roomk hR9 (Nat.le_of_ble_eq_true rfl) (Nat.le_of_ble_eq_true rfl)) rfl rfl (Nat.le_of_ble_eq_true rfl) 0 rfl rfl [0, 1, 2, 4, 5] [3, 6, 7, 8, 9, 10] (wr := [((adA 11), .inl (gZ (kG K), 160, .inl fisKnown)), ((adA 14), .inl (gI (kG K), 320, .inl fsmall)), ((adA 15), .inl (gI (kG K), 320, .inl flarge)), ((adA 6), .inl (gI (kG K), 320, .inl fone)), ((adA 7), .inl (gI (kG K), 320, .inl ftwo)), ((adA 8), .inl (gI (kG K), 320, .inl frest))]) rfl rfl (by decide) (by decide) (by decide) ?_
    intro v9 w9 hp9
    obtain ⟨rfl, rfl⟩ := hp9
    show V K 4 [((adA 11), .inl (gZ (kG K), 160, .inl fisKnown)), ((adA 14), .inl (gI (kG K), 320, .inl fsmall)), ((adA 15), .inl (gI (kG K), 320, .inl flarge)), ((adA 6), .inl (gI (kG K), 320, .inl fone)), ((adA 7), .inl (gI (kG K), 320, .inl ftwo)), ((adA 8), .inl (gI (kG K), 320, .inl frest)), (adm, .inr (10, oM adA o_names o_rows o_strength o_most o_toldGraph o_toldArc)), ((adA 1), .inl (gI (kG K), 5, .inl fvalues)), ((adA 3), .inl (gI (kG K), 80, .inl fcells)), ((adA 12), .inl (gI (kG K), 1280, .inl r_2.1)), ((adA 13), .inl (gI (kG K), 1280, .inl r_2.2))] 0 0 26 [(0, .ref adm), (1, .int nm), (2, .int se), (3, .int r_1)] []
    refine v_aload_n hk dX11_family_26 rfl ?_
    refine v_get (C := RX11) (T := TX11) (N := 39) (ci := 10) (v := .ref (adA 12)) hk dX11_family_27 w2i_X11_family_X110 6 rfl rfl 12 (by decide) (by decide +kernel) rfl rfl ?_
    refine v_iload_n hk dX11_family_30 rfl ?_
    refine v_aload_n hk dX11_family_31 rfl ?_
    refine v_get (C := RX11) (T := TX11) (N := 39) (ci := 10) (v := .ref (adA 14)) hk dX11_family_32 w2i_X11_family_X110 6 rfl rfl 14 (by decide) (by decide +kernel) rfl rfl ?_
    obtain ⟨r_3, er_3, h⟩ := bd_e (g := id) rfl h
    refine v_callS (n := 3) (st := []) hk dX11_family_35 (c_X11_load (kl K) (kG K) (adA 12) (adA 14) 1280 r_2.1 320 fsmall r_1 r_3 er_3) gd_X11_family_X11_load rfl (by decide +kernel) (frok hR9 (Nat.le_of_ble_eq_true rfl) (Nat.le_of_ble_eq_true rfl)) (roomk hR9 (Nat.le_of_ble_eq_true rfl) (Nat.le_of_ble_eq_true rfl)) rfl rfl (Nat.le_of_ble_eq_true rfl) [9, 1] [0, 2, 3, 4, 5, 6, 7, 8, 10] (wr := [((adA 11), .inl (gZ (kG K), 160, .inl fisKnown)), ((adA 15), .inl (gI (kG K), 320, .inl flarge)), ((adA 6), .inl (gI (kG K), 320, .inl fone)), ((adA 7), .inl (gI (kG K), 320, .inl ftwo)), ((adA 8), .inl (gI (kG K), 320, .inl frest)), (adm, .inr (10, oM adA o_names o_rows o_strength o_most o_toldGraph o_toldArc)), ((adA 1), .inl (gI (kG K), 5, .inl fvalues)), ((adA 3), .inl (gI (kG K), 80, .inl fcells)), ((adA 13), .inl (gI (kG K), 1280, .inl r_2.2))]) rfl rfl (by decide) (by decide) (by decide) ?_
    intro v9 w9 hp9
    obtain ⟨rfl, rfl⟩ := hp9
    show V K 4 [((adA 11), .inl (gZ (kG K), 160, .inl fisKnown)), ((adA 15), .inl (gI (kG K), 320, .inl flarge)), ((adA 6), .inl (gI (kG K), 320, .inl fone)), ((adA 7), .inl (gI (kG K), 320, .inl ftwo)), ((adA 8), .inl (gI (kG K), 320, .inl frest)), (adm, .inr (10, oM adA o_names o_rows o_strength o_most o_toldGraph o_toldArc)), ((adA 1), .inl (gI (kG K), 5, .inl fvalues)), ((adA 3), .inl (gI (kG K), 80, .inl fcells)), ((adA 13), .inl (gI (kG K), 1280, .inl r_2.2)), ((adA 12), .inl (gI (kG K), 1280, .inl r_2.1)), ((adA 14), .inl (gI (kG K), 320, .inl r_3))] 0 0 38 [(0, .ref adm), (1, .int nm), (2, .int se), (3, .int r_1)] []
    refine v_aload_n hk dX11_family_38 rfl ?_
    refine v_get (C := RX11) (T := TX11) (N := 39) (ci := 10) (v := .ref (adA 13)) hk dX11_family_39 w2i_X11_family_X110 5 rfl rfl 13 (by decide) (by decide +kernel) rfl rfl ?_
    refine v_iload_n hk dX11_family_42 rfl ?_
    refine v_aload_n hk dX11_family_43 rfl ?_
    refine v_get (C := RX11) (T := TX11) (N := 39) (ci := 10) (v := .ref (adA 15)) hk dX11_family_44 w2i_X11_family_X110 5 rfl rfl 15 (by decide) (by decide +kernel) rfl rfl ?_
    obtain ⟨r_4, er_4, h⟩ := bd_e (g := id) rfl h
    refine v_callS (n := 3) (st := []) hk dX11_family_47 (c_X11_load (kl K) (kG K) (adA 13) (adA 15) 1280 r_2.2 320 flarge r_1 r_4 er_4) gd_X11_family_X11_load rfl (by decide +kernel) (frok hR9 (Nat.le_of_ble_eq_true rfl) (Nat.le_of_ble_eq_true rfl)) (roomk hR9 (Nat.le_of_ble_eq_true rfl) (Nat.le_of_ble_eq_true rfl)) rfl rfl (Nat.le_of_ble_eq_true rfl) [8, 1] [0, 2, 3, 4, 5, 6, 7, 9, 10] (wr := [((adA 11), .inl (gZ (kG K), 160, .inl fisKnown)), ((adA 6), .inl (gI (kG K), 320, .inl fone)), ((adA 7), .inl (gI (kG K), 320, .inl ftwo)), ((adA 8), .inl (gI (kG K), 320, .inl frest)), (adm, .inr (10, oM adA o_names o_rows o_strength o_most o_toldGraph o_toldArc)), ((adA 1), .inl (gI (kG K), 5, .inl fvalues)), ((adA 3), .inl (gI (kG K), 80, .inl fcells)), ((adA 12), .inl (gI (kG K), 1280, .inl r_2.1)), ((adA 14), .inl (gI (kG K), 320, .inl r_3))]) rfl rfl (by decide) (by decide) (by decide) ?_
    intro v9 w9 hp9
    obtain ⟨rfl, rfl⟩ := hp9
    show V K 4 [((adA 11), .inl (gZ (kG K), 160, .inl fisKnown)), ((adA 6), .inl (gI (kG K), 320, .inl fone)), ((adA 7), .inl (gI (kG K), 320, .inl ftwo)), ((adA 8), .inl (gI (kG K), 320, .inl frest)), (adm, .inr (10, oM adA o_names o_rows o_strength o_most o_toldGraph o_toldArc)), ((adA 1), .inl (gI (kG K), 5, .inl fvalues)), ((adA 3), .inl (gI (kG K), 80, .inl fcells)), ((adA 12), .inl (gI (kG K), 1280, .inl r_2.1)), ((adA 14), .inl (gI (kG K), 320, .inl r_3)), ((adA 13), .inl (gI (kG K), 1280, .inl r_2.2)), ((adA 15), .inl (gI (kG K), 320, .inl r_4))] 0 0 50 [(0, .ref adm), (1, .int nm), (2, .int se), (3, .int r_1)] []
    refine v_aload_n hk dX11_family_50 rfl ?_
    refine v_aload_n hk dX11_family_51 rfl ?_
    refine v_get (C := RX11) (T := TX11) (N := 39) (ci := 10) (v := .ref (adA 14)) hk dX11_family_52 w2i_X11_family_X110 4 rfl rfl 14 (by decide) (by decide +kernel) rfl rfl ?_
    refine v_aload_n hk dX11_family_55 rfl ?_
    refine v_get (C := RX11) (T := TX11) (N := 39) (ci := 10) (v := .ref (adA 15)) hk dX11_family_56 w2i_X11_family_X110 4 rfl rfl 15 (by decide) (by decide +kernel) rfl rfl ?_
    obtain ⟨r_5, er_5, h⟩ := bd_e (g := id) rfl h
    refine v_callV (n := 2) (st := []) (b := adm) (T := TX11) (N := 39) hk dX11_family_59 (c_X11_common (kl K) (kG K) adm adA (adA 14) (adA 15) o_names o_rows o_strength o_most o_toldGraph o_toldArc fone ftwo frest 320 r_3 320 r_4 r_5 er_5) rfl gd_X11_family_X11_common rfl (by decide +kernel) (frok hR9 (Nat.le_of_ble_eq_true rfl) (Nat.le_of_ble_eq_true rfl)) (roomk hR9 (Nat.le_of_ble_eq_true rfl) (Nat.le_of_ble_eq_true rfl)) rfl rfl (Nat.le_of_ble_eq_true rfl) 4 rfl rfl [4, 1, 2, 3, 8, 10] [0, 5, 6, 7, 9] (wr := [((adA 11), .inl (gZ (kG K), 160, .inl fisKnown)), ((adA 1), .inl (gI (kG K), 5, .inl fvalues)), ((adA 3), .inl (gI (kG K), 80, .inl fcells)), ((adA 12), .inl (gI (kG K), 1280, .inl r_2.1)), ((adA 13), .inl (gI (kG K), 1280, .inl r_2.2))]) rfl rfl (by decide) (by decide) (by decide) ?_
    intro v9 w9 hp9
    obtain ⟨rfl, rfl⟩ := hp9
    show V K 4 [((adA 11), .inl (gZ (kG K), 160, .inl fisKnown)), ((adA 1), .inl (gI (kG K), 5, .inl fvalues)), ((adA 3), .inl (gI (kG K), 80, .inl fcells)), ((adA 12), .inl (gI (kG K), 1280, .inl r_2.1)), ((adA 13), .inl (gI (kG K), 1280, .inl r_2.2)), (adm, .inr (10, oM adA o_names o_rows o_strength o_most o_toldGraph o_toldArc)), ((adA 6), .inl (gI (kG K), 320, .inl r_5.1)), ((adA 7), .inl (gI (kG K), 320, .inl r_5.2.1)), ((adA 8), .inl (gI (kG K), 320, .inl r_5.2.2)), ((adA 14), .inl (gI (kG K), 320, .inl r_3)), ((adA 15), .inl (gI (kG K), 320, .inl r_4))] 0 0 62 [(0, .ref adm), (1, .int nm), (2, .int se), (3, .int r_1)] []
    refine v_aload_n hk dX11_family_62 rfl ?_
    refine v_aload_n hk dX11_family_63 rfl ?_
    refine v_get (C := RX11) (T := TX11) (N := 39) (ci := 10) (v := .ref (adA 14)) hk dX11_family_64 w2i_X11_family_X110 5 rfl rfl 14 (by decide) (by decide +kernel) rfl rfl ?_
    obtain ⟨r_6, er_6, h⟩ := bd_e (g := id) rfl h
    refine v_callV (n := 1) (st := []) (b := adm) (T := TX11) (N := 39) hk dX11_family_67 (c_X11_divide (kl K) (kG K) adm adA (adA 14) o_names o_rows o_strength o_most o_toldGraph o_toldArc r_5.1 r_5.2.2 320 r_3 r_6 er_6) rfl gd_X11_family_X11_divide rfl (by decide +kernel) (frok hR9 (Nat.le_of_ble_eq_true rfl) (Nat.le_of_ble_eq_true rfl)) (roomk hR9 (Nat.le_of_ble_eq_true rfl) (Nat.le_of_ble_eq_true rfl)) rfl rfl (Nat.le_of_ble_eq_true rfl) 5 rfl rfl [5, 6, 8, 9] [0, 1, 2, 3, 4, 7, 10] (wr := [((adA 11), .inl (gZ (kG K), 160, .inl fisKnown)), ((adA 1), .inl (gI (kG K), 5, .inl fvalues)), ((adA 3), .inl (gI (kG K), 80, .inl fcells)), ((adA 12), .inl (gI (kG K), 1280, .inl r_2.1)), ((adA 13), .inl (gI (kG K), 1280, .inl r_2.2)), ((adA 7), .inl (gI (kG K), 320, .inl r_5.2.1)), ((adA 15), .inl (gI (kG K), 320, .inl r_4))]) rfl rfl (by decide) (by decide) (by decide) ?_
    intro v9 w9 hp9
    obtain ⟨rfl, rfl⟩ := hp9
    show V K 4 [((adA 11), .inl (gZ (kG K), 160, .inl fisKnown)), ((adA 1), .inl (gI (kG K), 5, .inl fvalues)), ((adA 3), .inl (gI (kG K), 80, .inl fcells)), ((adA 12), .inl (gI (kG K), 1280, .inl r_2.1)), ((adA 13), .inl (gI (kG K), 1280, .inl r_2.2)), ((adA 7), .inl (gI (kG K), 320, .inl r_5.2.1)), ((adA 15), .inl (gI (kG K), 320, .inl r_4)), (adm, .inr (10, oM adA o_names o_rows o_strength o_most o_toldGraph o_toldArc)), ((adA 6), .inl (gI (kG K), 320, .inl r_5.1)), ((adA 8), .inl (gI (kG K), 320, .inl r_6.1)), ((adA 14), .inl (gI (kG K), 320, .inl r_6.2))] 0 0 70 [(0, .ref adm), (1, .int nm), (2, .int se), (3, .int r_1)] []
    refine v_aload_n hk dX11_family_70 rfl ?_
    refine v_get (C := RX11) (T := TX11) (N := 39) (ci := 10) (v := .ref (adA 14)) hk dX11_family_71 w2i_X11_family_X110 7 rfl rfl 14 (by decide) (by decide +kernel) rfl rfl ?_
    refine v_aload_n hk dX11_family_74 rfl ?_
    refine v_get (C := RX11) (T := TX11) (N := 39) (ci := 10) (v := .ref (adA 12)) hk dX11_family_75 w2i_X11_family_X110 7 rfl rfl 12 (by decide) (by decide +kernel) rfl rfl ?_
    refine v_iload_n hk dX11_family_78 rfl ?_
    obtain ⟨r_7, er_7, h⟩ := bd_e (g := id) rfl h
    refine v_callS (n := 3) (st := []) hk dX11_family_79 (c_X11_store (kl K) (kG K) (adA 14) (adA 12) 320 r_6.2 1280 r_2.1 r_1 r_7 er_7) gd_X11_family_X11_store rfl (by decide +kernel) (frok hR9 (Nat.le_of_ble_eq_true rfl) (Nat.le_of_ble_eq_true rfl)) (roomk hR9 (Nat.le_of_ble_eq_true rfl) (Nat.le_of_ble_eq_true rfl)) rfl rfl (Nat.le_of_ble_eq_true rfl) [10, 3] [0, 1, 2, 4, 5, 6, 7, 8, 9] (wr := [((adA 11), .inl (gZ (kG K), 160, .inl fisKnown)), ((adA 1), .inl (gI (kG K), 5, .inl fvalues)), ((adA 3), .inl (gI (kG K), 80, .inl fcells)), ((adA 13), .inl (gI (kG K), 1280, .inl r_2.2)), ((adA 7), .inl (gI (kG K), 320, .inl r_5.2.1)), ((adA 15), .inl (gI (kG K), 320, .inl r_4)), (adm, .inr (10, oM adA o_names o_rows o_strength o_most o_toldGraph o_toldArc)), ((adA 6), .inl (gI (kG K), 320, .inl r_5.1)), ((adA 8), .inl (gI (kG K), 320, .inl r_6.1))]) rfl rfl (by decide) (by decide) (by decide) ?_
    intro v9 w9 hp9
    obtain ⟨rfl, rfl⟩ := hp9
    show V K 4 [((adA 11), .inl (gZ (kG K), 160, .inl fisKnown)), ((adA 1), .inl (gI (kG K), 5, .inl fvalues)), ((adA 3), .inl (gI (kG K), 80, .inl fcells)), ((adA 13), .inl (gI (kG K), 1280, .inl r_2.2)), ((adA 7), .inl (gI (kG K), 320, .inl r_5.2.1)), ((adA 15), .inl (gI (kG K), 320, .inl r_4)), (adm, .inr (10, oM adA o_names o_rows o_strength o_most o_toldGraph o_toldArc)), ((adA 6), .inl (gI (kG K), 320, .inl r_5.1)), ((adA 8), .inl (gI (kG K), 320, .inl r_6.1)), ((adA 14), .inl (gI (kG K), 320, .inl r_6.2)), ((adA 12), .inl (gI (kG K), 1280, .inl r_7))] 0 0 82 [(0, .ref adm), (1, .int nm), (2, .int se), (3, .int r_1)] []
    refine v_aload_n hk dX11_family_82 rfl ?_
    refine v_aload_n hk dX11_family_83 rfl ?_
    refine v_get (C := RX11) (T := TX11) (N := 39) (ci := 10) (v := .ref (adA 15)) hk dX11_family_84 w2i_X11_family_X110 6 rfl rfl 15 (by decide) (by decide +kernel) rfl rfl ?_
    obtain ⟨r_8, er_8, h⟩ := bd_e (g := id) rfl h
    refine v_callV (n := 1) (st := []) (b := adm) (T := TX11) (N := 39) hk dX11_family_87 (c_X11_divide (kl K) (kG K) adm adA (adA 15) o_names o_rows o_strength o_most o_toldGraph o_toldArc r_5.1 r_6.1 320 r_4 r_8 er_8) rfl gd_X11_family_X11_divide rfl (by decide +kernel) (frok hR9 (Nat.le_of_ble_eq_true rfl) (Nat.le_of_ble_eq_true rfl)) (roomk hR9 (Nat.le_of_ble_eq_true rfl) (Nat.le_of_ble_eq_true rfl)) rfl rfl (Nat.le_of_ble_eq_true rfl) 6 rfl rfl [6, 7, 8, 5] [0, 1, 2, 3, 4, 9, 10] (wr := [((adA 11), .inl (gZ (kG K), 160, .inl fisKnown)), ((adA 1), .inl (gI (kG K), 5, .inl fvalues)), ((adA 3), .inl (gI (kG K), 80, .inl fcells)), ((adA 13), .inl (gI (kG K), 1280, .inl r_2.2)), ((adA 7), .inl (gI (kG K), 320, .inl r_5.2.1)), ((adA 14), .inl (gI (kG K), 320, .inl r_6.2)), ((adA 12), .inl (gI (kG K), 1280, .inl r_7))]) rfl rfl (by decide) (by decide) (by decide) ?_
    intro v9 w9 hp9
    obtain ⟨rfl, rfl⟩ := hp9
    show V K 4 [((adA 11), .inl (gZ (kG K), 160, .inl fisKnown)), ((adA 1), .inl (gI (kG K), 5, .inl fvalues)), ((adA 3), .inl (gI (kG K), 80, .inl fcells)), ((adA 13), .inl (gI (kG K), 1280, .inl r_2.2)), ((adA 7), .inl (gI (kG K), 320, .inl r_5.2.1)), ((adA 14), .inl (gI (kG K), 320, .inl r_6.2)), ((adA 12), .inl (gI (kG K), 1280, .inl r_7)), (adm, .inr (10, oM adA o_names o_rows o_strength o_most o_toldGraph o_toldArc)), ((adA 6), .inl (gI (kG K), 320, .inl r_5.1)), ((adA 8), .inl (gI (kG K), 320, .inl r_8.1)), ((adA 15), .inl (gI (kG K), 320, .inl r_8.2))] 0 0 90 [(0, .ref adm), (1, .int nm), (2, .int se), (3, .int r_1)] []
    refine v_aload_n hk dX11_family_90 rfl ?_
    refine v_get (C := RX11) (T := TX11) (N := 39) (ci := 10) (v := .ref (adA 15)) hk dX11_family_91 w2i_X11_family_X110 7 rfl rfl 15 (by decide) (by decide +kernel) rfl rfl ?_
    refine v_aload_n hk dX11_family_94 rfl ?_
    refine v_get (C := RX11) (T := TX11) (N := 39) (ci := 10) (v := .ref (adA 13)) hk dX11_family_95 w2i_X11_family_X110 7 rfl rfl 13 (by decide) (by decide +kernel) rfl rfl ?_
    refine v_iload_n hk dX11_family_98 rfl ?_
    obtain ⟨r_9, er_9, h⟩ := bd_e (g := id) rfl h
    refine v_callS (n := 3) (st := []) hk dX11_family_99 (c_X11_store (kl K) (kG K) (adA 15) (adA 13) 320 r_8.2 1280 r_2.2 r_1 r_9 er_9) gd_X11_family_X11_store rfl (by decide +kernel) (frok hR9 (Nat.le_of_ble_eq_true rfl) (Nat.le_of_ble_eq_true rfl)) (roomk hR9 (Nat.le_of_ble_eq_true rfl) (Nat.le_of_ble_eq_true rfl)) rfl rfl (Nat.le_of_ble_eq_true rfl) [10, 3] [0, 1, 2, 4, 5, 6, 7, 8, 9] (wr := [((adA 11), .inl (gZ (kG K), 160, .inl fisKnown)), ((adA 1), .inl (gI (kG K), 5, .inl fvalues)), ((adA 3), .inl (gI (kG K), 80, .inl fcells)), ((adA 7), .inl (gI (kG K), 320, .inl r_5.2.1)), ((adA 14), .inl (gI (kG K), 320, .inl r_6.2)), ((adA 12), .inl (gI (kG K), 1280, .inl r_7)), (adm, .inr (10, oM adA o_names o_rows o_strength o_most o_toldGraph o_toldArc)), ((adA 6), .inl (gI (kG K), 320, .inl r_5.1)), ((adA 8), .inl (gI (kG K), 320, .inl r_8.1))]) rfl rfl (by decide) (by decide) (by decide) ?_
    intro v9 w9 hp9
    obtain ⟨rfl, rfl⟩ := hp9
    show V K 4 [((adA 11), .inl (gZ (kG K), 160, .inl fisKnown)), ((adA 1), .inl (gI (kG K), 5, .inl fvalues)), ((adA 3), .inl (gI (kG K), 80, .inl fcells)), ((adA 7), .inl (gI (kG K), 320, .inl r_5.2.1)), ((adA 14), .inl (gI (kG K), 320, .inl r_6.2)), ((adA 12), .inl (gI (kG K), 1280, .inl r_7)), (adm, .inr (10, oM adA o_names o_rows o_strength o_most o_toldGraph o_toldArc)), ((adA 6), .inl (gI (kG K), 320, .inl r_5.1)), ((adA 8), .inl (gI (kG K), 320, .inl r_8.1)), ((adA 15), .inl (gI (kG K), 320, .inl r_8.2)), ((adA 13), .inl (gI (kG K), 1280, .inl r_9))] 0 0 102 [(0, .ref adm), (1, .int nm), (2, .int se), (3, .int r_1)] []
    refine v_aload_n hk dX11_family_102 rfl ?_
    refine v_get (C := RX11) (T := TX11) (N := 39) (ci := 10) (v := .ref (adA 11)) hk dX11_family_103 w2i_X11_family_X110 6 rfl rfl 11 (by decide) (by decide +kernel) rfl rfl ?_
    refine v_bipush (v := 32) hk dX11_family_106 (by decide) ?_
    refine v_iload_n hk dX11_family_108 rfl ?_
    refine v_imul hk dX11_family_109 ?_
    refine v_iload_n hk dX11_family_110 rfl ?_
    refine v_iadd hk dX11_family_111 ?_
    refine v_iconst (v := 1) hk dX11_family_112 (by decide) ?_
    obtain ⟨hi, h⟩ := ok_e (g := id) rfl h
    obtain ⟨fisKnown_10, efisKnown_10, h⟩ := lt_e (g := id) h
    refine v_zastV hk dX11_family_113 0 rfl (ix_in hi) (bz_1) (ws' := [((adA 11), .inl (gZ (kG K), 160, .inl fisKnown_10)), ((adA 1), .inl (gI (kG K), 5, .inl fvalues)), ((adA 3), .inl (gI (kG K), 80, .inl fcells)), ((adA 7), .inl (gI (kG K), 320, .inl r_5.2.1)), ((adA 14), .inl (gI (kG K), 320, .inl r_6.2)), ((adA 12), .inl (gI (kG K), 1280, .inl r_7)), (adm, .inr (10, oM adA o_names o_rows o_strength o_most o_toldGraph o_toldArc)), ((adA 6), .inl (gI (kG K), 320, .inl r_5.1)), ((adA 8), .inl (gI (kG K), 320, .inl r_8.1)), ((adA 15), .inl (gI (kG K), 320, .inl r_8.2)), ((adA 13), .inl (gI (kG K), 1280, .inl r_9))]) (by rw [efisKnown_10]; rfl) ?_
    refine v_iload_n hk dX11_family_114 rfl ?_
    replace h : some (r_1, fisKnown_10, r_7, r_9, r_6.2, r_8.2, r_5.1, r_5.2.1, r_8.1) = some r := h
    replace h := Option.some.inj h
    subst h
    refine v_perm [6, 1, 2, 0, 5, 10, 4, 9, 7, 3, 8] (ws' := [(adm, .inr (10, oM adA o_names o_rows o_strength o_most o_toldGraph o_toldArc)), ((adA 1), .inl (gI (kG K), 5, .inl fvalues)), ((adA 3), .inl (gI (kG K), 80, .inl fcells)), ((adA 11), .inl (gZ (kG K), 160, .inl fisKnown_10)), ((adA 12), .inl (gI (kG K), 1280, .inl r_7)), ((adA 13), .inl (gI (kG K), 1280, .inl r_9)), ((adA 14), .inl (gI (kG K), 320, .inl r_6.2)), ((adA 15), .inl (gI (kG K), 320, .inl r_8.2)), ((adA 6), .inl (gI (kG K), 320, .inl r_5.1)), ((adA 7), .inl (gI (kG K), 320, .inl r_5.2.1)), ((adA 8), .inl (gI (kG K), 320, .inl r_8.1))]) rfl rfl (by decide) ?_
    refine hrt (some (.int r_1)) _ _ _ _ _ (⟨rfl, rfl⟩) (Nat.zero_le _) (Nat.zero_le _) (dX11_family_115)
abbrev rm_X11_multiply : Room := { frames := 2, cells := 0, slots := 0, locals := 51 }
set_option maxHeartbeats 4000000 in
set_option maxRecDepth 100000 in
theorem c_X11_multiply (l : Launch) (G : GG) (adm : Nat) (adA : Nat → Nat) (adx : Nat) (ady : Nat) (o_names : Int32) (o_rows : Int32) (o_strength : Int32) (o_most : Int32) (o_toldGraph : Int32) (o_toldArc : Int32) (ffactor : Nat → Int32) (fmade : Nat → Int32) (nx : Nat) (fx : Nat → Int32) (ny : Nat) (fy : Nat → Int32) (p : Int32) (r : (Nat → Int32) × (Nat → Int32) × (Nat → Int32)) (h : m_X11_multiply o_names o_rows o_strength o_most o_toldGraph o_toldArc ffactor fmade nx fx ny fy p = some r) : Ctr l G yX11_multiply w2_X11_multiply rm_X11_multiply [.ref adm, .ref adx, .ref ady, .int p] [(adm, .inr (10, oM adA o_names o_rows o_strength o_most o_toldGraph o_toldArc)), ((adA 16), .inl (gI G, 320, .inl ffactor)), ((adA 17), .inl (gI G, 320, .inl fmade)), (adx, .inl (gI G, nx, .inl fx)), (ady, .inl (gI G, ny, .inl fy))] (fun v w => v = none ∧ w = [(adm, .inr (10, oM adA o_names o_rows o_strength o_most o_toldGraph o_toldArc)), ((adA 16), .inl (gI G, 320, .inl r.1)), ((adA 17), .inl (gI G, 320, .inl r.2.1)), (adx, .inl (gI G, nx, .inl r.2.2)), (ady, .inl (gI G, ny, .inl fy))]) := by
  refine ctr_entry (cc := cX11_multiply) (maxL := 4) (ret := none) (lv0 := [(0, .ref adm), (1, .ref adx), (2, .ref ady), (3, .int p)]) (by decide) rfl (Nat.le_of_ble_eq_true rfl) (rfl) ?_
  intro K hl9 hG9 hk hn9 hrt
  subst hl9
  subst hG9
  have hR9 : RoomGe rm_X11_multiply rm_X11_multiply := RoomGe.rf
  replace h := id_e h
  rw [em_X11_multiply] at h
  refine v_aload_n hk dX11_multiply_0 rfl ?_
  refine v_iload_n hk dX11_multiply_1 rfl ?_
  refine v_aload_n hk dX11_multiply_2 rfl ?_
  refine v_get (C := RX11) (T := TX11) (N := 39) (ci := 10) (v := .ref (adA 16)) hk dX11_multiply_3 w2i_X11_multiply_X110 0 rfl rfl 16 (by decide) (by decide +kernel) rfl rfl ?_
  obtain ⟨r_1, er_1, h⟩ := bd_e (g := id) rfl h
  refine v_callS (n := 3) (st := []) hk dX11_multiply_6 (c_X11_load (kl K) (kG K) ady (adA 16) ny fy 320 ffactor p r_1 er_1) gd_X11_multiply_X11_load rfl (by decide +kernel) (frok hR9 (Nat.le_of_ble_eq_true rfl) (Nat.le_of_ble_eq_true rfl)) (roomk hR9 (Nat.le_of_ble_eq_true rfl) (Nat.le_of_ble_eq_true rfl)) rfl rfl (Nat.le_of_ble_eq_true rfl) [4, 1] [0, 2, 3] (wr := [(adm, .inr (10, oM adA o_names o_rows o_strength o_most o_toldGraph o_toldArc)), ((adA 17), .inl (gI (kG K), 320, .inl fmade)), (adx, .inl (gI (kG K), nx, .inl fx))]) rfl rfl (by decide) (by decide) (by decide) ?_
  intro v9 w9 hp9
  obtain ⟨rfl, rfl⟩ := hp9
  show V K 4 [(adm, .inr (10, oM adA o_names o_rows o_strength o_most o_toldGraph o_toldArc)), ((adA 17), .inl (gI (kG K), 320, .inl fmade)), (adx, .inl (gI (kG K), nx, .inl fx)), (ady, .inl (gI (kG K), ny, .inl fy)), ((adA 16), .inl (gI (kG K), 320, .inl r_1))] 0 0 9 [(0, .ref adm), (1, .ref adx), (2, .ref ady), (3, .int p)] []
  refine v_aload_n hk dX11_multiply_9 rfl ?_
  refine v_aload_n hk dX11_multiply_10 rfl ?_
  refine v_get (C := RX11) (T := TX11) (N := 39) (ci := 10) (v := .ref (adA 16)) hk dX11_multiply_11 w2i_X11_multiply_X110 0 rfl rfl 16 (by decide) (by decide +kernel) rfl rfl ?_
  refine v_aload_n hk dX11_multiply_14 rfl ?_
  refine v_get (C := RX11) (T := TX11) (N := 39) (ci := 10) (v := .ref (adA 17)) hk dX11_multiply_15 w2i_X11_multiply_X110 0 rfl rfl 17 (by decide) (by decide +kernel) rfl rfl ?_
  obtain ⟨r_2, er_2, h⟩ := bd_e (g := id) rfl h
  refine v_callS (n := 3) (st := []) hk dX11_multiply_18 (c_X11_times (kl K) (kG K) adx (adA 16) (adA 17) nx fx 320 r_1 320 fmade r_2 er_2) gd_X11_multiply_X11_times rfl (by decide +kernel) (frok hR9 (Nat.le_of_ble_eq_true rfl) (Nat.le_of_ble_eq_true rfl)) (roomk hR9 (Nat.le_of_ble_eq_true rfl) (Nat.le_of_ble_eq_true rfl)) rfl rfl (Nat.le_of_ble_eq_true rfl) [2, 4, 1] [0, 3] (wr := [(adm, .inr (10, oM adA o_names o_rows o_strength o_most o_toldGraph o_toldArc)), (ady, .inl (gI (kG K), ny, .inl fy))]) rfl rfl (by decide) (by decide) (by decide) ?_
  intro v9 w9 hp9
  obtain ⟨rfl, rfl⟩ := hp9
  show V K 4 [(adm, .inr (10, oM adA o_names o_rows o_strength o_most o_toldGraph o_toldArc)), (ady, .inl (gI (kG K), ny, .inl fy)), (adx, .inl (gI (kG K), nx, .inl fx)), ((adA 16), .inl (gI (kG K), 320, .inl r_1)), ((adA 17), .inl (gI (kG K), 320, .inl r_2))] 0 0 21 [(0, .ref adm), (1, .ref adx), (2, .ref ady), (3, .int p)] []
  refine v_aload_n hk dX11_multiply_21 rfl ?_
  refine v_get (C := RX11) (T := TX11) (N := 39) (ci := 10) (v := .ref (adA 17)) hk dX11_multiply_22 w2i_X11_multiply_X110 0 rfl rfl 17 (by decide) (by decide +kernel) rfl rfl ?_
  refine v_aload_n hk dX11_multiply_25 rfl ?_
  obtain ⟨r_3, er_3, h⟩ := bd_e (g := id) rfl h
  refine v_callS (n := 2) (st := []) hk dX11_multiply_26 (c_X11_copy (kl K) (kG K) (adA 17) adx 320 r_2 nx fx r_3 er_3) gd_X11_multiply_X11_copy rfl (by decide +kernel) (frok hR9 (Nat.le_of_ble_eq_true rfl) (Nat.le_of_ble_eq_true rfl)) (roomk hR9 (Nat.le_of_ble_eq_true rfl) (Nat.le_of_ble_eq_true rfl)) rfl rfl (Nat.le_of_ble_eq_true rfl) [4, 2] [0, 1, 3] (wr := [(adm, .inr (10, oM adA o_names o_rows o_strength o_most o_toldGraph o_toldArc)), (ady, .inl (gI (kG K), ny, .inl fy)), ((adA 16), .inl (gI (kG K), 320, .inl r_1))]) rfl rfl (by decide) (by decide) (by decide) ?_
  intro v9 w9 hp9
  obtain ⟨rfl, rfl⟩ := hp9
  show V K 4 [(adm, .inr (10, oM adA o_names o_rows o_strength o_most o_toldGraph o_toldArc)), (ady, .inl (gI (kG K), ny, .inl fy)), ((adA 16), .inl (gI (kG K), 320, .inl r_1)), ((adA 17), .inl (gI (kG K), 320, .inl r_2)), (adx, .inl (gI (kG K), nx, .inl r_3))] 0 0 29 [(0, .ref adm), (1, .ref adx), (2, .ref ady), (3, .int p)] []
  replace h : some (r_1, r_2, r_3) = some r := h
  replace h := Option.some.inj h
  subst h
  refine v_perm [0, 2, 3, 4, 1] (ws' := [(adm, .inr (10, oM adA o_names o_rows o_strength o_most o_toldGraph o_toldArc)), ((adA 16), .inl (gI (kG K), 320, .inl r_1)), ((adA 17), .inl (gI (kG K), 320, .inl r_2)), (adx, .inl (gI (kG K), nx, .inl r_3)), (ady, .inl (gI (kG K), ny, .inl fy))]) rfl rfl (by decide) ?_
  refine hrt (none) _ _ _ _ _ (⟨rfl, rfl⟩) (Nat.zero_le _) (Nat.zero_le _) (dX11_multiply_29)
abbrev rm_X11_fit : Room := { frames := 4, cells := 0, slots := 0, locals := 97 }
set_option maxHeartbeats 4000000 in
set_option maxRecDepth 100000 in
theorem L_X11_fit_13 {K : Cx} {R9 : Room} (hk : Ok K cX11_fit 6 RX11 w2_X11_fit R9) (hR9 : RoomGe R9 rm_X11_fit) (adm : Nat) (adA : Nat → Nat) (adx : Nat) (ady : Nat) (o_names : Int32) (o_rows : Int32) (o_strength : Int32) (o_most : Int32) (o_toldGraph : Int32) (o_toldArc : Int32) (fvalues : Nat → Int32) (fcells : Nat → Int32) (nx : Nat) (ny : Nat) (gr : Int32) (b9 : (Int32 × (Nat → Int32) × (Nat → Int32) × (Nat → Int32) × (Nat → Int32) × (Nat → Int32) × (Nat → Int32) × (Nat → Int32) × (Nat → Int32) × (Nat → Int32) × (Nat → Int32) × (Nat → Int32) × (Nat → Int32))) (kk0 : ∀ q9 : (Int32 × (Nat → Int32) × (Nat → Int32) × (Nat → Int32) × (Nat → Int32) × (Nat → Int32) × (Nat → Int32) × (Nat → Int32) × (Nat → Int32) × (Nat → Int32) × (Nat → Int32) × (Nat → Int32) × (Nat → Int32)), b9 = q9 → V K 6 [(adm, .inr (10, oM adA o_names o_rows o_strength o_most o_toldGraph o_toldArc)), ((adA 1), .inl (gI (kG K), 5, .inl fvalues)), ((adA 3), .inl (gI (kG K), 80, .inl fcells)), ((adA 11), .inl (gZ (kG K), 160, .inl q9.2.1)), ((adA 12), .inl (gI (kG K), 1280, .inl q9.2.2.1)), ((adA 13), .inl (gI (kG K), 1280, .inl q9.2.2.2.1)), ((adA 14), .inl (gI (kG K), 320, .inl q9.2.2.2.2.1)), ((adA 15), .inl (gI (kG K), 320, .inl q9.2.2.2.2.2.1)), ((adA 6), .inl (gI (kG K), 320, .inl q9.2.2.2.2.2.2.1)), ((adA 7), .inl (gI (kG K), 320, .inl q9.2.2.2.2.2.2.2.1)), ((adA 8), .inl (gI (kG K), 320, .inl q9.2.2.2.2.2.2.2.2.1)), ((adA 16), .inl (gI (kG K), 320, .inl q9.2.2.2.2.2.2.2.2.2.1)), ((adA 17), .inl (gI (kG K), 320, .inl q9.2.2.2.2.2.2.2.2.2.2.1)), (adx, .inl (gI (kG K), nx, .inl q9.2.2.2.2.2.2.2.2.2.2.2.1)), (ady, .inl (gI (kG K), ny, .inl q9.2.2.2.2.2.2.2.2.2.2.2.2))] 0 0 64 [(0, .ref adm), (1, .int gr), (2, .ref adx), (3, .ref ady), (4, .int q9.1)] []) : ∀ (nn : Nat) (i4_3 : Int32) (fisKnown_4 : Nat → Int32) (ftops_5 : Nat → Int32) (flows_6 : Nat → Int32) (fsmall_7 : Nat → Int32) (flarge_8 : Nat → Int32) (fone_9 : Nat → Int32) (ftwo_10 : Nat → Int32) (frest_11 : Nat → Int32) (ffactor_12 : Nat → Int32) (fmade_13 : Nat → Int32) (fx_14 : Nat → Int32) (fy_15 : Nat → Int32), lp (b_X11_fit_13 o_names o_rows o_strength o_most o_toldGraph o_toldArc fvalues fcells nx ny gr) nn (i4_3, fisKnown_4, ftops_5, flows_6, fsmall_7, flarge_8, fone_9, ftwo_10, frest_11, ffactor_12, fmade_13, fx_14, fy_15) = some b9 → V K 6 [(adm, .inr (10, oM adA o_names o_rows o_strength o_most o_toldGraph o_toldArc)), ((adA 1), .inl (gI (kG K), 5, .inl fvalues)), ((adA 3), .inl (gI (kG K), 80, .inl fcells)), ((adA 11), .inl (gZ (kG K), 160, .inl fisKnown_4)), ((adA 12), .inl (gI (kG K), 1280, .inl ftops_5)), ((adA 13), .inl (gI (kG K), 1280, .inl flows_6)), ((adA 14), .inl (gI (kG K), 320, .inl fsmall_7)), ((adA 15), .inl (gI (kG K), 320, .inl flarge_8)), ((adA 6), .inl (gI (kG K), 320, .inl fone_9)), ((adA 7), .inl (gI (kG K), 320, .inl ftwo_10)), ((adA 8), .inl (gI (kG K), 320, .inl frest_11)), ((adA 16), .inl (gI (kG K), 320, .inl ffactor_12)), ((adA 17), .inl (gI (kG K), 320, .inl fmade_13)), (adx, .inl (gI (kG K), nx, .inl fx_14)), (ady, .inl (gI (kG K), ny, .inl fy_15))] 0 0 13 [(0, .ref adm), (1, .int gr), (2, .ref adx), (3, .ref ady), (4, .int i4_3)] [] := by
  intro nn
  induction nn with
  | zero => intro i4_3 fisKnown_4 ftops_5 flows_6 fsmall_7 flarge_8 fone_9 ftwo_10 frest_11 ffactor_12 fmade_13 fx_14 fy_15 h; exact absurd h (by simp [lp])
  | succ nn ih =>
    intro i4_3 fisKnown_4 ftops_5 flows_6 fsmall_7 flarge_8 fone_9 ftwo_10 frest_11 ffactor_12 fmade_13 fx_14 fy_15 h
    replace h := lp_s h
    rw [eb_X11_fit_13] at h
    refine v_iload hk dX11_fit_13 rfl ?_
    refine v_aload_n hk dX11_fit_15 rfl ?_
    refine v_get (C := RX11) (T := TX11) (N := 39) (ci := 10) (v := .int o_names) hk dX11_fit_16 w2i_X11_fit_X110 0 rfl rfl 0 (by decide) (by decide +kernel) rfl rfl ?_
    refine v_icmp_ge (tgt := 64) hk dX11_fit_19 (by decide) (fun hc => ?_) (fun hc => ?_)
    · replace h := it_t (g := (lpk (lp (b_X11_fit_13 o_names o_rows o_strength o_most o_toldGraph o_toldArc fvalues fcells nx ny gr) nn))) h hc
      replace h : some (i4_3, fisKnown_4, ftops_5, flows_6, fsmall_7, flarge_8, fone_9, ftwo_10, frest_11, ffactor_12, fmade_13, fx_14, fy_15) = some b9 := h
      replace h := Option.some.inj h
      subst h
      exact kk0 _ rfl
    · replace h := it_f (g := (lpk (lp (b_X11_fit_13 o_names o_rows o_strength o_most o_toldGraph o_toldArc fvalues fcells nx ny gr) nn))) h hc
      refine v_aload_n hk dX11_fit_22 rfl ?_
      refine v_iload hk dX11_fit_23 rfl ?_
      refine v_iload_n hk dX11_fit_25 rfl ?_
      refine v_iload hk dX11_fit_26 rfl ?_
      obtain ⟨r_16, er_16, h⟩ := bd_e (g := (lpk (lp (b_X11_fit_13 o_names o_rows o_strength o_most o_toldGraph o_toldArc fvalues fcells nx ny gr) nn))) rfl h
      refine v_callS (n := 2) (st := [.int i4_3, .ref adm]) hk dX11_fit_28 (c_X11_parentsOf (kl K) (kG K) gr i4_3 r_16 er_16) gd_X11_fit_X11_parentsOf rfl (by decide +kernel) (frok hR9 (Nat.le_of_ble_eq_true rfl) (Nat.le_of_ble_eq_true rfl)) (roomk hR9 (Nat.le_of_ble_eq_true rfl) (Nat.le_of_ble_eq_true rfl)) rfl rfl (Nat.le_of_ble_eq_true rfl) [] [0, 1, 2, 3, 4, 5, 6, 7, 8, 9, 10, 11, 12, 13, 14] (wr := [(adm, .inr (10, oM adA o_names o_rows o_strength o_most o_toldGraph o_toldArc)), ((adA 1), .inl (gI (kG K), 5, .inl fvalues)), ((adA 3), .inl (gI (kG K), 80, .inl fcells)), ((adA 11), .inl (gZ (kG K), 160, .inl fisKnown_4)), ((adA 12), .inl (gI (kG K), 1280, .inl ftops_5)), ((adA 13), .inl (gI (kG K), 1280, .inl flows_6)), ((adA 14), .inl (gI (kG K), 320, .inl fsmall_7)), ((adA 15), .inl (gI (kG K), 320, .inl flarge_8)), ((adA 6), .inl (gI (kG K), 320, .inl fone_9)), ((adA 7), .inl (gI (kG K), 320, .inl ftwo_10)), ((adA 8), .inl (gI (kG K), 320, .inl frest_11)), ((adA 16), .inl (gI (kG K), 320, .inl ffactor_12)), ((adA 17), .inl (gI (kG K), 320, .inl fmade_13)), (adx, .inl (gI (kG K), nx, .inl fx_14)), (ady, .inl (gI (kG K), ny, .inl fy_15))]) rfl rfl (by decide) (by decide) (by decide) ?_
      intro v9 w9 hp9
      obtain ⟨rfl, rfl⟩ := hp9
      show V K 6 [(adm, .inr (10, oM adA o_names o_rows o_strength o_most o_toldGraph o_toldArc)), ((adA 1), .inl (gI (kG K), 5, .inl fvalues)), ((adA 3), .inl (gI (kG K), 80, .inl fcells)), ((adA 11), .inl (gZ (kG K), 160, .inl fisKnown_4)), ((adA 12), .inl (gI (kG K), 1280, .inl ftops_5)), ((adA 13), .inl (gI (kG K), 1280, .inl flows_6)), ((adA 14), .inl (gI (kG K), 320, .inl fsmall_7)), ((adA 15), .inl (gI (kG K), 320, .inl flarge_8)), ((adA 6), .inl (gI (kG K), 320, .inl fone_9)), ((adA 7), .inl (gI (kG K), 320, .inl ftwo_10)), ((adA 8), .inl (gI (kG K), 320, .inl frest_11)), ((adA 16), .inl (gI (kG K), 320, .inl ffactor_12)), ((adA 17), .inl (gI (kG K), 320, .inl fmade_13)), (adx, .inl (gI (kG K), nx, .inl fx_14)), (ady, .inl (gI (kG K), ny, .inl fy_15))] 0 0 31 [(0, .ref adm), (1, .int gr), (2, .ref adx), (3, .ref ady), (4, .int i4_3)] [.int r_16, .int i4_3, .ref adm]
      obtain ⟨r_17, er_17, h⟩ := bd_e (g := (lpk (lp (b_X11_fit_13 o_names o_rows o_strength o_most o_toldGraph o_toldArc fvalues fcells nx ny gr) nn))) rfl h
      refine v_callV (n := 2) (st := []) (b := adm) (T := TX11) (N := 39) hk dX11_fit_31 (c_X11_family (kl K) (kG K) adm adA o_names o_rows o_strength o_most o_toldGraph o_toldArc fvalues fcells fisKnown_4 ftops_5 flows_6 fsmall_7 flarge_8 fone_9 ftwo_10 frest_11 i4_3 r_16 r_17 er_17) rfl gd_X11_fit_X11_family rfl (by decide +kernel) (frok hR9 (Nat.le_of_ble_eq_true rfl) (Nat.le_of_ble_eq_true rfl)) (roomk hR9 (Nat.le_of_ble_eq_true rfl) (Nat.le_of_ble_eq_true rfl)) rfl rfl (Nat.le_of_ble_eq_true rfl) 0 rfl rfl [0, 1, 2, 3, 4, 5, 6, 7, 8, 9, 10] [11, 12, 13, 14] (wr := [((adA 16), .inl (gI (kG K), 320, .inl ffactor_12)), ((adA 17), .inl (gI (kG K), 320, .inl fmade_13)), (adx, .inl (gI (kG K), nx, .inl fx_14)), (ady, .inl (gI (kG K), ny, .inl fy_15))]) rfl rfl (by decide) (by decide) (by decide) ?_
      intro v9 w9 hp9
      obtain ⟨rfl, rfl⟩ := hp9
      show V K 6 [((adA 16), .inl (gI (kG K), 320, .inl ffactor_12)), ((adA 17), .inl (gI (kG K), 320, .inl fmade_13)), (adx, .inl (gI (kG K), nx, .inl fx_14)), (ady, .inl (gI (kG K), ny, .inl fy_15)), (adm, .inr (10, oM adA o_names o_rows o_strength o_most o_toldGraph o_toldArc)), ((adA 1), .inl (gI (kG K), 5, .inl fvalues)), ((adA 3), .inl (gI (kG K), 80, .inl fcells)), ((adA 11), .inl (gZ (kG K), 160, .inl r_17.2.1)), ((adA 12), .inl (gI (kG K), 1280, .inl r_17.2.2.1)), ((adA 13), .inl (gI (kG K), 1280, .inl r_17.2.2.2.1)), ((adA 14), .inl (gI (kG K), 320, .inl r_17.2.2.2.2.1)), ((adA 15), .inl (gI (kG K), 320, .inl r_17.2.2.2.2.2.1)), ((adA 6), .inl (gI (kG K), 320, .inl r_17.2.2.2.2.2.2.1)), ((adA 7), .inl (gI (kG K), 320, .inl r_17.2.2.2.2.2.2.2.1)), ((adA 8), .inl (gI (kG K), 320, .inl r_17.2.2.2.2.2.2.2.2))] 0 0 34 [(0, .ref adm), (1, .int gr), (2, .ref adx), (3, .ref ady), (4, .int i4_3)] [.int r_17.1]
      refine v_istore hk dX11_fit_34 (by decide) [1, 2, 3, 4, 5, 0] (lv' := [(0, .ref adm), (1, .int gr), (2, .ref adx), (3, .ref ady), (4, .int i4_3), (5, .int r_17.1)]) rfl ?_
      refine v_aload_n hk dX11_fit_36 rfl ?_
      refine v_aload_n hk dX11_fit_37 rfl ?_
      refine v_aload_n hk dX11_fit_38 rfl ?_
      refine v_get (C := RX11) (T := TX11) (N := 39) (ci := 10) (v := .ref (adA 12)) hk dX11_fit_39 w2i_X11_fit_X110 4 rfl rfl 12 (by decide) (by decide +kernel) rfl rfl ?_
      refine v_iload hk dX11_fit_42 rfl ?_
      obtain ⟨r_18, er_18, h⟩ := bd_e (g := (lpk (lp (b_X11_fit_13 o_names o_rows o_strength o_most o_toldGraph o_toldArc fvalues fcells nx ny gr) nn))) rfl h
      refine v_callV (n := 3) (st := []) (b := adm) (T := TX11) (N := 39) hk dX11_fit_44 (c_X11_multiply (kl K) (kG K) adm adA adx (adA 12) o_names o_rows o_strength o_most o_toldGraph o_toldArc ffactor_12 fmade_13 nx fx_14 1280 r_17.2.2.1 r_17.1 r_18 er_18) rfl gd_X11_fit_X11_multiply rfl (by decide +kernel) (frok hR9 (Nat.le_of_ble_eq_true rfl) (Nat.le_of_ble_eq_true rfl)) (roomk hR9 (Nat.le_of_ble_eq_true rfl) (Nat.le_of_ble_eq_true rfl)) rfl rfl (Nat.le_of_ble_eq_true rfl) 4 rfl rfl [4, 0, 1, 2, 8] [3, 5, 6, 7, 9, 10, 11, 12, 13, 14] (wr := [(ady, .inl (gI (kG K), ny, .inl fy_15)), ((adA 1), .inl (gI (kG K), 5, .inl fvalues)), ((adA 3), .inl (gI (kG K), 80, .inl fcells)), ((adA 11), .inl (gZ (kG K), 160, .inl r_17.2.1)), ((adA 13), .inl (gI (kG K), 1280, .inl r_17.2.2.2.1)), ((adA 14), .inl (gI (kG K), 320, .inl r_17.2.2.2.2.1)), ((adA 15), .inl (gI (kG K), 320, .inl r_17.2.2.2.2.2.1)), ((adA 6), .inl (gI (kG K), 320, .inl r_17.2.2.2.2.2.2.1)), ((adA 7), .inl (gI (kG K), 320, .inl r_17.2.2.2.2.2.2.2.1)), ((adA 8), .inl (gI (kG K), 320, .inl r_17.2.2.2.2.2.2.2.2))]) rfl rfl (by decide) (by decide) (by decide) ?_
      intro v9 w9 hp9
      obtain ⟨rfl, rfl⟩ := hp9
      show V K 6 [(ady, .inl (gI (kG K), ny, .inl fy_15)), ((adA 1), .inl (gI (kG K), 5, .inl fvalues)), ((adA 3), .inl (gI (kG K), 80, .inl fcells)), ((adA 11), .inl (gZ (kG K), 160, .inl r_17.2.1)), ((adA 13), .inl (gI (kG K), 1280, .inl r_17.2.2.2.1)), ((adA 14), .inl (gI (kG K), 320, .inl r_17.2.2.2.2.1)), ((adA 15), .inl (gI (kG K), 320, .inl r_17.2.2.2.2.2.1)), ((adA 6), .inl (gI (kG K), 320, .inl r_17.2.2.2.2.2.2.1)), ((adA 7), .inl (gI (kG K), 320, .inl r_17.2.2.2.2.2.2.2.1)), ((adA 8), .inl (gI (kG K), 320, .inl r_17.2.2.2.2.2.2.2.2)), (adm, .inr (10, oM adA o_names o_rows o_strength o_most o_toldGraph o_toldArc)), ((adA 16), .inl (gI (kG K), 320, .inl r_18.1)), ((adA 17), .inl (gI (kG K), 320, .inl r_18.2.1)), (adx, .inl (gI (kG K), nx, .inl r_18.2.2)), ((adA 12), .inl (gI (kG K), 1280, .inl r_17.2.2.1))] 0 0 47 [(0, .ref adm), (1, .int gr), (2, .ref adx), (3, .ref ady), (4, .int i4_3), (5, .int r_17.1)] []
      refine v_aload_n hk dX11_fit_47 rfl ?_
      refine v_aload_n hk dX11_fit_48 rfl ?_
      refine v_aload_n hk dX11_fit_49 rfl ?_
      refine v_get (C := RX11) (T := TX11) (N := 39) (ci := 10) (v := .ref (adA 13)) hk dX11_fit_50 w2i_X11_fit_X110 10 rfl rfl 13 (by decide) (by decide +kernel) rfl rfl ?_
      refine v_iload hk dX11_fit_53 rfl ?_
      obtain ⟨r_19, er_19, h⟩ := bd_e (g := (lpk (lp (b_X11_fit_13 o_names o_rows o_strength o_most o_toldGraph o_toldArc fvalues fcells nx ny gr) nn))) rfl h
      refine v_callV (n := 3) (st := []) (b := adm) (T := TX11) (N := 39) hk dX11_fit_55 (c_X11_multiply (kl K) (kG K) adm adA ady (adA 13) o_names o_rows o_strength o_most o_toldGraph o_toldArc r_18.1 r_18.2.1 ny fy_15 1280 r_17.2.2.2.1 r_17.1 r_19 er_19) rfl gd_X11_fit_X11_multiply rfl (by decide +kernel) (frok hR9 (Nat.le_of_ble_eq_true rfl) (Nat.le_of_ble_eq_true rfl)) (roomk hR9 (Nat.le_of_ble_eq_true rfl) (Nat.le_of_ble_eq_true rfl)) rfl rfl (Nat.le_of_ble_eq_true rfl) 10 rfl rfl [10, 11, 12, 0, 4] [1, 2, 3, 5, 6, 7, 8, 9, 13, 14] (wr := [((adA 1), .inl (gI (kG K), 5, .inl fvalues)), ((adA 3), .inl (gI (kG K), 80, .inl fcells)), ((adA 11), .inl (gZ (kG K), 160, .inl r_17.2.1)), ((adA 14), .inl (gI (kG K), 320, .inl r_17.2.2.2.2.1)), ((adA 15), .inl (gI (kG K), 320, .inl r_17.2.2.2.2.2.1)), ((adA 6), .inl (gI (kG K), 320, .inl r_17.2.2.2.2.2.2.1)), ((adA 7), .inl (gI (kG K), 320, .inl r_17.2.2.2.2.2.2.2.1)), ((adA 8), .inl (gI (kG K), 320, .inl r_17.2.2.2.2.2.2.2.2)), (adx, .inl (gI (kG K), nx, .inl r_18.2.2)), ((adA 12), .inl (gI (kG K), 1280, .inl r_17.2.2.1))]) rfl rfl (by decide) (by decide) (by decide) ?_
      intro v9 w9 hp9
      obtain ⟨rfl, rfl⟩ := hp9
      show V K 6 [((adA 1), .inl (gI (kG K), 5, .inl fvalues)), ((adA 3), .inl (gI (kG K), 80, .inl fcells)), ((adA 11), .inl (gZ (kG K), 160, .inl r_17.2.1)), ((adA 14), .inl (gI (kG K), 320, .inl r_17.2.2.2.2.1)), ((adA 15), .inl (gI (kG K), 320, .inl r_17.2.2.2.2.2.1)), ((adA 6), .inl (gI (kG K), 320, .inl r_17.2.2.2.2.2.2.1)), ((adA 7), .inl (gI (kG K), 320, .inl r_17.2.2.2.2.2.2.2.1)), ((adA 8), .inl (gI (kG K), 320, .inl r_17.2.2.2.2.2.2.2.2)), (adx, .inl (gI (kG K), nx, .inl r_18.2.2)), ((adA 12), .inl (gI (kG K), 1280, .inl r_17.2.2.1)), (adm, .inr (10, oM adA o_names o_rows o_strength o_most o_toldGraph o_toldArc)), ((adA 16), .inl (gI (kG K), 320, .inl r_19.1)), ((adA 17), .inl (gI (kG K), 320, .inl r_19.2.1)), (ady, .inl (gI (kG K), ny, .inl r_19.2.2)), ((adA 13), .inl (gI (kG K), 1280, .inl r_17.2.2.2.1))] 0 0 58 [(0, .ref adm), (1, .int gr), (2, .ref adx), (3, .ref ady), (4, .int i4_3), (5, .int r_17.1)] []
      obtain ⟨x4_20, ex4_20, h⟩ := lt_e (g := (lpk (lp (b_X11_fit_13 o_names o_rows o_strength o_most o_toldGraph o_toldArc fvalues fcells nx ny gr) nn))) h
      refine v_iinc (v := x4_20) hk dX11_fit_58 rfl (by rw [ex4_20]; rfl) (by decide) [1, 2, 3, 4, 0, 5] (lv' := [(0, .ref adm), (1, .int gr), (2, .ref adx), (3, .ref ady), (4, .int x4_20), (5, .int r_17.1)]) rfl ?_
      refine v_goto (tgt := 13) hk dX11_fit_61 (by decide) ?_
      refine v_loc [0, 1, 2, 3, 4] (lv' := [(0, .ref adm), (1, .int gr), (2, .ref adx), (3, .ref ady), (4, .int x4_20)]) rfl ?_
      refine v_perm [10, 0, 1, 2, 9, 14, 3, 4, 5, 6, 7, 11, 12, 8, 13] (ws' := [(adm, .inr (10, oM adA o_names o_rows o_strength o_most o_toldGraph o_toldArc)), ((adA 1), .inl (gI (kG K), 5, .inl fvalues)), ((adA 3), .inl (gI (kG K), 80, .inl fcells)), ((adA 11), .inl (gZ (kG K), 160, .inl r_17.2.1)), ((adA 12), .inl (gI (kG K), 1280, .inl r_17.2.2.1)), ((adA 13), .inl (gI (kG K), 1280, .inl r_17.2.2.2.1)), ((adA 14), .inl (gI (kG K), 320, .inl r_17.2.2.2.2.1)), ((adA 15), .inl (gI (kG K), 320, .inl r_17.2.2.2.2.2.1)), ((adA 6), .inl (gI (kG K), 320, .inl r_17.2.2.2.2.2.2.1)), ((adA 7), .inl (gI (kG K), 320, .inl r_17.2.2.2.2.2.2.2.1)), ((adA 8), .inl (gI (kG K), 320, .inl r_17.2.2.2.2.2.2.2.2)), ((adA 16), .inl (gI (kG K), 320, .inl r_19.1)), ((adA 17), .inl (gI (kG K), 320, .inl r_19.2.1)), (adx, .inl (gI (kG K), nx, .inl r_18.2.2)), (ady, .inl (gI (kG K), ny, .inl r_19.2.2))]) rfl rfl (by decide) ?_
      exact ih x4_20 r_17.2.1 r_17.2.2.1 r_17.2.2.2.1 r_17.2.2.2.2.1 r_17.2.2.2.2.2.1 r_17.2.2.2.2.2.2.1 r_17.2.2.2.2.2.2.2.1 r_17.2.2.2.2.2.2.2.2 r_19.1 r_19.2.1 r_18.2.2 r_19.2.2 h
set_option maxHeartbeats 4000000 in
set_option maxRecDepth 100000 in
theorem c_X11_fit (l : Launch) (G : GG) (adm : Nat) (adA : Nat → Nat) (adx : Nat) (ady : Nat) (o_names : Int32) (o_rows : Int32) (o_strength : Int32) (o_most : Int32) (o_toldGraph : Int32) (o_toldArc : Int32) (fvalues : Nat → Int32) (fcells : Nat → Int32) (fisKnown : Nat → Int32) (ftops : Nat → Int32) (flows : Nat → Int32) (fsmall : Nat → Int32) (flarge : Nat → Int32) (fone : Nat → Int32) (ftwo : Nat → Int32) (frest : Nat → Int32) (ffactor : Nat → Int32) (fmade : Nat → Int32) (nx : Nat) (fx : Nat → Int32) (ny : Nat) (fy : Nat → Int32) (gr : Int32) (r : (Nat → Int32) × (Nat → Int32) × (Nat → Int32) × (Nat → Int32) × (Nat → Int32) × (Nat → Int32) × (Nat → Int32) × (Nat → Int32) × (Nat → Int32) × (Nat → Int32) × (Nat → Int32) × (Nat → Int32)) (h : m_X11_fit o_names o_rows o_strength o_most o_toldGraph o_toldArc fvalues fcells fisKnown ftops flows fsmall flarge fone ftwo frest ffactor fmade nx fx ny fy gr = some r) : Ctr l G yX11_fit w2_X11_fit rm_X11_fit [.ref adm, .int gr, .ref adx, .ref ady] [(adm, .inr (10, oM adA o_names o_rows o_strength o_most o_toldGraph o_toldArc)), ((adA 1), .inl (gI G, 5, .inl fvalues)), ((adA 3), .inl (gI G, 80, .inl fcells)), ((adA 11), .inl (gZ G, 160, .inl fisKnown)), ((adA 12), .inl (gI G, 1280, .inl ftops)), ((adA 13), .inl (gI G, 1280, .inl flows)), ((adA 14), .inl (gI G, 320, .inl fsmall)), ((adA 15), .inl (gI G, 320, .inl flarge)), ((adA 6), .inl (gI G, 320, .inl fone)), ((adA 7), .inl (gI G, 320, .inl ftwo)), ((adA 8), .inl (gI G, 320, .inl frest)), ((adA 16), .inl (gI G, 320, .inl ffactor)), ((adA 17), .inl (gI G, 320, .inl fmade)), (adx, .inl (gI G, nx, .inl fx)), (ady, .inl (gI G, ny, .inl fy))] (fun v w => v = none ∧ w = [(adm, .inr (10, oM adA o_names o_rows o_strength o_most o_toldGraph o_toldArc)), ((adA 1), .inl (gI G, 5, .inl fvalues)), ((adA 3), .inl (gI G, 80, .inl fcells)), ((adA 11), .inl (gZ G, 160, .inl r.1)), ((adA 12), .inl (gI G, 1280, .inl r.2.1)), ((adA 13), .inl (gI G, 1280, .inl r.2.2.1)), ((adA 14), .inl (gI G, 320, .inl r.2.2.2.1)), ((adA 15), .inl (gI G, 320, .inl r.2.2.2.2.1)), ((adA 6), .inl (gI G, 320, .inl r.2.2.2.2.2.1)), ((adA 7), .inl (gI G, 320, .inl r.2.2.2.2.2.2.1)), ((adA 8), .inl (gI G, 320, .inl r.2.2.2.2.2.2.2.1)), ((adA 16), .inl (gI G, 320, .inl r.2.2.2.2.2.2.2.2.1)), ((adA 17), .inl (gI G, 320, .inl r.2.2.2.2.2.2.2.2.2.1)), (adx, .inl (gI G, nx, .inl r.2.2.2.2.2.2.2.2.2.2.1)), (ady, .inl (gI G, ny, .inl r.2.2.2.2.2.2.2.2.2.2.2))]) := by
  refine ctr_entry (cc := cX11_fit) (maxL := 6) (ret := none) (lv0 := [(0, .ref adm), (1, .int gr), (2, .ref adx), (3, .ref ady)]) (by decide) rfl (Nat.le_of_ble_eq_true rfl) (rfl) ?_
  intro K hl9 hG9 hk hn9 hrt
  subst hl9
  subst hG9
  have hR9 : RoomGe rm_X11_fit rm_X11_fit := RoomGe.rf
  replace h := id_e h
  rw [em_X11_fit] at h
  refine v_aload_n hk dX11_fit_0 rfl ?_
  refine v_iconst (v := 1) hk dX11_fit_1 (by decide) ?_
  obtain ⟨r_1, er_1, h⟩ := bd_e (g := id) rfl h
  refine v_callS (n := 2) (st := []) hk dX11_fit_2 (c_X11_put (kl K) (kG K) adx nx fx 1 r_1 er_1) gd_X11_fit_X11_put rfl (by decide +kernel) (frok hR9 (Nat.le_of_ble_eq_true rfl) (Nat.le_of_ble_eq_true rfl)) (roomk hR9 (Nat.le_of_ble_eq_true rfl) (Nat.le_of_ble_eq_true rfl)) rfl rfl (Nat.le_of_ble_eq_true rfl) [13] [0, 1, 2, 3, 4, 5, 6, 7, 8, 9, 10, 11, 12, 14] (wr := [(adm, .inr (10, oM adA o_names o_rows o_strength o_most o_toldGraph o_toldArc)), ((adA 1), .inl (gI (kG K), 5, .inl fvalues)), ((adA 3), .inl (gI (kG K), 80, .inl fcells)), ((adA 11), .inl (gZ (kG K), 160, .inl fisKnown)), ((adA 12), .inl (gI (kG K), 1280, .inl ftops)), ((adA 13), .inl (gI (kG K), 1280, .inl flows)), ((adA 14), .inl (gI (kG K), 320, .inl fsmall)), ((adA 15), .inl (gI (kG K), 320, .inl flarge)), ((adA 6), .inl (gI (kG K), 320, .inl fone)), ((adA 7), .inl (gI (kG K), 320, .inl ftwo)), ((adA 8), .inl (gI (kG K), 320, .inl frest)), ((adA 16), .inl (gI (kG K), 320, .inl ffactor)), ((adA 17), .inl (gI (kG K), 320, .inl fmade)), (ady, .inl (gI (kG K), ny, .inl fy))]) rfl rfl (by decide) (by decide) (by decide) ?_
  intro v9 w9 hp9
  obtain ⟨rfl, rfl⟩ := hp9
  show V K 6 [(adm, .inr (10, oM adA o_names o_rows o_strength o_most o_toldGraph o_toldArc)), ((adA 1), .inl (gI (kG K), 5, .inl fvalues)), ((adA 3), .inl (gI (kG K), 80, .inl fcells)), ((adA 11), .inl (gZ (kG K), 160, .inl fisKnown)), ((adA 12), .inl (gI (kG K), 1280, .inl ftops)), ((adA 13), .inl (gI (kG K), 1280, .inl flows)), ((adA 14), .inl (gI (kG K), 320, .inl fsmall)), ((adA 15), .inl (gI (kG K), 320, .inl flarge)), ((adA 6), .inl (gI (kG K), 320, .inl fone)), ((adA 7), .inl (gI (kG K), 320, .inl ftwo)), ((adA 8), .inl (gI (kG K), 320, .inl frest)), ((adA 16), .inl (gI (kG K), 320, .inl ffactor)), ((adA 17), .inl (gI (kG K), 320, .inl fmade)), (ady, .inl (gI (kG K), ny, .inl fy)), (adx, .inl (gI (kG K), nx, .inl r_1))] 0 0 5 [(0, .ref adm), (1, .int gr), (2, .ref adx), (3, .ref ady)] []
  refine v_aload_n hk dX11_fit_5 rfl ?_
  refine v_iconst (v := 1) hk dX11_fit_6 (by decide) ?_
  obtain ⟨r_2, er_2, h⟩ := bd_e (g := id) rfl h
  refine v_callS (n := 2) (st := []) hk dX11_fit_7 (c_X11_put (kl K) (kG K) ady ny fy 1 r_2 er_2) gd_X11_fit_X11_put rfl (by decide +kernel) (frok hR9 (Nat.le_of_ble_eq_true rfl) (Nat.le_of_ble_eq_true rfl)) (roomk hR9 (Nat.le_of_ble_eq_true rfl) (Nat.le_of_ble_eq_true rfl)) rfl rfl (Nat.le_of_ble_eq_true rfl) [13] [0, 1, 2, 3, 4, 5, 6, 7, 8, 9, 10, 11, 12, 14] (wr := [(adm, .inr (10, oM adA o_names o_rows o_strength o_most o_toldGraph o_toldArc)), ((adA 1), .inl (gI (kG K), 5, .inl fvalues)), ((adA 3), .inl (gI (kG K), 80, .inl fcells)), ((adA 11), .inl (gZ (kG K), 160, .inl fisKnown)), ((adA 12), .inl (gI (kG K), 1280, .inl ftops)), ((adA 13), .inl (gI (kG K), 1280, .inl flows)), ((adA 14), .inl (gI (kG K), 320, .inl fsmall)), ((adA 15), .inl (gI (kG K), 320, .inl flarge)), ((adA 6), .inl (gI (kG K), 320, .inl fone)), ((adA 7), .inl (gI (kG K), 320, .inl ftwo)), ((adA 8), .inl (gI (kG K), 320, .inl frest)), ((adA 16), .inl (gI (kG K), 320, .inl ffactor)), ((adA 17), .inl (gI (kG K), 320, .inl fmade)), (adx, .inl (gI (kG K), nx, .inl r_1))]) rfl rfl (by decide) (by decide) (by decide) ?_
  intro v9 w9 hp9
  obtain ⟨rfl, rfl⟩ := hp9
  show V K 6 [(adm, .inr (10, oM adA o_names o_rows o_strength o_most o_toldGraph o_toldArc)), ((adA 1), .inl (gI (kG K), 5, .inl fvalues)), ((adA 3), .inl (gI (kG K), 80, .inl fcells)), ((adA 11), .inl (gZ (kG K), 160, .inl fisKnown)), ((adA 12), .inl (gI (kG K), 1280, .inl ftops)), ((adA 13), .inl (gI (kG K), 1280, .inl flows)), ((adA 14), .inl (gI (kG K), 320, .inl fsmall)), ((adA 15), .inl (gI (kG K), 320, .inl flarge)), ((adA 6), .inl (gI (kG K), 320, .inl fone)), ((adA 7), .inl (gI (kG K), 320, .inl ftwo)), ((adA 8), .inl (gI (kG K), 320, .inl frest)), ((adA 16), .inl (gI (kG K), 320, .inl ffactor)), ((adA 17), .inl (gI (kG K), 320, .inl fmade)), (adx, .inl (gI (kG K), nx, .inl r_1)), (ady, .inl (gI (kG K), ny, .inl r_2))] 0 0 10 [(0, .ref adm), (1, .int gr), (2, .ref adx), (3, .ref ady)] []
  refine v_iconst (v := 0) hk dX11_fit_10 (by decide) ?_
  refine v_istore hk dX11_fit_11 (by decide) [1, 2, 3, 4, 0] (lv' := [(0, .ref adm), (1, .int gr), (2, .ref adx), (3, .ref ady), (4, .int 0)]) rfl ?_
  obtain ⟨b_22, eb_22, h⟩ := bd_e (g := id) rfl h
  refine L_X11_fit_13 hk hR9 adm adA adx ady o_names o_rows o_strength o_most o_toldGraph o_toldArc fvalues fcells nx ny gr b_22 (fun q_21 eq_21 => ?_) FU 0 fisKnown ftops flows fsmall flarge fone ftwo frest ffactor fmade r_1 r_2 eb_22
  · replace eq_21 := eq_21.symm
    subst eq_21
    replace h : some (q_21.2.1, q_21.2.2.1, q_21.2.2.2.1, q_21.2.2.2.2.1, q_21.2.2.2.2.2.1, q_21.2.2.2.2.2.2.1, q_21.2.2.2.2.2.2.2.1, q_21.2.2.2.2.2.2.2.2.1, q_21.2.2.2.2.2.2.2.2.2.1, q_21.2.2.2.2.2.2.2.2.2.2.1, q_21.2.2.2.2.2.2.2.2.2.2.2.1, q_21.2.2.2.2.2.2.2.2.2.2.2.2) = some r := h
    replace h := Option.some.inj h
    subst h
    refine hrt (none) _ _ _ _ _ (⟨rfl, rfl⟩) (Nat.zero_le _) (Nat.zero_le _) (dX11_fit_64)
abbrev rm_X11_sign : Room := { frames := 2, cells := 0, slots := 0, locals := 51 }
set_option maxHeartbeats 4000000 in
set_option maxRecDepth 100000 in
theorem c_X11_sign (l : Launch) (G : GG) (adm : Nat) (adA : Nat → Nat) (o_names : Int32) (o_rows : Int32) (o_strength : Int32) (o_most : Int32) (o_toldGraph : Int32) (o_toldArc : Int32) (ftopA : Nat → Int32) (flowA : Nat → Int32) (ftopB : Nat → Int32) (flowB : Nat → Int32) (fleft : Nat → Int32) (fright : Nat → Int32) (r : Int32 × (Nat → Int32) × (Nat → Int32)) (h : m_X11_sign o_names o_rows o_strength o_most o_toldGraph o_toldArc ftopA flowA ftopB flowB fleft fright = some r) : Ctr l G yX11_sign w2_X11_sign rm_X11_sign [.ref adm] [(adm, .inr (10, oM adA o_names o_rows o_strength o_most o_toldGraph o_toldArc)), ((adA 18), .inl (gI G, 320, .inl ftopA)), ((adA 19), .inl (gI G, 320, .inl flowA)), ((adA 20), .inl (gI G, 320, .inl ftopB)), ((adA 21), .inl (gI G, 320, .inl flowB)), ((adA 22), .inl (gI G, 320, .inl fleft)), ((adA 23), .inl (gI G, 320, .inl fright))] (fun v w => v = some (.int r.1) ∧ w = [(adm, .inr (10, oM adA o_names o_rows o_strength o_most o_toldGraph o_toldArc)), ((adA 18), .inl (gI G, 320, .inl ftopA)), ((adA 19), .inl (gI G, 320, .inl flowA)), ((adA 20), .inl (gI G, 320, .inl ftopB)), ((adA 21), .inl (gI G, 320, .inl flowB)), ((adA 22), .inl (gI G, 320, .inl r.2.1)), ((adA 23), .inl (gI G, 320, .inl r.2.2))]) := by
  refine ctr_entry (cc := cX11_sign) (maxL := 1) (ret := some .int) (lv0 := [(0, .ref adm)]) (by decide) rfl (Nat.le_of_ble_eq_true rfl) (rfl) ?_
  intro K hl9 hG9 hk hn9 hrt
  subst hl9
  subst hG9
  have hR9 : RoomGe rm_X11_sign rm_X11_sign := RoomGe.rf
  replace h := id_e h
  rw [em_X11_sign] at h
  refine v_aload_n hk dX11_sign_0 rfl ?_
  refine v_get (C := RX11) (T := TX11) (N := 39) (ci := 10) (v := .ref (adA 18)) hk dX11_sign_1 w2i_X11_sign_X110 0 rfl rfl 18 (by decide) (by decide +kernel) rfl rfl ?_
  refine v_aload_n hk dX11_sign_4 rfl ?_
  refine v_get (C := RX11) (T := TX11) (N := 39) (ci := 10) (v := .ref (adA 21)) hk dX11_sign_5 w2i_X11_sign_X110 0 rfl rfl 21 (by decide) (by decide +kernel) rfl rfl ?_
  refine v_aload_n hk dX11_sign_8 rfl ?_
  refine v_get (C := RX11) (T := TX11) (N := 39) (ci := 10) (v := .ref (adA 22)) hk dX11_sign_9 w2i_X11_sign_X110 0 rfl rfl 22 (by decide) (by decide +kernel) rfl rfl ?_
  obtain ⟨r_1, er_1, h⟩ := bd_e (g := id) rfl h
  refine v_callS (n := 3) (st := []) hk dX11_sign_12 (c_X11_times (kl K) (kG K) (adA 18) (adA 21) (adA 22) 320 ftopA 320 flowB 320 fleft r_1 er_1) gd_X11_sign_X11_times rfl (by decide +kernel) (frok hR9 (Nat.le_of_ble_eq_true rfl) (Nat.le_of_ble_eq_true rfl)) (roomk hR9 (Nat.le_of_ble_eq_true rfl) (Nat.le_of_ble_eq_true rfl)) rfl rfl (Nat.le_of_ble_eq_true rfl) [1, 4, 5] [0, 2, 3, 6] (wr := [(adm, .inr (10, oM adA o_names o_rows o_strength o_most o_toldGraph o_toldArc)), ((adA 19), .inl (gI (kG K), 320, .inl flowA)), ((adA 20), .inl (gI (kG K), 320, .inl ftopB)), ((adA 23), .inl (gI (kG K), 320, .inl fright))]) rfl rfl (by decide) (by decide) (by decide) ?_
  intro v9 w9 hp9
  obtain ⟨rfl, rfl⟩ := hp9
  show V K 1 [(adm, .inr (10, oM adA o_names o_rows o_strength o_most o_toldGraph o_toldArc)), ((adA 19), .inl (gI (kG K), 320, .inl flowA)), ((adA 20), .inl (gI (kG K), 320, .inl ftopB)), ((adA 23), .inl (gI (kG K), 320, .inl fright)), ((adA 18), .inl (gI (kG K), 320, .inl ftopA)), ((adA 21), .inl (gI (kG K), 320, .inl flowB)), ((adA 22), .inl (gI (kG K), 320, .inl r_1))] 0 0 15 [(0, .ref adm)] []
  refine v_aload_n hk dX11_sign_15 rfl ?_
  refine v_get (C := RX11) (T := TX11) (N := 39) (ci := 10) (v := .ref (adA 20)) hk dX11_sign_16 w2i_X11_sign_X110 0 rfl rfl 20 (by decide) (by decide +kernel) rfl rfl ?_
  refine v_aload_n hk dX11_sign_19 rfl ?_
  refine v_get (C := RX11) (T := TX11) (N := 39) (ci := 10) (v := .ref (adA 19)) hk dX11_sign_20 w2i_X11_sign_X110 0 rfl rfl 19 (by decide) (by decide +kernel) rfl rfl ?_
  refine v_aload_n hk dX11_sign_23 rfl ?_
  refine v_get (C := RX11) (T := TX11) (N := 39) (ci := 10) (v := .ref (adA 23)) hk dX11_sign_24 w2i_X11_sign_X110 0 rfl rfl 23 (by decide) (by decide +kernel) rfl rfl ?_
  obtain ⟨r_2, er_2, h⟩ := bd_e (g := id) rfl h
  refine v_callS (n := 3) (st := []) hk dX11_sign_27 (c_X11_times (kl K) (kG K) (adA 20) (adA 19) (adA 23) 320 ftopB 320 flowA 320 fright r_2 er_2) gd_X11_sign_X11_times rfl (by decide +kernel) (frok hR9 (Nat.le_of_ble_eq_true rfl) (Nat.le_of_ble_eq_true rfl)) (roomk hR9 (Nat.le_of_ble_eq_true rfl) (Nat.le_of_ble_eq_true rfl)) rfl rfl (Nat.le_of_ble_eq_true rfl) [2, 1, 3] [0, 4, 5, 6] (wr := [(adm, .inr (10, oM adA o_names o_rows o_strength o_most o_toldGraph o_toldArc)), ((adA 18), .inl (gI (kG K), 320, .inl ftopA)), ((adA 21), .inl (gI (kG K), 320, .inl flowB)), ((adA 22), .inl (gI (kG K), 320, .inl r_1))]) rfl rfl (by decide) (by decide) (by decide) ?_
  intro v9 w9 hp9
  obtain ⟨rfl, rfl⟩ := hp9
  show V K 1 [(adm, .inr (10, oM adA o_names o_rows o_strength o_most o_toldGraph o_toldArc)), ((adA 18), .inl (gI (kG K), 320, .inl ftopA)), ((adA 21), .inl (gI (kG K), 320, .inl flowB)), ((adA 22), .inl (gI (kG K), 320, .inl r_1)), ((adA 20), .inl (gI (kG K), 320, .inl ftopB)), ((adA 19), .inl (gI (kG K), 320, .inl flowA)), ((adA 23), .inl (gI (kG K), 320, .inl r_2))] 0 0 30 [(0, .ref adm)] []
  refine v_aload_n hk dX11_sign_30 rfl ?_
  refine v_get (C := RX11) (T := TX11) (N := 39) (ci := 10) (v := .ref (adA 22)) hk dX11_sign_31 w2i_X11_sign_X110 0 rfl rfl 22 (by decide) (by decide +kernel) rfl rfl ?_
  refine v_aload_n hk dX11_sign_34 rfl ?_
  refine v_get (C := RX11) (T := TX11) (N := 39) (ci := 10) (v := .ref (adA 23)) hk dX11_sign_35 w2i_X11_sign_X110 0 rfl rfl 23 (by decide) (by decide +kernel) rfl rfl ?_
  obtain ⟨r_3, er_3, h⟩ := bd_e (g := id) rfl h
  refine v_callS (n := 2) (st := []) hk dX11_sign_38 (c_X11_compareTo (kl K) (kG K) (adA 22) (adA 23) 320 r_1 320 r_2 r_3 er_3) gd_X11_sign_X11_compareTo rfl (by decide +kernel) (frok hR9 (Nat.le_of_ble_eq_true rfl) (Nat.le_of_ble_eq_true rfl)) (roomk hR9 (Nat.le_of_ble_eq_true rfl) (Nat.le_of_ble_eq_true rfl)) rfl rfl (Nat.le_of_ble_eq_true rfl) [3, 6] [0, 1, 2, 4, 5] (wr := [(adm, .inr (10, oM adA o_names o_rows o_strength o_most o_toldGraph o_toldArc)), ((adA 18), .inl (gI (kG K), 320, .inl ftopA)), ((adA 21), .inl (gI (kG K), 320, .inl flowB)), ((adA 20), .inl (gI (kG K), 320, .inl ftopB)), ((adA 19), .inl (gI (kG K), 320, .inl flowA))]) rfl rfl (by decide) (by decide) (by decide) ?_
  intro v9 w9 hp9
  obtain ⟨rfl, rfl⟩ := hp9
  show V K 1 [(adm, .inr (10, oM adA o_names o_rows o_strength o_most o_toldGraph o_toldArc)), ((adA 18), .inl (gI (kG K), 320, .inl ftopA)), ((adA 21), .inl (gI (kG K), 320, .inl flowB)), ((adA 20), .inl (gI (kG K), 320, .inl ftopB)), ((adA 19), .inl (gI (kG K), 320, .inl flowA)), ((adA 22), .inl (gI (kG K), 320, .inl r_1)), ((adA 23), .inl (gI (kG K), 320, .inl r_2))] 0 0 41 [(0, .ref adm)] [.int r_3]
  replace h : some (r_3, r_1, r_2) = some r := h
  replace h := Option.some.inj h
  subst h
  refine v_perm [0, 1, 4, 3, 2, 5, 6] (ws' := [(adm, .inr (10, oM adA o_names o_rows o_strength o_most o_toldGraph o_toldArc)), ((adA 18), .inl (gI (kG K), 320, .inl ftopA)), ((adA 19), .inl (gI (kG K), 320, .inl flowA)), ((adA 20), .inl (gI (kG K), 320, .inl ftopB)), ((adA 21), .inl (gI (kG K), 320, .inl flowB)), ((adA 22), .inl (gI (kG K), 320, .inl r_1)), ((adA 23), .inl (gI (kG K), 320, .inl r_2))]) rfl rfl (by decide) ?_
  refine hrt (some (.int r_3)) _ _ _ _ _ (⟨rfl, rfl⟩) (Nat.zero_le _) (Nat.zero_le _) (dX11_sign_41)
abbrev rm_X11_signOf : Room := { frames := 5, cells := 0, slots := 0, locals := 122 }
set_option maxHeartbeats 4000000 in
set_option maxRecDepth 100000 in
theorem c_X11_signOf (l : Launch) (G : GG) (adm : Nat) (adA : Nat → Nat) (o_names : Int32) (o_rows : Int32) (o_strength : Int32) (o_most : Int32) (o_toldGraph : Int32) (o_toldArc : Int32) (fvalues : Nat → Int32) (fcells : Nat → Int32) (fisKnown : Nat → Int32) (ftops : Nat → Int32) (flows : Nat → Int32) (fsmall : Nat → Int32) (flarge : Nat → Int32) (fone : Nat → Int32) (ftwo : Nat → Int32) (frest : Nat → Int32) (ffactor : Nat → Int32) (fmade : Nat → Int32) (ftopA : Nat → Int32) (flowA : Nat → Int32) (ftopB : Nat → Int32) (flowB : Nat → Int32) (fleft : Nat → Int32) (fright : Nat → Int32) (gr : Int32) (ot : Int32) (r : Int32 × (Nat → Int32) × (Nat → Int32) × (Nat → Int32) × (Nat → Int32) × (Nat → Int32) × (Nat → Int32) × (Nat → Int32) × (Nat → Int32) × (Nat → Int32) × (Nat → Int32) × (Nat → Int32) × (Nat → Int32) × (Nat → Int32) × (Nat → Int32) × (Nat → Int32) × (Nat → Int32)) (h : m_X11_signOf o_names o_rows o_strength o_most o_toldGraph o_toldArc fvalues fcells fisKnown ftops flows fsmall flarge fone ftwo frest ffactor fmade ftopA flowA ftopB flowB fleft fright gr ot = some r) : Ctr l G yX11_signOf w2_X11_signOf rm_X11_signOf [.ref adm, .int gr, .int ot] [(adm, .inr (10, oM adA o_names o_rows o_strength o_most o_toldGraph o_toldArc)), ((adA 1), .inl (gI G, 5, .inl fvalues)), ((adA 3), .inl (gI G, 80, .inl fcells)), ((adA 11), .inl (gZ G, 160, .inl fisKnown)), ((adA 12), .inl (gI G, 1280, .inl ftops)), ((adA 13), .inl (gI G, 1280, .inl flows)), ((adA 14), .inl (gI G, 320, .inl fsmall)), ((adA 15), .inl (gI G, 320, .inl flarge)), ((adA 6), .inl (gI G, 320, .inl fone)), ((adA 7), .inl (gI G, 320, .inl ftwo)), ((adA 8), .inl (gI G, 320, .inl frest)), ((adA 16), .inl (gI G, 320, .inl ffactor)), ((adA 17), .inl (gI G, 320, .inl fmade)), ((adA 18), .inl (gI G, 320, .inl ftopA)), ((adA 19), .inl (gI G, 320, .inl flowA)), ((adA 20), .inl (gI G, 320, .inl ftopB)), ((adA 21), .inl (gI G, 320, .inl flowB)), ((adA 22), .inl (gI G, 320, .inl fleft)), ((adA 23), .inl (gI G, 320, .inl fright))] (fun v w => v = some (.int r.1) ∧ w = [(adm, .inr (10, oM adA o_names o_rows o_strength o_most o_toldGraph o_toldArc)), ((adA 1), .inl (gI G, 5, .inl fvalues)), ((adA 3), .inl (gI G, 80, .inl fcells)), ((adA 11), .inl (gZ G, 160, .inl r.2.1)), ((adA 12), .inl (gI G, 1280, .inl r.2.2.1)), ((adA 13), .inl (gI G, 1280, .inl r.2.2.2.1)), ((adA 14), .inl (gI G, 320, .inl r.2.2.2.2.1)), ((adA 15), .inl (gI G, 320, .inl r.2.2.2.2.2.1)), ((adA 6), .inl (gI G, 320, .inl r.2.2.2.2.2.2.1)), ((adA 7), .inl (gI G, 320, .inl r.2.2.2.2.2.2.2.1)), ((adA 8), .inl (gI G, 320, .inl r.2.2.2.2.2.2.2.2.1)), ((adA 16), .inl (gI G, 320, .inl r.2.2.2.2.2.2.2.2.2.1)), ((adA 17), .inl (gI G, 320, .inl r.2.2.2.2.2.2.2.2.2.2.1)), ((adA 18), .inl (gI G, 320, .inl r.2.2.2.2.2.2.2.2.2.2.2.1)), ((adA 19), .inl (gI G, 320, .inl r.2.2.2.2.2.2.2.2.2.2.2.2.1)), ((adA 20), .inl (gI G, 320, .inl r.2.2.2.2.2.2.2.2.2.2.2.2.2.1)), ((adA 21), .inl (gI G, 320, .inl r.2.2.2.2.2.2.2.2.2.2.2.2.2.2.1)), ((adA 22), .inl (gI G, 320, .inl r.2.2.2.2.2.2.2.2.2.2.2.2.2.2.2.1)), ((adA 23), .inl (gI G, 320, .inl r.2.2.2.2.2.2.2.2.2.2.2.2.2.2.2.2))]) := by
  refine ctr_entry (cc := cX11_signOf) (maxL := 3) (ret := some .int) (lv0 := [(0, .ref adm), (1, .int gr), (2, .int ot)]) (by decide) rfl (Nat.le_of_ble_eq_true rfl) (rfl) ?_
  intro K hl9 hG9 hk hn9 hrt
  subst hl9
  subst hG9
  have hR9 : RoomGe rm_X11_signOf rm_X11_signOf := RoomGe.rf
  replace h := id_e h
  rw [em_X11_signOf] at h
  refine v_aload_n hk dX11_signOf_0 rfl ?_
  refine v_iload_n hk dX11_signOf_1 rfl ?_
  refine v_aload_n hk dX11_signOf_2 rfl ?_
  refine v_get (C := RX11) (T := TX11) (N := 39) (ci := 10) (v := .ref (adA 18)) hk dX11_signOf_3 w2i_X11_signOf_X110 0 rfl rfl 18 (by decide) (by decide +kernel) rfl rfl ?_
  refine v_aload_n hk dX11_signOf_6 rfl ?_
  refine v_get (C := RX11) (T := TX11) (N := 39) (ci := 10) (v := .ref (adA 19)) hk dX11_signOf_7 w2i_X11_signOf_X110 0 rfl rfl 19 (by decide) (by decide +kernel) rfl rfl ?_
  obtain ⟨r_1, er_1, h⟩ := bd_e (g := id) rfl h
  refine v_callV (n := 3) (st := []) (b := adm) (T := TX11) (N := 39) hk dX11_signOf_10 (c_X11_fit (kl K) (kG K) adm adA (adA 18) (adA 19) o_names o_rows o_strength o_most o_toldGraph o_toldArc fvalues fcells fisKnown ftops flows fsmall flarge fone ftwo frest ffactor fmade 320 ftopA 320 flowA gr r_1 er_1) rfl gd_X11_signOf_X11_fit rfl (by decide +kernel) (frok hR9 (Nat.le_of_ble_eq_true rfl) (Nat.le_of_ble_eq_true rfl)) (roomk hR9 (Nat.le_of_ble_eq_true rfl) (Nat.le_of_ble_eq_true rfl)) rfl rfl (Nat.le_of_ble_eq_true rfl) 0 rfl rfl [0, 1, 2, 3, 4, 5, 6, 7, 8, 9, 10, 11, 12, 13, 14] [15, 16, 17, 18] (wr := [((adA 20), .inl (gI (kG K), 320, .inl ftopB)), ((adA 21), .inl (gI (kG K), 320, .inl flowB)), ((adA 22), .inl (gI (kG K), 320, .inl fleft)), ((adA 23), .inl (gI (kG K), 320, .inl fright))]) rfl rfl (by decide) (by decide) (by decide) ?_
  intro v9 w9 hp9
  obtain ⟨rfl, rfl⟩ := hp9
  show V K 3 [((adA 20), .inl (gI (kG K), 320, .inl ftopB)), ((adA 21), .inl (gI (kG K), 320, .inl flowB)), ((adA 22), .inl (gI (kG K), 320, .inl fleft)), ((adA 23), .inl (gI (kG K), 320, .inl fright)), (adm, .inr (10, oM adA o_names o_rows o_strength o_most o_toldGraph o_toldArc)), ((adA 1), .inl (gI (kG K), 5, .inl fvalues)), ((adA 3), .inl (gI (kG K), 80, .inl fcells)), ((adA 11), .inl (gZ (kG K), 160, .inl r_1.1)), ((adA 12), .inl (gI (kG K), 1280, .inl r_1.2.1)), ((adA 13), .inl (gI (kG K), 1280, .inl r_1.2.2.1)), ((adA 14), .inl (gI (kG K), 320, .inl r_1.2.2.2.1)), ((adA 15), .inl (gI (kG K), 320, .inl r_1.2.2.2.2.1)), ((adA 6), .inl (gI (kG K), 320, .inl r_1.2.2.2.2.2.1)), ((adA 7), .inl (gI (kG K), 320, .inl r_1.2.2.2.2.2.2.1)), ((adA 8), .inl (gI (kG K), 320, .inl r_1.2.2.2.2.2.2.2.1)), ((adA 16), .inl (gI (kG K), 320, .inl r_1.2.2.2.2.2.2.2.2.1)), ((adA 17), .inl (gI (kG K), 320, .inl r_1.2.2.2.2.2.2.2.2.2.1)), ((adA 18), .inl (gI (kG K), 320, .inl r_1.2.2.2.2.2.2.2.2.2.2.1)), ((adA 19), .inl (gI (kG K), 320, .inl r_1.2.2.2.2.2.2.2.2.2.2.2))] 0 0 13 [(0, .ref adm), (1, .int gr), (2, .int ot)] []
  refine v_aload_n hk dX11_signOf_13 rfl ?_
  refine v_iload_n hk dX11_signOf_14 rfl ?_
  refine v_aload_n hk dX11_signOf_15 rfl ?_
  refine v_get (C := RX11) (T := TX11) (N := 39) (ci := 10) (v := .ref (adA 20)) hk dX11_signOf_16 w2i_X11_signOf_X110 4 rfl rfl 20 (by decide) (by decide +kernel) rfl rfl ?_
  refine v_aload_n hk dX11_signOf_19 rfl ?_
  refine v_get (C := RX11) (T := TX11) (N := 39) (ci := 10) (v := .ref (adA 21)) hk dX11_signOf_20 w2i_X11_signOf_X110 4 rfl rfl 21 (by decide) (by decide +kernel) rfl rfl ?_
  obtain ⟨r_2, er_2, h⟩ := bd_e (g := id) rfl h
  refine v_callV (n := 3) (st := []) (b := adm) (T := TX11) (N := 39) hk dX11_signOf_23 (c_X11_fit (kl K) (kG K) adm adA (adA 20) (adA 21) o_names o_rows o_strength o_most o_toldGraph o_toldArc fvalues fcells r_1.1 r_1.2.1 r_1.2.2.1 r_1.2.2.2.1 r_1.2.2.2.2.1 r_1.2.2.2.2.2.1 r_1.2.2.2.2.2.2.1 r_1.2.2.2.2.2.2.2.1 r_1.2.2.2.2.2.2.2.2.1 r_1.2.2.2.2.2.2.2.2.2.1 320 ftopB 320 flowB ot r_2 er_2) rfl gd_X11_signOf_X11_fit rfl (by decide +kernel) (frok hR9 (Nat.le_of_ble_eq_true rfl) (Nat.le_of_ble_eq_true rfl)) (roomk hR9 (Nat.le_of_ble_eq_true rfl) (Nat.le_of_ble_eq_true rfl)) rfl rfl (Nat.le_of_ble_eq_true rfl) 4 rfl rfl [4, 5, 6, 7, 8, 9, 10, 11, 12, 13, 14, 15, 16, 0, 1] [2, 3, 17, 18] (wr := [((adA 22), .inl (gI (kG K), 320, .inl fleft)), ((adA 23), .inl (gI (kG K), 320, .inl fright)), ((adA 18), .inl (gI (kG K), 320, .inl r_1.2.2.2.2.2.2.2.2.2.2.1)), ((adA 19), .inl (gI (kG K), 320, .inl r_1.2.2.2.2.2.2.2.2.2.2.2))]) rfl rfl (by decide) (by decide) (by decide) ?_
  intro v9 w9 hp9
  obtain ⟨rfl, rfl⟩ := hp9
  show V K 3 [((adA 22), .inl (gI (kG K), 320, .inl fleft)), ((adA 23), .inl (gI (kG K), 320, .inl fright)), ((adA 18), .inl (gI (kG K), 320, .inl r_1.2.2.2.2.2.2.2.2.2.2.1)), ((adA 19), .inl (gI (kG K), 320, .inl r_1.2.2.2.2.2.2.2.2.2.2.2)), (adm, .inr (10, oM adA o_names o_rows o_strength o_most o_toldGraph o_toldArc)), ((adA 1), .inl (gI (kG K), 5, .inl fvalues)), ((adA 3), .inl (gI (kG K), 80, .inl fcells)), ((adA 11), .inl (gZ (kG K), 160, .inl r_2.1)), ((adA 12), .inl (gI (kG K), 1280, .inl r_2.2.1)), ((adA 13), .inl (gI (kG K), 1280, .inl r_2.2.2.1)), ((adA 14), .inl (gI (kG K), 320, .inl r_2.2.2.2.1)), ((adA 15), .inl (gI (kG K), 320, .inl r_2.2.2.2.2.1)), ((adA 6), .inl (gI (kG K), 320, .inl r_2.2.2.2.2.2.1)), ((adA 7), .inl (gI (kG K), 320, .inl r_2.2.2.2.2.2.2.1)), ((adA 8), .inl (gI (kG K), 320, .inl r_2.2.2.2.2.2.2.2.1)), ((adA 16), .inl (gI (kG K), 320, .inl r_2.2.2.2.2.2.2.2.2.1)), ((adA 17), .inl (gI (kG K), 320, .inl r_2.2.2.2.2.2.2.2.2.2.1)), ((adA 20), .inl (gI (kG K), 320, .inl r_2.2.2.2.2.2.2.2.2.2.2.1)), ((adA 21), .inl (gI (kG K), 320, .inl r_2.2.2.2.2.2.2.2.2.2.2.2))] 0 0 26 [(0, .ref adm), (1, .int gr), (2, .int ot)] []
  refine v_aload_n hk dX11_signOf_26 rfl ?_
  obtain ⟨r_3, er_3, h⟩ := bd_e (g := id) rfl h
  refine v_callV (n := 0) (st := []) (b := adm) (T := TX11) (N := 39) hk dX11_signOf_27 (c_X11_sign (kl K) (kG K) adm adA o_names o_rows o_strength o_most o_toldGraph o_toldArc r_1.2.2.2.2.2.2.2.2.2.2.1 r_1.2.2.2.2.2.2.2.2.2.2.2 r_2.2.2.2.2.2.2.2.2.2.2.1 r_2.2.2.2.2.2.2.2.2.2.2.2 fleft fright r_3 er_3) rfl gd_X11_signOf_X11_sign rfl (by decide +kernel) (frok hR9 (Nat.le_of_ble_eq_true rfl) (Nat.le_of_ble_eq_true rfl)) (roomk hR9 (Nat.le_of_ble_eq_true rfl) (Nat.le_of_ble_eq_true rfl)) rfl rfl (Nat.le_of_ble_eq_true rfl) 4 rfl rfl [4, 2, 3, 17, 18, 0, 1] [5, 6, 7, 8, 9, 10, 11, 12, 13, 14, 15, 16] (wr := [((adA 1), .inl (gI (kG K), 5, .inl fvalues)), ((adA 3), .inl (gI (kG K), 80, .inl fcells)), ((adA 11), .inl (gZ (kG K), 160, .inl r_2.1)), ((adA 12), .inl (gI (kG K), 1280, .inl r_2.2.1)), ((adA 13), .inl (gI (kG K), 1280, .inl r_2.2.2.1)), ((adA 14), .inl (gI (kG K), 320, .inl r_2.2.2.2.1)), ((adA 15), .inl (gI (kG K), 320, .inl r_2.2.2.2.2.1)), ((adA 6), .inl (gI (kG K), 320, .inl r_2.2.2.2.2.2.1)), ((adA 7), .inl (gI (kG K), 320, .inl r_2.2.2.2.2.2.2.1)), ((adA 8), .inl (gI (kG K), 320, .inl r_2.2.2.2.2.2.2.2.1)), ((adA 16), .inl (gI (kG K), 320, .inl r_2.2.2.2.2.2.2.2.2.1)), ((adA 17), .inl (gI (kG K), 320, .inl r_2.2.2.2.2.2.2.2.2.2.1))]) rfl rfl (by decide) (by decide) (by decide) ?_
  intro v9 w9 hp9
  obtain ⟨rfl, rfl⟩ := hp9
  show V K 3 [((adA 1), .inl (gI (kG K), 5, .inl fvalues)), ((adA 3), .inl (gI (kG K), 80, .inl fcells)), ((adA 11), .inl (gZ (kG K), 160, .inl r_2.1)), ((adA 12), .inl (gI (kG K), 1280, .inl r_2.2.1)), ((adA 13), .inl (gI (kG K), 1280, .inl r_2.2.2.1)), ((adA 14), .inl (gI (kG K), 320, .inl r_2.2.2.2.1)), ((adA 15), .inl (gI (kG K), 320, .inl r_2.2.2.2.2.1)), ((adA 6), .inl (gI (kG K), 320, .inl r_2.2.2.2.2.2.1)), ((adA 7), .inl (gI (kG K), 320, .inl r_2.2.2.2.2.2.2.1)), ((adA 8), .inl (gI (kG K), 320, .inl r_2.2.2.2.2.2.2.2.1)), ((adA 16), .inl (gI (kG K), 320, .inl r_2.2.2.2.2.2.2.2.2.1)), ((adA 17), .inl (gI (kG K), 320, .inl r_2.2.2.2.2.2.2.2.2.2.1)), (adm, .inr (10, oM adA o_names o_rows o_strength o_most o_toldGraph o_toldArc)), ((adA 18), .inl (gI (kG K), 320, .inl r_1.2.2.2.2.2.2.2.2.2.2.1)), ((adA 19), .inl (gI (kG K), 320, .inl r_1.2.2.2.2.2.2.2.2.2.2.2)), ((adA 20), .inl (gI (kG K), 320, .inl r_2.2.2.2.2.2.2.2.2.2.2.1)), ((adA 21), .inl (gI (kG K), 320, .inl r_2.2.2.2.2.2.2.2.2.2.2.2)), ((adA 22), .inl (gI (kG K), 320, .inl r_3.2.1)), ((adA 23), .inl (gI (kG K), 320, .inl r_3.2.2))] 0 0 30 [(0, .ref adm), (1, .int gr), (2, .int ot)] [.int r_3.1]
  replace h : some (r_3.1, r_2.1, r_2.2.1, r_2.2.2.1, r_2.2.2.2.1, r_2.2.2.2.2.1, r_2.2.2.2.2.2.1, r_2.2.2.2.2.2.2.1, r_2.2.2.2.2.2.2.2.1, r_2.2.2.2.2.2.2.2.2.1, r_2.2.2.2.2.2.2.2.2.2.1, r_1.2.2.2.2.2.2.2.2.2.2.1, r_1.2.2.2.2.2.2.2.2.2.2.2, r_2.2.2.2.2.2.2.2.2.2.2.1, r_2.2.2.2.2.2.2.2.2.2.2.2, r_3.2.1, r_3.2.2) = some r := h
  replace h := Option.some.inj h
  subst h
  refine v_perm [12, 0, 1, 2, 3, 4, 5, 6, 7, 8, 9, 10, 11, 13, 14, 15, 16, 17, 18] (ws' := [(adm, .inr (10, oM adA o_names o_rows o_strength o_most o_toldGraph o_toldArc)), ((adA 1), .inl (gI (kG K), 5, .inl fvalues)), ((adA 3), .inl (gI (kG K), 80, .inl fcells)), ((adA 11), .inl (gZ (kG K), 160, .inl r_2.1)), ((adA 12), .inl (gI (kG K), 1280, .inl r_2.2.1)), ((adA 13), .inl (gI (kG K), 1280, .inl r_2.2.2.1)), ((adA 14), .inl (gI (kG K), 320, .inl r_2.2.2.2.1)), ((adA 15), .inl (gI (kG K), 320, .inl r_2.2.2.2.2.1)), ((adA 6), .inl (gI (kG K), 320, .inl r_2.2.2.2.2.2.1)), ((adA 7), .inl (gI (kG K), 320, .inl r_2.2.2.2.2.2.2.1)), ((adA 8), .inl (gI (kG K), 320, .inl r_2.2.2.2.2.2.2.2.1)), ((adA 16), .inl (gI (kG K), 320, .inl r_2.2.2.2.2.2.2.2.2.1)), ((adA 17), .inl (gI (kG K), 320, .inl r_2.2.2.2.2.2.2.2.2.2.1)), ((adA 18), .inl (gI (kG K), 320, .inl r_1.2.2.2.2.2.2.2.2.2.2.1)), ((adA 19), .inl (gI (kG K), 320, .inl r_1.2.2.2.2.2.2.2.2.2.2.2)), ((adA 20), .inl (gI (kG K), 320, .inl r_2.2.2.2.2.2.2.2.2.2.2.1)), ((adA 21), .inl (gI (kG K), 320, .inl r_2.2.2.2.2.2.2.2.2.2.2.2)), ((adA 22), .inl (gI (kG K), 320, .inl r_3.2.1)), ((adA 23), .inl (gI (kG K), 320, .inl r_3.2.2))]) rfl rfl (by decide) ?_
  refine hrt (some (.int r_3.1)) _ _ _ _ _ (⟨rfl, rfl⟩) (Nat.zero_le _) (Nat.zero_le _) (dX11_signOf_30)
abbrev rm_X11_isSet : Room := { frames := 0, cells := 0, slots := 0, locals := 0 }
set_option maxHeartbeats 4000000 in
set_option maxRecDepth 100000 in
theorem c_X11_isSet (l : Launch) (G : GG) (adm : Nat) (adA : Nat → Nat) (o_names : Int32) (o_rows : Int32) (o_strength : Int32) (o_most : Int32) (o_toldGraph : Int32) (o_toldArc : Int32) (se : Int32) (r : Int32) (h : m_X11_isSet o_names o_rows o_strength o_most o_toldGraph o_toldArc se = some r) : Ctr l G yX11_isSet w2_X11_isSet rm_X11_isSet [.ref adm, .int se] [(adm, .inr (10, oM adA o_names o_rows o_strength o_most o_toldGraph o_toldArc))] (fun v w => v = some (.int r) ∧ w = [(adm, .inr (10, oM adA o_names o_rows o_strength o_most o_toldGraph o_toldArc))]) := by
  refine ctr_entry (cc := cX11_isSet) (maxL := 2) (ret := some .boolean) (lv0 := [(0, .ref adm), (1, .int se)]) (by decide) rfl (Nat.le_of_ble_eq_true rfl) (rfl) ?_
  intro K hl9 hG9 hk hn9 hrt
  subst hl9
  subst hG9
  have hR9 : RoomGe rm_X11_isSet rm_X11_isSet := RoomGe.rf
  replace h := id_e h
  rw [em_X11_isSet] at h
  refine v_iload_n hk dX11_isSet_0 rfl ?_
  obtain ⟨y_1, ey_1, h⟩ := bd_e (g := id) rfl h
  have Jy_1 : V K 2 [(adm, .inr (10, oM adA o_names o_rows o_strength o_most o_toldGraph o_toldArc))] 0 0 19 [(0, .ref adm), (1, .int se)] [.int y_1] := by
    obtain ⟨hbz, h⟩ := ok_e (g := id) rfl h
    replace h : some y_1 = some r := h
    replace h := Option.some.inj h
    subst h
    refine hrt (some (.int y_1)) _ _ _ _ _ (⟨rfl, rfl⟩) (Nat.zero_le _) (Nat.zero_le _) (⟨dX11_isSet_19, nar_z _ (of_decide_eq_true hbz)⟩)
  clear h
  have h := id_e ey_1
  clear ey_1
  refine v_if_lt (tgt := 18) hk dX11_isSet_1 (by decide) (fun hc => ?_) (fun hc => ?_)
  · replace h := it_t (g := id) h hc
    refine v_iconst (v := 0) hk dX11_isSet_18 (by decide) ?_
    replace h : some (0 : Int32) = some y_1 := h
    replace h := Option.some.inj h
    subst h
    exact Jy_1
  · replace h := it_f (g := id) h hc
    refine v_iload_n hk dX11_isSet_4 rfl ?_
    refine v_iconst (v := 1) hk dX11_isSet_5 (by decide) ?_
    refine v_aload_n hk dX11_isSet_6 rfl ?_
    refine v_get (C := RX11) (T := TX11) (N := 39) (ci := 10) (v := .int o_names) hk dX11_isSet_7 w2i_X11_isSet_X110 0 rfl rfl 0 (by decide) (by decide +kernel) rfl rfl ?_
    refine v_ishl hk dX11_isSet_10 ?_
    obtain ⟨z_2, ez_2, h⟩ := lt_e (g := id) h
    have Jz_2 : V K 2 [(adm, .inr (10, oM adA o_names o_rows o_strength o_most o_toldGraph o_toldArc))] 0 0 19 [(0, .ref adm), (1, .int se)] (.int z_2 :: []) := by
      replace h : some (z_2 : Int32) = some y_1 := h
      replace h := Option.some.inj h
      subst h
      exact Jy_1
    refine v_icmp_ge (tgt := 18) hk dX11_isSet_11 (by decide) (fun hc => ?_) (fun hc => ?_)
    · rw [if_pos hc] at ez_2
      subst ez_2
      refine v_iconst (v := 0) hk dX11_isSet_18 (by decide) ?_
      exact Jz_2
    · rw [if_neg hc] at ez_2
      subst ez_2
      refine v_iconst (v := 1) hk dX11_isSet_14 (by decide) ?_
      refine v_goto (tgt := 19) hk dX11_isSet_15 (by decide) ?_
      exact Jz_2
abbrev rm_X11_isName : Room := { frames := 0, cells := 0, slots := 0, locals := 0 }
set_option maxHeartbeats 4000000 in
set_option maxRecDepth 100000 in
theorem c_X11_isName (l : Launch) (G : GG) (adm : Nat) (adA : Nat → Nat) (o_names : Int32) (o_rows : Int32) (o_strength : Int32) (o_most : Int32) (o_toldGraph : Int32) (o_toldArc : Int32) (nm : Int32) (r : Int32) (h : m_X11_isName o_names o_rows o_strength o_most o_toldGraph o_toldArc nm = some r) : Ctr l G yX11_isName w2_X11_isName rm_X11_isName [.ref adm, .int nm] [(adm, .inr (10, oM adA o_names o_rows o_strength o_most o_toldGraph o_toldArc))] (fun v w => v = some (.int r) ∧ w = [(adm, .inr (10, oM adA o_names o_rows o_strength o_most o_toldGraph o_toldArc))]) := by
  refine ctr_entry (cc := cX11_isName) (maxL := 2) (ret := some .boolean) (lv0 := [(0, .ref adm), (1, .int nm)]) (by decide) rfl (Nat.le_of_ble_eq_true rfl) (rfl) ?_
  intro K hl9 hG9 hk hn9 hrt
  subst hl9
  subst hG9
  have hR9 : RoomGe rm_X11_isName rm_X11_isName := RoomGe.rf
  replace h := id_e h
  rw [em_X11_isName] at h
  refine v_iload_n hk dX11_isName_0 rfl ?_
  obtain ⟨y_1, ey_1, h⟩ := bd_e (g := id) rfl h
  have Jy_1 : V K 2 [(adm, .inr (10, oM adA o_names o_rows o_strength o_most o_toldGraph o_toldArc))] 0 0 17 [(0, .ref adm), (1, .int nm)] [.int y_1] := by
    obtain ⟨hbz, h⟩ := ok_e (g := id) rfl h
    replace h : some y_1 = some r := h
    replace h := Option.some.inj h
    subst h
    refine hrt (some (.int y_1)) _ _ _ _ _ (⟨rfl, rfl⟩) (Nat.zero_le _) (Nat.zero_le _) (⟨dX11_isName_17, nar_z _ (of_decide_eq_true hbz)⟩)
  clear h
  have h := id_e ey_1
  clear ey_1
  refine v_if_lt (tgt := 16) hk dX11_isName_1 (by decide) (fun hc => ?_) (fun hc => ?_)
  · replace h := it_t (g := id) h hc
    refine v_iconst (v := 0) hk dX11_isName_16 (by decide) ?_
    replace h : some (0 : Int32) = some y_1 := h
    replace h := Option.some.inj h
    subst h
    exact Jy_1
  · replace h := it_f (g := id) h hc
    refine v_iload_n hk dX11_isName_4 rfl ?_
    refine v_aload_n hk dX11_isName_5 rfl ?_
    refine v_get (C := RX11) (T := TX11) (N := 39) (ci := 10) (v := .int o_names) hk dX11_isName_6 w2i_X11_isName_X110 0 rfl rfl 0 (by decide) (by decide +kernel) rfl rfl ?_
    obtain ⟨z_2, ez_2, h⟩ := lt_e (g := id) h
    have Jz_2 : V K 2 [(adm, .inr (10, oM adA o_names o_rows o_strength o_most o_toldGraph o_toldArc))] 0 0 17 [(0, .ref adm), (1, .int nm)] (.int z_2 :: []) := by
      replace h : some (z_2 : Int32) = some y_1 := h
      replace h := Option.some.inj h
      subst h
      exact Jy_1
    refine v_icmp_ge (tgt := 16) hk dX11_isName_9 (by decide) (fun hc => ?_) (fun hc => ?_)
    · rw [if_pos hc] at ez_2
      subst ez_2
      refine v_iconst (v := 0) hk dX11_isName_16 (by decide) ?_
      exact Jz_2
    · rw [if_neg hc] at ez_2
      subst ez_2
      refine v_iconst (v := 1) hk dX11_isName_12 (by decide) ?_
      refine v_goto (tgt := 17) hk dX11_isName_13 (by decide) ?_
      exact Jz_2
abbrev rm_X11_isGraph : Room := { frames := 1, cells := 0, slots := 0, locals := 23 }
set_option maxHeartbeats 4000000 in
set_option maxRecDepth 100000 in
theorem L_X11_isGraph_14 {K : Cx} {R9 : Room} (hk : Ok K cX11_isGraph 5 RX11 w2_X11_isGraph R9) (hR9 : RoomGe R9 rm_X11_isGraph) {post9 : Option Value → va_W → Prop} (hrt : Rt K cX11_isGraph 5 (some .boolean) R9 post9) (adm : Nat) (adA : Nat → Nat) (o_names : Int32) (o_rows : Int32) (o_strength : Int32) (o_most : Int32) (o_toldGraph : Int32) (o_toldArc : Int32) (gr : Int32) (b9 : Int32 ⊕ Int32) (kk0 : ∀ q9 : Int32, b9 = .inl (q9) → V K 5 [(adm, .inr (10, oM adA o_names o_rows o_strength o_most o_toldGraph o_toldArc))] 0 0 65 [(0, .ref adm), (1, .int gr), (2, .int q9)] []) (kk1 : ∀ q9 : Int32, b9 = .inr (q9) → post9 (some (.int q9)) [(adm, .inr (10, oM adA o_names o_rows o_strength o_most o_toldGraph o_toldArc))]) : ∀ (nn : Nat) (i2_1 : Int32), lp (b_X11_isGraph_14 o_names o_rows o_strength o_most o_toldGraph o_toldArc gr) nn i2_1 = some b9 → V K 5 [(adm, .inr (10, oM adA o_names o_rows o_strength o_most o_toldGraph o_toldArc))] 0 0 14 [(0, .ref adm), (1, .int gr), (2, .int i2_1)] [] := by
  intro nn
  induction nn with
  | zero => intro i2_1 h; exact absurd h (by simp [lp])
  | succ nn ih =>
    intro i2_1 h
    replace h := lp_s h
    rw [eb_X11_isGraph_14] at h
    refine v_iload_n hk dX11_isGraph_14 rfl ?_
    refine v_iconst (v := 5) hk dX11_isGraph_15 (by decide) ?_
    refine v_icmp_ge (tgt := 65) hk dX11_isGraph_16 (by decide) (fun hc => ?_) (fun hc => ?_)
    · replace h := it_t (g := (lpk (lp (b_X11_isGraph_14 o_names o_rows o_strength o_most o_toldGraph o_toldArc gr) nn))) h hc
      replace h : some (.inl (i2_1)) = some b9 := h
      replace h := Option.some.inj h
      subst h
      exact kk0 _ rfl
    · replace h := it_f (g := (lpk (lp (b_X11_isGraph_14 o_names o_rows o_strength o_most o_toldGraph o_toldArc gr) nn))) h hc
      refine v_iload_n hk dX11_isGraph_19 rfl ?_
      refine v_iconst (v := 5) hk dX11_isGraph_20 (by decide) ?_
      refine v_iload_n hk dX11_isGraph_21 rfl ?_
      refine v_imul hk dX11_isGraph_22 ?_
      refine v_ishr hk dX11_isGraph_23 ?_
      refine v_bipush (v := 31) hk dX11_isGraph_24 (by decide) ?_
      refine v_iand hk dX11_isGraph_26 ?_
      obtain ⟨x3_2, ex3_2, h⟩ := lt_e (g := (lpk (lp (b_X11_isGraph_14 o_names o_rows o_strength o_most o_toldGraph o_toldArc gr) nn))) h
      refine v_topi ex3_2.symm ?_
      refine v_istore_n hk dX11_isGraph_27 rfl (by decide) [1, 2, 3, 0] (lv' := [(0, .ref adm), (1, .int gr), (2, .int i2_1), (3, .int x3_2)]) rfl ?_
      refine v_iload_n hk dX11_isGraph_28 rfl ?_
      refine v_if_eq (tgt := 59) hk dX11_isGraph_29 (by decide) (fun hc => ?_) (fun hc => ?_)
      · replace h := it_t (g := (lpk (lp (b_X11_isGraph_14 o_names o_rows o_strength o_most o_toldGraph o_toldArc gr) nn))) h hc
        obtain ⟨x2_3, ex2_3, h⟩ := lt_e (g := (lpk (lp (b_X11_isGraph_14 o_names o_rows o_strength o_most o_toldGraph o_toldArc gr) nn))) h
        refine v_iinc (v := x2_3) hk dX11_isGraph_59 rfl (by rw [ex2_3]; rfl) (by decide) [1, 2, 0, 3] (lv' := [(0, .ref adm), (1, .int gr), (2, .int x2_3), (3, .int x3_2)]) rfl ?_
        refine v_goto (tgt := 14) hk dX11_isGraph_62 (by decide) ?_
        refine v_loc [0, 1, 2] (lv' := [(0, .ref adm), (1, .int gr), (2, .int x2_3)]) rfl ?_
        exact ih x2_3 h
      · replace h := it_f (g := (lpk (lp (b_X11_isGraph_14 o_names o_rows o_strength o_most o_toldGraph o_toldArc gr) nn))) h hc
        refine v_iload_n hk dX11_isGraph_32 rfl ?_
        refine v_aload_n hk dX11_isGraph_33 rfl ?_
        refine v_get (C := RX11) (T := TX11) (N := 39) (ci := 10) (v := .int o_names) hk dX11_isGraph_34 w2i_X11_isGraph_X110 0 rfl rfl 0 (by decide) (by decide +kernel) rfl rfl ?_
        refine v_icmp_ge (tgt := 57) hk dX11_isGraph_37 (by decide) (fun hc => ?_) (fun hc => ?_)
        · replace h := it_t (g := (lpk (lp (b_X11_isGraph_14 o_names o_rows o_strength o_most o_toldGraph o_toldArc gr) nn))) h hc
          refine v_iconst (v := 0) hk dX11_isGraph_57 (by decide) ?_
          replace h : some (.inr (0)) = some b9 := h
          replace h := Option.some.inj h
          subst h
          refine hrt (some (.int 0)) _ _ _ _ _ (kk1 _ rfl) (Nat.zero_le _) (Nat.zero_le _) (⟨dX11_isGraph_58, rfl⟩)
        · replace h := it_f (g := (lpk (lp (b_X11_isGraph_14 o_names o_rows o_strength o_most o_toldGraph o_toldArc gr) nn))) h hc
          refine v_aload_n hk dX11_isGraph_40 rfl ?_
          refine v_iload_n hk dX11_isGraph_41 rfl ?_
          obtain ⟨r_4, er_4, h⟩ := bd_e (g := (lpk (lp (b_X11_isGraph_14 o_names o_rows o_strength o_most o_toldGraph o_toldArc gr) nn))) rfl h
          refine v_callV (n := 1) (st := []) (b := adm) (T := TX11) (N := 39) hk dX11_isGraph_42 (c_X11_isSet (kl K) (kG K) adm adA o_names o_rows o_strength o_most o_toldGraph o_toldArc x3_2 r_4 er_4) rfl gd_X11_isGraph_X11_isSet rfl (by decide +kernel) (frok hR9 (Nat.le_of_ble_eq_true rfl) (Nat.le_of_ble_eq_true rfl)) (roomk hR9 (Nat.le_of_ble_eq_true rfl) (Nat.le_of_ble_eq_true rfl)) rfl rfl (Nat.le_of_ble_eq_true rfl) 0 rfl rfl [0] [] (wr := []) rfl rfl (by decide) (by decide) (by decide) ?_
          intro v9 w9 hp9
          obtain ⟨rfl, rfl⟩ := hp9
          show V K 5 [(adm, .inr (10, oM adA o_names o_rows o_strength o_most o_toldGraph o_toldArc))] 0 0 45 [(0, .ref adm), (1, .int gr), (2, .int i2_1), (3, .int x3_2)] [.int r_4]
          obtain ⟨y_5, ey_5, h⟩ := bd_e (g := (lpk (lp (b_X11_isGraph_14 o_names o_rows o_strength o_most o_toldGraph o_toldArc gr) nn))) rfl h
          have Jay_5 : y_5 = true → V K 5 [(adm, .inr (10, oM adA o_names o_rows o_strength o_most o_toldGraph o_toldArc))] 0 0 57 [(0, .ref adm), (1, .int gr), (2, .int i2_1), (3, .int x3_2)] [] := by
            intro hz9
            replace h := it_t (g := (lpk (lp (b_X11_isGraph_14 o_names o_rows o_strength o_most o_toldGraph o_toldArc gr) nn))) h hz9
            refine v_iconst (v := 0) hk dX11_isGraph_57 (by decide) ?_
            replace h : some (.inr (0)) = some b9 := h
            replace h := Option.some.inj h
            subst h
            refine hrt (some (.int 0)) _ _ _ _ _ (kk1 _ rfl) (Nat.zero_le _) (Nat.zero_le _) (⟨dX11_isGraph_58, rfl⟩)
          have Jby_5 : y_5 = false → V K 5 [(adm, .inr (10, oM adA o_names o_rows o_strength o_most o_toldGraph o_toldArc))] 0 0 59 [(0, .ref adm), (1, .int gr), (2, .int i2_1), (3, .int x3_2)] [] := by
            intro hz9
            replace h := it_f (g := (lpk (lp (b_X11_isGraph_14 o_names o_rows o_strength o_most o_toldGraph o_toldArc gr) nn))) h (by rw [hz9]; decide)
            obtain ⟨x2_6, ex2_6, h⟩ := lt_e (g := (lpk (lp (b_X11_isGraph_14 o_names o_rows o_strength o_most o_toldGraph o_toldArc gr) nn))) h
            refine v_iinc (v := x2_6) hk dX11_isGraph_59 rfl (by rw [ex2_6]; rfl) (by decide) [1, 2, 0, 3] (lv' := [(0, .ref adm), (1, .int gr), (2, .int x2_6), (3, .int x3_2)]) rfl ?_
            refine v_goto (tgt := 14) hk dX11_isGraph_62 (by decide) ?_
            refine v_loc [0, 1, 2] (lv' := [(0, .ref adm), (1, .int gr), (2, .int x2_6)]) rfl ?_
            exact ih x2_6 h
          clear h
          have h := id_e ey_5
          clear ey_5
          refine v_if_eq (tgt := 57) hk dX11_isGraph_45 (by decide) (fun hc => ?_) (fun hc => ?_)
          · replace h := it_t (g := id) h hc
            replace h : some true = some y_5 := h
            replace h := Option.some.inj h
            subst h
            exact Jay_5 rfl
          · replace h := it_f (g := id) h hc
            refine v_iload_n hk dX11_isGraph_48 rfl ?_
            refine v_iload_n hk dX11_isGraph_49 rfl ?_
            refine v_ishr hk dX11_isGraph_50 ?_
            refine v_iconst (v := 1) hk dX11_isGraph_51 (by decide) ?_
            refine v_iand hk dX11_isGraph_52 ?_
            refine v_iconst (v := 1) hk dX11_isGraph_53 (by decide) ?_
            refine v_icmp_ne (tgt := 59) hk dX11_isGraph_54 (by decide) (fun hc => ?_) (fun hc => ?_)
            · replace h := it_f (g := id) h hc
              replace h : some false = some y_5 := h
              replace h := Option.some.inj h
              subst h
              exact Jby_5 rfl
            · replace h := it_t (g := id) h hc
              replace h : some true = some y_5 := h
              replace h := Option.some.inj h
              subst h
              exact Jay_5 rfl
set_option maxHeartbeats 4000000 in
set_option maxRecDepth 100000 in
theorem L_X11_isGraph_80 {K : Cx} {R9 : Room} (hk : Ok K cX11_isGraph 5 RX11 w2_X11_isGraph R9) (hR9 : RoomGe R9 rm_X11_isGraph) (adm : Nat) (adA : Nat → Nat) (o_names : Int32) (o_rows : Int32) (o_strength : Int32) (o_most : Int32) (o_toldGraph : Int32) (o_toldArc : Int32) (gr : Int32) (i3_9 : Int32) (b9 : (Int32 × Int32)) (kk0 : ∀ q9 : (Int32 × Int32), b9 = q9 → V K 5 [(adm, .inr (10, oM adA o_names o_rows o_strength o_most o_toldGraph o_toldArc))] 0 0 119 [(0, .ref adm), (1, .int gr), (2, .int q9.1), (3, .int i3_9), (4, .int q9.2)] []) : ∀ (nn : Nat) (i2_10 : Int32) (i4_11 : Int32), lp (b_X11_isGraph_80 o_names gr) nn (i2_10, i4_11) = some b9 → V K 5 [(adm, .inr (10, oM adA o_names o_rows o_strength o_most o_toldGraph o_toldArc))] 0 0 80 [(0, .ref adm), (1, .int gr), (2, .int i2_10), (3, .int i3_9), (4, .int i4_11)] [] := by
  intro nn
  induction nn with
  | zero => intro i2_10 i4_11 h; exact absurd h (by simp [lp])
  | succ nn ih =>
    intro i2_10 i4_11 h
    replace h := lp_s h
    rw [eb_X11_isGraph_80] at h
    refine v_iload hk dX11_isGraph_80 rfl ?_
    refine v_aload_n hk dX11_isGraph_82 rfl ?_
    refine v_get (C := RX11) (T := TX11) (N := 39) (ci := 10) (v := .int o_names) hk dX11_isGraph_83 w2i_X11_isGraph_X110 0 rfl rfl 0 (by decide) (by decide +kernel) rfl rfl ?_
    refine v_icmp_ge (tgt := 119) hk dX11_isGraph_86 (by decide) (fun hc => ?_) (fun hc => ?_)
    · replace h := it_t (g := (lpk (lp (b_X11_isGraph_80 o_names gr) nn))) h hc
      replace h : some (i2_10, i4_11) = some b9 := h
      replace h := Option.some.inj h
      subst h
      exact kk0 _ rfl
    · replace h := it_f (g := (lpk (lp (b_X11_isGraph_80 o_names gr) nn))) h hc
      refine v_iload_n hk dX11_isGraph_89 rfl ?_
      refine v_iload_n hk dX11_isGraph_90 rfl ?_
      refine v_iload hk dX11_isGraph_91 rfl ?_
      obtain ⟨r_12, er_12, h⟩ := bd_e (g := (lpk (lp (b_X11_isGraph_80 o_names gr) nn))) rfl h
      refine v_callS (n := 2) (st := [.int i2_10]) hk dX11_isGraph_93 (c_X11_parentsOf (kl K) (kG K) gr i4_11 r_12 er_12) gd_X11_isGraph_X11_parentsOf rfl (by decide +kernel) (frok hR9 (Nat.le_of_ble_eq_true rfl) (Nat.le_of_ble_eq_true rfl)) (roomk hR9 (Nat.le_of_ble_eq_true rfl) (Nat.le_of_ble_eq_true rfl)) rfl rfl (Nat.le_of_ble_eq_true rfl) [] [0] (wr := [(adm, .inr (10, oM adA o_names o_rows o_strength o_most o_toldGraph o_toldArc))]) rfl rfl (by decide) (by decide) (by decide) ?_
      intro v9 w9 hp9
      obtain ⟨rfl, rfl⟩ := hp9
      show V K 5 [(adm, .inr (10, oM adA o_names o_rows o_strength o_most o_toldGraph o_toldArc))] 0 0 96 [(0, .ref adm), (1, .int gr), (2, .int i2_10), (3, .int i3_9), (4, .int i4_11)] [.int r_12, .int i2_10]
      refine v_iload_n hk dX11_isGraph_96 rfl ?_
      refine v_iconst (v := (-1)) hk dX11_isGraph_97 (by decide) ?_
      refine v_ixor hk dX11_isGraph_98 ?_
      refine v_iand hk dX11_isGraph_99 ?_
      obtain ⟨y_13, ey_13, h⟩ := bd_e (g := (lpk (lp (b_X11_isGraph_80 o_names gr) nn))) rfl h
      have Jy_13 : V K 5 [(adm, .inr (10, oM adA o_names o_rows o_strength o_most o_toldGraph o_toldArc))] 0 0 111 [(0, .ref adm), (1, .int gr), (2, .int i2_10), (3, .int i3_9), (4, .int i4_11)] [.int y_13, .int i2_10] := by
        refine v_ior hk dX11_isGraph_111 ?_
        obtain ⟨x2_14, ex2_14, h⟩ := lt_e (g := (lpk (lp (b_X11_isGraph_80 o_names gr) nn))) h
        refine v_topi ex2_14.symm ?_
        refine v_istore_n hk dX11_isGraph_112 rfl (by decide) [1, 2, 0, 3, 4] (lv' := [(0, .ref adm), (1, .int gr), (2, .int x2_14), (3, .int i3_9), (4, .int i4_11)]) rfl ?_
        obtain ⟨x4_15, ex4_15, h⟩ := lt_e (g := (lpk (lp (b_X11_isGraph_80 o_names gr) nn))) h
        refine v_iinc (v := x4_15) hk dX11_isGraph_113 rfl (by rw [ex4_15]; rfl) (by decide) [1, 2, 3, 4, 0] (lv' := [(0, .ref adm), (1, .int gr), (2, .int x2_14), (3, .int i3_9), (4, .int x4_15)]) rfl ?_
        refine v_goto (tgt := 80) hk dX11_isGraph_116 (by decide) ?_
        exact ih x2_14 x4_15 h
      clear h
      have h := id_e ey_13
      clear ey_13
      refine v_if_ne (tgt := 110) hk dX11_isGraph_100 (by decide) (fun hc => ?_) (fun hc => ?_)
      · replace h := it_f (g := id) h hc
        refine v_iconst (v := 0) hk dX11_isGraph_110 (by decide) ?_
        replace h : some (0 : Int32) = some y_13 := h
        replace h := Option.some.inj h
        subst h
        exact Jy_13
      · replace h := it_t (g := id) h hc
        refine v_iconst (v := 1) hk dX11_isGraph_103 (by decide) ?_
        refine v_iload hk dX11_isGraph_104 rfl ?_
        refine v_ishl hk dX11_isGraph_106 ?_
        refine v_goto (tgt := 111) hk dX11_isGraph_107 (by decide) ?_
        replace h : some (1 <<< (i4_11 &&& 31) : Int32) = some y_13 := h
        replace h := Option.some.inj h
        subst h
        exact Jy_13
set_option maxHeartbeats 4000000 in
set_option maxRecDepth 100000 in
theorem L_X11_isGraph_69 {K : Cx} {R9 : Room} (hk : Ok K cX11_isGraph 5 RX11 w2_X11_isGraph R9) (hR9 : RoomGe R9 rm_X11_isGraph) (adm : Nat) (adA : Nat → Nat) (o_names : Int32) (o_rows : Int32) (o_strength : Int32) (o_most : Int32) (o_toldGraph : Int32) (o_toldArc : Int32) (gr : Int32) (b9 : (Int32 × Int32)) (kk0 : ∀ q9 : (Int32 × Int32), b9 = q9 → V K 5 [(adm, .inr (10, oM adA o_names o_rows o_strength o_most o_toldGraph o_toldArc))] 0 0 125 [(0, .ref adm), (1, .int gr), (2, .int q9.1), (3, .int q9.2)] []) : ∀ (nn : Nat) (i2_8 : Int32) (i3_9 : Int32), lp (b_X11_isGraph_69 o_names gr) nn (i2_8, i3_9) = some b9 → V K 5 [(adm, .inr (10, oM adA o_names o_rows o_strength o_most o_toldGraph o_toldArc))] 0 0 69 [(0, .ref adm), (1, .int gr), (2, .int i2_8), (3, .int i3_9)] [] := by
  intro nn
  induction nn with
  | zero => intro i2_8 i3_9 h; exact absurd h (by simp [lp])
  | succ nn ih =>
    intro i2_8 i3_9 h
    replace h := lp_s h
    rw [eb_X11_isGraph_69] at h
    refine v_iload_n hk dX11_isGraph_69 rfl ?_
    refine v_aload_n hk dX11_isGraph_70 rfl ?_
    refine v_get (C := RX11) (T := TX11) (N := 39) (ci := 10) (v := .int o_names) hk dX11_isGraph_71 w2i_X11_isGraph_X110 0 rfl rfl 0 (by decide) (by decide +kernel) rfl rfl ?_
    refine v_icmp_ge (tgt := 125) hk dX11_isGraph_74 (by decide) (fun hc => ?_) (fun hc => ?_)
    · replace h := it_t (g := (lpk (lp (b_X11_isGraph_69 o_names gr) nn))) h hc
      replace h : some (i2_8, i3_9) = some b9 := h
      replace h := Option.some.inj h
      subst h
      exact kk0 _ rfl
    · replace h := it_f (g := (lpk (lp (b_X11_isGraph_69 o_names gr) nn))) h hc
      refine v_iconst (v := 0) hk dX11_isGraph_77 (by decide) ?_
      refine v_istore hk dX11_isGraph_78 (by decide) [1, 2, 3, 4, 0] (lv' := [(0, .ref adm), (1, .int gr), (2, .int i2_8), (3, .int i3_9), (4, .int 0)]) rfl ?_
      obtain ⟨b_18, eb_18, h⟩ := bd_e (g := (lpk (lp (b_X11_isGraph_69 o_names gr) nn))) rfl h
      refine L_X11_isGraph_80 hk hR9 adm adA o_names o_rows o_strength o_most o_toldGraph o_toldArc gr i3_9 b_18 (fun q_16 eq_16 => ?_) FU i2_8 0 eb_18
      · replace eq_16 := eq_16.symm
        subst eq_16
        obtain ⟨x3_17, ex3_17, h⟩ := lt_e (g := (lpk (lp (b_X11_isGraph_69 o_names gr) nn))) h
        refine v_iinc (v := x3_17) hk dX11_isGraph_119 rfl (by rw [ex3_17]; rfl) (by decide) [1, 2, 3, 0, 4] (lv' := [(0, .ref adm), (1, .int gr), (2, .int q_16.1), (3, .int x3_17), (4, .int q_16.2)]) rfl ?_
        refine v_goto (tgt := 69) hk dX11_isGraph_122 (by decide) ?_
        refine v_loc [0, 1, 2, 3] (lv' := [(0, .ref adm), (1, .int gr), (2, .int q_16.1), (3, .int x3_17)]) rfl ?_
        exact ih q_16.1 x3_17 h
set_option maxHeartbeats 4000000 in
set_option maxRecDepth 100000 in
theorem c_X11_isGraph (l : Launch) (G : GG) (adm : Nat) (adA : Nat → Nat) (o_names : Int32) (o_rows : Int32) (o_strength : Int32) (o_most : Int32) (o_toldGraph : Int32) (o_toldArc : Int32) (gr : Int32) (r : Int32) (h : m_X11_isGraph o_names o_rows o_strength o_most o_toldGraph o_toldArc gr = some r) : Ctr l G yX11_isGraph w2_X11_isGraph rm_X11_isGraph [.ref adm, .int gr] [(adm, .inr (10, oM adA o_names o_rows o_strength o_most o_toldGraph o_toldArc))] (fun v w => v = some (.int r) ∧ w = [(adm, .inr (10, oM adA o_names o_rows o_strength o_most o_toldGraph o_toldArc))]) := by
  refine ctr_entry (cc := cX11_isGraph) (maxL := 5) (ret := some .boolean) (lv0 := [(0, .ref adm), (1, .int gr)]) (by decide) rfl (Nat.le_of_ble_eq_true rfl) (rfl) ?_
  intro K hl9 hG9 hk hn9 hrt
  subst hl9
  subst hG9
  have hR9 : RoomGe rm_X11_isGraph rm_X11_isGraph := RoomGe.rf
  replace h := id_e h
  rw [em_X11_isGraph] at h
  refine v_iload_n hk dX11_isGraph_0 rfl ?_
  refine v_if_lt (tgt := 10) hk dX11_isGraph_1 (by decide) (fun hc => ?_) (fun hc => ?_)
  · replace h := it_t (g := id) h hc
    refine v_iconst (v := 0) hk dX11_isGraph_10 (by decide) ?_
    replace h : some 0 = some r := h
    replace h := Option.some.inj h
    subst h
    refine hrt (some (.int 0)) _ _ _ _ _ (⟨rfl, rfl⟩) (Nat.zero_le _) (Nat.zero_le _) (⟨dX11_isGraph_11, rfl⟩)
  · replace h := it_f (g := id) h hc
    refine v_iload_n hk dX11_isGraph_4 rfl ?_
    refine v_ldc (v := 33554432) hk dX11_isGraph_5 (by decide +kernel) ?_
    refine v_icmp_lt (tgt := 12) hk dX11_isGraph_7 (by decide) (fun hc => ?_) (fun hc => ?_)
    · replace h := it_t (g := id) h hc
      refine v_iconst (v := 0) hk dX11_isGraph_12 (by decide) ?_
      refine v_istore_n hk dX11_isGraph_13 rfl (by decide) [1, 2, 0] (lv' := [(0, .ref adm), (1, .int gr), (2, .int 0)]) rfl ?_
      obtain ⟨b_22, eb_22, h⟩ := bd_e (g := id) rfl h
      refine L_X11_isGraph_14 hk hR9 hrt adm adA o_names o_rows o_strength o_most o_toldGraph o_toldArc gr b_22 (fun q_7 eq_7 => ?_) (fun q_7 eq_7 => ?_) FU 0 eb_22
      · replace eq_7 := eq_7.symm
        subst eq_7
        refine v_iconst (v := 0) hk dX11_isGraph_65 (by decide) ?_
        refine v_istore_n hk dX11_isGraph_66 rfl (by decide) [1, 2, 0] (lv' := [(0, .ref adm), (1, .int gr), (2, .int 0)]) rfl ?_
        refine v_iconst (v := 0) hk dX11_isGraph_67 (by decide) ?_
        refine v_istore_n hk dX11_isGraph_68 rfl (by decide) [1, 2, 3, 0] (lv' := [(0, .ref adm), (1, .int gr), (2, .int 0), (3, .int 0)]) rfl ?_
        obtain ⟨b_21, eb_21, h⟩ := bd_e (g := id) rfl h
        refine L_X11_isGraph_69 hk hR9 adm adA o_names o_rows o_strength o_most o_toldGraph o_toldArc gr b_21 (fun q_19 eq_19 => ?_) FU 0 0 eb_21
        · replace eq_19 := eq_19.symm
          subst eq_19
          refine v_iload_n hk dX11_isGraph_125 rfl ?_
          refine v_iconst (v := 1) hk dX11_isGraph_126 (by decide) ?_
          refine v_aload_n hk dX11_isGraph_127 rfl ?_
          refine v_get (C := RX11) (T := TX11) (N := 39) (ci := 10) (v := .int o_names) hk dX11_isGraph_128 w2i_X11_isGraph_X110 0 rfl rfl 0 (by decide) (by decide +kernel) rfl rfl ?_
          refine v_ishl hk dX11_isGraph_131 ?_
          refine v_iconst (v := 1) hk dX11_isGraph_132 (by decide) ?_
          refine v_isub hk dX11_isGraph_133 ?_
          obtain ⟨z_20, ez_20, h⟩ := lt_e (g := id) h
          have Jz_20 : V K 5 [(adm, .inr (10, oM adA o_names o_rows o_strength o_most o_toldGraph o_toldArc))] 0 0 142 [(0, .ref adm), (1, .int gr), (2, .int q_19.1), (3, .int q_19.2)] (.int z_20 :: []) := by
            obtain ⟨hbz, h⟩ := ok_e (g := id) rfl h
            replace h : some z_20 = some r := h
            replace h := Option.some.inj h
            subst h
            refine hrt (some (.int z_20)) _ _ _ _ _ (⟨rfl, rfl⟩) (Nat.zero_le _) (Nat.zero_le _) (⟨dX11_isGraph_142, nar_z _ (of_decide_eq_true hbz)⟩)
          refine v_icmp_ne (tgt := 141) hk dX11_isGraph_134 (by decide) (fun hc => ?_) (fun hc => ?_)
          · rw [if_neg hc] at ez_20
            subst ez_20
            refine v_iconst (v := 0) hk dX11_isGraph_141 (by decide) ?_
            exact Jz_20
          · rw [if_pos hc] at ez_20
            subst ez_20
            refine v_iconst (v := 1) hk dX11_isGraph_137 (by decide) ?_
            refine v_goto (tgt := 142) hk dX11_isGraph_138 (by decide) ?_
            exact Jz_20
      · replace eq_7 := eq_7.symm
        subst eq_7
        replace h : some q_7 = some r := h
        replace h := Option.some.inj h
        subst h
        exact ⟨rfl, rfl⟩
    · replace h := it_f (g := id) h hc
      refine v_iconst (v := 0) hk dX11_isGraph_10 (by decide) ?_
      replace h : some 0 = some r := h
      replace h := Option.some.inj h
      subst h
      refine hrt (some (.int 0)) _ _ _ _ _ (⟨rfl, rfl⟩) (Nat.zero_le _) (Nat.zero_le _) (⟨dX11_isGraph_11, rfl⟩)
abbrev rm_X11_isBounded : Room := { frames := 1, cells := 0, slots := 0, locals := 23 }
set_option maxHeartbeats 4000000 in
set_option maxRecDepth 100000 in
theorem L_X11_isBounded_4 {K : Cx} {R9 : Room} (hk : Ok K cX11_isBounded 4 RX11 w2_X11_isBounded R9) (hR9 : RoomGe R9 rm_X11_isBounded) (adm : Nat) (adA : Nat → Nat) (o_names : Int32) (o_rows : Int32) (o_strength : Int32) (o_most : Int32) (o_toldGraph : Int32) (o_toldArc : Int32) (gr : Int32) (b9 : (Int32 × Int32)) (kk0 : ∀ q9 : (Int32 × Int32), b9 = q9 → V K 4 [(adm, .inr (10, oM adA o_names o_rows o_strength o_most o_toldGraph o_toldArc))] 0 0 43 [(0, .ref adm), (1, .int gr), (2, .int q9.1), (3, .int q9.2)] []) : ∀ (nn : Nat) (i2_1 : Int32) (i3_2 : Int32), lp (b_X11_isBounded_4 o_names o_most gr) nn (i2_1, i3_2) = some b9 → V K 4 [(adm, .inr (10, oM adA o_names o_rows o_strength o_most o_toldGraph o_toldArc))] 0 0 4 [(0, .ref adm), (1, .int gr), (2, .int i2_1), (3, .int i3_2)] [] := by
  intro nn
  induction nn with
  | zero => intro i2_1 i3_2 h; exact absurd h (by simp [lp])
  | succ nn ih =>
    intro i2_1 i3_2 h
    replace h := lp_s h
    rw [eb_X11_isBounded_4] at h
    refine v_iload_n hk dX11_isBounded_4 rfl ?_
    refine v_aload_n hk dX11_isBounded_5 rfl ?_
    refine v_get (C := RX11) (T := TX11) (N := 39) (ci := 10) (v := .int o_names) hk dX11_isBounded_6 w2i_X11_isBounded_X110 0 rfl rfl 0 (by decide) (by decide +kernel) rfl rfl ?_
    refine v_icmp_ge (tgt := 43) hk dX11_isBounded_9 (by decide) (fun hc => ?_) (fun hc => ?_)
    · replace h := it_t (g := (lpk (lp (b_X11_isBounded_4 o_names o_most gr) nn))) h hc
      replace h : some (i2_1, i3_2) = some b9 := h
      replace h := Option.some.inj h
      subst h
      exact kk0 _ rfl
    · replace h := it_f (g := (lpk (lp (b_X11_isBounded_4 o_names o_most gr) nn))) h hc
      refine v_iload_n hk dX11_isBounded_12 rfl ?_
      refine v_if_eq (tgt := 35) hk dX11_isBounded_13 (by decide) (fun hc => ?_) (fun hc => ?_)
      · replace h := it_t (g := (lpk (lp (b_X11_isBounded_4 o_names o_most gr) nn))) h hc
        refine v_iconst (v := 0) hk dX11_isBounded_35 (by decide) ?_
        refine v_istore_n hk dX11_isBounded_36 rfl (by decide) [1, 2, 0, 3] (lv' := [(0, .ref adm), (1, .int gr), (2, .int 0), (3, .int i3_2)]) rfl ?_
        obtain ⟨x3_3, ex3_3, h⟩ := lt_e (g := (lpk (lp (b_X11_isBounded_4 o_names o_most gr) nn))) h
        refine v_iinc (v := x3_3) hk dX11_isBounded_37 rfl (by rw [ex3_3]; rfl) (by decide) [1, 2, 3, 0] (lv' := [(0, .ref adm), (1, .int gr), (2, .int 0), (3, .int x3_3)]) rfl ?_
        refine v_goto (tgt := 4) hk dX11_isBounded_40 (by decide) ?_
        exact ih 0 x3_3 h
      · replace h := it_f (g := (lpk (lp (b_X11_isBounded_4 o_names o_most gr) nn))) h hc
        refine v_iload_n hk dX11_isBounded_16 rfl ?_
        refine v_iload_n hk dX11_isBounded_17 rfl ?_
        obtain ⟨r_4, er_4, h⟩ := bd_e (g := (lpk (lp (b_X11_isBounded_4 o_names o_most gr) nn))) rfl h
        refine v_callS (n := 2) (st := []) hk dX11_isBounded_18 (c_X11_parentsOf (kl K) (kG K) gr i3_2 r_4 er_4) gd_X11_isBounded_X11_parentsOf rfl (by decide +kernel) (frok hR9 (Nat.le_of_ble_eq_true rfl) (Nat.le_of_ble_eq_true rfl)) (roomk hR9 (Nat.le_of_ble_eq_true rfl) (Nat.le_of_ble_eq_true rfl)) rfl rfl (Nat.le_of_ble_eq_true rfl) [] [0] (wr := [(adm, .inr (10, oM adA o_names o_rows o_strength o_most o_toldGraph o_toldArc))]) rfl rfl (by decide) (by decide) (by decide) ?_
        intro v9 w9 hp9
        obtain ⟨rfl, rfl⟩ := hp9
        show V K 4 [(adm, .inr (10, oM adA o_names o_rows o_strength o_most o_toldGraph o_toldArc))] 0 0 21 [(0, .ref adm), (1, .int gr), (2, .int i2_1), (3, .int i3_2)] [.int r_4]
        obtain ⟨r_5, er_5, h⟩ := bd_e (g := (lpk (lp (b_X11_isBounded_4 o_names o_most gr) nn))) rfl h
        refine v_callS (n := 1) (st := []) hk dX11_isBounded_21 (c_X11_bits (kl K) (kG K) r_4 r_5 er_5) gd_X11_isBounded_X11_bits rfl (by decide +kernel) (frok hR9 (Nat.le_of_ble_eq_true rfl) (Nat.le_of_ble_eq_true rfl)) (roomk hR9 (Nat.le_of_ble_eq_true rfl) (Nat.le_of_ble_eq_true rfl)) rfl rfl (Nat.le_of_ble_eq_true rfl) [] [0] (wr := [(adm, .inr (10, oM adA o_names o_rows o_strength o_most o_toldGraph o_toldArc))]) rfl rfl (by decide) (by decide) (by decide) ?_
        intro v9 w9 hp9
        obtain ⟨rfl, rfl⟩ := hp9
        show V K 4 [(adm, .inr (10, oM adA o_names o_rows o_strength o_most o_toldGraph o_toldArc))] 0 0 24 [(0, .ref adm), (1, .int gr), (2, .int i2_1), (3, .int i3_2)] [.int r_5]
        refine v_aload_n hk dX11_isBounded_24 rfl ?_
        refine v_get (C := RX11) (T := TX11) (N := 39) (ci := 10) (v := .int o_most) hk dX11_isBounded_25 w2i_X11_isBounded_X110 0 rfl rfl 5 (by decide) (by decide +kernel) rfl rfl ?_
        obtain ⟨z_6, ez_6, h⟩ := lt_e (g := (lpk (lp (b_X11_isBounded_4 o_names o_most gr) nn))) h
        have Jz_6 : V K 4 [(adm, .inr (10, oM adA o_names o_rows o_strength o_most o_toldGraph o_toldArc))] 0 0 36 [(0, .ref adm), (1, .int gr), (2, .int i2_1), (3, .int i3_2)] (.int z_6 :: []) := by
          refine v_istore_n hk dX11_isBounded_36 rfl (by decide) [1, 2, 0, 3] (lv' := [(0, .ref adm), (1, .int gr), (2, .int z_6), (3, .int i3_2)]) rfl ?_
          obtain ⟨x3_7, ex3_7, h⟩ := lt_e (g := (lpk (lp (b_X11_isBounded_4 o_names o_most gr) nn))) h
          refine v_iinc (v := x3_7) hk dX11_isBounded_37 rfl (by rw [ex3_7]; rfl) (by decide) [1, 2, 3, 0] (lv' := [(0, .ref adm), (1, .int gr), (2, .int z_6), (3, .int x3_7)]) rfl ?_
          refine v_goto (tgt := 4) hk dX11_isBounded_40 (by decide) ?_
          exact ih z_6 x3_7 h
        refine v_icmp_gt (tgt := 35) hk dX11_isBounded_28 (by decide) (fun hc => ?_) (fun hc => ?_)
        · rw [if_pos hc] at ez_6
          subst ez_6
          refine v_iconst (v := 0) hk dX11_isBounded_35 (by decide) ?_
          exact Jz_6
        · rw [if_neg hc] at ez_6
          subst ez_6
          refine v_iconst (v := 1) hk dX11_isBounded_31 (by decide) ?_
          refine v_goto (tgt := 36) hk dX11_isBounded_32 (by decide) ?_
          exact Jz_6
set_option maxHeartbeats 4000000 in
set_option maxRecDepth 100000 in
theorem c_X11_isBounded (l : Launch) (G : GG) (adm : Nat) (adA : Nat → Nat) (o_names : Int32) (o_rows : Int32) (o_strength : Int32) (o_most : Int32) (o_toldGraph : Int32) (o_toldArc : Int32) (gr : Int32) (r : Int32) (h : m_X11_isBounded o_names o_rows o_strength o_most o_toldGraph o_toldArc gr = some r) : Ctr l G yX11_isBounded w2_X11_isBounded rm_X11_isBounded [.ref adm, .int gr] [(adm, .inr (10, oM adA o_names o_rows o_strength o_most o_toldGraph o_toldArc))] (fun v w => v = some (.int r) ∧ w = [(adm, .inr (10, oM adA o_names o_rows o_strength o_most o_toldGraph o_toldArc))]) := by
  refine ctr_entry (cc := cX11_isBounded) (maxL := 4) (ret := some .boolean) (lv0 := [(0, .ref adm), (1, .int gr)]) (by decide) rfl (Nat.le_of_ble_eq_true rfl) (rfl) ?_
  intro K hl9 hG9 hk hn9 hrt
  subst hl9
  subst hG9
  have hR9 : RoomGe rm_X11_isBounded rm_X11_isBounded := RoomGe.rf
  replace h := id_e h
  rw [em_X11_isBounded] at h
  refine v_iconst (v := 1) hk dX11_isBounded_0 (by decide) ?_
  refine v_istore_n hk dX11_isBounded_1 rfl (by decide) [1, 2, 0] (lv' := [(0, .ref adm), (1, .int gr), (2, .int 1)]) rfl ?_
  refine v_iconst (v := 0) hk dX11_isBounded_2 (by decide) ?_
  refine v_istore_n hk dX11_isBounded_3 rfl (by decide) [1, 2, 3, 0] (lv' := [(0, .ref adm), (1, .int gr), (2, .int 1), (3, .int 0)]) rfl ?_
  obtain ⟨b_9, eb_9, h⟩ := bd_e (g := id) rfl h
  refine L_X11_isBounded_4 hk hR9 adm adA o_names o_rows o_strength o_most o_toldGraph o_toldArc gr b_9 (fun q_8 eq_8 => ?_) FU 1 0 eb_9
  · replace eq_8 := eq_8.symm
    subst eq_8
    refine v_iload_n hk dX11_isBounded_43 rfl ?_
    obtain ⟨hbz, h⟩ := ok_e (g := id) rfl h
    replace h : some q_8.1 = some r := h
    replace h := Option.some.inj h
    subst h
    refine hrt (some (.int q_8.1)) _ _ _ _ _ (⟨rfl, rfl⟩) (Nat.zero_le _) (Nat.zero_le _) (⟨dX11_isBounded_44, nar_z _ (of_decide_eq_true hbz)⟩)
abbrev rm_X11_change : Room := { frames := 0, cells := 0, slots := 0, locals := 0 }
set_option maxHeartbeats 4000000 in
set_option maxRecDepth 100000 in
theorem L_X11_change_2 {K : Cx} {R9 : Room} (hk : Ok K cX11_change 2 RX11 w2_X11_change R9) (hR9 : RoomGe R9 rm_X11_change) (adm : Nat) (adA : Nat → Nat) (o_names : Int32) (o_rows : Int32) (o_strength : Int32) (o_most : Int32) (o_toldGraph : Int32) (o_toldArc : Int32) (b9 : (Int32 × (Nat → Int32))) (kk0 : ∀ q9 : (Int32 × (Nat → Int32)), b9 = q9 → V K 2 [(adm, .inr (10, oM adA o_names o_rows o_strength o_most o_toldGraph o_toldArc)), ((adA 11), .inl (gZ (kG K), 160, .inl q9.2))] 0 0 22 [(0, .ref adm), (1, .int q9.1)] []) : ∀ (nn : Nat) (i1_1 : Int32) (fisKnown_2 : Nat → Int32), lp (b_X11_change_2) nn (i1_1, fisKnown_2) = some b9 → V K 2 [(adm, .inr (10, oM adA o_names o_rows o_strength o_most o_toldGraph o_toldArc)), ((adA 11), .inl (gZ (kG K), 160, .inl fisKnown_2))] 0 0 2 [(0, .ref adm), (1, .int i1_1)] [] := by
  intro nn
  induction nn with
  | zero => intro i1_1 fisKnown_2 h; exact absurd h (by simp [lp])
  | succ nn ih =>
    intro i1_1 fisKnown_2 h
    replace h := lp_s h
    rw [eb_X11_change_2] at h
    refine v_iload_n hk dX11_change_2 rfl ?_
    refine v_sipush (v := 160) hk dX11_change_3 (by decide) ?_
    refine v_icmp_ge (tgt := 22) hk dX11_change_6 (by decide) (fun hc => ?_) (fun hc => ?_)
    · replace h := it_t (g := (lpk (lp (b_X11_change_2) nn))) h hc
      replace h : some (i1_1, fisKnown_2) = some b9 := h
      replace h := Option.some.inj h
      subst h
      exact kk0 _ rfl
    · replace h := it_f (g := (lpk (lp (b_X11_change_2) nn))) h hc
      refine v_aload_n hk dX11_change_9 rfl ?_
      refine v_get (C := RX11) (T := TX11) (N := 39) (ci := 10) (v := .ref (adA 11)) hk dX11_change_10 w2i_X11_change_X110 0 rfl rfl 11 (by decide) (by decide +kernel) rfl rfl ?_
      refine v_iload_n hk dX11_change_13 rfl ?_
      refine v_iconst (v := 0) hk dX11_change_14 (by decide) ?_
      obtain ⟨hi, h⟩ := ok_e (g := (lpk (lp (b_X11_change_2) nn))) rfl h
      obtain ⟨fisKnown_3, efisKnown_3, h⟩ := lt_e (g := (lpk (lp (b_X11_change_2) nn))) h
      refine v_zastV hk dX11_change_15 1 rfl (ix_in hi) (bz_0) (ws' := [(adm, .inr (10, oM adA o_names o_rows o_strength o_most o_toldGraph o_toldArc)), ((adA 11), .inl (gZ (kG K), 160, .inl fisKnown_3))]) (by rw [efisKnown_3]; rfl) ?_
      obtain ⟨x1_4, ex1_4, h⟩ := lt_e (g := (lpk (lp (b_X11_change_2) nn))) h
      refine v_iinc (v := x1_4) hk dX11_change_16 rfl (by rw [ex1_4]; rfl) (by decide) [1, 0] (lv' := [(0, .ref adm), (1, .int x1_4)]) rfl ?_
      refine v_goto (tgt := 2) hk dX11_change_19 (by decide) ?_
      exact ih x1_4 fisKnown_3 h
set_option maxHeartbeats 4000000 in
set_option maxRecDepth 100000 in
theorem c_X11_change (l : Launch) (G : GG) (adm : Nat) (adA : Nat → Nat) (o_names : Int32) (o_rows : Int32) (o_strength : Int32) (o_most : Int32) (o_toldGraph : Int32) (o_toldArc : Int32) (fisKnown : Nat → Int32) (r : Int32 × Int32 × (Nat → Int32)) (h : m_X11_change o_names o_rows o_strength o_most o_toldGraph o_toldArc fisKnown = some r) : Ctr l G yX11_change w2_X11_change rm_X11_change [.ref adm] [(adm, .inr (10, oM adA o_names o_rows o_strength o_most o_toldGraph o_toldArc)), ((adA 11), .inl (gZ G, 160, .inl fisKnown))] (fun v w => v = none ∧ w = [(adm, .inr (10, oM adA o_names o_rows o_strength o_most r.1 r.2.1)), ((adA 11), .inl (gZ G, 160, .inl r.2.2))]) := by
  refine ctr_entry (cc := cX11_change) (maxL := 2) (ret := none) (lv0 := [(0, .ref adm)]) (by decide) rfl (Nat.le_of_ble_eq_true rfl) (rfl) ?_
  intro K hl9 hG9 hk hn9 hrt
  subst hl9
  subst hG9
  have hR9 : RoomGe rm_X11_change rm_X11_change := RoomGe.rf
  replace h := id_e h
  rw [em_X11_change] at h
  refine v_iconst (v := 0) hk dX11_change_0 (by decide) ?_
  refine v_istore_n hk dX11_change_1 rfl (by decide) [1, 0] (lv' := [(0, .ref adm), (1, .int 0)]) rfl ?_
  obtain ⟨b_6, eb_6, h⟩ := bd_e (g := id) rfl h
  refine L_X11_change_2 hk hR9 adm adA o_names o_rows o_strength o_most o_toldGraph o_toldArc b_6 (fun q_5 eq_5 => ?_) FU 0 fisKnown eb_6
  · replace eq_5 := eq_5.symm
    subst eq_5
    refine v_aload_n hk dX11_change_22 rfl ?_
    refine v_iconst (v := (-1)) hk dX11_change_23 (by decide) ?_
    refine v_put (C := RX11) (T := TX11) (N := 39) (ci := 10) (v := .int (-1)) (ty := .int) hk dX11_change_24 w2i_X11_change_X110 tyX11 tyX11_ok nmX11 0 rfl rfl 24 (by decide) (by decide +kernel) rfl rfl (by decide +kernel) rfl rfl (Nat.le_of_ble_eq_true rfl) (ws' := [(adm, .inr (10, oM adA o_names o_rows o_strength o_most (-1) o_toldArc)), ((adA 11), .inl (gZ (kG K), 160, .inl q_5.2))]) rfl ?_
    refine v_aload_n hk dX11_change_27 rfl ?_
    refine v_iconst (v := (-1)) hk dX11_change_28 (by decide) ?_
    refine v_put (C := RX11) (T := TX11) (N := 39) (ci := 10) (v := .int (-1)) (ty := .int) hk dX11_change_29 w2i_X11_change_X110 tyX11 tyX11_ok nmX11 0 rfl rfl 25 (by decide) (by decide +kernel) rfl rfl (by decide +kernel) rfl rfl (Nat.le_of_ble_eq_true rfl) (ws' := [(adm, .inr (10, oM adA o_names o_rows o_strength o_most (-1) (-1))), ((adA 11), .inl (gZ (kG K), 160, .inl q_5.2))]) rfl ?_
    replace h : some ((-1), (-1), q_5.2) = some r := h
    replace h := Option.some.inj h
    subst h
    refine hrt (none) _ _ _ _ _ (⟨rfl, rfl⟩) (Nat.zero_le _) (Nat.zero_le _) (dX11_change_32)
abbrev rm_X11_clear : Room := { frames := 1, cells := 0, slots := 0, locals := 21 }
set_option maxHeartbeats 4000000 in
set_option maxRecDepth 100000 in
theorem c_X11_clear (l : Launch) (G : GG) (adm : Nat) (adA : Nat → Nat) (o_names : Int32) (o_rows : Int32) (o_strength : Int32) (o_most : Int32) (o_toldGraph : Int32) (o_toldArc : Int32) (fisKnown : Nat → Int32) (r : Int32 × Int32 × Int32 × Int32 × Int32 × Int32 × Int32 × (Nat → Int32)) (h : m_X11_clear o_names o_rows o_strength o_most o_toldGraph o_toldArc fisKnown = some r) : Ctr l G yX11_clear w2_X11_clear rm_X11_clear [.ref adm] [(adm, .inr (10, oM adA o_names o_rows o_strength o_most o_toldGraph o_toldArc)), ((adA 11), .inl (gZ G, 160, .inl fisKnown))] (fun v w => v = some (.int r.1) ∧ w = [(adm, .inr (10, oM adA r.2.1 r.2.2.1 r.2.2.2.1 r.2.2.2.2.1 r.2.2.2.2.2.1 r.2.2.2.2.2.2.1)), ((adA 11), .inl (gZ G, 160, .inl r.2.2.2.2.2.2.2))]) := by
  refine ctr_entry (cc := cX11_clear) (maxL := 2) (ret := some .int) (lv0 := [(0, .ref adm)]) (by decide) rfl (Nat.le_of_ble_eq_true rfl) (rfl) ?_
  intro K hl9 hG9 hk hn9 hrt
  subst hl9
  subst hG9
  have hR9 : RoomGe rm_X11_clear rm_X11_clear := RoomGe.rf
  replace h := id_e h
  rw [em_X11_clear] at h
  refine v_aload_n hk dX11_clear_0 rfl ?_
  refine v_get (C := RX11) (T := TX11) (N := 39) (ci := 10) (v := .int o_rows) hk dX11_clear_1 w2i_X11_clear_X110 0 rfl rfl 2 (by decide) (by decide +kernel) rfl rfl ?_
  refine v_istore_n hk dX11_clear_4 rfl (by decide) [1, 0] (lv' := [(0, .ref adm), (1, .int o_rows)]) rfl ?_
  refine v_aload_n hk dX11_clear_5 rfl ?_
  refine v_iconst (v := 0) hk dX11_clear_6 (by decide) ?_
  refine v_put (C := RX11) (T := TX11) (N := 39) (ci := 10) (v := .int 0) (ty := .int) hk dX11_clear_7 w2i_X11_clear_X110 tyX11 tyX11_ok nmX11 0 rfl rfl 0 (by decide) (by decide +kernel) rfl rfl (by decide +kernel) rfl rfl (Nat.le_of_ble_eq_true rfl) (ws' := [(adm, .inr (10, oM adA 0 o_rows o_strength o_most o_toldGraph o_toldArc)), ((adA 11), .inl (gZ (kG K), 160, .inl fisKnown))]) rfl ?_
  refine v_aload_n hk dX11_clear_10 rfl ?_
  refine v_iconst (v := 0) hk dX11_clear_11 (by decide) ?_
  refine v_put (C := RX11) (T := TX11) (N := 39) (ci := 10) (v := .int 0) (ty := .int) hk dX11_clear_12 w2i_X11_clear_X110 tyX11 tyX11_ok nmX11 0 rfl rfl 2 (by decide) (by decide +kernel) rfl rfl (by decide +kernel) rfl rfl (Nat.le_of_ble_eq_true rfl) (ws' := [(adm, .inr (10, oM adA 0 0 o_strength o_most o_toldGraph o_toldArc)), ((adA 11), .inl (gZ (kG K), 160, .inl fisKnown))]) rfl ?_
  refine v_aload_n hk dX11_clear_15 rfl ?_
  refine v_iconst (v := 1) hk dX11_clear_16 (by decide) ?_
  refine v_put (C := RX11) (T := TX11) (N := 39) (ci := 10) (v := .int 1) (ty := .int) hk dX11_clear_17 w2i_X11_clear_X110 tyX11 tyX11_ok nmX11 0 rfl rfl 4 (by decide) (by decide +kernel) rfl rfl (by decide +kernel) rfl rfl (Nat.le_of_ble_eq_true rfl) (ws' := [(adm, .inr (10, oM adA 0 0 1 o_most o_toldGraph o_toldArc)), ((adA 11), .inl (gZ (kG K), 160, .inl fisKnown))]) rfl ?_
  refine v_aload_n hk dX11_clear_20 rfl ?_
  refine v_iconst (v := 4) hk dX11_clear_21 (by decide) ?_
  refine v_put (C := RX11) (T := TX11) (N := 39) (ci := 10) (v := .int 4) (ty := .int) hk dX11_clear_22 w2i_X11_clear_X110 tyX11 tyX11_ok nmX11 0 rfl rfl 5 (by decide) (by decide +kernel) rfl rfl (by decide +kernel) rfl rfl (Nat.le_of_ble_eq_true rfl) (ws' := [(adm, .inr (10, oM adA 0 0 1 4 o_toldGraph o_toldArc)), ((adA 11), .inl (gZ (kG K), 160, .inl fisKnown))]) rfl ?_
  refine v_aload_n hk dX11_clear_25 rfl ?_
  obtain ⟨r_1, er_1, h⟩ := bd_e (g := id) rfl h
  refine v_callV (n := 0) (st := []) (b := adm) (T := TX11) (N := 39) hk dX11_clear_26 (c_X11_change (kl K) (kG K) adm adA 0 0 1 4 o_toldGraph o_toldArc fisKnown r_1 er_1) rfl gd_X11_clear_X11_change rfl (by decide +kernel) (frok hR9 (Nat.le_of_ble_eq_true rfl) (Nat.le_of_ble_eq_true rfl)) (roomk hR9 (Nat.le_of_ble_eq_true rfl) (Nat.le_of_ble_eq_true rfl)) rfl rfl (Nat.le_of_ble_eq_true rfl) 0 rfl rfl [0, 1] [] (wr := []) rfl rfl (by decide) (by decide) (by decide) ?_
  intro v9 w9 hp9
  obtain ⟨rfl, rfl⟩ := hp9
  show V K 2 [(adm, .inr (10, oM adA 0 0 1 4 r_1.1 r_1.2.1)), ((adA 11), .inl (gZ (kG K), 160, .inl r_1.2.2))] 0 0 29 [(0, .ref adm), (1, .int o_rows)] []
  refine v_iload_n hk dX11_clear_29 rfl ?_
  replace h : some (o_rows, 0, 0, 1, 4, r_1.1, r_1.2.1, r_1.2.2) = some r := h
  replace h := Option.some.inj h
  subst h
  refine hrt (some (.int o_rows)) _ _ _ _ _ (⟨rfl, rfl⟩) (Nat.zero_le _) (Nat.zero_le _) (dX11_clear_30)
abbrev rm_X11_name : Room := { frames := 1, cells := 0, slots := 0, locals := 21 }
set_option maxHeartbeats 4000000 in
set_option maxRecDepth 100000 in
theorem c_X11_name (l : Launch) (G : GG) (adm : Nat) (adA : Nat → Nat) (o_names : Int32) (o_rows : Int32) (o_strength : Int32) (o_most : Int32) (o_toldGraph : Int32) (o_toldArc : Int32) (fisKnown : Nat → Int32) (fvalues : Nat → Int32) (v : Int32) (r : Int32 × Int32 × Int32 × Int32 × (Nat → Int32) × (Nat → Int32)) (h : m_X11_name o_names o_rows o_strength o_most o_toldGraph o_toldArc fisKnown fvalues v = some r) : Ctr l G yX11_name w2_X11_name rm_X11_name [.ref adm, .int v] [(adm, .inr (10, oM adA o_names o_rows o_strength o_most o_toldGraph o_toldArc)), ((adA 11), .inl (gZ G, 160, .inl fisKnown)), ((adA 1), .inl (gI G, 5, .inl fvalues))] (fun v w => v = some (.int r.1) ∧ w = [(adm, .inr (10, oM adA r.2.1 o_rows o_strength o_most r.2.2.1 r.2.2.2.1)), ((adA 11), .inl (gZ G, 160, .inl r.2.2.2.2.1)), ((adA 1), .inl (gI G, 5, .inl r.2.2.2.2.2))]) := by
  refine ctr_entry (cc := cX11_name) (maxL := 2) (ret := some .int) (lv0 := [(0, .ref adm), (1, .int v)]) (by decide) rfl (Nat.le_of_ble_eq_true rfl) (rfl) ?_
  intro K hl9 hG9 hk hn9 hrt
  subst hl9
  subst hG9
  have hR9 : RoomGe rm_X11_name rm_X11_name := RoomGe.rf
  replace h := id_e h
  rw [em_X11_name] at h
  refine v_iload_n hk dX11_name_0 rfl ?_
  refine v_iconst (v := 2) hk dX11_name_1 (by decide) ?_
  refine v_icmp_eq (tgt := 12) hk dX11_name_2 (by decide) (fun hc => ?_) (fun hc => ?_)
  · replace h := it_t (g := id) h hc
    refine v_aload_n hk dX11_name_12 rfl ?_
    refine v_get (C := RX11) (T := TX11) (N := 39) (ci := 10) (v := .int o_rows) hk dX11_name_13 w2i_X11_name_X110 0 rfl rfl 2 (by decide) (by decide +kernel) rfl rfl ?_
    refine v_if_le (tgt := 22) hk dX11_name_16 (by decide) (fun hc => ?_) (fun hc => ?_)
    · replace h := it_t (g := id) h hc
      refine v_aload_n hk dX11_name_22 rfl ?_
      refine v_get (C := RX11) (T := TX11) (N := 39) (ci := 10) (v := .int o_names) hk dX11_name_23 w2i_X11_name_X110 0 rfl rfl 0 (by decide) (by decide +kernel) rfl rfl ?_
      refine v_iconst (v := 5) hk dX11_name_26 (by decide) ?_
      refine v_icmp_ne (tgt := 33) hk dX11_name_27 (by decide) (fun hc => ?_) (fun hc => ?_)
      · replace h := it_f (g := id) h hc
        refine v_aload_n hk dX11_name_33 rfl ?_
        refine v_get (C := RX11) (T := TX11) (N := 39) (ci := 10) (v := .ref (adA 1)) hk dX11_name_34 w2i_X11_name_X110 0 rfl rfl 1 (by decide) (by decide +kernel) rfl rfl ?_
        refine v_aload_n hk dX11_name_37 rfl ?_
        refine v_get (C := RX11) (T := TX11) (N := 39) (ci := 10) (v := .int o_names) hk dX11_name_38 w2i_X11_name_X110 0 rfl rfl 0 (by decide) (by decide +kernel) rfl rfl ?_
        refine v_iload_n hk dX11_name_41 rfl ?_
        obtain ⟨hi, h⟩ := ok_e (g := id) rfl h
        obtain ⟨fvalues_1, efvalues_1, h⟩ := lt_e (g := id) h
        refine v_iastV hk dX11_name_42 2 rfl (ix_in hi) (ws' := [(adm, .inr (10, oM adA o_names o_rows o_strength o_most o_toldGraph o_toldArc)), ((adA 11), .inl (gZ (kG K), 160, .inl fisKnown)), ((adA 1), .inl (gI (kG K), 5, .inl fvalues_1))]) (by rw [efvalues_1]; rfl) ?_
        refine v_aload_n hk dX11_name_43 rfl ?_
        refine v_dup hk dX11_name_44 rfl ?_
        refine v_get (C := RX11) (T := TX11) (N := 39) (ci := 10) (v := .int o_names) hk dX11_name_45 w2i_X11_name_X110 0 rfl rfl 0 (by decide) (by decide +kernel) rfl rfl ?_
        refine v_iconst (v := 1) hk dX11_name_48 (by decide) ?_
        refine v_iadd hk dX11_name_49 ?_
        obtain ⟨vnames_2, evnames_2, h⟩ := lt_e (g := id) h
        refine v_topi evnames_2.symm ?_
        refine v_put (C := RX11) (T := TX11) (N := 39) (ci := 10) (v := .int vnames_2) (ty := .int) hk dX11_name_50 w2i_X11_name_X110 tyX11 tyX11_ok nmX11 0 rfl rfl 0 (by decide) (by decide +kernel) rfl rfl (by decide +kernel) rfl rfl (Nat.le_of_ble_eq_true rfl) (ws' := [(adm, .inr (10, oM adA vnames_2 o_rows o_strength o_most o_toldGraph o_toldArc)), ((adA 11), .inl (gZ (kG K), 160, .inl fisKnown)), ((adA 1), .inl (gI (kG K), 5, .inl fvalues_1))]) rfl ?_
        refine v_aload_n hk dX11_name_53 rfl ?_
        obtain ⟨r_3, er_3, h⟩ := bd_e (g := id) rfl h
        refine v_callV (n := 0) (st := []) (b := adm) (T := TX11) (N := 39) hk dX11_name_54 (c_X11_change (kl K) (kG K) adm adA vnames_2 o_rows o_strength o_most o_toldGraph o_toldArc fisKnown r_3 er_3) rfl gd_X11_name_X11_change rfl (by decide +kernel) (frok hR9 (Nat.le_of_ble_eq_true rfl) (Nat.le_of_ble_eq_true rfl)) (roomk hR9 (Nat.le_of_ble_eq_true rfl) (Nat.le_of_ble_eq_true rfl)) rfl rfl (Nat.le_of_ble_eq_true rfl) 0 rfl rfl [0, 1] [2] (wr := [((adA 1), .inl (gI (kG K), 5, .inl fvalues_1))]) rfl rfl (by decide) (by decide) (by decide) ?_
        intro v9 w9 hp9
        obtain ⟨rfl, rfl⟩ := hp9
        show V K 2 [((adA 1), .inl (gI (kG K), 5, .inl fvalues_1)), (adm, .inr (10, oM adA vnames_2 o_rows o_strength o_most r_3.1 r_3.2.1)), ((adA 11), .inl (gZ (kG K), 160, .inl r_3.2.2))] 0 0 57 [(0, .ref adm), (1, .int v)] []
        refine v_aload_n hk dX11_name_57 rfl ?_
        refine v_get (C := RX11) (T := TX11) (N := 39) (ci := 10) (v := .int vnames_2) hk dX11_name_58 w2i_X11_name_X110 1 rfl rfl 0 (by decide) (by decide +kernel) rfl rfl ?_
        refine v_iconst (v := 1) hk dX11_name_61 (by decide) ?_
        refine v_isub hk dX11_name_62 ?_
        replace h : some (vnames_2 - 1, vnames_2, r_3.1, r_3.2.1, r_3.2.2, fvalues_1) = some r := h
        replace h := Option.some.inj h
        subst h
        refine v_perm [1, 2, 0] (ws' := [(adm, .inr (10, oM adA vnames_2 o_rows o_strength o_most r_3.1 r_3.2.1)), ((adA 11), .inl (gZ (kG K), 160, .inl r_3.2.2)), ((adA 1), .inl (gI (kG K), 5, .inl fvalues_1))]) rfl rfl (by decide) ?_
        refine hrt (some (.int (vnames_2 - 1))) _ _ _ _ _ (⟨rfl, rfl⟩) (Nat.zero_le _) (Nat.zero_le _) (dX11_name_63)
      · replace h := it_t (g := id) h hc
        refine v_bipush (v := (-3)) hk dX11_name_30 (by decide) ?_
        replace h : some ((-3), o_names, o_toldGraph, o_toldArc, fisKnown, fvalues) = some r := h
        replace h := Option.some.inj h
        subst h
        refine hrt (some (.int (-3))) _ _ _ _ _ (⟨rfl, rfl⟩) (Nat.zero_le _) (Nat.zero_le _) (dX11_name_32)
    · replace h := it_f (g := id) h hc
      refine v_bipush (v := (-2)) hk dX11_name_19 (by decide) ?_
      replace h : some ((-2), o_names, o_toldGraph, o_toldArc, fisKnown, fvalues) = some r := h
      replace h := Option.some.inj h
      subst h
      refine hrt (some (.int (-2))) _ _ _ _ _ (⟨rfl, rfl⟩) (Nat.zero_le _) (Nat.zero_le _) (dX11_name_21)
  · replace h := it_f (g := id) h hc
    refine v_iload_n hk dX11_name_5 rfl ?_
    refine v_iconst (v := 3) hk dX11_name_6 (by decide) ?_
    refine v_icmp_eq (tgt := 12) hk dX11_name_7 (by decide) (fun hc => ?_) (fun hc => ?_)
    · replace h := it_t (g := id) h hc
      refine v_aload_n hk dX11_name_12 rfl ?_
      refine v_get (C := RX11) (T := TX11) (N := 39) (ci := 10) (v := .int o_rows) hk dX11_name_13 w2i_X11_name_X110 0 rfl rfl 2 (by decide) (by decide +kernel) rfl rfl ?_
      refine v_if_le (tgt := 22) hk dX11_name_16 (by decide) (fun hc => ?_) (fun hc => ?_)
      · replace h := it_t (g := id) h hc
        refine v_aload_n hk dX11_name_22 rfl ?_
        refine v_get (C := RX11) (T := TX11) (N := 39) (ci := 10) (v := .int o_names) hk dX11_name_23 w2i_X11_name_X110 0 rfl rfl 0 (by decide) (by decide +kernel) rfl rfl ?_
        refine v_iconst (v := 5) hk dX11_name_26 (by decide) ?_
        refine v_icmp_ne (tgt := 33) hk dX11_name_27 (by decide) (fun hc => ?_) (fun hc => ?_)
        · replace h := it_f (g := id) h hc
          refine v_aload_n hk dX11_name_33 rfl ?_
          refine v_get (C := RX11) (T := TX11) (N := 39) (ci := 10) (v := .ref (adA 1)) hk dX11_name_34 w2i_X11_name_X110 0 rfl rfl 1 (by decide) (by decide +kernel) rfl rfl ?_
          refine v_aload_n hk dX11_name_37 rfl ?_
          refine v_get (C := RX11) (T := TX11) (N := 39) (ci := 10) (v := .int o_names) hk dX11_name_38 w2i_X11_name_X110 0 rfl rfl 0 (by decide) (by decide +kernel) rfl rfl ?_
          refine v_iload_n hk dX11_name_41 rfl ?_
          obtain ⟨hi, h⟩ := ok_e (g := id) rfl h
          obtain ⟨fvalues_4, efvalues_4, h⟩ := lt_e (g := id) h
          refine v_iastV hk dX11_name_42 2 rfl (ix_in hi) (ws' := [(adm, .inr (10, oM adA o_names o_rows o_strength o_most o_toldGraph o_toldArc)), ((adA 11), .inl (gZ (kG K), 160, .inl fisKnown)), ((adA 1), .inl (gI (kG K), 5, .inl fvalues_4))]) (by rw [efvalues_4]; rfl) ?_
          refine v_aload_n hk dX11_name_43 rfl ?_
          refine v_dup hk dX11_name_44 rfl ?_
          refine v_get (C := RX11) (T := TX11) (N := 39) (ci := 10) (v := .int o_names) hk dX11_name_45 w2i_X11_name_X110 0 rfl rfl 0 (by decide) (by decide +kernel) rfl rfl ?_
          refine v_iconst (v := 1) hk dX11_name_48 (by decide) ?_
          refine v_iadd hk dX11_name_49 ?_
          obtain ⟨vnames_5, evnames_5, h⟩ := lt_e (g := id) h
          refine v_topi evnames_5.symm ?_
          refine v_put (C := RX11) (T := TX11) (N := 39) (ci := 10) (v := .int vnames_5) (ty := .int) hk dX11_name_50 w2i_X11_name_X110 tyX11 tyX11_ok nmX11 0 rfl rfl 0 (by decide) (by decide +kernel) rfl rfl (by decide +kernel) rfl rfl (Nat.le_of_ble_eq_true rfl) (ws' := [(adm, .inr (10, oM adA vnames_5 o_rows o_strength o_most o_toldGraph o_toldArc)), ((adA 11), .inl (gZ (kG K), 160, .inl fisKnown)), ((adA 1), .inl (gI (kG K), 5, .inl fvalues_4))]) rfl ?_
          refine v_aload_n hk dX11_name_53 rfl ?_
          obtain ⟨r_6, er_6, h⟩ := bd_e (g := id) rfl h
          refine v_callV (n := 0) (st := []) (b := adm) (T := TX11) (N := 39) hk dX11_name_54 (c_X11_change (kl K) (kG K) adm adA vnames_5 o_rows o_strength o_most o_toldGraph o_toldArc fisKnown r_6 er_6) rfl gd_X11_name_X11_change rfl (by decide +kernel) (frok hR9 (Nat.le_of_ble_eq_true rfl) (Nat.le_of_ble_eq_true rfl)) (roomk hR9 (Nat.le_of_ble_eq_true rfl) (Nat.le_of_ble_eq_true rfl)) rfl rfl (Nat.le_of_ble_eq_true rfl) 0 rfl rfl [0, 1] [2] (wr := [((adA 1), .inl (gI (kG K), 5, .inl fvalues_4))]) rfl rfl (by decide) (by decide) (by decide) ?_
          intro v9 w9 hp9
          obtain ⟨rfl, rfl⟩ := hp9
          show V K 2 [((adA 1), .inl (gI (kG K), 5, .inl fvalues_4)), (adm, .inr (10, oM adA vnames_5 o_rows o_strength o_most r_6.1 r_6.2.1)), ((adA 11), .inl (gZ (kG K), 160, .inl r_6.2.2))] 0 0 57 [(0, .ref adm), (1, .int v)] []
          refine v_aload_n hk dX11_name_57 rfl ?_
          refine v_get (C := RX11) (T := TX11) (N := 39) (ci := 10) (v := .int vnames_5) hk dX11_name_58 w2i_X11_name_X110 1 rfl rfl 0 (by decide) (by decide +kernel) rfl rfl ?_
          refine v_iconst (v := 1) hk dX11_name_61 (by decide) ?_
          refine v_isub hk dX11_name_62 ?_
          replace h : some (vnames_5 - 1, vnames_5, r_6.1, r_6.2.1, r_6.2.2, fvalues_4) = some r := h
          replace h := Option.some.inj h
          subst h
          refine v_perm [1, 2, 0] (ws' := [(adm, .inr (10, oM adA vnames_5 o_rows o_strength o_most r_6.1 r_6.2.1)), ((adA 11), .inl (gZ (kG K), 160, .inl r_6.2.2)), ((adA 1), .inl (gI (kG K), 5, .inl fvalues_4))]) rfl rfl (by decide) ?_
          refine hrt (some (.int (vnames_5 - 1))) _ _ _ _ _ (⟨rfl, rfl⟩) (Nat.zero_le _) (Nat.zero_le _) (dX11_name_63)
        · replace h := it_t (g := id) h hc
          refine v_bipush (v := (-3)) hk dX11_name_30 (by decide) ?_
          replace h : some ((-3), o_names, o_toldGraph, o_toldArc, fisKnown, fvalues) = some r := h
          replace h := Option.some.inj h
          subst h
          refine hrt (some (.int (-3))) _ _ _ _ _ (⟨rfl, rfl⟩) (Nat.zero_le _) (Nat.zero_le _) (dX11_name_32)
      · replace h := it_f (g := id) h hc
        refine v_bipush (v := (-2)) hk dX11_name_19 (by decide) ?_
        replace h : some ((-2), o_names, o_toldGraph, o_toldArc, fisKnown, fvalues) = some r := h
        replace h := Option.some.inj h
        subst h
        refine hrt (some (.int (-2))) _ _ _ _ _ (⟨rfl, rfl⟩) (Nat.zero_le _) (Nat.zero_le _) (dX11_name_21)
    · replace h := it_f (g := id) h hc
      refine v_iconst (v := (-1)) hk dX11_name_10 (by decide) ?_
      replace h : some ((-1), o_names, o_toldGraph, o_toldArc, fisKnown, fvalues) = some r := h
      replace h := Option.some.inj h
      subst h
      refine hrt (some (.int (-1))) _ _ _ _ _ (⟨rfl, rfl⟩) (Nat.zero_le _) (Nat.zero_le _) (dX11_name_11)
abbrev rm_X11_isValue : Room := { frames := 0, cells := 0, slots := 0, locals := 0 }
set_option maxHeartbeats 4000000 in
set_option maxRecDepth 100000 in
theorem c_X11_isValue (l : Launch) (G : GG) (adm : Nat) (adA : Nat → Nat) (o_names : Int32) (o_rows : Int32) (o_strength : Int32) (o_most : Int32) (o_toldGraph : Int32) (o_toldArc : Int32) (fvalues : Nat → Int32) (nm : Int32) (v : Int32) (r : Int32) (h : m_X11_isValue o_names o_rows o_strength o_most o_toldGraph o_toldArc fvalues nm v = some r) : Ctr l G yX11_isValue w2_X11_isValue rm_X11_isValue [.ref adm, .int nm, .int v] [(adm, .inr (10, oM adA o_names o_rows o_strength o_most o_toldGraph o_toldArc)), ((adA 1), .inl (gI G, 5, .inl fvalues))] (fun v w => v = some (.int r) ∧ w = [(adm, .inr (10, oM adA o_names o_rows o_strength o_most o_toldGraph o_toldArc)), ((adA 1), .inl (gI G, 5, .inl fvalues))]) := by
  refine ctr_entry (cc := cX11_isValue) (maxL := 3) (ret := some .boolean) (lv0 := [(0, .ref adm), (1, .int nm), (2, .int v)]) (by decide) rfl (Nat.le_of_ble_eq_true rfl) (rfl) ?_
  intro K hl9 hG9 hk hn9 hrt
  subst hl9
  subst hG9
  have hR9 : RoomGe rm_X11_isValue rm_X11_isValue := RoomGe.rf
  replace h := id_e h
  rw [em_X11_isValue] at h
  refine v_iload_n hk dX11_isValue_0 rfl ?_
  refine v_aload_n hk dX11_isValue_1 rfl ?_
  refine v_get (C := RX11) (T := TX11) (N := 39) (ci := 10) (v := .int o_names) hk dX11_isValue_2 w2i_X11_isValue_X110 0 rfl rfl 0 (by decide) (by decide +kernel) rfl rfl ?_
  obtain ⟨y_1, ey_1, h⟩ := bd_e (g := id) rfl h
  have Jy_1 : V K 3 [(adm, .inr (10, oM adA o_names o_rows o_strength o_most o_toldGraph o_toldArc)), ((adA 1), .inl (gI (kG K), 5, .inl fvalues))] 0 0 27 [(0, .ref adm), (1, .int nm), (2, .int v)] [.int y_1] := by
    obtain ⟨hbz, h⟩ := ok_e (g := id) rfl h
    replace h : some y_1 = some r := h
    replace h := Option.some.inj h
    subst h
    refine hrt (some (.int y_1)) _ _ _ _ _ (⟨rfl, rfl⟩) (Nat.zero_le _) (Nat.zero_le _) (⟨dX11_isValue_27, nar_z _ (of_decide_eq_true hbz)⟩)
  clear h
  have h := id_e ey_1
  clear ey_1
  refine v_icmp_ge (tgt := 22) hk dX11_isValue_5 (by decide) (fun hc => ?_) (fun hc => ?_)
  · replace h := it_t (g := id) h hc
    refine v_iconst (v := 1) hk dX11_isValue_22 (by decide) ?_
    refine v_goto (tgt := 27) hk dX11_isValue_23 (by decide) ?_
    replace h : some (1 : Int32) = some y_1 := h
    replace h := Option.some.inj h
    subst h
    exact Jy_1
  · replace h := it_f (g := id) h hc
    refine v_iload_n hk dX11_isValue_8 rfl ?_
    obtain ⟨y_2, ey_2, h⟩ := bd_e (g := id) rfl h
    have Jy_2 : V K 3 [(adm, .inr (10, oM adA o_names o_rows o_strength o_most o_toldGraph o_toldArc)), ((adA 1), .inl (gI (kG K), 5, .inl fvalues))] 0 0 27 [(0, .ref adm), (1, .int nm), (2, .int v)] [.int y_2] := by
      replace h : some (y_2 : Int32) = some y_1 := h
      replace h := Option.some.inj h
      subst h
      exact Jy_1
    clear h
    have h := id_e ey_2
    clear ey_2
    refine v_if_lt (tgt := 26) hk dX11_isValue_9 (by decide) (fun hc => ?_) (fun hc => ?_)
    · replace h := it_t (g := id) h hc
      refine v_iconst (v := 0) hk dX11_isValue_26 (by decide) ?_
      replace h : some (0 : Int32) = some y_2 := h
      replace h := Option.some.inj h
      subst h
      exact Jy_2
    · replace h := it_f (g := id) h hc
      refine v_iload_n hk dX11_isValue_12 rfl ?_
      refine v_aload_n hk dX11_isValue_13 rfl ?_
      refine v_get (C := RX11) (T := TX11) (N := 39) (ci := 10) (v := .ref (adA 1)) hk dX11_isValue_14 w2i_X11_isValue_X110 0 rfl rfl 1 (by decide) (by decide +kernel) rfl rfl ?_
      refine v_iload_n hk dX11_isValue_17 rfl ?_
      obtain ⟨hi, h⟩ := ok_e (g := id) rfl h
      refine v_ialdV hk dX11_isValue_18 1 rfl (ix_in hi) ?_
      obtain ⟨z_3, ez_3, h⟩ := lt_e (g := id) h
      have Jz_3 : V K 3 [(adm, .inr (10, oM adA o_names o_rows o_strength o_most o_toldGraph o_toldArc)), ((adA 1), .inl (gI (kG K), 5, .inl fvalues))] 0 0 27 [(0, .ref adm), (1, .int nm), (2, .int v)] (.int z_3 :: []) := by
        replace h : some (z_3 : Int32) = some y_2 := h
        replace h := Option.some.inj h
        subst h
        exact Jy_2
      refine v_icmp_ge (tgt := 26) hk dX11_isValue_19 (by decide) (fun hc => ?_) (fun hc => ?_)
      · rw [if_pos hc] at ez_3
        subst ez_3
        refine v_iconst (v := 0) hk dX11_isValue_26 (by decide) ?_
        exact Jz_3
      · rw [if_neg hc] at ez_3
        subst ez_3
        refine v_iconst (v := 1) hk dX11_isValue_22 (by decide) ?_
        refine v_goto (tgt := 27) hk dX11_isValue_23 (by decide) ?_
        exact Jz_3
abbrev rm_X11_row : Room := { frames := 1, cells := 0, slots := 0, locals := 22 }
set_option maxHeartbeats 4000000 in
set_option maxRecDepth 100000 in
theorem c_X11_row (l : Launch) (G : GG) (adm : Nat) (adA : Nat → Nat) (o_names : Int32) (o_rows : Int32) (o_strength : Int32) (o_most : Int32) (o_toldGraph : Int32) (o_toldArc : Int32) (fisKnown : Nat → Int32) (fvalues : Nat → Int32) (fcells : Nat → Int32) (p0 : Int32) (p1 : Int32) (p2 : Int32) (p3 : Int32) (p4 : Int32) (r : Int32 × Int32 × Int32 × Int32 × (Nat → Int32) × (Nat → Int32)) (h : m_X11_row o_names o_rows o_strength o_most o_toldGraph o_toldArc fisKnown fvalues fcells p0 p1 p2 p3 p4 = some r) : Ctr l G yX11_row w2_X11_row rm_X11_row [.ref adm, .int p0, .int p1, .int p2, .int p3, .int p4] [(adm, .inr (10, oM adA o_names o_rows o_strength o_most o_toldGraph o_toldArc)), ((adA 11), .inl (gZ G, 160, .inl fisKnown)), ((adA 1), .inl (gI G, 5, .inl fvalues)), ((adA 3), .inl (gI G, 80, .inl fcells))] (fun v w => v = some (.int r.1) ∧ w = [(adm, .inr (10, oM adA o_names r.2.1 o_strength o_most r.2.2.1 r.2.2.2.1)), ((adA 11), .inl (gZ G, 160, .inl r.2.2.2.2.1)), ((adA 1), .inl (gI G, 5, .inl fvalues)), ((adA 3), .inl (gI G, 80, .inl r.2.2.2.2.2))]) := by
  refine ctr_entry (cc := cX11_row) (maxL := 7) (ret := some .int) (lv0 := [(0, .ref adm), (1, .int p0), (2, .int p1), (3, .int p2), (4, .int p3), (5, .int p4)]) (by decide) rfl (Nat.le_of_ble_eq_true rfl) (rfl) ?_
  intro K hl9 hG9 hk hn9 hrt
  subst hl9
  subst hG9
  have hR9 : RoomGe rm_X11_row rm_X11_row := RoomGe.rf
  replace h := id_e h
  rw [em_X11_row] at h
  refine v_aload_n hk dX11_row_0 rfl ?_
  refine v_iconst (v := 0) hk dX11_row_1 (by decide) ?_
  refine v_iload_n hk dX11_row_2 rfl ?_
  obtain ⟨r_1, er_1, h⟩ := bd_e (g := id) rfl h
  refine v_callV (n := 2) (st := []) (b := adm) (T := TX11) (N := 39) hk dX11_row_3 (c_X11_isValue (kl K) (kG K) adm adA o_names o_rows o_strength o_most o_toldGraph o_toldArc fvalues 0 p0 r_1 er_1) rfl gd_X11_row_X11_isValue rfl (by decide +kernel) (frok hR9 (Nat.le_of_ble_eq_true rfl) (Nat.le_of_ble_eq_true rfl)) (roomk hR9 (Nat.le_of_ble_eq_true rfl) (Nat.le_of_ble_eq_true rfl)) rfl rfl (Nat.le_of_ble_eq_true rfl) 0 rfl rfl [0, 2] [1, 3] (wr := [((adA 11), .inl (gZ (kG K), 160, .inl fisKnown)), ((adA 3), .inl (gI (kG K), 80, .inl fcells))]) rfl rfl (by decide) (by decide) (by decide) ?_
  intro v9 w9 hp9
  obtain ⟨rfl, rfl⟩ := hp9
  show V K 7 [((adA 11), .inl (gZ (kG K), 160, .inl fisKnown)), ((adA 3), .inl (gI (kG K), 80, .inl fcells)), (adm, .inr (10, oM adA o_names o_rows o_strength o_most o_toldGraph o_toldArc)), ((adA 1), .inl (gI (kG K), 5, .inl fvalues))] 0 0 6 [(0, .ref adm), (1, .int p0), (2, .int p1), (3, .int p2), (4, .int p3), (5, .int p4)] [.int r_1]
  refine v_if_eq (tgt := 47) hk dX11_row_6 (by decide) (fun hc => ?_) (fun hc => ?_)
  · replace h := it_t (g := id) h hc
    refine v_iconst (v := (-1)) hk dX11_row_47 (by decide) ?_
    replace h : some ((-1), o_rows, o_toldGraph, o_toldArc, fisKnown, fcells) = some r := h
    replace h := Option.some.inj h
    subst h
    refine v_perm [2, 0, 3, 1] (ws' := [(adm, .inr (10, oM adA o_names o_rows o_strength o_most o_toldGraph o_toldArc)), ((adA 11), .inl (gZ (kG K), 160, .inl fisKnown)), ((adA 1), .inl (gI (kG K), 5, .inl fvalues)), ((adA 3), .inl (gI (kG K), 80, .inl fcells))]) rfl rfl (by decide) ?_
    refine hrt (some (.int (-1))) _ _ _ _ _ (⟨rfl, rfl⟩) (Nat.zero_le _) (Nat.zero_le _) (dX11_row_48)
  · replace h := it_f (g := id) h hc
    refine v_aload_n hk dX11_row_9 rfl ?_
    refine v_iconst (v := 1) hk dX11_row_10 (by decide) ?_
    refine v_iload_n hk dX11_row_11 rfl ?_
    obtain ⟨r_2, er_2, h⟩ := bd_e (g := id) rfl h
    refine v_callV (n := 2) (st := []) (b := adm) (T := TX11) (N := 39) hk dX11_row_12 (c_X11_isValue (kl K) (kG K) adm adA o_names o_rows o_strength o_most o_toldGraph o_toldArc fvalues 1 p1 r_2 er_2) rfl gd_X11_row_X11_isValue rfl (by decide +kernel) (frok hR9 (Nat.le_of_ble_eq_true rfl) (Nat.le_of_ble_eq_true rfl)) (roomk hR9 (Nat.le_of_ble_eq_true rfl) (Nat.le_of_ble_eq_true rfl)) rfl rfl (Nat.le_of_ble_eq_true rfl) 2 rfl rfl [2, 3] [0, 1] (wr := [((adA 11), .inl (gZ (kG K), 160, .inl fisKnown)), ((adA 3), .inl (gI (kG K), 80, .inl fcells))]) rfl rfl (by decide) (by decide) (by decide) ?_
    intro v9 w9 hp9
    obtain ⟨rfl, rfl⟩ := hp9
    show V K 7 [((adA 11), .inl (gZ (kG K), 160, .inl fisKnown)), ((adA 3), .inl (gI (kG K), 80, .inl fcells)), (adm, .inr (10, oM adA o_names o_rows o_strength o_most o_toldGraph o_toldArc)), ((adA 1), .inl (gI (kG K), 5, .inl fvalues))] 0 0 15 [(0, .ref adm), (1, .int p0), (2, .int p1), (3, .int p2), (4, .int p3), (5, .int p4)] [.int r_2]
    refine v_if_eq (tgt := 47) hk dX11_row_15 (by decide) (fun hc => ?_) (fun hc => ?_)
    · replace h := it_t (g := id) h hc
      refine v_iconst (v := (-1)) hk dX11_row_47 (by decide) ?_
      replace h : some ((-1), o_rows, o_toldGraph, o_toldArc, fisKnown, fcells) = some r := h
      replace h := Option.some.inj h
      subst h
      refine v_perm [2, 0, 3, 1] (ws' := [(adm, .inr (10, oM adA o_names o_rows o_strength o_most o_toldGraph o_toldArc)), ((adA 11), .inl (gZ (kG K), 160, .inl fisKnown)), ((adA 1), .inl (gI (kG K), 5, .inl fvalues)), ((adA 3), .inl (gI (kG K), 80, .inl fcells))]) rfl rfl (by decide) ?_
      refine hrt (some (.int (-1))) _ _ _ _ _ (⟨rfl, rfl⟩) (Nat.zero_le _) (Nat.zero_le _) (dX11_row_48)
    · replace h := it_f (g := id) h hc
      refine v_aload_n hk dX11_row_18 rfl ?_
      refine v_iconst (v := 2) hk dX11_row_19 (by decide) ?_
      refine v_iload_n hk dX11_row_20 rfl ?_
      obtain ⟨r_3, er_3, h⟩ := bd_e (g := id) rfl h
      refine v_callV (n := 2) (st := []) (b := adm) (T := TX11) (N := 39) hk dX11_row_21 (c_X11_isValue (kl K) (kG K) adm adA o_names o_rows o_strength o_most o_toldGraph o_toldArc fvalues 2 p2 r_3 er_3) rfl gd_X11_row_X11_isValue rfl (by decide +kernel) (frok hR9 (Nat.le_of_ble_eq_true rfl) (Nat.le_of_ble_eq_true rfl)) (roomk hR9 (Nat.le_of_ble_eq_true rfl) (Nat.le_of_ble_eq_true rfl)) rfl rfl (Nat.le_of_ble_eq_true rfl) 2 rfl rfl [2, 3] [0, 1] (wr := [((adA 11), .inl (gZ (kG K), 160, .inl fisKnown)), ((adA 3), .inl (gI (kG K), 80, .inl fcells))]) rfl rfl (by decide) (by decide) (by decide) ?_
      intro v9 w9 hp9
      obtain ⟨rfl, rfl⟩ := hp9
      show V K 7 [((adA 11), .inl (gZ (kG K), 160, .inl fisKnown)), ((adA 3), .inl (gI (kG K), 80, .inl fcells)), (adm, .inr (10, oM adA o_names o_rows o_strength o_most o_toldGraph o_toldArc)), ((adA 1), .inl (gI (kG K), 5, .inl fvalues))] 0 0 24 [(0, .ref adm), (1, .int p0), (2, .int p1), (3, .int p2), (4, .int p3), (5, .int p4)] [.int r_3]
      refine v_if_eq (tgt := 47) hk dX11_row_24 (by decide) (fun hc => ?_) (fun hc => ?_)
      · replace h := it_t (g := id) h hc
        refine v_iconst (v := (-1)) hk dX11_row_47 (by decide) ?_
        replace h : some ((-1), o_rows, o_toldGraph, o_toldArc, fisKnown, fcells) = some r := h
        replace h := Option.some.inj h
        subst h
        refine v_perm [2, 0, 3, 1] (ws' := [(adm, .inr (10, oM adA o_names o_rows o_strength o_most o_toldGraph o_toldArc)), ((adA 11), .inl (gZ (kG K), 160, .inl fisKnown)), ((adA 1), .inl (gI (kG K), 5, .inl fvalues)), ((adA 3), .inl (gI (kG K), 80, .inl fcells))]) rfl rfl (by decide) ?_
        refine hrt (some (.int (-1))) _ _ _ _ _ (⟨rfl, rfl⟩) (Nat.zero_le _) (Nat.zero_le _) (dX11_row_48)
      · replace h := it_f (g := id) h hc
        refine v_aload_n hk dX11_row_27 rfl ?_
        refine v_iconst (v := 3) hk dX11_row_28 (by decide) ?_
        refine v_iload hk dX11_row_29 rfl ?_
        obtain ⟨r_4, er_4, h⟩ := bd_e (g := id) rfl h
        refine v_callV (n := 2) (st := []) (b := adm) (T := TX11) (N := 39) hk dX11_row_31 (c_X11_isValue (kl K) (kG K) adm adA o_names o_rows o_strength o_most o_toldGraph o_toldArc fvalues 3 p3 r_4 er_4) rfl gd_X11_row_X11_isValue rfl (by decide +kernel) (frok hR9 (Nat.le_of_ble_eq_true rfl) (Nat.le_of_ble_eq_true rfl)) (roomk hR9 (Nat.le_of_ble_eq_true rfl) (Nat.le_of_ble_eq_true rfl)) rfl rfl (Nat.le_of_ble_eq_true rfl) 2 rfl rfl [2, 3] [0, 1] (wr := [((adA 11), .inl (gZ (kG K), 160, .inl fisKnown)), ((adA 3), .inl (gI (kG K), 80, .inl fcells))]) rfl rfl (by decide) (by decide) (by decide) ?_
        intro v9 w9 hp9
        obtain ⟨rfl, rfl⟩ := hp9
        show V K 7 [((adA 11), .inl (gZ (kG K), 160, .inl fisKnown)), ((adA 3), .inl (gI (kG K), 80, .inl fcells)), (adm, .inr (10, oM adA o_names o_rows o_strength o_most o_toldGraph o_toldArc)), ((adA 1), .inl (gI (kG K), 5, .inl fvalues))] 0 0 34 [(0, .ref adm), (1, .int p0), (2, .int p1), (3, .int p2), (4, .int p3), (5, .int p4)] [.int r_4]
        refine v_if_eq (tgt := 47) hk dX11_row_34 (by decide) (fun hc => ?_) (fun hc => ?_)
        · replace h := it_t (g := id) h hc
          refine v_iconst (v := (-1)) hk dX11_row_47 (by decide) ?_
          replace h : some ((-1), o_rows, o_toldGraph, o_toldArc, fisKnown, fcells) = some r := h
          replace h := Option.some.inj h
          subst h
          refine v_perm [2, 0, 3, 1] (ws' := [(adm, .inr (10, oM adA o_names o_rows o_strength o_most o_toldGraph o_toldArc)), ((adA 11), .inl (gZ (kG K), 160, .inl fisKnown)), ((adA 1), .inl (gI (kG K), 5, .inl fvalues)), ((adA 3), .inl (gI (kG K), 80, .inl fcells))]) rfl rfl (by decide) ?_
          refine hrt (some (.int (-1))) _ _ _ _ _ (⟨rfl, rfl⟩) (Nat.zero_le _) (Nat.zero_le _) (dX11_row_48)
        · replace h := it_f (g := id) h hc
          refine v_aload_n hk dX11_row_37 rfl ?_
          refine v_iconst (v := 4) hk dX11_row_38 (by decide) ?_
          refine v_iload hk dX11_row_39 rfl ?_
          obtain ⟨r_5, er_5, h⟩ := bd_e (g := id) rfl h
          refine v_callV (n := 2) (st := []) (b := adm) (T := TX11) (N := 39) hk dX11_row_41 (c_X11_isValue (kl K) (kG K) adm adA o_names o_rows o_strength o_most o_toldGraph o_toldArc fvalues 4 p4 r_5 er_5) rfl gd_X11_row_X11_isValue rfl (by decide +kernel) (frok hR9 (Nat.le_of_ble_eq_true rfl) (Nat.le_of_ble_eq_true rfl)) (roomk hR9 (Nat.le_of_ble_eq_true rfl) (Nat.le_of_ble_eq_true rfl)) rfl rfl (Nat.le_of_ble_eq_true rfl) 2 rfl rfl [2, 3] [0, 1] (wr := [((adA 11), .inl (gZ (kG K), 160, .inl fisKnown)), ((adA 3), .inl (gI (kG K), 80, .inl fcells))]) rfl rfl (by decide) (by decide) (by decide) ?_
          intro v9 w9 hp9
          obtain ⟨rfl, rfl⟩ := hp9
          show V K 7 [((adA 11), .inl (gZ (kG K), 160, .inl fisKnown)), ((adA 3), .inl (gI (kG K), 80, .inl fcells)), (adm, .inr (10, oM adA o_names o_rows o_strength o_most o_toldGraph o_toldArc)), ((adA 1), .inl (gI (kG K), 5, .inl fvalues))] 0 0 44 [(0, .ref adm), (1, .int p0), (2, .int p1), (3, .int p2), (4, .int p3), (5, .int p4)] [.int r_5]
          refine v_if_ne (tgt := 49) hk dX11_row_44 (by decide) (fun hc => ?_) (fun hc => ?_)
          · replace h := it_f (g := id) h hc
            refine v_aload_n hk dX11_row_49 rfl ?_
            refine v_get (C := RX11) (T := TX11) (N := 39) (ci := 10) (v := .int o_names) hk dX11_row_50 w2i_X11_row_X110 2 rfl rfl 0 (by decide) (by decide +kernel) rfl rfl ?_
            refine v_if_ne (tgt := 59) hk dX11_row_53 (by decide) (fun hc => ?_) (fun hc => ?_)
            · replace h := it_f (g := id) h hc
              refine v_aload_n hk dX11_row_59 rfl ?_
              refine v_get (C := RX11) (T := TX11) (N := 39) (ci := 10) (v := .int o_rows) hk dX11_row_60 w2i_X11_row_X110 2 rfl rfl 2 (by decide) (by decide +kernel) rfl rfl ?_
              refine v_bipush (v := 16) hk dX11_row_63 (by decide) ?_
              refine v_icmp_ne (tgt := 71) hk dX11_row_65 (by decide) (fun hc => ?_) (fun hc => ?_)
              · replace h := it_f (g := id) h hc
                refine v_iconst (v := 5) hk dX11_row_71 (by decide) ?_
                refine v_aload_n hk dX11_row_72 rfl ?_
                refine v_get (C := RX11) (T := TX11) (N := 39) (ci := 10) (v := .int o_rows) hk dX11_row_73 w2i_X11_row_X110 2 rfl rfl 2 (by decide) (by decide +kernel) rfl rfl ?_
                refine v_imul hk dX11_row_76 ?_
                obtain ⟨x6_6, ex6_6, h⟩ := lt_e (g := id) h
                refine v_topi ex6_6.symm ?_
                refine v_istore hk dX11_row_77 (by decide) [1, 2, 3, 4, 5, 6, 0] (lv' := [(0, .ref adm), (1, .int p0), (2, .int p1), (3, .int p2), (4, .int p3), (5, .int p4), (6, .int x6_6)]) rfl ?_
                refine v_aload_n hk dX11_row_79 rfl ?_
                refine v_get (C := RX11) (T := TX11) (N := 39) (ci := 10) (v := .ref (adA 3)) hk dX11_row_80 w2i_X11_row_X110 2 rfl rfl 3 (by decide) (by decide +kernel) rfl rfl ?_
                refine v_iload hk dX11_row_83 rfl ?_
                refine v_iload_n hk dX11_row_85 rfl ?_
                obtain ⟨hi, h⟩ := ok_e (g := id) rfl h
                obtain ⟨fcells_7, efcells_7, h⟩ := lt_e (g := id) h
                refine v_iastV hk dX11_row_86 1 rfl (ix_in hi) (ws' := [((adA 11), .inl (gZ (kG K), 160, .inl fisKnown)), ((adA 3), .inl (gI (kG K), 80, .inl fcells_7)), (adm, .inr (10, oM adA o_names o_rows o_strength o_most o_toldGraph o_toldArc)), ((adA 1), .inl (gI (kG K), 5, .inl fvalues))]) (by rw [efcells_7]; rfl) ?_
                refine v_aload_n hk dX11_row_87 rfl ?_
                refine v_get (C := RX11) (T := TX11) (N := 39) (ci := 10) (v := .ref (adA 3)) hk dX11_row_88 w2i_X11_row_X110 2 rfl rfl 3 (by decide) (by decide +kernel) rfl rfl ?_
                refine v_iload hk dX11_row_91 rfl ?_
                refine v_iconst (v := 1) hk dX11_row_93 (by decide) ?_
                refine v_iadd hk dX11_row_94 ?_
                refine v_iload_n hk dX11_row_95 rfl ?_
                obtain ⟨hi, h⟩ := ok_e (g := id) rfl h
                obtain ⟨fcells_8, efcells_8, h⟩ := lt_e (g := id) h
                refine v_iastV hk dX11_row_96 1 rfl (ix_in hi) (ws' := [((adA 11), .inl (gZ (kG K), 160, .inl fisKnown)), ((adA 3), .inl (gI (kG K), 80, .inl fcells_8)), (adm, .inr (10, oM adA o_names o_rows o_strength o_most o_toldGraph o_toldArc)), ((adA 1), .inl (gI (kG K), 5, .inl fvalues))]) (by rw [efcells_8]; rfl) ?_
                refine v_aload_n hk dX11_row_97 rfl ?_
                refine v_get (C := RX11) (T := TX11) (N := 39) (ci := 10) (v := .ref (adA 3)) hk dX11_row_98 w2i_X11_row_X110 2 rfl rfl 3 (by decide) (by decide +kernel) rfl rfl ?_
                refine v_iload hk dX11_row_101 rfl ?_
                refine v_iconst (v := 2) hk dX11_row_103 (by decide) ?_
                refine v_iadd hk dX11_row_104 ?_
                refine v_iload_n hk dX11_row_105 rfl ?_
                obtain ⟨hi, h⟩ := ok_e (g := id) rfl h
                obtain ⟨fcells_9, efcells_9, h⟩ := lt_e (g := id) h
                refine v_iastV hk dX11_row_106 1 rfl (ix_in hi) (ws' := [((adA 11), .inl (gZ (kG K), 160, .inl fisKnown)), ((adA 3), .inl (gI (kG K), 80, .inl fcells_9)), (adm, .inr (10, oM adA o_names o_rows o_strength o_most o_toldGraph o_toldArc)), ((adA 1), .inl (gI (kG K), 5, .inl fvalues))]) (by rw [efcells_9]; rfl) ?_
                refine v_aload_n hk dX11_row_107 rfl ?_
                refine v_get (C := RX11) (T := TX11) (N := 39) (ci := 10) (v := .ref (adA 3)) hk dX11_row_108 w2i_X11_row_X110 2 rfl rfl 3 (by decide) (by decide +kernel) rfl rfl ?_
                refine v_iload hk dX11_row_111 rfl ?_
                refine v_iconst (v := 3) hk dX11_row_113 (by decide) ?_
                refine v_iadd hk dX11_row_114 ?_
                refine v_iload hk dX11_row_115 rfl ?_
                obtain ⟨hi, h⟩ := ok_e (g := id) rfl h
                obtain ⟨fcells_10, efcells_10, h⟩ := lt_e (g := id) h
                refine v_iastV hk dX11_row_117 1 rfl (ix_in hi) (ws' := [((adA 11), .inl (gZ (kG K), 160, .inl fisKnown)), ((adA 3), .inl (gI (kG K), 80, .inl fcells_10)), (adm, .inr (10, oM adA o_names o_rows o_strength o_most o_toldGraph o_toldArc)), ((adA 1), .inl (gI (kG K), 5, .inl fvalues))]) (by rw [efcells_10]; rfl) ?_
                refine v_aload_n hk dX11_row_118 rfl ?_
                refine v_get (C := RX11) (T := TX11) (N := 39) (ci := 10) (v := .ref (adA 3)) hk dX11_row_119 w2i_X11_row_X110 2 rfl rfl 3 (by decide) (by decide +kernel) rfl rfl ?_
                refine v_iload hk dX11_row_122 rfl ?_
                refine v_iconst (v := 4) hk dX11_row_124 (by decide) ?_
                refine v_iadd hk dX11_row_125 ?_
                refine v_iload hk dX11_row_126 rfl ?_
                obtain ⟨hi, h⟩ := ok_e (g := id) rfl h
                obtain ⟨fcells_11, efcells_11, h⟩ := lt_e (g := id) h
                refine v_iastV hk dX11_row_128 1 rfl (ix_in hi) (ws' := [((adA 11), .inl (gZ (kG K), 160, .inl fisKnown)), ((adA 3), .inl (gI (kG K), 80, .inl fcells_11)), (adm, .inr (10, oM adA o_names o_rows o_strength o_most o_toldGraph o_toldArc)), ((adA 1), .inl (gI (kG K), 5, .inl fvalues))]) (by rw [efcells_11]; rfl) ?_
                refine v_aload_n hk dX11_row_129 rfl ?_
                refine v_dup hk dX11_row_130 rfl ?_
                refine v_get (C := RX11) (T := TX11) (N := 39) (ci := 10) (v := .int o_rows) hk dX11_row_131 w2i_X11_row_X110 2 rfl rfl 2 (by decide) (by decide +kernel) rfl rfl ?_
                refine v_iconst (v := 1) hk dX11_row_134 (by decide) ?_
                refine v_iadd hk dX11_row_135 ?_
                obtain ⟨vrows_12, evrows_12, h⟩ := lt_e (g := id) h
                refine v_topi evrows_12.symm ?_
                refine v_put (C := RX11) (T := TX11) (N := 39) (ci := 10) (v := .int vrows_12) (ty := .int) hk dX11_row_136 w2i_X11_row_X110 tyX11 tyX11_ok nmX11 2 rfl rfl 2 (by decide) (by decide +kernel) rfl rfl (by decide +kernel) rfl rfl (Nat.le_of_ble_eq_true rfl) (ws' := [((adA 11), .inl (gZ (kG K), 160, .inl fisKnown)), ((adA 3), .inl (gI (kG K), 80, .inl fcells_11)), (adm, .inr (10, oM adA o_names vrows_12 o_strength o_most o_toldGraph o_toldArc)), ((adA 1), .inl (gI (kG K), 5, .inl fvalues))]) rfl ?_
                refine v_aload_n hk dX11_row_139 rfl ?_
                obtain ⟨r_13, er_13, h⟩ := bd_e (g := id) rfl h
                refine v_callV (n := 0) (st := []) (b := adm) (T := TX11) (N := 39) hk dX11_row_140 (c_X11_change (kl K) (kG K) adm adA o_names vrows_12 o_strength o_most o_toldGraph o_toldArc fisKnown r_13 er_13) rfl gd_X11_row_X11_change rfl (by decide +kernel) (frok hR9 (Nat.le_of_ble_eq_true rfl) (Nat.le_of_ble_eq_true rfl)) (roomk hR9 (Nat.le_of_ble_eq_true rfl) (Nat.le_of_ble_eq_true rfl)) rfl rfl (Nat.le_of_ble_eq_true rfl) 2 rfl rfl [2, 0] [1, 3] (wr := [((adA 3), .inl (gI (kG K), 80, .inl fcells_11)), ((adA 1), .inl (gI (kG K), 5, .inl fvalues))]) rfl rfl (by decide) (by decide) (by decide) ?_
                intro v9 w9 hp9
                obtain ⟨rfl, rfl⟩ := hp9
                show V K 7 [((adA 3), .inl (gI (kG K), 80, .inl fcells_11)), ((adA 1), .inl (gI (kG K), 5, .inl fvalues)), (adm, .inr (10, oM adA o_names vrows_12 o_strength o_most r_13.1 r_13.2.1)), ((adA 11), .inl (gZ (kG K), 160, .inl r_13.2.2))] 0 0 143 [(0, .ref adm), (1, .int p0), (2, .int p1), (3, .int p2), (4, .int p3), (5, .int p4), (6, .int x6_6)] []
                refine v_aload_n hk dX11_row_143 rfl ?_
                refine v_get (C := RX11) (T := TX11) (N := 39) (ci := 10) (v := .int vrows_12) hk dX11_row_144 w2i_X11_row_X110 2 rfl rfl 2 (by decide) (by decide +kernel) rfl rfl ?_
                refine v_iconst (v := 1) hk dX11_row_147 (by decide) ?_
                refine v_isub hk dX11_row_148 ?_
                replace h : some (vrows_12 - 1, vrows_12, r_13.1, r_13.2.1, r_13.2.2, fcells_11) = some r := h
                replace h := Option.some.inj h
                subst h
                refine v_perm [2, 3, 1, 0] (ws' := [(adm, .inr (10, oM adA o_names vrows_12 o_strength o_most r_13.1 r_13.2.1)), ((adA 11), .inl (gZ (kG K), 160, .inl r_13.2.2)), ((adA 1), .inl (gI (kG K), 5, .inl fvalues)), ((adA 3), .inl (gI (kG K), 80, .inl fcells_11))]) rfl rfl (by decide) ?_
                refine hrt (some (.int (vrows_12 - 1))) _ _ _ _ _ (⟨rfl, rfl⟩) (Nat.zero_le _) (Nat.zero_le _) (dX11_row_149)
              · replace h := it_t (g := id) h hc
                refine v_bipush (v := (-3)) hk dX11_row_68 (by decide) ?_
                replace h : some ((-3), o_rows, o_toldGraph, o_toldArc, fisKnown, fcells) = some r := h
                replace h := Option.some.inj h
                subst h
                refine v_perm [2, 0, 3, 1] (ws' := [(adm, .inr (10, oM adA o_names o_rows o_strength o_most o_toldGraph o_toldArc)), ((adA 11), .inl (gZ (kG K), 160, .inl fisKnown)), ((adA 1), .inl (gI (kG K), 5, .inl fvalues)), ((adA 3), .inl (gI (kG K), 80, .inl fcells))]) rfl rfl (by decide) ?_
                refine hrt (some (.int (-3))) _ _ _ _ _ (⟨rfl, rfl⟩) (Nat.zero_le _) (Nat.zero_le _) (dX11_row_70)
            · replace h := it_t (g := id) h hc
              refine v_bipush (v := (-2)) hk dX11_row_56 (by decide) ?_
              replace h : some ((-2), o_rows, o_toldGraph, o_toldArc, fisKnown, fcells) = some r := h
              replace h := Option.some.inj h
              subst h
              refine v_perm [2, 0, 3, 1] (ws' := [(adm, .inr (10, oM adA o_names o_rows o_strength o_most o_toldGraph o_toldArc)), ((adA 11), .inl (gZ (kG K), 160, .inl fisKnown)), ((adA 1), .inl (gI (kG K), 5, .inl fvalues)), ((adA 3), .inl (gI (kG K), 80, .inl fcells))]) rfl rfl (by decide) ?_
              refine hrt (some (.int (-2))) _ _ _ _ _ (⟨rfl, rfl⟩) (Nat.zero_le _) (Nat.zero_le _) (dX11_row_58)
          · replace h := it_t (g := id) h hc
            refine v_iconst (v := (-1)) hk dX11_row_47 (by decide) ?_
            replace h : some ((-1), o_rows, o_toldGraph, o_toldArc, fisKnown, fcells) = some r := h
            replace h := Option.some.inj h
            subst h
            refine v_perm [2, 0, 3, 1] (ws' := [(adm, .inr (10, oM adA o_names o_rows o_strength o_most o_toldGraph o_toldArc)), ((adA 11), .inl (gZ (kG K), 160, .inl fisKnown)), ((adA 1), .inl (gI (kG K), 5, .inl fvalues)), ((adA 3), .inl (gI (kG K), 80, .inl fcells))]) rfl rfl (by decide) ?_
            refine hrt (some (.int (-1))) _ _ _ _ _ (⟨rfl, rfl⟩) (Nat.zero_le _) (Nat.zero_le _) (dX11_row_48)
abbrev rm_X11_drop : Room := { frames := 1, cells := 0, slots := 0, locals := 21 }
set_option maxHeartbeats 4000000 in
set_option maxRecDepth 100000 in
theorem L_X11_drop_28 {K : Cx} {R9 : Room} (hk : Ok K cX11_drop 3 RX11 w2_X11_drop R9) (hR9 : RoomGe R9 rm_X11_drop) (adm : Nat) (adA : Nat → Nat) (o_names : Int32) (o_strength : Int32) (o_most : Int32) (o_toldGraph : Int32) (o_toldArc : Int32) (fisKnown : Nat → Int32) (row : Int32) (vrows_1 : Int32) (b9 : (Int32 × (Nat → Int32))) (kk0 : ∀ q9 : (Int32 × (Nat → Int32)), b9 = q9 → V K 3 [(adm, .inr (10, oM adA o_names vrows_1 o_strength o_most o_toldGraph o_toldArc)), ((adA 11), .inl (gZ (kG K), 160, .inl fisKnown)), ((adA 3), .inl (gI (kG K), 80, .inl q9.2))] 0 0 58 [(0, .ref adm), (1, .int row), (2, .int q9.1)] []) : ∀ (nn : Nat) (i2_3 : Int32) (fcells_4 : Nat → Int32), lp (b_X11_drop_28 vrows_1) nn (i2_3, fcells_4) = some b9 → V K 3 [(adm, .inr (10, oM adA o_names vrows_1 o_strength o_most o_toldGraph o_toldArc)), ((adA 11), .inl (gZ (kG K), 160, .inl fisKnown)), ((adA 3), .inl (gI (kG K), 80, .inl fcells_4))] 0 0 28 [(0, .ref adm), (1, .int row), (2, .int i2_3)] [] := by
  intro nn
  induction nn with
  | zero => intro i2_3 fcells_4 h; exact absurd h (by simp [lp])
  | succ nn ih =>
    intro i2_3 fcells_4 h
    replace h := lp_s h
    rw [eb_X11_drop_28] at h
    refine v_iload_n hk dX11_drop_28 rfl ?_
    refine v_iconst (v := 5) hk dX11_drop_29 (by decide) ?_
    refine v_aload_n hk dX11_drop_30 rfl ?_
    refine v_get (C := RX11) (T := TX11) (N := 39) (ci := 10) (v := .int vrows_1) hk dX11_drop_31 w2i_X11_drop_X110 0 rfl rfl 2 (by decide) (by decide +kernel) rfl rfl ?_
    refine v_imul hk dX11_drop_34 ?_
    refine v_icmp_ge (tgt := 58) hk dX11_drop_35 (by decide) (fun hc => ?_) (fun hc => ?_)
    · replace h := it_t (g := (lpk (lp (b_X11_drop_28 vrows_1) nn))) h hc
      replace h : some (i2_3, fcells_4) = some b9 := h
      replace h := Option.some.inj h
      subst h
      exact kk0 _ rfl
    · replace h := it_f (g := (lpk (lp (b_X11_drop_28 vrows_1) nn))) h hc
      refine v_aload_n hk dX11_drop_38 rfl ?_
      refine v_get (C := RX11) (T := TX11) (N := 39) (ci := 10) (v := .ref (adA 3)) hk dX11_drop_39 w2i_X11_drop_X110 0 rfl rfl 3 (by decide) (by decide +kernel) rfl rfl ?_
      refine v_iload_n hk dX11_drop_42 rfl ?_
      refine v_aload_n hk dX11_drop_43 rfl ?_
      refine v_get (C := RX11) (T := TX11) (N := 39) (ci := 10) (v := .ref (adA 3)) hk dX11_drop_44 w2i_X11_drop_X110 0 rfl rfl 3 (by decide) (by decide +kernel) rfl rfl ?_
      refine v_iload_n hk dX11_drop_47 rfl ?_
      refine v_iconst (v := 5) hk dX11_drop_48 (by decide) ?_
      refine v_iadd hk dX11_drop_49 ?_
      obtain ⟨hi, h⟩ := ok_e (g := (lpk (lp (b_X11_drop_28 vrows_1) nn))) rfl h
      refine v_ialdV hk dX11_drop_50 2 rfl (ix_in hi) ?_
      obtain ⟨hi, h⟩ := ok_e (g := (lpk (lp (b_X11_drop_28 vrows_1) nn))) rfl h
      obtain ⟨fcells_5, efcells_5, h⟩ := lt_e (g := (lpk (lp (b_X11_drop_28 vrows_1) nn))) h
      refine v_iastV hk dX11_drop_51 2 rfl (ix_in hi) (ws' := [(adm, .inr (10, oM adA o_names vrows_1 o_strength o_most o_toldGraph o_toldArc)), ((adA 11), .inl (gZ (kG K), 160, .inl fisKnown)), ((adA 3), .inl (gI (kG K), 80, .inl fcells_5))]) (by rw [efcells_5]; rfl) ?_
      obtain ⟨x2_6, ex2_6, h⟩ := lt_e (g := (lpk (lp (b_X11_drop_28 vrows_1) nn))) h
      refine v_iinc (v := x2_6) hk dX11_drop_52 rfl (by rw [ex2_6]; rfl) (by decide) [1, 2, 0] (lv' := [(0, .ref adm), (1, .int row), (2, .int x2_6)]) rfl ?_
      refine v_goto (tgt := 28) hk dX11_drop_55 (by decide) ?_
      exact ih x2_6 fcells_5 h
set_option maxHeartbeats 4000000 in
set_option maxRecDepth 100000 in
theorem c_X11_drop (l : Launch) (G : GG) (adm : Nat) (adA : Nat → Nat) (o_names : Int32) (o_rows : Int32) (o_strength : Int32) (o_most : Int32) (o_toldGraph : Int32) (o_toldArc : Int32) (fisKnown : Nat → Int32) (fcells : Nat → Int32) (row : Int32) (r : Int32 × Int32 × Int32 × Int32 × (Nat → Int32) × (Nat → Int32)) (h : m_X11_drop o_names o_rows o_strength o_most o_toldGraph o_toldArc fisKnown fcells row = some r) : Ctr l G yX11_drop w2_X11_drop rm_X11_drop [.ref adm, .int row] [(adm, .inr (10, oM adA o_names o_rows o_strength o_most o_toldGraph o_toldArc)), ((adA 11), .inl (gZ G, 160, .inl fisKnown)), ((adA 3), .inl (gI G, 80, .inl fcells))] (fun v w => v = some (.int r.1) ∧ w = [(adm, .inr (10, oM adA o_names r.2.1 o_strength o_most r.2.2.1 r.2.2.2.1)), ((adA 11), .inl (gZ G, 160, .inl r.2.2.2.2.1)), ((adA 3), .inl (gI G, 80, .inl r.2.2.2.2.2))]) := by
  refine ctr_entry (cc := cX11_drop) (maxL := 3) (ret := some .int) (lv0 := [(0, .ref adm), (1, .int row)]) (by decide) rfl (Nat.le_of_ble_eq_true rfl) (rfl) ?_
  intro K hl9 hG9 hk hn9 hrt
  subst hl9
  subst hG9
  have hR9 : RoomGe rm_X11_drop rm_X11_drop := RoomGe.rf
  replace h := id_e h
  rw [em_X11_drop] at h
  refine v_iload_n hk dX11_drop_0 rfl ?_
  refine v_if_lt (tgt := 12) hk dX11_drop_1 (by decide) (fun hc => ?_) (fun hc => ?_)
  · replace h := it_t (g := id) h hc
    refine v_iconst (v := (-1)) hk dX11_drop_12 (by decide) ?_
    replace h : some ((-1), o_rows, o_toldGraph, o_toldArc, fisKnown, fcells) = some r := h
    replace h := Option.some.inj h
    subst h
    refine hrt (some (.int (-1))) _ _ _ _ _ (⟨rfl, rfl⟩) (Nat.zero_le _) (Nat.zero_le _) (dX11_drop_13)
  · replace h := it_f (g := id) h hc
    refine v_iload_n hk dX11_drop_4 rfl ?_
    refine v_aload_n hk dX11_drop_5 rfl ?_
    refine v_get (C := RX11) (T := TX11) (N := 39) (ci := 10) (v := .int o_rows) hk dX11_drop_6 w2i_X11_drop_X110 0 rfl rfl 2 (by decide) (by decide +kernel) rfl rfl ?_
    refine v_icmp_lt (tgt := 14) hk dX11_drop_9 (by decide) (fun hc => ?_) (fun hc => ?_)
    · replace h := it_t (g := id) h hc
      refine v_aload_n hk dX11_drop_14 rfl ?_
      refine v_dup hk dX11_drop_15 rfl ?_
      refine v_get (C := RX11) (T := TX11) (N := 39) (ci := 10) (v := .int o_rows) hk dX11_drop_16 w2i_X11_drop_X110 0 rfl rfl 2 (by decide) (by decide +kernel) rfl rfl ?_
      refine v_iconst (v := 1) hk dX11_drop_19 (by decide) ?_
      refine v_isub hk dX11_drop_20 ?_
      obtain ⟨vrows_1, evrows_1, h⟩ := lt_e (g := id) h
      refine v_topi evrows_1.symm ?_
      refine v_put (C := RX11) (T := TX11) (N := 39) (ci := 10) (v := .int vrows_1) (ty := .int) hk dX11_drop_21 w2i_X11_drop_X110 tyX11 tyX11_ok nmX11 0 rfl rfl 2 (by decide) (by decide +kernel) rfl rfl (by decide +kernel) rfl rfl (Nat.le_of_ble_eq_true rfl) (ws' := [(adm, .inr (10, oM adA o_names vrows_1 o_strength o_most o_toldGraph o_toldArc)), ((adA 11), .inl (gZ (kG K), 160, .inl fisKnown)), ((adA 3), .inl (gI (kG K), 80, .inl fcells))]) rfl ?_
      refine v_iconst (v := 5) hk dX11_drop_24 (by decide) ?_
      refine v_iload_n hk dX11_drop_25 rfl ?_
      refine v_imul hk dX11_drop_26 ?_
      obtain ⟨x2_2, ex2_2, h⟩ := lt_e (g := id) h
      refine v_topi ex2_2.symm ?_
      refine v_istore_n hk dX11_drop_27 rfl (by decide) [1, 2, 0] (lv' := [(0, .ref adm), (1, .int row), (2, .int x2_2)]) rfl ?_
      obtain ⟨b_9, eb_9, h⟩ := bd_e (g := id) rfl h
      refine L_X11_drop_28 hk hR9 adm adA o_names o_strength o_most o_toldGraph o_toldArc fisKnown row vrows_1 b_9 (fun q_7 eq_7 => ?_) FU x2_2 fcells eb_9
      · replace eq_7 := eq_7.symm
        subst eq_7
        refine v_aload_n hk dX11_drop_58 rfl ?_
        obtain ⟨r_8, er_8, h⟩ := bd_e (g := id) rfl h
        refine v_callV (n := 0) (st := []) (b := adm) (T := TX11) (N := 39) hk dX11_drop_59 (c_X11_change (kl K) (kG K) adm adA o_names vrows_1 o_strength o_most o_toldGraph o_toldArc fisKnown r_8 er_8) rfl gd_X11_drop_X11_change rfl (by decide +kernel) (frok hR9 (Nat.le_of_ble_eq_true rfl) (Nat.le_of_ble_eq_true rfl)) (roomk hR9 (Nat.le_of_ble_eq_true rfl) (Nat.le_of_ble_eq_true rfl)) rfl rfl (Nat.le_of_ble_eq_true rfl) 0 rfl rfl [0, 1] [2] (wr := [((adA 3), .inl (gI (kG K), 80, .inl q_7.2))]) rfl rfl (by decide) (by decide) (by decide) ?_
        intro v9 w9 hp9
        obtain ⟨rfl, rfl⟩ := hp9
        show V K 3 [((adA 3), .inl (gI (kG K), 80, .inl q_7.2)), (adm, .inr (10, oM adA o_names vrows_1 o_strength o_most r_8.1 r_8.2.1)), ((adA 11), .inl (gZ (kG K), 160, .inl r_8.2.2))] 0 0 62 [(0, .ref adm), (1, .int row), (2, .int q_7.1)] []
        refine v_aload_n hk dX11_drop_62 rfl ?_
        refine v_get (C := RX11) (T := TX11) (N := 39) (ci := 10) (v := .int vrows_1) hk dX11_drop_63 w2i_X11_drop_X110 1 rfl rfl 2 (by decide) (by decide +kernel) rfl rfl ?_
        replace h : some (vrows_1, vrows_1, r_8.1, r_8.2.1, r_8.2.2, q_7.2) = some r := h
        replace h := Option.some.inj h
        subst h
        refine v_perm [1, 2, 0] (ws' := [(adm, .inr (10, oM adA o_names vrows_1 o_strength o_most r_8.1 r_8.2.1)), ((adA 11), .inl (gZ (kG K), 160, .inl r_8.2.2)), ((adA 3), .inl (gI (kG K), 80, .inl q_7.2))]) rfl rfl (by decide) ?_
        refine hrt (some (.int vrows_1)) _ _ _ _ _ (⟨rfl, rfl⟩) (Nat.zero_le _) (Nat.zero_le _) (dX11_drop_66)
    · replace h := it_f (g := id) h hc
      refine v_iconst (v := (-1)) hk dX11_drop_12 (by decide) ?_
      replace h : some ((-1), o_rows, o_toldGraph, o_toldArc, fisKnown, fcells) = some r := h
      replace h := Option.some.inj h
      subst h
      refine hrt (some (.int (-1))) _ _ _ _ _ (⟨rfl, rfl⟩) (Nat.zero_le _) (Nat.zero_le _) (dX11_drop_13)
abbrev rm_X11_value : Room := { frames := 1, cells := 0, slots := 0, locals := 21 }
set_option maxHeartbeats 4000000 in
set_option maxRecDepth 100000 in
theorem c_X11_value (l : Launch) (G : GG) (adm : Nat) (adA : Nat → Nat) (o_names : Int32) (o_rows : Int32) (o_strength : Int32) (o_most : Int32) (o_toldGraph : Int32) (o_toldArc : Int32) (fcells : Nat → Int32) (row : Int32) (nm : Int32) (r : Int32) (h : m_X11_value o_names o_rows o_strength o_most o_toldGraph o_toldArc fcells row nm = some r) : Ctr l G yX11_value w2_X11_value rm_X11_value [.ref adm, .int row, .int nm] [(adm, .inr (10, oM adA o_names o_rows o_strength o_most o_toldGraph o_toldArc)), ((adA 3), .inl (gI G, 80, .inl fcells))] (fun v w => v = some (.int r) ∧ w = [(adm, .inr (10, oM adA o_names o_rows o_strength o_most o_toldGraph o_toldArc)), ((adA 3), .inl (gI G, 80, .inl fcells))]) := by
  refine ctr_entry (cc := cX11_value) (maxL := 3) (ret := some .int) (lv0 := [(0, .ref adm), (1, .int row), (2, .int nm)]) (by decide) rfl (Nat.le_of_ble_eq_true rfl) (rfl) ?_
  intro K hl9 hG9 hk hn9 hrt
  subst hl9
  subst hG9
  have hR9 : RoomGe rm_X11_value rm_X11_value := RoomGe.rf
  replace h := id_e h
  rw [em_X11_value] at h
  refine v_iload_n hk dX11_value_0 rfl ?_
  refine v_if_lt (tgt := 20) hk dX11_value_1 (by decide) (fun hc => ?_) (fun hc => ?_)
  · replace h := it_t (g := id) h hc
    refine v_iconst (v := (-1)) hk dX11_value_20 (by decide) ?_
    refine v_goto (tgt := 34) hk dX11_value_21 (by decide) ?_
    replace h : some (-1) = some r := h
    replace h := Option.some.inj h
    subst h
    refine hrt (some (.int (-1))) _ _ _ _ _ (⟨rfl, rfl⟩) (Nat.zero_le _) (Nat.zero_le _) (dX11_value_34)
  · replace h := it_f (g := id) h hc
    refine v_iload_n hk dX11_value_4 rfl ?_
    refine v_aload_n hk dX11_value_5 rfl ?_
    refine v_get (C := RX11) (T := TX11) (N := 39) (ci := 10) (v := .int o_rows) hk dX11_value_6 w2i_X11_value_X110 0 rfl rfl 2 (by decide) (by decide +kernel) rfl rfl ?_
    refine v_icmp_ge (tgt := 20) hk dX11_value_9 (by decide) (fun hc => ?_) (fun hc => ?_)
    · replace h := it_t (g := id) h hc
      refine v_iconst (v := (-1)) hk dX11_value_20 (by decide) ?_
      refine v_goto (tgt := 34) hk dX11_value_21 (by decide) ?_
      replace h : some (-1) = some r := h
      replace h := Option.some.inj h
      subst h
      refine hrt (some (.int (-1))) _ _ _ _ _ (⟨rfl, rfl⟩) (Nat.zero_le _) (Nat.zero_le _) (dX11_value_34)
    · replace h := it_f (g := id) h hc
      refine v_aload_n hk dX11_value_12 rfl ?_
      refine v_iload_n hk dX11_value_13 rfl ?_
      obtain ⟨r_1, er_1, h⟩ := bd_e (g := id) rfl h
      refine v_callV (n := 1) (st := []) (b := adm) (T := TX11) (N := 39) hk dX11_value_14 (c_X11_isName (kl K) (kG K) adm adA o_names o_rows o_strength o_most o_toldGraph o_toldArc nm r_1 er_1) rfl gd_X11_value_X11_isName rfl (by decide +kernel) (frok hR9 (Nat.le_of_ble_eq_true rfl) (Nat.le_of_ble_eq_true rfl)) (roomk hR9 (Nat.le_of_ble_eq_true rfl) (Nat.le_of_ble_eq_true rfl)) rfl rfl (Nat.le_of_ble_eq_true rfl) 0 rfl rfl [0] [1] (wr := [((adA 3), .inl (gI (kG K), 80, .inl fcells))]) rfl rfl (by decide) (by decide) (by decide) ?_
      intro v9 w9 hp9
      obtain ⟨rfl, rfl⟩ := hp9
      show V K 3 [((adA 3), .inl (gI (kG K), 80, .inl fcells)), (adm, .inr (10, oM adA o_names o_rows o_strength o_most o_toldGraph o_toldArc))] 0 0 17 [(0, .ref adm), (1, .int row), (2, .int nm)] [.int r_1]
      obtain ⟨y_2, ey_2, h⟩ := bd_e (g := id) rfl h
      have Jy_2 : V K 3 [((adA 3), .inl (gI (kG K), 80, .inl fcells)), (adm, .inr (10, oM adA o_names o_rows o_strength o_most o_toldGraph o_toldArc))] 0 0 34 [(0, .ref adm), (1, .int row), (2, .int nm)] [.int y_2] := by
        replace h : some y_2 = some r := h
        replace h := Option.some.inj h
        subst h
        refine v_perm [1, 0] (ws' := [(adm, .inr (10, oM adA o_names o_rows o_strength o_most o_toldGraph o_toldArc)), ((adA 3), .inl (gI (kG K), 80, .inl fcells))]) rfl rfl (by decide) ?_
        refine hrt (some (.int y_2)) _ _ _ _ _ (⟨rfl, rfl⟩) (Nat.zero_le _) (Nat.zero_le _) (dX11_value_34)
      clear h
      have h := id_e ey_2
      clear ey_2
      refine v_if_ne (tgt := 24) hk dX11_value_17 (by decide) (fun hc => ?_) (fun hc => ?_)
      · replace h := it_f (g := id) h hc
        refine v_aload_n hk dX11_value_24 rfl ?_
        refine v_get (C := RX11) (T := TX11) (N := 39) (ci := 10) (v := .ref (adA 3)) hk dX11_value_25 w2i_X11_value_X110 1 rfl rfl 3 (by decide) (by decide +kernel) rfl rfl ?_
        refine v_iconst (v := 5) hk dX11_value_28 (by decide) ?_
        refine v_iload_n hk dX11_value_29 rfl ?_
        refine v_imul hk dX11_value_30 ?_
        refine v_iload_n hk dX11_value_31 rfl ?_
        refine v_iadd hk dX11_value_32 ?_
        obtain ⟨hi, h⟩ := ok_e (g := id) rfl h
        refine v_ialdV hk dX11_value_33 0 rfl (ix_in hi) ?_
        replace h : some (fcells ((5 * row) + nm).toNatClampNeg : Int32) = some y_2 := h
        replace h := Option.some.inj h
        subst h
        exact Jy_2
      · replace h := it_t (g := id) h hc
        refine v_iconst (v := (-1)) hk dX11_value_20 (by decide) ?_
        refine v_goto (tgt := 34) hk dX11_value_21 (by decide) ?_
        replace h : some ((-1) : Int32) = some y_2 := h
        replace h := Option.some.inj h
        subst h
        exact Jy_2
abbrev rm_X11_set : Room := { frames := 1, cells := 0, slots := 0, locals := 21 }
set_option maxHeartbeats 4000000 in
set_option maxRecDepth 100000 in
theorem c_X11_set (l : Launch) (G : GG) (adm : Nat) (adA : Nat → Nat) (o_names : Int32) (o_rows : Int32) (o_strength : Int32) (o_most : Int32) (o_toldGraph : Int32) (o_toldArc : Int32) (fisKnown : Nat → Int32) (what : Int32) (v : Int32) (r : Int32 × Int32 × Int32 × Int32 × Int32 × (Nat → Int32)) (h : m_X11_set o_names o_rows o_strength o_most o_toldGraph o_toldArc fisKnown what v = some r) : Ctr l G yX11_set w2_X11_set rm_X11_set [.ref adm, .int what, .int v] [(adm, .inr (10, oM adA o_names o_rows o_strength o_most o_toldGraph o_toldArc)), ((adA 11), .inl (gZ G, 160, .inl fisKnown))] (fun v w => v = some (.int r.1) ∧ w = [(adm, .inr (10, oM adA o_names o_rows r.2.1 r.2.2.1 r.2.2.2.1 r.2.2.2.2.1)), ((adA 11), .inl (gZ G, 160, .inl r.2.2.2.2.2))]) := by
  refine ctr_entry (cc := cX11_set) (maxL := 4) (ret := some .int) (lv0 := [(0, .ref adm), (1, .int what), (2, .int v)]) (by decide) rfl (Nat.le_of_ble_eq_true rfl) (rfl) ?_
  intro K hl9 hG9 hk hn9 hrt
  subst hl9
  subst hG9
  have hR9 : RoomGe rm_X11_set rm_X11_set := RoomGe.rf
  replace h := id_e h
  rw [em_X11_set] at h
  refine v_iload_n hk dX11_set_0 rfl ?_
  refine v_if_ne (tgt := 31) hk dX11_set_1 (by decide) (fun hc => ?_) (fun hc => ?_)
  · replace h := it_f (g := id) h hc
    refine v_iload_n hk dX11_set_31 rfl ?_
    refine v_iconst (v := 1) hk dX11_set_32 (by decide) ?_
    refine v_icmp_ne (tgt := 61) hk dX11_set_33 (by decide) (fun hc => ?_) (fun hc => ?_)
    · replace h := it_f (g := id) h hc
      refine v_iconst (v := (-1)) hk dX11_set_61 (by decide) ?_
      replace h : some ((-1), o_strength, o_most, o_toldGraph, o_toldArc, fisKnown) = some r := h
      replace h := Option.some.inj h
      subst h
      refine hrt (some (.int (-1))) _ _ _ _ _ (⟨rfl, rfl⟩) (Nat.zero_le _) (Nat.zero_le _) (dX11_set_62)
    · replace h := it_t (g := id) h hc
      refine v_iload_n hk dX11_set_36 rfl ?_
      refine v_if_lt (tgt := 61) hk dX11_set_37 (by decide) (fun hc => ?_) (fun hc => ?_)
      · replace h := it_t (g := id) h hc
        refine v_iconst (v := (-1)) hk dX11_set_61 (by decide) ?_
        replace h : some ((-1), o_strength, o_most, o_toldGraph, o_toldArc, fisKnown) = some r := h
        replace h := Option.some.inj h
        subst h
        refine hrt (some (.int (-1))) _ _ _ _ _ (⟨rfl, rfl⟩) (Nat.zero_le _) (Nat.zero_le _) (dX11_set_62)
      · replace h := it_f (g := id) h hc
        refine v_iload_n hk dX11_set_40 rfl ?_
        refine v_iconst (v := 4) hk dX11_set_41 (by decide) ?_
        refine v_icmp_gt (tgt := 61) hk dX11_set_42 (by decide) (fun hc => ?_) (fun hc => ?_)
        · replace h := it_t (g := id) h hc
          refine v_iconst (v := (-1)) hk dX11_set_61 (by decide) ?_
          replace h : some ((-1), o_strength, o_most, o_toldGraph, o_toldArc, fisKnown) = some r := h
          replace h := Option.some.inj h
          subst h
          refine hrt (some (.int (-1))) _ _ _ _ _ (⟨rfl, rfl⟩) (Nat.zero_le _) (Nat.zero_le _) (dX11_set_62)
        · replace h := it_f (g := id) h hc
          refine v_aload_n hk dX11_set_45 rfl ?_
          refine v_get (C := RX11) (T := TX11) (N := 39) (ci := 10) (v := .int o_most) hk dX11_set_46 w2i_X11_set_X110 0 rfl rfl 5 (by decide) (by decide +kernel) rfl rfl ?_
          refine v_istore_n hk dX11_set_49 rfl (by decide) [1, 2, 3, 0] (lv' := [(0, .ref adm), (1, .int what), (2, .int v), (3, .int o_most)]) rfl ?_
          refine v_aload_n hk dX11_set_50 rfl ?_
          refine v_iload_n hk dX11_set_51 rfl ?_
          refine v_put (C := RX11) (T := TX11) (N := 39) (ci := 10) (v := .int v) (ty := .int) hk dX11_set_52 w2i_X11_set_X110 tyX11 tyX11_ok nmX11 0 rfl rfl 5 (by decide) (by decide +kernel) rfl rfl (by decide +kernel) rfl rfl (Nat.le_of_ble_eq_true rfl) (ws' := [(adm, .inr (10, oM adA o_names o_rows o_strength v o_toldGraph o_toldArc)), ((adA 11), .inl (gZ (kG K), 160, .inl fisKnown))]) rfl ?_
          refine v_aload_n hk dX11_set_55 rfl ?_
          obtain ⟨r_1, er_1, h⟩ := bd_e (g := id) rfl h
          refine v_callV (n := 0) (st := []) (b := adm) (T := TX11) (N := 39) hk dX11_set_56 (c_X11_change (kl K) (kG K) adm adA o_names o_rows o_strength v o_toldGraph o_toldArc fisKnown r_1 er_1) rfl gd_X11_set_X11_change rfl (by decide +kernel) (frok hR9 (Nat.le_of_ble_eq_true rfl) (Nat.le_of_ble_eq_true rfl)) (roomk hR9 (Nat.le_of_ble_eq_true rfl) (Nat.le_of_ble_eq_true rfl)) rfl rfl (Nat.le_of_ble_eq_true rfl) 0 rfl rfl [0, 1] [] (wr := []) rfl rfl (by decide) (by decide) (by decide) ?_
          intro v9 w9 hp9
          obtain ⟨rfl, rfl⟩ := hp9
          show V K 4 [(adm, .inr (10, oM adA o_names o_rows o_strength v r_1.1 r_1.2.1)), ((adA 11), .inl (gZ (kG K), 160, .inl r_1.2.2))] 0 0 59 [(0, .ref adm), (1, .int what), (2, .int v), (3, .int o_most)] []
          refine v_iload_n hk dX11_set_59 rfl ?_
          replace h : some (o_most, o_strength, v, r_1.1, r_1.2.1, r_1.2.2) = some r := h
          replace h := Option.some.inj h
          subst h
          refine hrt (some (.int o_most)) _ _ _ _ _ (⟨rfl, rfl⟩) (Nat.zero_le _) (Nat.zero_le _) (dX11_set_60)
  · replace h := it_t (g := id) h hc
    refine v_iload_n hk dX11_set_4 rfl ?_
    refine v_iconst (v := 1) hk dX11_set_5 (by decide) ?_
    refine v_icmp_lt (tgt := 31) hk dX11_set_6 (by decide) (fun hc => ?_) (fun hc => ?_)
    · replace h := it_t (g := id) h hc
      refine v_iload_n hk dX11_set_31 rfl ?_
      refine v_iconst (v := 1) hk dX11_set_32 (by decide) ?_
      refine v_icmp_ne (tgt := 61) hk dX11_set_33 (by decide) (fun hc => ?_) (fun hc => ?_)
      · replace h := it_f (g := id) h hc
        refine v_iconst (v := (-1)) hk dX11_set_61 (by decide) ?_
        replace h : some ((-1), o_strength, o_most, o_toldGraph, o_toldArc, fisKnown) = some r := h
        replace h := Option.some.inj h
        subst h
        refine hrt (some (.int (-1))) _ _ _ _ _ (⟨rfl, rfl⟩) (Nat.zero_le _) (Nat.zero_le _) (dX11_set_62)
      · replace h := it_t (g := id) h hc
        refine v_iload_n hk dX11_set_36 rfl ?_
        refine v_if_lt (tgt := 61) hk dX11_set_37 (by decide) (fun hc => ?_) (fun hc => ?_)
        · replace h := it_t (g := id) h hc
          refine v_iconst (v := (-1)) hk dX11_set_61 (by decide) ?_
          replace h : some ((-1), o_strength, o_most, o_toldGraph, o_toldArc, fisKnown) = some r := h
          replace h := Option.some.inj h
          subst h
          refine hrt (some (.int (-1))) _ _ _ _ _ (⟨rfl, rfl⟩) (Nat.zero_le _) (Nat.zero_le _) (dX11_set_62)
        · replace h := it_f (g := id) h hc
          refine v_iload_n hk dX11_set_40 rfl ?_
          refine v_iconst (v := 4) hk dX11_set_41 (by decide) ?_
          refine v_icmp_gt (tgt := 61) hk dX11_set_42 (by decide) (fun hc => ?_) (fun hc => ?_)
          · replace h := it_t (g := id) h hc
            refine v_iconst (v := (-1)) hk dX11_set_61 (by decide) ?_
            replace h : some ((-1), o_strength, o_most, o_toldGraph, o_toldArc, fisKnown) = some r := h
            replace h := Option.some.inj h
            subst h
            refine hrt (some (.int (-1))) _ _ _ _ _ (⟨rfl, rfl⟩) (Nat.zero_le _) (Nat.zero_le _) (dX11_set_62)
          · replace h := it_f (g := id) h hc
            refine v_aload_n hk dX11_set_45 rfl ?_
            refine v_get (C := RX11) (T := TX11) (N := 39) (ci := 10) (v := .int o_most) hk dX11_set_46 w2i_X11_set_X110 0 rfl rfl 5 (by decide) (by decide +kernel) rfl rfl ?_
            refine v_istore_n hk dX11_set_49 rfl (by decide) [1, 2, 3, 0] (lv' := [(0, .ref adm), (1, .int what), (2, .int v), (3, .int o_most)]) rfl ?_
            refine v_aload_n hk dX11_set_50 rfl ?_
            refine v_iload_n hk dX11_set_51 rfl ?_
            refine v_put (C := RX11) (T := TX11) (N := 39) (ci := 10) (v := .int v) (ty := .int) hk dX11_set_52 w2i_X11_set_X110 tyX11 tyX11_ok nmX11 0 rfl rfl 5 (by decide) (by decide +kernel) rfl rfl (by decide +kernel) rfl rfl (Nat.le_of_ble_eq_true rfl) (ws' := [(adm, .inr (10, oM adA o_names o_rows o_strength v o_toldGraph o_toldArc)), ((adA 11), .inl (gZ (kG K), 160, .inl fisKnown))]) rfl ?_
            refine v_aload_n hk dX11_set_55 rfl ?_
            obtain ⟨r_2, er_2, h⟩ := bd_e (g := id) rfl h
            refine v_callV (n := 0) (st := []) (b := adm) (T := TX11) (N := 39) hk dX11_set_56 (c_X11_change (kl K) (kG K) adm adA o_names o_rows o_strength v o_toldGraph o_toldArc fisKnown r_2 er_2) rfl gd_X11_set_X11_change rfl (by decide +kernel) (frok hR9 (Nat.le_of_ble_eq_true rfl) (Nat.le_of_ble_eq_true rfl)) (roomk hR9 (Nat.le_of_ble_eq_true rfl) (Nat.le_of_ble_eq_true rfl)) rfl rfl (Nat.le_of_ble_eq_true rfl) 0 rfl rfl [0, 1] [] (wr := []) rfl rfl (by decide) (by decide) (by decide) ?_
            intro v9 w9 hp9
            obtain ⟨rfl, rfl⟩ := hp9
            show V K 4 [(adm, .inr (10, oM adA o_names o_rows o_strength v r_2.1 r_2.2.1)), ((adA 11), .inl (gZ (kG K), 160, .inl r_2.2.2))] 0 0 59 [(0, .ref adm), (1, .int what), (2, .int v), (3, .int o_most)] []
            refine v_iload_n hk dX11_set_59 rfl ?_
            replace h : some (o_most, o_strength, v, r_2.1, r_2.2.1, r_2.2.2) = some r := h
            replace h := Option.some.inj h
            subst h
            refine hrt (some (.int o_most)) _ _ _ _ _ (⟨rfl, rfl⟩) (Nat.zero_le _) (Nat.zero_le _) (dX11_set_60)
    · replace h := it_f (g := id) h hc
      refine v_iload_n hk dX11_set_9 rfl ?_
      refine v_bipush (v := 9) hk dX11_set_10 (by decide) ?_
      refine v_icmp_gt (tgt := 31) hk dX11_set_12 (by decide) (fun hc => ?_) (fun hc => ?_)
      · replace h := it_t (g := id) h hc
        refine v_iload_n hk dX11_set_31 rfl ?_
        refine v_iconst (v := 1) hk dX11_set_32 (by decide) ?_
        refine v_icmp_ne (tgt := 61) hk dX11_set_33 (by decide) (fun hc => ?_) (fun hc => ?_)
        · replace h := it_f (g := id) h hc
          refine v_iconst (v := (-1)) hk dX11_set_61 (by decide) ?_
          replace h : some ((-1), o_strength, o_most, o_toldGraph, o_toldArc, fisKnown) = some r := h
          replace h := Option.some.inj h
          subst h
          refine hrt (some (.int (-1))) _ _ _ _ _ (⟨rfl, rfl⟩) (Nat.zero_le _) (Nat.zero_le _) (dX11_set_62)
        · replace h := it_t (g := id) h hc
          refine v_iload_n hk dX11_set_36 rfl ?_
          refine v_if_lt (tgt := 61) hk dX11_set_37 (by decide) (fun hc => ?_) (fun hc => ?_)
          · replace h := it_t (g := id) h hc
            refine v_iconst (v := (-1)) hk dX11_set_61 (by decide) ?_
            replace h : some ((-1), o_strength, o_most, o_toldGraph, o_toldArc, fisKnown) = some r := h
            replace h := Option.some.inj h
            subst h
            refine hrt (some (.int (-1))) _ _ _ _ _ (⟨rfl, rfl⟩) (Nat.zero_le _) (Nat.zero_le _) (dX11_set_62)
          · replace h := it_f (g := id) h hc
            refine v_iload_n hk dX11_set_40 rfl ?_
            refine v_iconst (v := 4) hk dX11_set_41 (by decide) ?_
            refine v_icmp_gt (tgt := 61) hk dX11_set_42 (by decide) (fun hc => ?_) (fun hc => ?_)
            · replace h := it_t (g := id) h hc
              refine v_iconst (v := (-1)) hk dX11_set_61 (by decide) ?_
              replace h : some ((-1), o_strength, o_most, o_toldGraph, o_toldArc, fisKnown) = some r := h
              replace h := Option.some.inj h
              subst h
              refine hrt (some (.int (-1))) _ _ _ _ _ (⟨rfl, rfl⟩) (Nat.zero_le _) (Nat.zero_le _) (dX11_set_62)
            · replace h := it_f (g := id) h hc
              refine v_aload_n hk dX11_set_45 rfl ?_
              refine v_get (C := RX11) (T := TX11) (N := 39) (ci := 10) (v := .int o_most) hk dX11_set_46 w2i_X11_set_X110 0 rfl rfl 5 (by decide) (by decide +kernel) rfl rfl ?_
              refine v_istore_n hk dX11_set_49 rfl (by decide) [1, 2, 3, 0] (lv' := [(0, .ref adm), (1, .int what), (2, .int v), (3, .int o_most)]) rfl ?_
              refine v_aload_n hk dX11_set_50 rfl ?_
              refine v_iload_n hk dX11_set_51 rfl ?_
              refine v_put (C := RX11) (T := TX11) (N := 39) (ci := 10) (v := .int v) (ty := .int) hk dX11_set_52 w2i_X11_set_X110 tyX11 tyX11_ok nmX11 0 rfl rfl 5 (by decide) (by decide +kernel) rfl rfl (by decide +kernel) rfl rfl (Nat.le_of_ble_eq_true rfl) (ws' := [(adm, .inr (10, oM adA o_names o_rows o_strength v o_toldGraph o_toldArc)), ((adA 11), .inl (gZ (kG K), 160, .inl fisKnown))]) rfl ?_
              refine v_aload_n hk dX11_set_55 rfl ?_
              obtain ⟨r_3, er_3, h⟩ := bd_e (g := id) rfl h
              refine v_callV (n := 0) (st := []) (b := adm) (T := TX11) (N := 39) hk dX11_set_56 (c_X11_change (kl K) (kG K) adm adA o_names o_rows o_strength v o_toldGraph o_toldArc fisKnown r_3 er_3) rfl gd_X11_set_X11_change rfl (by decide +kernel) (frok hR9 (Nat.le_of_ble_eq_true rfl) (Nat.le_of_ble_eq_true rfl)) (roomk hR9 (Nat.le_of_ble_eq_true rfl) (Nat.le_of_ble_eq_true rfl)) rfl rfl (Nat.le_of_ble_eq_true rfl) 0 rfl rfl [0, 1] [] (wr := []) rfl rfl (by decide) (by decide) (by decide) ?_
              intro v9 w9 hp9
              obtain ⟨rfl, rfl⟩ := hp9
              show V K 4 [(adm, .inr (10, oM adA o_names o_rows o_strength v r_3.1 r_3.2.1)), ((adA 11), .inl (gZ (kG K), 160, .inl r_3.2.2))] 0 0 59 [(0, .ref adm), (1, .int what), (2, .int v), (3, .int o_most)] []
              refine v_iload_n hk dX11_set_59 rfl ?_
              replace h : some (o_most, o_strength, v, r_3.1, r_3.2.1, r_3.2.2) = some r := h
              replace h := Option.some.inj h
              subst h
              refine hrt (some (.int o_most)) _ _ _ _ _ (⟨rfl, rfl⟩) (Nat.zero_le _) (Nat.zero_le _) (dX11_set_60)
      · replace h := it_f (g := id) h hc
        refine v_aload_n hk dX11_set_15 rfl ?_
        refine v_get (C := RX11) (T := TX11) (N := 39) (ci := 10) (v := .int o_strength) hk dX11_set_16 w2i_X11_set_X110 0 rfl rfl 4 (by decide) (by decide +kernel) rfl rfl ?_
        refine v_istore_n hk dX11_set_19 rfl (by decide) [1, 2, 3, 0] (lv' := [(0, .ref adm), (1, .int what), (2, .int v), (3, .int o_strength)]) rfl ?_
        refine v_aload_n hk dX11_set_20 rfl ?_
        refine v_iload_n hk dX11_set_21 rfl ?_
        refine v_put (C := RX11) (T := TX11) (N := 39) (ci := 10) (v := .int v) (ty := .int) hk dX11_set_22 w2i_X11_set_X110 tyX11 tyX11_ok nmX11 0 rfl rfl 4 (by decide) (by decide +kernel) rfl rfl (by decide +kernel) rfl rfl (Nat.le_of_ble_eq_true rfl) (ws' := [(adm, .inr (10, oM adA o_names o_rows v o_most o_toldGraph o_toldArc)), ((adA 11), .inl (gZ (kG K), 160, .inl fisKnown))]) rfl ?_
        refine v_aload_n hk dX11_set_25 rfl ?_
        obtain ⟨r_4, er_4, h⟩ := bd_e (g := id) rfl h
        refine v_callV (n := 0) (st := []) (b := adm) (T := TX11) (N := 39) hk dX11_set_26 (c_X11_change (kl K) (kG K) adm adA o_names o_rows v o_most o_toldGraph o_toldArc fisKnown r_4 er_4) rfl gd_X11_set_X11_change rfl (by decide +kernel) (frok hR9 (Nat.le_of_ble_eq_true rfl) (Nat.le_of_ble_eq_true rfl)) (roomk hR9 (Nat.le_of_ble_eq_true rfl) (Nat.le_of_ble_eq_true rfl)) rfl rfl (Nat.le_of_ble_eq_true rfl) 0 rfl rfl [0, 1] [] (wr := []) rfl rfl (by decide) (by decide) (by decide) ?_
        intro v9 w9 hp9
        obtain ⟨rfl, rfl⟩ := hp9
        show V K 4 [(adm, .inr (10, oM adA o_names o_rows v o_most r_4.1 r_4.2.1)), ((adA 11), .inl (gZ (kG K), 160, .inl r_4.2.2))] 0 0 29 [(0, .ref adm), (1, .int what), (2, .int v), (3, .int o_strength)] []
        refine v_iload_n hk dX11_set_29 rfl ?_
        replace h : some (o_strength, v, o_most, r_4.1, r_4.2.1, r_4.2.2) = some r := h
        replace h := Option.some.inj h
        subst h
        refine hrt (some (.int o_strength)) _ _ _ _ _ (⟨rfl, rfl⟩) (Nat.zero_le _) (Nat.zero_le _) (dX11_set_30)
abbrev rm_X11_about : Room := { frames := 0, cells := 0, slots := 0, locals := 0 }
set_option maxHeartbeats 4000000 in
set_option maxRecDepth 100000 in
theorem c_X11_about (l : Launch) (G : GG) (adm : Nat) (adA : Nat → Nat) (o_names : Int32) (o_rows : Int32) (o_strength : Int32) (o_most : Int32) (o_toldGraph : Int32) (o_toldArc : Int32) (fvalues : Nat → Int32) (what : Int32) (r : Int32) (h : m_X11_about o_names o_rows o_strength o_most o_toldGraph o_toldArc fvalues what = some r) : Ctr l G yX11_about w2_X11_about rm_X11_about [.ref adm, .int what] [(adm, .inr (10, oM adA o_names o_rows o_strength o_most o_toldGraph o_toldArc)), ((adA 1), .inl (gI G, 5, .inl fvalues))] (fun v w => v = some (.int r) ∧ w = [(adm, .inr (10, oM adA o_names o_rows o_strength o_most o_toldGraph o_toldArc)), ((adA 1), .inl (gI G, 5, .inl fvalues))]) := by
  refine ctr_entry (cc := cX11_about) (maxL := 2) (ret := some .int) (lv0 := [(0, .ref adm), (1, .int what)]) (by decide) rfl (Nat.le_of_ble_eq_true rfl) (rfl) ?_
  intro K hl9 hG9 hk hn9 hrt
  subst hl9
  subst hG9
  have hR9 : RoomGe rm_X11_about rm_X11_about := RoomGe.rf
  replace h := id_e h
  rw [em_X11_about] at h
  refine v_iload_n hk dX11_about_0 rfl ?_
  by_cases hc0 : what = 0
  · replace h := it_t (g := id) h hc0
    refine v_tableIn (k0 := 0) (off := 31) (tgt := 32) hk dX11_about_1 hc0 (by decide) (by decide) (by decide) (by decide) ?_
    refine v_aload_n hk dX11_about_32 rfl ?_
    refine v_get (C := RX11) (T := TX11) (N := 39) (ci := 10) (v := .int o_names) hk dX11_about_33 w2i_X11_about_X110 0 rfl rfl 0 (by decide) (by decide +kernel) rfl rfl ?_
    replace h : some o_names = some r := h
    replace h := Option.some.inj h
    subst h
    refine hrt (some (.int o_names)) _ _ _ _ _ (⟨rfl, rfl⟩) (Nat.zero_le _) (Nat.zero_le _) (dX11_about_36)
  replace h := it_f (g := id) h hc0
  by_cases hc1 : what = 1
  · replace h := it_t (g := id) h hc1
    refine v_tableIn (k0 := 1) (off := 36) (tgt := 37) hk dX11_about_1 hc1 (by decide) (by decide) (by decide) (by decide) ?_
    refine v_aload_n hk dX11_about_37 rfl ?_
    refine v_get (C := RX11) (T := TX11) (N := 39) (ci := 10) (v := .int o_rows) hk dX11_about_38 w2i_X11_about_X110 0 rfl rfl 2 (by decide) (by decide +kernel) rfl rfl ?_
    replace h : some o_rows = some r := h
    replace h := Option.some.inj h
    subst h
    refine hrt (some (.int o_rows)) _ _ _ _ _ (⟨rfl, rfl⟩) (Nat.zero_le _) (Nat.zero_le _) (dX11_about_41)
  replace h := it_f (g := id) h hc1
  by_cases hc2 : what = 2
  · replace h := it_t (g := id) h hc2
    refine v_tableIn (k0 := 2) (off := 41) (tgt := 42) hk dX11_about_1 hc2 (by decide) (by decide) (by decide) (by decide) ?_
    refine v_aload_n hk dX11_about_42 rfl ?_
    refine v_get (C := RX11) (T := TX11) (N := 39) (ci := 10) (v := .int o_strength) hk dX11_about_43 w2i_X11_about_X110 0 rfl rfl 4 (by decide) (by decide +kernel) rfl rfl ?_
    replace h : some o_strength = some r := h
    replace h := Option.some.inj h
    subst h
    refine hrt (some (.int o_strength)) _ _ _ _ _ (⟨rfl, rfl⟩) (Nat.zero_le _) (Nat.zero_le _) (dX11_about_46)
  replace h := it_f (g := id) h hc2
  by_cases hc3 : what = 3
  · replace h := it_t (g := id) h hc3
    refine v_tableIn (k0 := 3) (off := 46) (tgt := 47) hk dX11_about_1 hc3 (by decide) (by decide) (by decide) (by decide) ?_
    refine v_aload_n hk dX11_about_47 rfl ?_
    refine v_get (C := RX11) (T := TX11) (N := 39) (ci := 10) (v := .int o_most) hk dX11_about_48 w2i_X11_about_X110 0 rfl rfl 5 (by decide) (by decide +kernel) rfl rfl ?_
    replace h : some o_most = some r := h
    replace h := Option.some.inj h
    subst h
    refine hrt (some (.int o_most)) _ _ _ _ _ (⟨rfl, rfl⟩) (Nat.zero_le _) (Nat.zero_le _) (dX11_about_51)
  replace h := it_f (g := id) h hc3
  refine v_tableOut (tgt := 52) hk dX11_about_1 (t_out3 hc0 hc1 hc2 hc3) (by decide) ?_
  refine v_iload_n hk dX11_about_52 rfl ?_
  refine v_iconst (v := 4) hk dX11_about_53 (by decide) ?_
  obtain ⟨y_1, ey_1, h⟩ := bd_e (g := id) rfl h
  have Jy_1 : V K 2 [(adm, .inr (10, oM adA o_names o_rows o_strength o_most o_toldGraph o_toldArc)), ((adA 1), .inl (gI (kG K), 5, .inl fvalues))] 0 0 79 [(0, .ref adm), (1, .int what)] [.int y_1] := by
    replace h : some y_1 = some r := h
    replace h := Option.some.inj h
    subst h
    refine hrt (some (.int y_1)) _ _ _ _ _ (⟨rfl, rfl⟩) (Nat.zero_le _) (Nat.zero_le _) (dX11_about_79)
  clear h
  have h := id_e ey_1
  clear ey_1
  refine v_icmp_lt (tgt := 78) hk dX11_about_54 (by decide) (fun hc => ?_) (fun hc => ?_)
  · replace h := it_t (g := id) h hc
    refine v_iconst (v := (-1)) hk dX11_about_78 (by decide) ?_
    replace h : some ((-1) : Int32) = some y_1 := h
    replace h := Option.some.inj h
    subst h
    exact Jy_1
  · replace h := it_f (g := id) h hc
    refine v_iload_n hk dX11_about_57 rfl ?_
    refine v_iconst (v := 4) hk dX11_about_58 (by decide) ?_
    refine v_aload_n hk dX11_about_59 rfl ?_
    refine v_get (C := RX11) (T := TX11) (N := 39) (ci := 10) (v := .int o_names) hk dX11_about_60 w2i_X11_about_X110 0 rfl rfl 0 (by decide) (by decide +kernel) rfl rfl ?_
    refine v_iadd hk dX11_about_63 ?_
    obtain ⟨y_2, ey_2, h⟩ := bd_e (g := id) rfl h
    have Jy_2 : V K 2 [(adm, .inr (10, oM adA o_names o_rows o_strength o_most o_toldGraph o_toldArc)), ((adA 1), .inl (gI (kG K), 5, .inl fvalues))] 0 0 79 [(0, .ref adm), (1, .int what)] [.int y_2] := by
      replace h : some (y_2 : Int32) = some y_1 := h
      replace h := Option.some.inj h
      subst h
      exact Jy_1
    clear h
    have h := id_e ey_2
    clear ey_2
    refine v_icmp_ge (tgt := 78) hk dX11_about_64 (by decide) (fun hc => ?_) (fun hc => ?_)
    · replace h := it_t (g := id) h hc
      refine v_iconst (v := (-1)) hk dX11_about_78 (by decide) ?_
      replace h : some ((-1) : Int32) = some y_2 := h
      replace h := Option.some.inj h
      subst h
      exact Jy_2
    · replace h := it_f (g := id) h hc
      refine v_aload_n hk dX11_about_67 rfl ?_
      refine v_get (C := RX11) (T := TX11) (N := 39) (ci := 10) (v := .ref (adA 1)) hk dX11_about_68 w2i_X11_about_X110 0 rfl rfl 1 (by decide) (by decide +kernel) rfl rfl ?_
      refine v_iload_n hk dX11_about_71 rfl ?_
      refine v_iconst (v := 4) hk dX11_about_72 (by decide) ?_
      refine v_isub hk dX11_about_73 ?_
      obtain ⟨hi, h⟩ := ok_e (g := id) rfl h
      refine v_ialdV hk dX11_about_74 1 rfl (ix_in hi) ?_
      refine v_goto (tgt := 79) hk dX11_about_75 (by decide) ?_
      replace h : some (fvalues (what - 4).toNatClampNeg : Int32) = some y_2 := h
      replace h := Option.some.inj h
      subst h
      exact Jy_2
abbrev rm_X11_order : Room := { frames := 2, cells := 0, slots := 0, locals := 47 }
set_option maxHeartbeats 4000000 in
set_option maxRecDepth 100000 in
theorem L_X11_order_35 {K : Cx} {R9 : Room} (hk : Ok K cX11_order 6 RX11 w2_X11_order R9) (hR9 : RoomGe R9 rm_X11_order) (adm : Nat) (adA : Nat → Nat) (o_names : Int32) (o_rows : Int32) (o_strength : Int32) (o_most : Int32) (o_toldGraph : Int32) (o_toldArc : Int32) (gr : Int32) (i : Int32) (i3_3 : Int32) (i5_5 : Int32) (b9 : Int32) (kk0 : ∀ q9 : Int32, b9 = q9 → V K 6 [(adm, .inr (10, oM adA o_names o_rows o_strength o_most o_toldGraph o_toldArc))] 0 0 64 [(0, .ref adm), (1, .int gr), (2, .int i), (3, .int i3_3), (4, .int q9), (5, .int i5_5)] []) : ∀ (nn : Nat) (i4_6 : Int32), lp (b_X11_order_35 gr i3_3) nn i4_6 = some b9 → V K 6 [(adm, .inr (10, oM adA o_names o_rows o_strength o_most o_toldGraph o_toldArc))] 0 0 35 [(0, .ref adm), (1, .int gr), (2, .int i), (3, .int i3_3), (4, .int i4_6), (5, .int i5_5)] [] := by
  intro nn
  induction nn with
  | zero => intro i4_6 h; exact absurd h (by simp [lp])
  | succ nn ih =>
    intro i4_6 h
    replace h := lp_s h
    rw [eb_X11_order_35] at h
    refine v_iload_n hk dX11_order_35 rfl ?_
    refine v_iload hk dX11_order_36 rfl ?_
    refine v_ishr hk dX11_order_38 ?_
    refine v_iconst (v := 1) hk dX11_order_39 (by decide) ?_
    refine v_iand hk dX11_order_40 ?_
    refine v_iconst (v := 1) hk dX11_order_41 (by decide) ?_
    refine v_icmp_eq (tgt := 58) hk dX11_order_42 (by decide) (fun hc => ?_) (fun hc => ?_)
    · replace h := it_t (g := (lpk (lp (b_X11_order_35 gr i3_3) nn))) h hc
      obtain ⟨x4_7, ex4_7, h⟩ := lt_e (g := (lpk (lp (b_X11_order_35 gr i3_3) nn))) h
      refine v_iinc (v := x4_7) hk dX11_order_58 rfl (by rw [ex4_7]; rfl) (by decide) [1, 2, 3, 4, 0, 5] (lv' := [(0, .ref adm), (1, .int gr), (2, .int i), (3, .int i3_3), (4, .int x4_7), (5, .int i5_5)]) rfl ?_
      refine v_goto (tgt := 35) hk dX11_order_61 (by decide) ?_
      exact ih x4_7 h
    · replace h := it_f (g := (lpk (lp (b_X11_order_35 gr i3_3) nn))) h hc
      refine v_iload_n hk dX11_order_45 rfl ?_
      refine v_iload hk dX11_order_46 rfl ?_
      obtain ⟨r_8, er_8, h⟩ := bd_e (g := (lpk (lp (b_X11_order_35 gr i3_3) nn))) rfl h
      refine v_callS (n := 2) (st := []) hk dX11_order_48 (c_X11_parentsOf (kl K) (kG K) gr i4_6 r_8 er_8) gd_X11_order_X11_parentsOf rfl (by decide +kernel) (frok hR9 (Nat.le_of_ble_eq_true rfl) (Nat.le_of_ble_eq_true rfl)) (roomk hR9 (Nat.le_of_ble_eq_true rfl) (Nat.le_of_ble_eq_true rfl)) rfl rfl (Nat.le_of_ble_eq_true rfl) [] [0] (wr := [(adm, .inr (10, oM adA o_names o_rows o_strength o_most o_toldGraph o_toldArc))]) rfl rfl (by decide) (by decide) (by decide) ?_
      intro v9 w9 hp9
      obtain ⟨rfl, rfl⟩ := hp9
      show V K 6 [(adm, .inr (10, oM adA o_names o_rows o_strength o_most o_toldGraph o_toldArc))] 0 0 51 [(0, .ref adm), (1, .int gr), (2, .int i), (3, .int i3_3), (4, .int i4_6), (5, .int i5_5)] [.int r_8]
      refine v_iload_n hk dX11_order_51 rfl ?_
      refine v_iconst (v := (-1)) hk dX11_order_52 (by decide) ?_
      refine v_ixor hk dX11_order_53 ?_
      refine v_iand hk dX11_order_54 ?_
      refine v_if_eq (tgt := 64) hk dX11_order_55 (by decide) (fun hc => ?_) (fun hc => ?_)
      · replace h := it_t (g := (lpk (lp (b_X11_order_35 gr i3_3) nn))) h hc
        replace h : some i4_6 = some b9 := h
        replace h := Option.some.inj h
        subst h
        exact kk0 _ rfl
      · replace h := it_f (g := (lpk (lp (b_X11_order_35 gr i3_3) nn))) h hc
        obtain ⟨x4_9, ex4_9, h⟩ := lt_e (g := (lpk (lp (b_X11_order_35 gr i3_3) nn))) h
        refine v_iinc (v := x4_9) hk dX11_order_58 rfl (by rw [ex4_9]; rfl) (by decide) [1, 2, 3, 4, 0, 5] (lv' := [(0, .ref adm), (1, .int gr), (2, .int i), (3, .int i3_3), (4, .int x4_9), (5, .int i5_5)]) rfl ?_
        refine v_goto (tgt := 35) hk dX11_order_61 (by decide) ?_
        exact ih x4_9 h
set_option maxHeartbeats 4000000 in
set_option maxRecDepth 100000 in
theorem L_X11_order_26 {K : Cx} {R9 : Room} (hk : Ok K cX11_order 6 RX11 w2_X11_order R9) (hR9 : RoomGe R9 rm_X11_order) (adm : Nat) (adA : Nat → Nat) (o_names : Int32) (o_rows : Int32) (o_strength : Int32) (o_most : Int32) (o_toldGraph : Int32) (o_toldArc : Int32) (gr : Int32) (i : Int32) (b9 : (Int32 × Int32 × Int32)) (kk0 : ∀ q9 : (Int32 × Int32 × Int32), b9 = q9 → V K 6 [(adm, .inr (10, oM adA o_names o_rows o_strength o_most o_toldGraph o_toldArc))] 0 0 77 [(0, .ref adm), (1, .int gr), (2, .int i), (3, .int q9.1), (4, .int q9.2.1), (5, .int q9.2.2)] []) : ∀ (nn : Nat) (i3_3 : Int32) (i4_4 : Int32) (i5_5 : Int32), lp (b_X11_order_26 gr i) nn (i3_3, i4_4, i5_5) = some b9 → V K 6 [(adm, .inr (10, oM adA o_names o_rows o_strength o_most o_toldGraph o_toldArc))] 0 0 26 [(0, .ref adm), (1, .int gr), (2, .int i), (3, .int i3_3), (4, .int i4_4), (5, .int i5_5)] [] := by
  intro nn
  induction nn with
  | zero => intro i3_3 i4_4 i5_5 h; exact absurd h (by simp [lp])
  | succ nn ih =>
    intro i3_3 i4_4 i5_5 h
    replace h := lp_s h
    rw [eb_X11_order_26] at h
    refine v_iload hk dX11_order_26 rfl ?_
    refine v_iload_n hk dX11_order_28 rfl ?_
    refine v_icmp_gt (tgt := 77) hk dX11_order_29 (by decide) (fun hc => ?_) (fun hc => ?_)
    · replace h := it_t (g := (lpk (lp (b_X11_order_26 gr i) nn))) h hc
      replace h : some (i3_3, i4_4, i5_5) = some b9 := h
      replace h := Option.some.inj h
      subst h
      exact kk0 _ rfl
    · replace h := it_f (g := (lpk (lp (b_X11_order_26 gr i) nn))) h hc
      refine v_iconst (v := 0) hk dX11_order_32 (by decide) ?_
      refine v_istore hk dX11_order_33 (by decide) [1, 2, 3, 4, 0, 5] (lv' := [(0, .ref adm), (1, .int gr), (2, .int i), (3, .int i3_3), (4, .int 0), (5, .int i5_5)]) rfl ?_
      obtain ⟨b_13, eb_13, h⟩ := bd_e (g := (lpk (lp (b_X11_order_26 gr i) nn))) rfl h
      refine L_X11_order_35 hk hR9 adm adA o_names o_rows o_strength o_most o_toldGraph o_toldArc gr i i3_3 i5_5 b_13 (fun q_10 eq_10 => ?_) FU 0 eb_13
      · replace eq_10 := eq_10.symm
        subst eq_10
        refine v_iload_n hk dX11_order_64 rfl ?_
        refine v_iconst (v := 1) hk dX11_order_65 (by decide) ?_
        refine v_iload hk dX11_order_66 rfl ?_
        refine v_ishl hk dX11_order_68 ?_
        refine v_ior hk dX11_order_69 ?_
        obtain ⟨x3_11, ex3_11, h⟩ := lt_e (g := (lpk (lp (b_X11_order_26 gr i) nn))) h
        refine v_topi ex3_11.symm ?_
        refine v_istore_n hk dX11_order_70 rfl (by decide) [1, 2, 3, 0, 4, 5] (lv' := [(0, .ref adm), (1, .int gr), (2, .int i), (3, .int x3_11), (4, .int q_10), (5, .int i5_5)]) rfl ?_
        obtain ⟨x5_12, ex5_12, h⟩ := lt_e (g := (lpk (lp (b_X11_order_26 gr i) nn))) h
        refine v_iinc (v := x5_12) hk dX11_order_71 rfl (by rw [ex5_12]; rfl) (by decide) [1, 2, 3, 4, 5, 0] (lv' := [(0, .ref adm), (1, .int gr), (2, .int i), (3, .int x3_11), (4, .int q_10), (5, .int x5_12)]) rfl ?_
        refine v_goto (tgt := 26) hk dX11_order_74 (by decide) ?_
        exact ih x3_11 q_10 x5_12 h
set_option maxHeartbeats 4000000 in
set_option maxRecDepth 100000 in
theorem c_X11_order (l : Launch) (G : GG) (adm : Nat) (adA : Nat → Nat) (o_names : Int32) (o_rows : Int32) (o_strength : Int32) (o_most : Int32) (o_toldGraph : Int32) (o_toldArc : Int32) (gr : Int32) (i : Int32) (r : Int32) (h : m_X11_order o_names o_rows o_strength o_most o_toldGraph o_toldArc gr i = some r) : Ctr l G yX11_order w2_X11_order rm_X11_order [.ref adm, .int gr, .int i] [(adm, .inr (10, oM adA o_names o_rows o_strength o_most o_toldGraph o_toldArc))] (fun v w => v = some (.int r) ∧ w = [(adm, .inr (10, oM adA o_names o_rows o_strength o_most o_toldGraph o_toldArc))]) := by
  refine ctr_entry (cc := cX11_order) (maxL := 6) (ret := some .int) (lv0 := [(0, .ref adm), (1, .int gr), (2, .int i)]) (by decide) rfl (Nat.le_of_ble_eq_true rfl) (rfl) ?_
  intro K hl9 hG9 hk hn9 hrt
  subst hl9
  subst hG9
  have hR9 : RoomGe rm_X11_order rm_X11_order := RoomGe.rf
  replace h := id_e h
  rw [em_X11_order] at h
  refine v_aload_n hk dX11_order_0 rfl ?_
  refine v_iload_n hk dX11_order_1 rfl ?_
  obtain ⟨r_1, er_1, h⟩ := bd_e (g := id) rfl h
  refine v_callV (n := 1) (st := []) (b := adm) (T := TX11) (N := 39) hk dX11_order_2 (c_X11_isGraph (kl K) (kG K) adm adA o_names o_rows o_strength o_most o_toldGraph o_toldArc gr r_1 er_1) rfl gd_X11_order_X11_isGraph rfl (by decide +kernel) (frok hR9 (Nat.le_of_ble_eq_true rfl) (Nat.le_of_ble_eq_true rfl)) (roomk hR9 (Nat.le_of_ble_eq_true rfl) (Nat.le_of_ble_eq_true rfl)) rfl rfl (Nat.le_of_ble_eq_true rfl) 0 rfl rfl [0] [] (wr := []) rfl rfl (by decide) (by decide) (by decide) ?_
  intro v9 w9 hp9
  obtain ⟨rfl, rfl⟩ := hp9
  show V K 6 [(adm, .inr (10, oM adA o_names o_rows o_strength o_most o_toldGraph o_toldArc))] 0 0 5 [(0, .ref adm), (1, .int gr), (2, .int i)] [.int r_1]
  refine v_if_eq (tgt := 16) hk dX11_order_5 (by decide) (fun hc => ?_) (fun hc => ?_)
  · replace h := it_t (g := id) h hc
    refine v_iconst (v := (-1)) hk dX11_order_16 (by decide) ?_
    replace h : some (-1) = some r := h
    replace h := Option.some.inj h
    subst h
    refine hrt (some (.int (-1))) _ _ _ _ _ (⟨rfl, rfl⟩) (Nat.zero_le _) (Nat.zero_le _) (dX11_order_17)
  · replace h := it_f (g := id) h hc
    refine v_aload_n hk dX11_order_8 rfl ?_
    refine v_iload_n hk dX11_order_9 rfl ?_
    obtain ⟨r_2, er_2, h⟩ := bd_e (g := id) rfl h
    refine v_callV (n := 1) (st := []) (b := adm) (T := TX11) (N := 39) hk dX11_order_10 (c_X11_isName (kl K) (kG K) adm adA o_names o_rows o_strength o_most o_toldGraph o_toldArc i r_2 er_2) rfl gd_X11_order_X11_isName rfl (by decide +kernel) (frok hR9 (Nat.le_of_ble_eq_true rfl) (Nat.le_of_ble_eq_true rfl)) (roomk hR9 (Nat.le_of_ble_eq_true rfl) (Nat.le_of_ble_eq_true rfl)) rfl rfl (Nat.le_of_ble_eq_true rfl) 0 rfl rfl [0] [] (wr := []) rfl rfl (by decide) (by decide) (by decide) ?_
    intro v9 w9 hp9
    obtain ⟨rfl, rfl⟩ := hp9
    show V K 6 [(adm, .inr (10, oM adA o_names o_rows o_strength o_most o_toldGraph o_toldArc))] 0 0 13 [(0, .ref adm), (1, .int gr), (2, .int i)] [.int r_2]
    refine v_if_ne (tgt := 18) hk dX11_order_13 (by decide) (fun hc => ?_) (fun hc => ?_)
    · replace h := it_f (g := id) h hc
      refine v_iconst (v := 0) hk dX11_order_18 (by decide) ?_
      refine v_istore_n hk dX11_order_19 rfl (by decide) [1, 2, 3, 0] (lv' := [(0, .ref adm), (1, .int gr), (2, .int i), (3, .int 0)]) rfl ?_
      refine v_iconst (v := (-1)) hk dX11_order_20 (by decide) ?_
      refine v_istore hk dX11_order_21 (by decide) [1, 2, 3, 4, 0] (lv' := [(0, .ref adm), (1, .int gr), (2, .int i), (3, .int 0), (4, .int (-1))]) rfl ?_
      refine v_iconst (v := 0) hk dX11_order_23 (by decide) ?_
      refine v_istore hk dX11_order_24 (by decide) [1, 2, 3, 4, 5, 0] (lv' := [(0, .ref adm), (1, .int gr), (2, .int i), (3, .int 0), (4, .int (-1)), (5, .int 0)]) rfl ?_
      obtain ⟨b_15, eb_15, h⟩ := bd_e (g := id) rfl h
      refine L_X11_order_26 hk hR9 adm adA o_names o_rows o_strength o_most o_toldGraph o_toldArc gr i b_15 (fun q_14 eq_14 => ?_) FU 0 (-1) 0 eb_15
      · replace eq_14 := eq_14.symm
        subst eq_14
        refine v_iload hk dX11_order_77 rfl ?_
        replace h : some q_14.2.1 = some r := h
        replace h := Option.some.inj h
        subst h
        refine hrt (some (.int q_14.2.1)) _ _ _ _ _ (⟨rfl, rfl⟩) (Nat.zero_le _) (Nat.zero_le _) (dX11_order_79)
    · replace h := it_t (g := id) h hc
      refine v_iconst (v := (-1)) hk dX11_order_16 (by decide) ?_
      replace h : some (-1) = some r := h
      replace h := Option.some.inj h
      subst h
      refine hrt (some (.int (-1))) _ _ _ _ _ (⟨rfl, rfl⟩) (Nat.zero_le _) (Nat.zero_le _) (dX11_order_17)
