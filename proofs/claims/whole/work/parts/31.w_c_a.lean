abbrev rm_X5_forget : Room := { frames := 0, cells := 0, slots := 0, locals := 0 }
set_option maxHeartbeats 4000000 in
set_option maxRecDepth 100000 in
theorem L_X5_forget_2 {K : Cx} {R9 : Room} (hk : Ok K cX5_forget 2 RX5 w2_X5_forget R9) (hR9 : RoomGe R9 rm_X5_forget) (adp : Nat) (adpw : Nat) (lg : Int32) (npw : Nat) (b9 : (Int32 × (Nat → Int32))) (kk0 : ∀ q9 : (Int32 × (Nat → Int32)), b9 = q9 → V K 2 [(adp, .inr (4, [.ref adpw, .int lg])), (adpw, .inl (gI (kG K), npw, .inl q9.2))] 0 0 32 [(0, .ref adp), (1, .int q9.1)] []) : ∀ (nn : Nat) (i1_1 : Int32) (fpw_2 : Nat → Int32), lp (b_X5_forget_2 lg npw) nn (i1_1, fpw_2) = some b9 → V K 2 [(adp, .inr (4, [.ref adpw, .int lg])), (adpw, .inl (gI (kG K), npw, .inl fpw_2))] 0 0 2 [(0, .ref adp), (1, .int i1_1)] [] := by
  intro nn
  induction nn with
  | zero => intro i1_1 fpw_2 h; exact absurd h (by simp [lp])
  | succ nn ih =>
    intro i1_1 fpw_2 h
    replace h := lp_s h
    rw [eb_X5_forget_2] at h
    refine v_iload_n hk dX5_forget_2 rfl ?_
    refine v_aload_n hk dX5_forget_3 rfl ?_
    refine v_get (C := RX5) (T := TX5) (N := 2) (ci := 4) (v := .int lg) hk dX5_forget_4 w2i_X5_forget_X50 0 rfl rfl 1 (by decide) (by decide +kernel) rfl rfl ?_
    refine v_icmp_gt (tgt := 32) hk dX5_forget_7 (by decide) (fun hc => ?_) (fun hc => ?_)
    · replace h := it_t (g := (lpk (lp (b_X5_forget_2 lg npw) nn))) h hc
      replace h : some (i1_1, fpw_2) = some b9 := h
      replace h := Option.some.inj h
      subst h
      exact kk0 _ rfl
    · replace h := it_f (g := (lpk (lp (b_X5_forget_2 lg npw) nn))) h hc
      refine v_iload_n hk dX5_forget_10 rfl ?_
      refine v_aload_n hk dX5_forget_11 rfl ?_
      refine v_get (C := RX5) (T := TX5) (N := 2) (ci := 4) (v := .ref adpw) hk dX5_forget_12 w2i_X5_forget_X50 0 rfl rfl 0 (by decide) (by decide +kernel) rfl rfl ?_
      refine v_alenI hk dX5_forget_15 1 rfl rfl ?_
      refine v_icmp_ge (tgt := 32) hk dX5_forget_16 (by decide) (fun hc => ?_) (fun hc => ?_)
      · replace h := it_t (g := (lpk (lp (b_X5_forget_2 lg npw) nn))) h hc
        replace h : some (i1_1, fpw_2) = some b9 := h
        replace h := Option.some.inj h
        subst h
        exact kk0 _ rfl
      · replace h := it_f (g := (lpk (lp (b_X5_forget_2 lg npw) nn))) h hc
        refine v_aload_n hk dX5_forget_19 rfl ?_
        refine v_get (C := RX5) (T := TX5) (N := 2) (ci := 4) (v := .ref adpw) hk dX5_forget_20 w2i_X5_forget_X50 0 rfl rfl 0 (by decide) (by decide +kernel) rfl rfl ?_
        refine v_iload_n hk dX5_forget_23 rfl ?_
        refine v_iconst (v := 0) hk dX5_forget_24 (by decide) ?_
        obtain ⟨hi, h⟩ := ok_e (g := (lpk (lp (b_X5_forget_2 lg npw) nn))) rfl h
        obtain ⟨fpw_3, efpw_3, h⟩ := lt_e (g := (lpk (lp (b_X5_forget_2 lg npw) nn))) h
        refine v_iastV hk dX5_forget_25 1 rfl (ix_in hi) (ws' := [(adp, .inr (4, [.ref adpw, .int lg])), (adpw, .inl (gI (kG K), npw, .inl fpw_3))]) (by rw [efpw_3]; rfl) ?_
        obtain ⟨x1_4, ex1_4, h⟩ := lt_e (g := (lpk (lp (b_X5_forget_2 lg npw) nn))) h
        refine v_iinc (v := x1_4) hk dX5_forget_26 rfl (by rw [ex1_4]; rfl) (by decide) [1, 0] (lv' := [(0, .ref adp), (1, .int x1_4)]) rfl ?_
        refine v_goto (tgt := 2) hk dX5_forget_29 (by decide) ?_
        exact ih x1_4 fpw_3 h
set_option maxHeartbeats 4000000 in
set_option maxRecDepth 100000 in
theorem c_X5_forget (l : Launch) (G : GG) (adp : Nat) (adpw : Nat) (lg : Int32) (npw : Nat) (fpw : Nat → Int32) (r : Int32 × (Nat → Int32)) (h : m_X5_forget lg npw fpw = some r) : Ctr l G yX5_forget w2_X5_forget rm_X5_forget [.ref adp] [(adp, .inr (4, [.ref adpw, .int lg])), (adpw, .inl (gI G, npw, .inl fpw))] (fun v w => v = none ∧ w = [(adp, .inr (4, [.ref adpw, .int r.1])), (adpw, .inl (gI G, npw, .inl r.2))]) := by
  refine ctr_entry (cc := cX5_forget) (maxL := 2) (ret := none) (lv0 := [(0, .ref adp)]) (by decide) rfl (Nat.le_of_ble_eq_true rfl) (rfl) ?_
  intro K hl9 hG9 hk hn9 hrt
  subst hl9
  subst hG9
  have hR9 : RoomGe rm_X5_forget rm_X5_forget := RoomGe.rf
  replace h := id_e h
  rw [em_X5_forget] at h
  refine v_iconst (v := 0) hk dX5_forget_0 (by decide) ?_
  refine v_istore_n hk dX5_forget_1 rfl (by decide) [1, 0] (lv' := [(0, .ref adp), (1, .int 0)]) rfl ?_
  obtain ⟨b_6, eb_6, h⟩ := bd_e (g := id) rfl h
  refine L_X5_forget_2 hk hR9 adp adpw lg npw b_6 (fun q_5 eq_5 => ?_) FU 0 fpw eb_6
  · replace eq_5 := eq_5.symm
    subst eq_5
    refine v_aload_n hk dX5_forget_32 rfl ?_
    refine v_iconst (v := 0) hk dX5_forget_33 (by decide) ?_
    refine v_put (C := RX5) (T := TX5) (N := 2) (ci := 4) (v := .int 0) (ty := .int) hk dX5_forget_34 w2i_X5_forget_X50 tyX5 tyX5_ok nmX5 0 rfl rfl 1 (by decide) (by decide +kernel) rfl rfl (by decide +kernel) rfl rfl (Nat.le_of_ble_eq_true rfl) (ws' := [(adp, .inr (4, [.ref adpw, .int 0])), (adpw, .inl (gI (kG K), npw, .inl q_5.2))]) rfl ?_
    replace h : some (0, q_5.2) = some r := h
    replace h := Option.some.inj h
    subst h
    refine hrt (none) _ _ _ _ _ (⟨rfl, rfl⟩) (Nat.zero_le _) (Nat.zero_le _) (dX5_forget_37)
abbrev rm_X5_multiply : Room := { frames := 0, cells := 0, slots := 0, locals := 0 }
set_option maxHeartbeats 4000000 in
set_option maxRecDepth 100000 in
theorem L_X5_multiply_68 {K : Cx} {R9 : Room} (hk : Ok K cX5_multiply 7 RX5 w2_X5_multiply R9) (hR9 : RoomGe R9 rm_X5_multiply) (adp : Nat) (adpw : Nat) (npw : Nat) (num : Int32) (oft : Int32) (i4_2 : Int32) (x5_5 : Int32) (b9 : (Int32 × Int32 × Int32 × (Nat → Int32))) (kk0 : ∀ q9 : (Int32 × Int32 × Int32 × (Nat → Int32)), b9 = q9 → V K 7 [(adp, .inr (4, [.ref adpw, .int q9.2.2.1])), (adpw, .inl (gI (kG K), npw, .inl q9.2.2.2))] 0 0 119 [(0, .ref adp), (1, .int num), (2, .int oft), (3, .int q9.1), (4, .int i4_2), (5, .int x5_5), (6, .int q9.2.1)] []) : ∀ (nn : Nat) (i3_6 : Int32) (i6_7 : Int32) (pp_8 : Int32) (fpw_9 : Nat → Int32), lp (b_X5_multiply_68 npw oft x5_5) nn (i3_6, i6_7, pp_8, fpw_9) = some b9 → V K 7 [(adp, .inr (4, [.ref adpw, .int pp_8])), (adpw, .inl (gI (kG K), npw, .inl fpw_9))] 0 0 68 [(0, .ref adp), (1, .int num), (2, .int oft), (3, .int i3_6), (4, .int i4_2), (5, .int x5_5), (6, .int i6_7)] [] := by
  intro nn
  induction nn with
  | zero => intro i3_6 i6_7 pp_8 fpw_9 h; exact absurd h (by simp [lp])
  | succ nn ih =>
    intro i3_6 i6_7 pp_8 fpw_9 h
    replace h := lp_s h
    rw [eb_X5_multiply_68] at h
    obtain ⟨t19, t29, hz19, hT19, hz29, hT29⟩ := hk.sta
    refine v_iload hk dX5_multiply_68 rfl ?_
    refine v_bipush (v := 32) hk dX5_multiply_70 (by decide) ?_
    refine v_icmp_ge (tgt := 119) hk dX5_multiply_72 (by decide) (fun hc => ?_) (fun hc => ?_)
    · replace h := it_t (g := (lpk (lp (b_X5_multiply_68 npw oft x5_5) nn))) h hc
      replace h : some (i3_6, i6_7, pp_8, fpw_9) = some b9 := h
      replace h := Option.some.inj h
      subst h
      exact kk0 _ rfl
    · replace h := it_f (g := (lpk (lp (b_X5_multiply_68 npw oft x5_5) nn))) h hc
      refine v_iload_n hk dX5_multiply_75 rfl ?_
      refine v_iload hk dX5_multiply_76 rfl ?_
      obtain ⟨hz, h⟩ := nz_e (g := (lpk (lp (b_X5_multiply_68 npw oft x5_5) nn))) rfl h
      refine v_irem hk dX5_multiply_78 hz ?_
      refine v_if_ne (tgt := 119) hk dX5_multiply_79 (by decide) (fun hc => ?_) (fun hc => ?_)
      · replace h := it_f (g := (lpk (lp (b_X5_multiply_68 npw oft x5_5) nn))) h hc
        replace h : some (i3_6, i6_7, pp_8, fpw_9) = some b9 := h
        replace h := Option.some.inj h
        subst h
        exact kk0 _ rfl
      · replace h := it_t (g := (lpk (lp (b_X5_multiply_68 npw oft x5_5) nn))) h hc
        refine v_iload_n hk dX5_multiply_82 rfl ?_
        refine v_iload hk dX5_multiply_83 rfl ?_
        obtain ⟨hz, h⟩ := nz_e (g := (lpk (lp (b_X5_multiply_68 npw oft x5_5) nn))) rfl h
        refine v_idiv hk dX5_multiply_85 hz ?_
        obtain ⟨x3_10, ex3_10, h⟩ := lt_e (g := (lpk (lp (b_X5_multiply_68 npw oft x5_5) nn))) h
        refine v_topi ex3_10.symm ?_
        refine v_istore_n hk dX5_multiply_86 rfl (by decide) [1, 2, 3, 0, 4, 5, 6] (lv' := [(0, .ref adp), (1, .int num), (2, .int oft), (3, .int x3_10), (4, .int i4_2), (5, .int x5_5), (6, .int i6_7)]) rfl ?_
        refine v_aload_n hk dX5_multiply_87 rfl ?_
        refine v_get (C := RX5) (T := TX5) (N := 2) (ci := 4) (v := .ref adpw) hk dX5_multiply_88 w2i_X5_multiply_X50 0 rfl rfl 0 (by decide) (by decide +kernel) rfl rfl ?_
        refine v_iload hk dX5_multiply_91 rfl ?_
        refine v_dup2 hk dX5_multiply_93 rfl rfl ?_
        obtain ⟨hi, h⟩ := ok_e (g := (lpk (lp (b_X5_multiply_68 npw oft x5_5) nn))) rfl h
        refine v_ialdV hk dX5_multiply_94 1 rfl (ix_in hi) ?_
        refine v_iload_n hk dX5_multiply_95 rfl ?_
        refine v_iadd hk dX5_multiply_96 ?_
        obtain ⟨hi, h⟩ := ok_e (g := (lpk (lp (b_X5_multiply_68 npw oft x5_5) nn))) rfl h
        obtain ⟨fpw_11, efpw_11, h⟩ := lt_e (g := (lpk (lp (b_X5_multiply_68 npw oft x5_5) nn))) h
        refine v_iastV hk dX5_multiply_97 1 rfl (ix_in hi) (ws' := [(adp, .inr (4, [.ref adpw, .int pp_8])), (adpw, .inl (gI (kG K), npw, .inl fpw_11))]) (by rw [efpw_11]; rfl) ?_
        refine v_iload hk dX5_multiply_98 rfl ?_
        refine v_aload_n hk dX5_multiply_100 rfl ?_
        refine v_get (C := RX5) (T := TX5) (N := 2) (ci := 4) (v := .int pp_8) hk dX5_multiply_101 w2i_X5_multiply_X50 0 rfl rfl 1 (by decide) (by decide +kernel) rfl rfl ?_
        refine v_icmp_le (tgt := 113) hk dX5_multiply_104 (by decide) (fun hc => ?_) (fun hc => ?_)
        · replace h := it_t (g := (lpk (lp (b_X5_multiply_68 npw oft x5_5) nn))) h hc
          obtain ⟨x6_12, ex6_12, h⟩ := lt_e (g := (lpk (lp (b_X5_multiply_68 npw oft x5_5) nn))) h
          refine v_iinc (v := x6_12) hk dX5_multiply_113 rfl (by rw [ex6_12]; rfl) (by decide) [1, 2, 3, 4, 5, 6, 0] (lv' := [(0, .ref adp), (1, .int num), (2, .int oft), (3, .int x3_10), (4, .int i4_2), (5, .int x5_5), (6, .int x6_12)]) rfl ?_
          refine v_goto (tgt := 68) hk dX5_multiply_116 (by decide) ?_
          exact ih x3_10 x6_12 pp_8 fpw_11 h
        · replace h := it_f (g := (lpk (lp (b_X5_multiply_68 npw oft x5_5) nn))) h hc
          refine v_aload_n hk dX5_multiply_107 rfl ?_
          refine v_iload hk dX5_multiply_108 rfl ?_
          refine v_put (C := RX5) (T := TX5) (N := 2) (ci := 4) (v := .int x5_5) (ty := .int) hk dX5_multiply_110 w2i_X5_multiply_X50 tyX5 tyX5_ok nmX5 0 rfl rfl 1 (by decide) (by decide +kernel) rfl rfl (by decide +kernel) rfl rfl (Nat.le_of_ble_eq_true rfl) (ws' := [(adp, .inr (4, [.ref adpw, .int x5_5])), (adpw, .inl (gI (kG K), npw, .inl fpw_11))]) rfl ?_
          obtain ⟨x6_13, ex6_13, h⟩ := lt_e (g := (lpk (lp (b_X5_multiply_68 npw oft x5_5) nn))) h
          refine v_iinc (v := x6_13) hk dX5_multiply_113 rfl (by rw [ex6_13]; rfl) (by decide) [1, 2, 3, 4, 5, 6, 0] (lv' := [(0, .ref adp), (1, .int num), (2, .int oft), (3, .int x3_10), (4, .int i4_2), (5, .int x5_5), (6, .int x6_13)]) rfl ?_
          refine v_goto (tgt := 68) hk dX5_multiply_116 (by decide) ?_
          exact ih x3_10 x6_13 x5_5 fpw_11 h
set_option maxHeartbeats 4000000 in
set_option maxRecDepth 100000 in
theorem L_X5_multiply_20 {K : Cx} {R9 : Room} (hk : Ok K cX5_multiply 7 RX5 w2_X5_multiply R9) (hR9 : RoomGe R9 rm_X5_multiply) (adp : Nat) (adpw : Nat) (npw : Nat) (num : Int32) (oft : Int32) (b9 : (Int32 × Int32 × Int32 × (Nat → Int32))) (kk0 : ∀ q9 : (Int32 × Int32 × Int32 × (Nat → Int32)), b9 = q9 → V K 7 [(adp, .inr (4, [.ref adpw, .int q9.2.2.1])), (adpw, .inl (gI (kG K), npw, .inl q9.2.2.2))] 0 0 125 [(0, .ref adp), (1, .int num), (2, .int oft), (3, .int q9.1), (4, .int q9.2.1)] []) : ∀ (nn : Nat) (i3_1 : Int32) (i4_2 : Int32) (pp_3 : Int32) (fpw_4 : Nat → Int32), lp (b_X5_multiply_20 npw oft) nn (i3_1, i4_2, pp_3, fpw_4) = some b9 → V K 7 [(adp, .inr (4, [.ref adpw, .int pp_3])), (adpw, .inl (gI (kG K), npw, .inl fpw_4))] 0 0 20 [(0, .ref adp), (1, .int num), (2, .int oft), (3, .int i3_1), (4, .int i4_2)] [] := by
  intro nn
  induction nn with
  | zero => intro i3_1 i4_2 pp_3 fpw_4 h; exact absurd h (by simp [lp])
  | succ nn ih =>
    intro i3_1 i4_2 pp_3 fpw_4 h
    replace h := lp_s h
    rw [eb_X5_multiply_20] at h
    obtain ⟨t19, t29, hz19, hT19, hz29, hT29⟩ := hk.sta
    refine v_iload hk dX5_multiply_20 rfl ?_
    refine v_gets hk dX5_multiply_22 hz19 (by decide +kernel) rfl ?_
    refine v_tlen hk dX5_multiply_25 hT19 rfl ?_
    refine v_icmp_ge (tgt := 125) hk dX5_multiply_26 (by decide) (fun hc => ?_) (fun hc => ?_)
    · replace h := it_t (g := (lpk (lp (b_X5_multiply_20 npw oft) nn))) h hc
      replace h : some (i3_1, i4_2, pp_3, fpw_4) = some b9 := h
      replace h := Option.some.inj h
      subst h
      exact kk0 _ rfl
    · replace h := it_f (g := (lpk (lp (b_X5_multiply_20 npw oft) nn))) h hc
      refine v_gets hk dX5_multiply_29 hz19 (by decide +kernel) rfl ?_
      refine v_iload hk dX5_multiply_32 rfl ?_
      obtain ⟨hi, h⟩ := ok_e (g := (lpk (lp (b_X5_multiply_20 npw oft) nn))) rfl h
      refine v_ti hk dX5_multiply_34 hT19 (ix_in hi) rfl ?_
      obtain ⟨x5_5, ex5_5, h⟩ := lt_e (g := (lpk (lp (b_X5_multiply_20 npw oft) nn))) h
      refine v_topi ex5_5.symm ?_
      refine v_istore hk dX5_multiply_35 (by decide) [1, 2, 3, 4, 5, 0] (lv' := [(0, .ref adp), (1, .int num), (2, .int oft), (3, .int i3_1), (4, .int i4_2), (5, .int x5_5)]) rfl ?_
      refine v_iload hk dX5_multiply_37 rfl ?_
      refine v_iconst (v := 2) hk dX5_multiply_39 (by decide) ?_
      refine v_icmp_lt (tgt := 125) hk dX5_multiply_40 (by decide) (fun hc => ?_) (fun hc => ?_)
      · replace h := it_t (g := (lpk (lp (b_X5_multiply_20 npw oft) nn))) h hc
        refine v_loc [0, 1, 2, 3, 4] (lv' := [(0, .ref adp), (1, .int num), (2, .int oft), (3, .int i3_1), (4, .int i4_2)]) rfl ?_
        replace h : some (i3_1, i4_2, pp_3, fpw_4) = some b9 := h
        replace h := Option.some.inj h
        subst h
        exact kk0 _ rfl
      · replace h := it_f (g := (lpk (lp (b_X5_multiply_20 npw oft) nn))) h hc
        refine v_iload hk dX5_multiply_43 rfl ?_
        refine v_aload_n hk dX5_multiply_45 rfl ?_
        refine v_get (C := RX5) (T := TX5) (N := 2) (ci := 4) (v := .ref adpw) hk dX5_multiply_46 w2i_X5_multiply_X50 0 rfl rfl 0 (by decide) (by decide +kernel) rfl rfl ?_
        refine v_alenI hk dX5_multiply_49 1 rfl rfl ?_
        refine v_icmp_ge (tgt := 125) hk dX5_multiply_50 (by decide) (fun hc => ?_) (fun hc => ?_)
        · replace h := it_t (g := (lpk (lp (b_X5_multiply_20 npw oft) nn))) h hc
          refine v_loc [0, 1, 2, 3, 4] (lv' := [(0, .ref adp), (1, .int num), (2, .int oft), (3, .int i3_1), (4, .int i4_2)]) rfl ?_
          replace h : some (i3_1, i4_2, pp_3, fpw_4) = some b9 := h
          replace h := Option.some.inj h
          subst h
          exact kk0 _ rfl
        · replace h := it_f (g := (lpk (lp (b_X5_multiply_20 npw oft) nn))) h hc
          refine v_iload hk dX5_multiply_53 rfl ?_
          refine v_iload hk dX5_multiply_55 rfl ?_
          refine v_imul hk dX5_multiply_57 ?_
          refine v_iload_n hk dX5_multiply_58 rfl ?_
          refine v_icmp_le (tgt := 65) hk dX5_multiply_59 (by decide) (fun hc => ?_) (fun hc => ?_)
          · replace h := it_t (g := (lpk (lp (b_X5_multiply_20 npw oft) nn))) h hc
            refine v_iconst (v := 0) hk dX5_multiply_65 (by decide) ?_
            refine v_istore hk dX5_multiply_66 (by decide) [1, 2, 3, 4, 5, 6, 0] (lv' := [(0, .ref adp), (1, .int num), (2, .int oft), (3, .int i3_1), (4, .int i4_2), (5, .int x5_5), (6, .int 0)]) rfl ?_
            obtain ⟨b_16, eb_16, h⟩ := bd_e (g := (lpk (lp (b_X5_multiply_20 npw oft) nn))) rfl h
            refine L_X5_multiply_68 hk hR9 adp adpw npw num oft i4_2 x5_5 b_16 (fun q_14 eq_14 => ?_) FU i3_1 0 pp_3 fpw_4 eb_16
            · replace eq_14 := eq_14.symm
              subst eq_14
              obtain ⟨x4_15, ex4_15, h⟩ := lt_e (g := (lpk (lp (b_X5_multiply_20 npw oft) nn))) h
              refine v_iinc (v := x4_15) hk dX5_multiply_119 rfl (by rw [ex4_15]; rfl) (by decide) [1, 2, 3, 4, 0, 5, 6] (lv' := [(0, .ref adp), (1, .int num), (2, .int oft), (3, .int q_14.1), (4, .int x4_15), (5, .int x5_5), (6, .int q_14.2.1)]) rfl ?_
              refine v_goto (tgt := 20) hk dX5_multiply_122 (by decide) ?_
              refine v_loc [0, 1, 2, 3, 4] (lv' := [(0, .ref adp), (1, .int num), (2, .int oft), (3, .int q_14.1), (4, .int x4_15)]) rfl ?_
              exact ih q_14.1 x4_15 q_14.2.2.1 q_14.2.2.2 h
          · replace h := it_f (g := (lpk (lp (b_X5_multiply_20 npw oft) nn))) h hc
            refine v_goto (tgt := 125) hk dX5_multiply_62 (by decide) ?_
            refine v_loc [0, 1, 2, 3, 4] (lv' := [(0, .ref adp), (1, .int num), (2, .int oft), (3, .int i3_1), (4, .int i4_2)]) rfl ?_
            replace h : some (i3_1, i4_2, pp_3, fpw_4) = some b9 := h
            replace h := Option.some.inj h
            subst h
            exact kk0 _ rfl
set_option maxHeartbeats 4000000 in
set_option maxRecDepth 100000 in
theorem c_X5_multiply (l : Launch) (G : GG) (adp : Nat) (adpw : Nat) (lg : Int32) (npw : Nat) (fpw : Nat → Int32) (num : Int32) (oft : Int32) (r : Int32 × (Nat → Int32)) (h : m_X5_multiply lg npw fpw num oft = some r) : Ctr l G yX5_multiply w2_X5_multiply rm_X5_multiply [.ref adp, .int num, .int oft] [(adp, .inr (4, [.ref adpw, .int lg])), (adpw, .inl (gI G, npw, .inl fpw))] (fun v w => v = none ∧ w = [(adp, .inr (4, [.ref adpw, .int r.1])), (adpw, .inl (gI G, npw, .inl r.2))]) := by
  refine ctr_entry (cc := cX5_multiply) (maxL := 7) (ret := none) (lv0 := [(0, .ref adp), (1, .int num), (2, .int oft)]) (by decide) rfl (Nat.le_of_ble_eq_true rfl) (rfl) ?_
  intro K hl9 hG9 hk hn9 hrt
  subst hl9
  subst hG9
  have hR9 : RoomGe rm_X5_multiply rm_X5_multiply := RoomGe.rf
  obtain ⟨t19, t29, hz19, hT19, hz29, hT29⟩ := hk.sta
  replace h := id_e h
  rw [em_X5_multiply] at h
  refine v_iload_n hk dX5_multiply_0 rfl ?_
  refine v_iconst (v := 1) hk dX5_multiply_1 (by decide) ?_
  refine v_icmp_lt (tgt := 14) hk dX5_multiply_2 (by decide) (fun hc => ?_) (fun hc => ?_)
  · replace h := it_t (g := id) h hc
    replace h : some (lg, fpw) = some r := h
    replace h := Option.some.inj h
    subst h
    refine hrt (none) _ _ _ _ _ (⟨rfl, rfl⟩) (Nat.zero_le _) (Nat.zero_le _) (dX5_multiply_14)
  · replace h := it_f (g := id) h hc
    refine v_iload_n hk dX5_multiply_5 rfl ?_
    refine v_aload_n hk dX5_multiply_6 rfl ?_
    refine v_get (C := RX5) (T := TX5) (N := 2) (ci := 4) (v := .ref adpw) hk dX5_multiply_7 w2i_X5_multiply_X50 0 rfl rfl 0 (by decide) (by decide +kernel) rfl rfl ?_
    refine v_alenI hk dX5_multiply_10 1 rfl rfl ?_
    refine v_icmp_lt (tgt := 15) hk dX5_multiply_11 (by decide) (fun hc => ?_) (fun hc => ?_)
    · replace h := it_t (g := id) h hc
      refine v_iload_n hk dX5_multiply_15 rfl ?_
      refine v_istore_n hk dX5_multiply_16 rfl (by decide) [1, 2, 3, 0] (lv' := [(0, .ref adp), (1, .int num), (2, .int oft), (3, .int num)]) rfl ?_
      refine v_iconst (v := 0) hk dX5_multiply_17 (by decide) ?_
      refine v_istore hk dX5_multiply_18 (by decide) [1, 2, 3, 4, 0] (lv' := [(0, .ref adp), (1, .int num), (2, .int oft), (3, .int num), (4, .int 0)]) rfl ?_
      obtain ⟨b_19, eb_19, h⟩ := bd_e (g := id) rfl h
      refine L_X5_multiply_20 hk hR9 adp adpw npw num oft b_19 (fun q_17 eq_17 => ?_) FU num 0 lg fpw eb_19
      · replace eq_17 := eq_17.symm
        subst eq_17
        refine v_iload_n hk dX5_multiply_125 rfl ?_
        refine v_iconst (v := 1) hk dX5_multiply_126 (by decide) ?_
        refine v_icmp_le (tgt := 162) hk dX5_multiply_127 (by decide) (fun hc => ?_) (fun hc => ?_)
        · replace h := it_t (g := id) h hc
          replace h : some (q_17.2.2.1, q_17.2.2.2) = some r := h
          replace h := Option.some.inj h
          subst h
          refine hrt (none) _ _ _ _ _ (⟨rfl, rfl⟩) (Nat.zero_le _) (Nat.zero_le _) (dX5_multiply_162)
        · replace h := it_f (g := id) h hc
          refine v_iload_n hk dX5_multiply_130 rfl ?_
          refine v_aload_n hk dX5_multiply_131 rfl ?_
          refine v_get (C := RX5) (T := TX5) (N := 2) (ci := 4) (v := .ref adpw) hk dX5_multiply_132 w2i_X5_multiply_X50 0 rfl rfl 0 (by decide) (by decide +kernel) rfl rfl ?_
          refine v_alenI hk dX5_multiply_135 1 rfl rfl ?_
          refine v_icmp_ge (tgt := 162) hk dX5_multiply_136 (by decide) (fun hc => ?_) (fun hc => ?_)
          · replace h := it_t (g := id) h hc
            replace h : some (q_17.2.2.1, q_17.2.2.2) = some r := h
            replace h := Option.some.inj h
            subst h
            refine hrt (none) _ _ _ _ _ (⟨rfl, rfl⟩) (Nat.zero_le _) (Nat.zero_le _) (dX5_multiply_162)
          · replace h := it_f (g := id) h hc
            refine v_aload_n hk dX5_multiply_139 rfl ?_
            refine v_get (C := RX5) (T := TX5) (N := 2) (ci := 4) (v := .ref adpw) hk dX5_multiply_140 w2i_X5_multiply_X50 0 rfl rfl 0 (by decide) (by decide +kernel) rfl rfl ?_
            refine v_iload_n hk dX5_multiply_143 rfl ?_
            refine v_dup2 hk dX5_multiply_144 rfl rfl ?_
            obtain ⟨hi, h⟩ := ok_e (g := id) rfl h
            refine v_ialdV hk dX5_multiply_145 1 rfl (ix_in hi) ?_
            refine v_iload_n hk dX5_multiply_146 rfl ?_
            refine v_iadd hk dX5_multiply_147 ?_
            obtain ⟨hi, h⟩ := ok_e (g := id) rfl h
            obtain ⟨fpw_18, efpw_18, h⟩ := lt_e (g := id) h
            refine v_iastV hk dX5_multiply_148 1 rfl (ix_in hi) (ws' := [(adp, .inr (4, [.ref adpw, .int q_17.2.2.1])), (adpw, .inl (gI (kG K), npw, .inl fpw_18))]) (by rw [efpw_18]; rfl) ?_
            refine v_iload_n hk dX5_multiply_149 rfl ?_
            refine v_aload_n hk dX5_multiply_150 rfl ?_
            refine v_get (C := RX5) (T := TX5) (N := 2) (ci := 4) (v := .int q_17.2.2.1) hk dX5_multiply_151 w2i_X5_multiply_X50 0 rfl rfl 1 (by decide) (by decide +kernel) rfl rfl ?_
            refine v_icmp_le (tgt := 162) hk dX5_multiply_154 (by decide) (fun hc => ?_) (fun hc => ?_)
            · replace h := it_t (g := id) h hc
              replace h : some (q_17.2.2.1, fpw_18) = some r := h
              replace h := Option.some.inj h
              subst h
              refine hrt (none) _ _ _ _ _ (⟨rfl, rfl⟩) (Nat.zero_le _) (Nat.zero_le _) (dX5_multiply_162)
            · replace h := it_f (g := id) h hc
              refine v_aload_n hk dX5_multiply_157 rfl ?_
              refine v_iload_n hk dX5_multiply_158 rfl ?_
              refine v_put (C := RX5) (T := TX5) (N := 2) (ci := 4) (v := .int q_17.1) (ty := .int) hk dX5_multiply_159 w2i_X5_multiply_X50 tyX5 tyX5_ok nmX5 0 rfl rfl 1 (by decide) (by decide +kernel) rfl rfl (by decide +kernel) rfl rfl (Nat.le_of_ble_eq_true rfl) (ws' := [(adp, .inr (4, [.ref adpw, .int q_17.1])), (adpw, .inl (gI (kG K), npw, .inl fpw_18))]) rfl ?_
              replace h : some (q_17.1, fpw_18) = some r := h
              replace h := Option.some.inj h
              subst h
              refine hrt (none) _ _ _ _ _ (⟨rfl, rfl⟩) (Nat.zero_le _) (Nat.zero_le _) (dX5_multiply_162)
    · replace h := it_f (g := id) h hc
      replace h : some (lg, fpw) = some r := h
      replace h := Option.some.inj h
      subst h
      refine hrt (none) _ _ _ _ _ (⟨rfl, rfl⟩) (Nat.zero_le _) (Nat.zero_le _) (dX5_multiply_14)
abbrev rm_X5_write : Room := { frames := 1, cells := 0, slots := 0, locals := 27 }
set_option maxHeartbeats 4000000 in
set_option maxRecDepth 100000 in
theorem L_X5_write_43 {K : Cx} {R9 : Room} (hk : Ok K cX5_write 8 RX5 w2_X5_write R9) (hR9 : RoomGe R9 rm_X5_write) (adp : Nat) (adpw : Nat) (adb : Nat) (adw : Nat) (lg : Int32) (npw : Nat) (fpw : Nat → Int32) (nw : Nat) (sgn : Int32) (i5_3 : Int32) (x6_6 : Int32) (b9 : (Int64 × Int32 × Int32 × (Nat → Int64))) (kk0 : ∀ q9 : (Int64 × Int32 × Int32 × (Nat → Int64)), b9 = q9 → V K 8 [(adp, .inr (4, [.ref adpw, .int lg])), (adpw, .inl (gI (kG K), npw, .inl fpw)), (adb, .inr (0, [.ref adw, .int q9.2.2.1])), (adw, .inl (gJ (kG K), nw, .inr (.inl q9.2.2.2)))] 0 0 81 [(0, .ref adp), (1, .int sgn), (2, .ref adb), (3, .long q9.1), (5, .int i5_3), (6, .int x6_6), (7, .int q9.2.1)] []) : ∀ (nn : Nat) (i3_7 : Int64) (i7_8 : Int32) (pb_9 : Int32) (fw_10 : Nat → Int64), lp (b_X5_write_43 nw i5_3 x6_6) nn (i3_7, i7_8, pb_9, fw_10) = some b9 → V K 8 [(adp, .inr (4, [.ref adpw, .int lg])), (adpw, .inl (gI (kG K), npw, .inl fpw)), (adb, .inr (0, [.ref adw, .int pb_9])), (adw, .inl (gJ (kG K), nw, .inr (.inl fw_10)))] 0 0 43 [(0, .ref adp), (1, .int sgn), (2, .ref adb), (3, .long i3_7), (5, .int i5_3), (6, .int x6_6), (7, .int i7_8)] [] := by
  intro nn
  induction nn with
  | zero => intro i3_7 i7_8 pb_9 fw_10 h; exact absurd h (by simp [lp])
  | succ nn ih =>
    intro i3_7 i7_8 pb_9 fw_10 h
    replace h := lp_s h
    rw [eb_X5_write_43] at h
    refine v_iload hk dX5_write_43 rfl ?_
    refine v_iload hk dX5_write_45 rfl ?_
    refine v_icmp_ge (tgt := 81) hk dX5_write_47 (by decide) (fun hc => ?_) (fun hc => ?_)
    · replace h := it_t (g := (lpk (lp (b_X5_write_43 nw i5_3 x6_6) nn))) h hc
      replace h : some (i3_7, i7_8, pb_9, fw_10) = some b9 := h
      replace h := Option.some.inj h
      subst h
      exact kk0 _ rfl
    · replace h := it_f (g := (lpk (lp (b_X5_write_43 nw i5_3 x6_6) nn))) h hc
      refine v_lload_n hk dX5_write_50 rfl ?_
      refine v_iload hk dX5_write_51 rfl ?_
      refine v_i2l hk dX5_write_53 ?_
      refine v_lmul hk dX5_write_54 ?_
      refine v_ldc2 (v := 4294967295) hk dX5_write_55 (by decide +kernel) ?_
      refine v_lcmp hk dX5_write_58 ?_
      refine v_if_le (tgt := 69) hk dX5_write_59 (by decide) (fun hc => ?_) (fun hc => ?_)
      · replace h := it_t (g := (lpk (lp (b_X5_write_43 nw i5_3 x6_6) nn))) h hc
        refine v_lload_n hk dX5_write_69 rfl ?_
        refine v_iload hk dX5_write_70 rfl ?_
        refine v_i2l hk dX5_write_72 ?_
        refine v_lmul hk dX5_write_73 ?_
        obtain ⟨x3_11, ex3_11, h⟩ := lt_e (g := (lpk (lp (b_X5_write_43 nw i5_3 x6_6) nn))) h
        refine v_topl ex3_11.symm ?_
        refine v_lstore_n hk dX5_write_74 rfl (by decide) [1, 2, 3, 0, 4, 5, 6] (lv' := [(0, .ref adp), (1, .int sgn), (2, .ref adb), (3, .long x3_11), (5, .int i5_3), (6, .int x6_6), (7, .int i7_8)]) rfl ?_
        obtain ⟨x7_12, ex7_12, h⟩ := lt_e (g := (lpk (lp (b_X5_write_43 nw i5_3 x6_6) nn))) h
        refine v_iinc (v := x7_12) hk dX5_write_75 rfl (by rw [ex7_12]; rfl) (by decide) [1, 2, 3, 4, 5, 6, 0] (lv' := [(0, .ref adp), (1, .int sgn), (2, .ref adb), (3, .long x3_11), (5, .int i5_3), (6, .int x6_6), (7, .int x7_12)]) rfl ?_
        refine v_goto (tgt := 43) hk dX5_write_78 (by decide) ?_
        exact ih x3_11 x7_12 pb_9 fw_10 h
      · replace h := it_f (g := (lpk (lp (b_X5_write_43 nw i5_3 x6_6) nn))) h hc
        refine v_aload_n hk dX5_write_62 rfl ?_
        refine v_lload_n hk dX5_write_63 rfl ?_
        obtain ⟨r_13, er_13, h⟩ := bd_e (g := (lpk (lp (b_X5_write_43 nw i5_3 x6_6) nn))) rfl h
        refine v_callV (n := 1) (st := []) (b := adb) (T := TX1) (N := 2) hk dX5_write_64 (c_X1_timesSmall (kl K) (kG K) adb adw pb_9 nw fw_10 i3_7 r_13 er_13) rfl gd_X5_write_X1_timesSmall rfl (by decide +kernel) (frok hR9 (Nat.le_of_ble_eq_true rfl) (Nat.le_of_ble_eq_true rfl)) (roomk hR9 (Nat.le_of_ble_eq_true rfl) (Nat.le_of_ble_eq_true rfl)) rfl rfl (Nat.le_of_ble_eq_true rfl) 2 rfl rfl [2, 3] [0, 1] (wr := [(adp, .inr (4, [.ref adpw, .int lg])), (adpw, .inl (gI (kG K), npw, .inl fpw))]) rfl rfl (by decide) (by decide) (by decide) ?_
        intro v9 w9 hp9
        obtain ⟨rfl, rfl⟩ := hp9
        show V K 8 [(adp, .inr (4, [.ref adpw, .int lg])), (adpw, .inl (gI (kG K), npw, .inl fpw)), (adb, .inr (0, [.ref adw, .int r_13.1])), (adw, .inl (gJ (kG K), nw, .inr (.inl r_13.2)))] 0 0 67 [(0, .ref adp), (1, .int sgn), (2, .ref adb), (3, .long i3_7), (5, .int i5_3), (6, .int x6_6), (7, .int i7_8)] []
        refine v_lconst (v := 1) hk dX5_write_67 (by decide) ?_
        refine v_lstore_n hk dX5_write_68 rfl (by decide) [1, 2, 3, 0, 4, 5, 6] (lv' := [(0, .ref adp), (1, .int sgn), (2, .ref adb), (3, .long 1), (5, .int i5_3), (6, .int x6_6), (7, .int i7_8)]) rfl ?_
        refine v_lload_n hk dX5_write_69 rfl ?_
        refine v_iload hk dX5_write_70 rfl ?_
        refine v_i2l hk dX5_write_72 ?_
        refine v_lmul hk dX5_write_73 ?_
        obtain ⟨x3_14, ex3_14, h⟩ := lt_e (g := (lpk (lp (b_X5_write_43 nw i5_3 x6_6) nn))) h
        refine v_topl ex3_14.symm ?_
        refine v_lstore_n hk dX5_write_74 rfl (by decide) [1, 2, 3, 0, 4, 5, 6] (lv' := [(0, .ref adp), (1, .int sgn), (2, .ref adb), (3, .long x3_14), (5, .int i5_3), (6, .int x6_6), (7, .int i7_8)]) rfl ?_
        obtain ⟨x7_15, ex7_15, h⟩ := lt_e (g := (lpk (lp (b_X5_write_43 nw i5_3 x6_6) nn))) h
        refine v_iinc (v := x7_15) hk dX5_write_75 rfl (by rw [ex7_15]; rfl) (by decide) [1, 2, 3, 4, 5, 6, 0] (lv' := [(0, .ref adp), (1, .int sgn), (2, .ref adb), (3, .long x3_14), (5, .int i5_3), (6, .int x6_6), (7, .int x7_15)]) rfl ?_
        refine v_goto (tgt := 43) hk dX5_write_78 (by decide) ?_
        exact ih x3_14 x7_15 r_13.1 r_13.2 h
set_option maxHeartbeats 4000000 in
set_option maxRecDepth 100000 in
theorem L_X5_write_10 {K : Cx} {R9 : Room} (hk : Ok K cX5_write 8 RX5 w2_X5_write R9) (hR9 : RoomGe R9 rm_X5_write) (adp : Nat) (adpw : Nat) (adb : Nat) (adw : Nat) (lg : Int32) (npw : Nat) (fpw : Nat → Int32) (nw : Nat) (sgn : Int32) (b9 : (Int64 × Int32 × Int32 × (Nat → Int64))) (kk0 : ∀ q9 : (Int64 × Int32 × Int32 × (Nat → Int64)), b9 = q9 → V K 8 [(adp, .inr (4, [.ref adpw, .int lg])), (adpw, .inl (gI (kG K), npw, .inl fpw)), (adb, .inr (0, [.ref adw, .int q9.2.2.1])), (adw, .inl (gJ (kG K), nw, .inr (.inl q9.2.2.2)))] 0 0 87 [(0, .ref adp), (1, .int sgn), (2, .ref adb), (3, .long q9.1), (5, .int q9.2.1)] []) : ∀ (nn : Nat) (i3_2 : Int64) (i5_3 : Int32) (pb_4 : Int32) (fw_5 : Nat → Int64), lp (b_X5_write_10 lg npw fpw nw sgn) nn (i3_2, i5_3, pb_4, fw_5) = some b9 → V K 8 [(adp, .inr (4, [.ref adpw, .int lg])), (adpw, .inl (gI (kG K), npw, .inl fpw)), (adb, .inr (0, [.ref adw, .int pb_4])), (adw, .inl (gJ (kG K), nw, .inr (.inl fw_5)))] 0 0 10 [(0, .ref adp), (1, .int sgn), (2, .ref adb), (3, .long i3_2), (5, .int i5_3)] [] := by
  intro nn
  induction nn with
  | zero => intro i3_2 i5_3 pb_4 fw_5 h; exact absurd h (by simp [lp])
  | succ nn ih =>
    intro i3_2 i5_3 pb_4 fw_5 h
    replace h := lp_s h
    rw [eb_X5_write_10] at h
    refine v_iload hk dX5_write_10 rfl ?_
    refine v_aload_n hk dX5_write_12 rfl ?_
    refine v_get (C := RX5) (T := TX5) (N := 2) (ci := 4) (v := .int lg) hk dX5_write_13 w2i_X5_write_X50 0 rfl rfl 1 (by decide) (by decide +kernel) rfl rfl ?_
    refine v_icmp_gt (tgt := 87) hk dX5_write_16 (by decide) (fun hc => ?_) (fun hc => ?_)
    · replace h := it_t (g := (lpk (lp (b_X5_write_10 lg npw fpw nw sgn) nn))) h hc
      replace h : some (i3_2, i5_3, pb_4, fw_5) = some b9 := h
      replace h := Option.some.inj h
      subst h
      exact kk0 _ rfl
    · replace h := it_f (g := (lpk (lp (b_X5_write_10 lg npw fpw nw sgn) nn))) h hc
      refine v_iload hk dX5_write_19 rfl ?_
      refine v_aload_n hk dX5_write_21 rfl ?_
      refine v_get (C := RX5) (T := TX5) (N := 2) (ci := 4) (v := .ref adpw) hk dX5_write_22 w2i_X5_write_X50 0 rfl rfl 0 (by decide) (by decide +kernel) rfl rfl ?_
      refine v_alenI hk dX5_write_25 1 rfl rfl ?_
      refine v_icmp_ge (tgt := 87) hk dX5_write_26 (by decide) (fun hc => ?_) (fun hc => ?_)
      · replace h := it_t (g := (lpk (lp (b_X5_write_10 lg npw fpw nw sgn) nn))) h hc
        replace h : some (i3_2, i5_3, pb_4, fw_5) = some b9 := h
        replace h := Option.some.inj h
        subst h
        exact kk0 _ rfl
      · replace h := it_f (g := (lpk (lp (b_X5_write_10 lg npw fpw nw sgn) nn))) h hc
        refine v_iload_n hk dX5_write_29 rfl ?_
        refine v_aload_n hk dX5_write_30 rfl ?_
        refine v_get (C := RX5) (T := TX5) (N := 2) (ci := 4) (v := .ref adpw) hk dX5_write_31 w2i_X5_write_X50 0 rfl rfl 0 (by decide) (by decide +kernel) rfl rfl ?_
        refine v_iload hk dX5_write_34 rfl ?_
        obtain ⟨hi, h⟩ := ok_e (g := (lpk (lp (b_X5_write_10 lg npw fpw nw sgn) nn))) rfl h
        refine v_ialdV hk dX5_write_36 1 rfl (ix_in hi) ?_
        refine v_imul hk dX5_write_37 ?_
        obtain ⟨x6_6, ex6_6, h⟩ := lt_e (g := (lpk (lp (b_X5_write_10 lg npw fpw nw sgn) nn))) h
        refine v_topi ex6_6.symm ?_
        refine v_istore hk dX5_write_38 (by decide) [1, 2, 3, 4, 5, 0] (lv' := [(0, .ref adp), (1, .int sgn), (2, .ref adb), (3, .long i3_2), (5, .int i5_3), (6, .int x6_6)]) rfl ?_
        refine v_iconst (v := 0) hk dX5_write_40 (by decide) ?_
        refine v_istore hk dX5_write_41 (by decide) [1, 2, 3, 4, 5, 6, 0] (lv' := [(0, .ref adp), (1, .int sgn), (2, .ref adb), (3, .long i3_2), (5, .int i5_3), (6, .int x6_6), (7, .int 0)]) rfl ?_
        obtain ⟨b_18, eb_18, h⟩ := bd_e (g := (lpk (lp (b_X5_write_10 lg npw fpw nw sgn) nn))) rfl h
        refine L_X5_write_43 hk hR9 adp adpw adb adw lg npw fpw nw sgn i5_3 x6_6 b_18 (fun q_16 eq_16 => ?_) FU i3_2 0 pb_4 fw_5 eb_18
        · replace eq_16 := eq_16.symm
          subst eq_16
          obtain ⟨x5_17, ex5_17, h⟩ := lt_e (g := (lpk (lp (b_X5_write_10 lg npw fpw nw sgn) nn))) h
          refine v_iinc (v := x5_17) hk dX5_write_81 rfl (by rw [ex5_17]; rfl) (by decide) [1, 2, 3, 4, 0, 5, 6] (lv' := [(0, .ref adp), (1, .int sgn), (2, .ref adb), (3, .long q_16.1), (5, .int x5_17), (6, .int x6_6), (7, .int q_16.2.1)]) rfl ?_
          refine v_goto (tgt := 10) hk dX5_write_84 (by decide) ?_
          refine v_loc [0, 1, 2, 3, 4] (lv' := [(0, .ref adp), (1, .int sgn), (2, .ref adb), (3, .long q_16.1), (5, .int x5_17)]) rfl ?_
          exact ih q_16.1 x5_17 q_16.2.2.1 q_16.2.2.2 h
set_option maxHeartbeats 4000000 in
set_option maxRecDepth 100000 in
theorem c_X5_write (l : Launch) (G : GG) (adp : Nat) (adpw : Nat) (adb : Nat) (adw : Nat) (lg : Int32) (npw : Nat) (fpw : Nat → Int32) (u : Int32) (nw : Nat) (fw : Nat → Int64) (sgn : Int32) (r : Int32 × (Nat → Int64)) (h : m_X5_write lg npw fpw u nw fw sgn = some r) : Ctr l G yX5_write w2_X5_write rm_X5_write [.ref adp, .int sgn, .ref adb] [(adp, .inr (4, [.ref adpw, .int lg])), (adpw, .inl (gI G, npw, .inl fpw)), (adb, .inr (0, [.ref adw, .int u])), (adw, .inl (gJ G, nw, .inr (.inl fw)))] (fun v w => v = none ∧ w = [(adp, .inr (4, [.ref adpw, .int lg])), (adpw, .inl (gI G, npw, .inl fpw)), (adb, .inr (0, [.ref adw, .int r.1])), (adw, .inl (gJ G, nw, .inr (.inl r.2)))]) := by
  refine ctr_entry (cc := cX5_write) (maxL := 8) (ret := none) (lv0 := [(0, .ref adp), (1, .int sgn), (2, .ref adb)]) (by decide) rfl (Nat.le_of_ble_eq_true rfl) (rfl) ?_
  intro K hl9 hG9 hk hn9 hrt
  subst hl9
  subst hG9
  have hR9 : RoomGe rm_X5_write rm_X5_write := RoomGe.rf
  replace h := id_e h
  rw [em_X5_write] at h
  refine v_aload_n hk dX5_write_0 rfl ?_
  refine v_iconst (v := 1) hk dX5_write_1 (by decide) ?_
  obtain ⟨r_1, er_1, h⟩ := bd_e (g := id) rfl h
  refine v_callV (n := 1) (st := []) (b := adb) (T := TX1) (N := 2) hk dX5_write_2 (c_X1_become (kl K) (kG K) adb adw u nw fw 1 r_1 er_1) rfl gd_X5_write_X1_become rfl (by decide +kernel) (frok hR9 (Nat.le_of_ble_eq_true rfl) (Nat.le_of_ble_eq_true rfl)) (roomk hR9 (Nat.le_of_ble_eq_true rfl) (Nat.le_of_ble_eq_true rfl)) rfl rfl (Nat.le_of_ble_eq_true rfl) 2 rfl rfl [2, 3] [0, 1] (wr := [(adp, .inr (4, [.ref adpw, .int lg])), (adpw, .inl (gI (kG K), npw, .inl fpw))]) rfl rfl (by decide) (by decide) (by decide) ?_
  intro v9 w9 hp9
  obtain ⟨rfl, rfl⟩ := hp9
  show V K 8 [(adp, .inr (4, [.ref adpw, .int lg])), (adpw, .inl (gI (kG K), npw, .inl fpw)), (adb, .inr (0, [.ref adw, .int r_1.1])), (adw, .inl (gJ (kG K), nw, .inr (.inl r_1.2)))] 0 0 5 [(0, .ref adp), (1, .int sgn), (2, .ref adb)] []
  refine v_lconst (v := 1) hk dX5_write_5 (by decide) ?_
  refine v_lstore_n hk dX5_write_6 rfl (by decide) [1, 2, 3, 0] (lv' := [(0, .ref adp), (1, .int sgn), (2, .ref adb), (3, .long 1)]) rfl ?_
  refine v_iconst (v := 2) hk dX5_write_7 (by decide) ?_
  refine v_istore hk dX5_write_8 (by decide) [1, 2, 3, 4, 0] (lv' := [(0, .ref adp), (1, .int sgn), (2, .ref adb), (3, .long 1), (5, .int 2)]) rfl ?_
  obtain ⟨b_21, eb_21, h⟩ := bd_e (g := id) rfl h
  refine L_X5_write_10 hk hR9 adp adpw adb adw lg npw fpw nw sgn b_21 (fun q_19 eq_19 => ?_) FU 1 2 r_1.1 r_1.2 eb_21
  · replace eq_19 := eq_19.symm
    subst eq_19
    refine v_aload_n hk dX5_write_87 rfl ?_
    refine v_lload_n hk dX5_write_88 rfl ?_
    obtain ⟨r_20, er_20, h⟩ := bd_e (g := id) rfl h
    refine v_callV (n := 1) (st := []) (b := adb) (T := TX1) (N := 2) hk dX5_write_89 (c_X1_timesSmall (kl K) (kG K) adb adw q_19.2.2.1 nw q_19.2.2.2 q_19.1 r_20 er_20) rfl gd_X5_write_X1_timesSmall rfl (by decide +kernel) (frok hR9 (Nat.le_of_ble_eq_true rfl) (Nat.le_of_ble_eq_true rfl)) (roomk hR9 (Nat.le_of_ble_eq_true rfl) (Nat.le_of_ble_eq_true rfl)) rfl rfl (Nat.le_of_ble_eq_true rfl) 2 rfl rfl [2, 3] [0, 1] (wr := [(adp, .inr (4, [.ref adpw, .int lg])), (adpw, .inl (gI (kG K), npw, .inl fpw))]) rfl rfl (by decide) (by decide) (by decide) ?_
    intro v9 w9 hp9
    obtain ⟨rfl, rfl⟩ := hp9
    show V K 8 [(adp, .inr (4, [.ref adpw, .int lg])), (adpw, .inl (gI (kG K), npw, .inl fpw)), (adb, .inr (0, [.ref adw, .int r_20.1])), (adw, .inl (gJ (kG K), nw, .inr (.inl r_20.2)))] 0 0 92 [(0, .ref adp), (1, .int sgn), (2, .ref adb), (3, .long q_19.1), (5, .int q_19.2.1)] []
    replace h : some (r_20.1, r_20.2) = some r := h
    replace h := Option.some.inj h
    subst h
    refine hrt (none) _ _ _ _ _ (⟨rfl, rfl⟩) (Nat.zero_le _) (Nat.zero_le _) (dX5_write_92)
abbrev rm_X5_copy : Room := { frames := 1, cells := 0, slots := 0, locals := 21 }
set_option maxHeartbeats 4000000 in
set_option maxRecDepth 100000 in
theorem L_X5_copy_14 {K : Cx} {R9 : Room} (hk : Ok K cX5_copy 3 RX5 w2_X5_copy R9) (hR9 : RoomGe R9 rm_X5_copy) (adp : Nat) (adpw : Nat) (adp2 : Nat) (adpw2 : Nat) (npw : Nat) (lg2 : Int32) (npw2 : Nat) (fpw2 : Nat → Int32) (b9 : (Int32 × (Nat → Int32))) (kk0 : ∀ q9 : (Int32 × (Nat → Int32)), b9 = q9 → V K 3 [(adp2, .inr (4, [.ref adpw2, .int lg2])), (adpw2, .inl (gI (kG K), npw2, .inl fpw2)), (adp, .inr (4, [.ref adpw, .int lg2])), (adpw, .inl (gI (kG K), npw, .inl q9.2))] 0 0 58 [(0, .ref adp), (1, .ref adp2), (2, .int q9.1)] []) : ∀ (nn : Nat) (i2_2 : Int32) (fpw_3 : Nat → Int32), lp (b_X5_copy_14 npw lg2 npw2 fpw2) nn (i2_2, fpw_3) = some b9 → V K 3 [(adp2, .inr (4, [.ref adpw2, .int lg2])), (adpw2, .inl (gI (kG K), npw2, .inl fpw2)), (adp, .inr (4, [.ref adpw, .int lg2])), (adpw, .inl (gI (kG K), npw, .inl fpw_3))] 0 0 14 [(0, .ref adp), (1, .ref adp2), (2, .int i2_2)] [] := by
  intro nn
  induction nn with
  | zero => intro i2_2 fpw_3 h; exact absurd h (by simp [lp])
  | succ nn ih =>
    intro i2_2 fpw_3 h
    replace h := lp_s h
    rw [eb_X5_copy_14] at h
    refine v_iload_n hk dX5_copy_14 rfl ?_
    refine v_aload_n hk dX5_copy_15 rfl ?_
    refine v_get (C := RX5) (T := TX5) (N := 2) (ci := 4) (v := .int lg2) hk dX5_copy_16 w2i_X5_copy_X50 2 rfl rfl 1 (by decide) (by decide +kernel) rfl rfl ?_
    refine v_icmp_gt (tgt := 58) hk dX5_copy_19 (by decide) (fun hc => ?_) (fun hc => ?_)
    · replace h := it_t (g := (lpk (lp (b_X5_copy_14 npw lg2 npw2 fpw2) nn))) h hc
      replace h : some (i2_2, fpw_3) = some b9 := h
      replace h := Option.some.inj h
      subst h
      exact kk0 _ rfl
    · replace h := it_f (g := (lpk (lp (b_X5_copy_14 npw lg2 npw2 fpw2) nn))) h hc
      refine v_iload_n hk dX5_copy_22 rfl ?_
      refine v_aload_n hk dX5_copy_23 rfl ?_
      refine v_get (C := RX5) (T := TX5) (N := 2) (ci := 4) (v := .ref adpw) hk dX5_copy_24 w2i_X5_copy_X50 2 rfl rfl 0 (by decide) (by decide +kernel) rfl rfl ?_
      refine v_alenI hk dX5_copy_27 3 rfl rfl ?_
      refine v_icmp_ge (tgt := 58) hk dX5_copy_28 (by decide) (fun hc => ?_) (fun hc => ?_)
      · replace h := it_t (g := (lpk (lp (b_X5_copy_14 npw lg2 npw2 fpw2) nn))) h hc
        replace h : some (i2_2, fpw_3) = some b9 := h
        replace h := Option.some.inj h
        subst h
        exact kk0 _ rfl
      · replace h := it_f (g := (lpk (lp (b_X5_copy_14 npw lg2 npw2 fpw2) nn))) h hc
        refine v_iload_n hk dX5_copy_31 rfl ?_
        refine v_aload_n hk dX5_copy_32 rfl ?_
        refine v_get (C := RX5) (T := TX5) (N := 2) (ci := 4) (v := .ref adpw2) hk dX5_copy_33 w2i_X5_copy_X50 0 rfl rfl 0 (by decide) (by decide +kernel) rfl rfl ?_
        refine v_alenI hk dX5_copy_36 1 rfl rfl ?_
        refine v_icmp_ge (tgt := 58) hk dX5_copy_37 (by decide) (fun hc => ?_) (fun hc => ?_)
        · replace h := it_t (g := (lpk (lp (b_X5_copy_14 npw lg2 npw2 fpw2) nn))) h hc
          replace h : some (i2_2, fpw_3) = some b9 := h
          replace h := Option.some.inj h
          subst h
          exact kk0 _ rfl
        · replace h := it_f (g := (lpk (lp (b_X5_copy_14 npw lg2 npw2 fpw2) nn))) h hc
          refine v_aload_n hk dX5_copy_40 rfl ?_
          refine v_get (C := RX5) (T := TX5) (N := 2) (ci := 4) (v := .ref adpw) hk dX5_copy_41 w2i_X5_copy_X50 2 rfl rfl 0 (by decide) (by decide +kernel) rfl rfl ?_
          refine v_iload_n hk dX5_copy_44 rfl ?_
          refine v_aload_n hk dX5_copy_45 rfl ?_
          refine v_get (C := RX5) (T := TX5) (N := 2) (ci := 4) (v := .ref adpw2) hk dX5_copy_46 w2i_X5_copy_X50 0 rfl rfl 0 (by decide) (by decide +kernel) rfl rfl ?_
          refine v_iload_n hk dX5_copy_49 rfl ?_
          obtain ⟨hi, h⟩ := ok_e (g := (lpk (lp (b_X5_copy_14 npw lg2 npw2 fpw2) nn))) rfl h
          refine v_ialdV hk dX5_copy_50 1 rfl (ix_in hi) ?_
          obtain ⟨hi, h⟩ := ok_e (g := (lpk (lp (b_X5_copy_14 npw lg2 npw2 fpw2) nn))) rfl h
          obtain ⟨fpw_4, efpw_4, h⟩ := lt_e (g := (lpk (lp (b_X5_copy_14 npw lg2 npw2 fpw2) nn))) h
          refine v_iastV hk dX5_copy_51 3 rfl (ix_in hi) (ws' := [(adp2, .inr (4, [.ref adpw2, .int lg2])), (adpw2, .inl (gI (kG K), npw2, .inl fpw2)), (adp, .inr (4, [.ref adpw, .int lg2])), (adpw, .inl (gI (kG K), npw, .inl fpw_4))]) (by rw [efpw_4]; rfl) ?_
          obtain ⟨x2_5, ex2_5, h⟩ := lt_e (g := (lpk (lp (b_X5_copy_14 npw lg2 npw2 fpw2) nn))) h
          refine v_iinc (v := x2_5) hk dX5_copy_52 rfl (by rw [ex2_5]; rfl) (by decide) [1, 2, 0] (lv' := [(0, .ref adp), (1, .ref adp2), (2, .int x2_5)]) rfl ?_
          refine v_goto (tgt := 14) hk dX5_copy_55 (by decide) ?_
          exact ih x2_5 fpw_4 h
set_option maxHeartbeats 4000000 in
set_option maxRecDepth 100000 in
theorem c_X5_copy (l : Launch) (G : GG) (adp : Nat) (adpw : Nat) (adp2 : Nat) (adpw2 : Nat) (lg : Int32) (npw : Nat) (fpw : Nat → Int32) (lg2 : Int32) (npw2 : Nat) (fpw2 : Nat → Int32) (r : Int32 × (Nat → Int32)) (h : m_X5_copy lg npw fpw lg2 npw2 fpw2 = some r) : Ctr l G yX5_copy w2_X5_copy rm_X5_copy [.ref adp, .ref adp2] [(adp, .inr (4, [.ref adpw, .int lg])), (adpw, .inl (gI G, npw, .inl fpw)), (adp2, .inr (4, [.ref adpw2, .int lg2])), (adpw2, .inl (gI G, npw2, .inl fpw2))] (fun v w => v = none ∧ w = [(adp, .inr (4, [.ref adpw, .int r.1])), (adpw, .inl (gI G, npw, .inl r.2)), (adp2, .inr (4, [.ref adpw2, .int lg2])), (adpw2, .inl (gI G, npw2, .inl fpw2))]) := by
  refine ctr_entry (cc := cX5_copy) (maxL := 3) (ret := none) (lv0 := [(0, .ref adp), (1, .ref adp2)]) (by decide) rfl (Nat.le_of_ble_eq_true rfl) (rfl) ?_
  intro K hl9 hG9 hk hn9 hrt
  subst hl9
  subst hG9
  have hR9 : RoomGe rm_X5_copy rm_X5_copy := RoomGe.rf
  replace h := id_e h
  rw [em_X5_copy] at h
  refine v_aload_n hk dX5_copy_0 rfl ?_
  obtain ⟨r_1, er_1, h⟩ := bd_e (g := id) rfl h
  refine v_callV (n := 0) (st := []) (b := adp) (T := TX5) (N := 2) hk dX5_copy_1 (c_X5_forget (kl K) (kG K) adp adpw lg npw fpw r_1 er_1) rfl gd_X5_copy_X5_forget rfl (by decide +kernel) (frok hR9 (Nat.le_of_ble_eq_true rfl) (Nat.le_of_ble_eq_true rfl)) (roomk hR9 (Nat.le_of_ble_eq_true rfl) (Nat.le_of_ble_eq_true rfl)) rfl rfl (Nat.le_of_ble_eq_true rfl) 0 rfl rfl [0, 1] [2, 3] (wr := [(adp2, .inr (4, [.ref adpw2, .int lg2])), (adpw2, .inl (gI (kG K), npw2, .inl fpw2))]) rfl rfl (by decide) (by decide) (by decide) ?_
  intro v9 w9 hp9
  obtain ⟨rfl, rfl⟩ := hp9
  show V K 3 [(adp2, .inr (4, [.ref adpw2, .int lg2])), (adpw2, .inl (gI (kG K), npw2, .inl fpw2)), (adp, .inr (4, [.ref adpw, .int r_1.1])), (adpw, .inl (gI (kG K), npw, .inl r_1.2))] 0 0 4 [(0, .ref adp), (1, .ref adp2)] []
  refine v_aload_n hk dX5_copy_4 rfl ?_
  refine v_aload_n hk dX5_copy_5 rfl ?_
  refine v_get (C := RX5) (T := TX5) (N := 2) (ci := 4) (v := .int lg2) hk dX5_copy_6 w2i_X5_copy_X50 0 rfl rfl 1 (by decide) (by decide +kernel) rfl rfl ?_
  refine v_put (C := RX5) (T := TX5) (N := 2) (ci := 4) (v := .int lg2) (ty := .int) hk dX5_copy_9 w2i_X5_copy_X50 tyX5 tyX5_ok nmX5 2 rfl rfl 1 (by decide) (by decide +kernel) rfl rfl (by decide +kernel) rfl rfl (Nat.le_of_ble_eq_true rfl) (ws' := [(adp2, .inr (4, [.ref adpw2, .int lg2])), (adpw2, .inl (gI (kG K), npw2, .inl fpw2)), (adp, .inr (4, [.ref adpw, .int lg2])), (adpw, .inl (gI (kG K), npw, .inl r_1.2))]) rfl ?_
  refine v_iconst (v := 0) hk dX5_copy_12 (by decide) ?_
  refine v_istore_n hk dX5_copy_13 rfl (by decide) [1, 2, 0] (lv' := [(0, .ref adp), (1, .ref adp2), (2, .int 0)]) rfl ?_
  obtain ⟨b_7, eb_7, h⟩ := bd_e (g := id) rfl h
  refine L_X5_copy_14 hk hR9 adp adpw adp2 adpw2 npw lg2 npw2 fpw2 b_7 (fun q_6 eq_6 => ?_) FU 0 r_1.2 eb_7
  · replace eq_6 := eq_6.symm
    subst eq_6
    replace h : some (lg2, q_6.2) = some r := h
    replace h := Option.some.inj h
    subst h
    refine v_perm [2, 3, 0, 1] (ws' := [(adp, .inr (4, [.ref adpw, .int lg2])), (adpw, .inl (gI (kG K), npw, .inl q_6.2)), (adp2, .inr (4, [.ref adpw2, .int lg2])), (adpw2, .inl (gI (kG K), npw2, .inl fpw2))]) rfl rfl (by decide) ?_
    refine hrt (none) _ _ _ _ _ (⟨rfl, rfl⟩) (Nat.zero_le _) (Nat.zero_le _) (dX5_copy_58)
abbrev rm_X5_lowerTo : Room := { frames := 1, cells := 0, slots := 0, locals := 21 }
set_option maxHeartbeats 4000000 in
set_option maxRecDepth 100000 in
theorem L_X5_lowerTo_17 {K : Cx} {R9 : Room} (hk : Ok K cX5_lowerTo 3 RX5 w2_X5_lowerTo R9) (hR9 : RoomGe R9 rm_X5_lowerTo) (adp : Nat) (adpw : Nat) (adp2 : Nat) (adpw2 : Nat) (npw : Nat) (lg2 : Int32) (npw2 : Nat) (fpw2 : Nat → Int32) (vlargest_1 : Int32) (b9 : (Int32 × (Nat → Int32))) (kk0 : ∀ q9 : (Int32 × (Nat → Int32)), b9 = q9 → V K 3 [(adp, .inr (4, [.ref adpw, .int vlargest_1])), (adpw, .inl (gI (kG K), npw, .inl q9.2)), (adp2, .inr (4, [.ref adpw2, .int lg2])), (adpw2, .inl (gI (kG K), npw2, .inl fpw2))] 0 0 70 [(0, .ref adp), (1, .ref adp2), (2, .int q9.1)] []) : ∀ (nn : Nat) (i2_2 : Int32) (fpw_3 : Nat → Int32), lp (b_X5_lowerTo_17 npw npw2 fpw2 vlargest_1) nn (i2_2, fpw_3) = some b9 → V K 3 [(adp, .inr (4, [.ref adpw, .int vlargest_1])), (adpw, .inl (gI (kG K), npw, .inl fpw_3)), (adp2, .inr (4, [.ref adpw2, .int lg2])), (adpw2, .inl (gI (kG K), npw2, .inl fpw2))] 0 0 17 [(0, .ref adp), (1, .ref adp2), (2, .int i2_2)] [] := by
  intro nn
  induction nn with
  | zero => intro i2_2 fpw_3 h; exact absurd h (by simp [lp])
  | succ nn ih =>
    intro i2_2 fpw_3 h
    replace h := lp_s h
    rw [eb_X5_lowerTo_17] at h
    refine v_iload_n hk dX5_lowerTo_17 rfl ?_
    refine v_aload_n hk dX5_lowerTo_18 rfl ?_
    refine v_get (C := RX5) (T := TX5) (N := 2) (ci := 4) (v := .int vlargest_1) hk dX5_lowerTo_19 w2i_X5_lowerTo_X50 0 rfl rfl 1 (by decide) (by decide +kernel) rfl rfl ?_
    refine v_icmp_gt (tgt := 70) hk dX5_lowerTo_22 (by decide) (fun hc => ?_) (fun hc => ?_)
    · replace h := it_t (g := (lpk (lp (b_X5_lowerTo_17 npw npw2 fpw2 vlargest_1) nn))) h hc
      replace h : some (i2_2, fpw_3) = some b9 := h
      replace h := Option.some.inj h
      subst h
      exact kk0 _ rfl
    · replace h := it_f (g := (lpk (lp (b_X5_lowerTo_17 npw npw2 fpw2 vlargest_1) nn))) h hc
      refine v_iload_n hk dX5_lowerTo_25 rfl ?_
      refine v_aload_n hk dX5_lowerTo_26 rfl ?_
      refine v_get (C := RX5) (T := TX5) (N := 2) (ci := 4) (v := .ref adpw) hk dX5_lowerTo_27 w2i_X5_lowerTo_X50 0 rfl rfl 0 (by decide) (by decide +kernel) rfl rfl ?_
      refine v_alenI hk dX5_lowerTo_30 1 rfl rfl ?_
      refine v_icmp_ge (tgt := 70) hk dX5_lowerTo_31 (by decide) (fun hc => ?_) (fun hc => ?_)
      · replace h := it_t (g := (lpk (lp (b_X5_lowerTo_17 npw npw2 fpw2 vlargest_1) nn))) h hc
        replace h : some (i2_2, fpw_3) = some b9 := h
        replace h := Option.some.inj h
        subst h
        exact kk0 _ rfl
      · replace h := it_f (g := (lpk (lp (b_X5_lowerTo_17 npw npw2 fpw2 vlargest_1) nn))) h hc
        refine v_iload_n hk dX5_lowerTo_34 rfl ?_
        refine v_aload_n hk dX5_lowerTo_35 rfl ?_
        refine v_get (C := RX5) (T := TX5) (N := 2) (ci := 4) (v := .ref adpw2) hk dX5_lowerTo_36 w2i_X5_lowerTo_X50 2 rfl rfl 0 (by decide) (by decide +kernel) rfl rfl ?_
        refine v_alenI hk dX5_lowerTo_39 3 rfl rfl ?_
        refine v_icmp_ge (tgt := 70) hk dX5_lowerTo_40 (by decide) (fun hc => ?_) (fun hc => ?_)
        · replace h := it_t (g := (lpk (lp (b_X5_lowerTo_17 npw npw2 fpw2 vlargest_1) nn))) h hc
          replace h : some (i2_2, fpw_3) = some b9 := h
          replace h := Option.some.inj h
          subst h
          exact kk0 _ rfl
        · replace h := it_f (g := (lpk (lp (b_X5_lowerTo_17 npw npw2 fpw2 vlargest_1) nn))) h hc
          refine v_aload_n hk dX5_lowerTo_43 rfl ?_
          refine v_get (C := RX5) (T := TX5) (N := 2) (ci := 4) (v := .ref adpw) hk dX5_lowerTo_44 w2i_X5_lowerTo_X50 0 rfl rfl 0 (by decide) (by decide +kernel) rfl rfl ?_
          refine v_iload_n hk dX5_lowerTo_47 rfl ?_
          refine v_aload_n hk dX5_lowerTo_48 rfl ?_
          refine v_get (C := RX5) (T := TX5) (N := 2) (ci := 4) (v := .ref adpw) hk dX5_lowerTo_49 w2i_X5_lowerTo_X50 0 rfl rfl 0 (by decide) (by decide +kernel) rfl rfl ?_
          refine v_iload_n hk dX5_lowerTo_52 rfl ?_
          obtain ⟨hi, h⟩ := ok_e (g := (lpk (lp (b_X5_lowerTo_17 npw npw2 fpw2 vlargest_1) nn))) rfl h
          refine v_ialdV hk dX5_lowerTo_53 1 rfl (ix_in hi) ?_
          refine v_aload_n hk dX5_lowerTo_54 rfl ?_
          refine v_get (C := RX5) (T := TX5) (N := 2) (ci := 4) (v := .ref adpw2) hk dX5_lowerTo_55 w2i_X5_lowerTo_X50 2 rfl rfl 0 (by decide) (by decide +kernel) rfl rfl ?_
          refine v_iload_n hk dX5_lowerTo_58 rfl ?_
          obtain ⟨hi, h⟩ := ok_e (g := (lpk (lp (b_X5_lowerTo_17 npw npw2 fpw2 vlargest_1) nn))) rfl h
          refine v_ialdV hk dX5_lowerTo_59 3 rfl (ix_in hi) ?_
          refine v_mmin hk dX5_lowerTo_60 (by decide +kernel) (by decide +kernel) (by decide +kernel) (by decide +kernel) (Nat.le_trans (by decide) hR9.1) (Nat.le_trans (Nat.le_of_ble_eq_true rfl) hR9.2.2.2) (Nat.zero_le _) (Nat.zero_le _) ?_
          obtain ⟨hi, h⟩ := ok_e (g := (lpk (lp (b_X5_lowerTo_17 npw npw2 fpw2 vlargest_1) nn))) rfl h
          obtain ⟨fpw_4, efpw_4, h⟩ := lt_e (g := (lpk (lp (b_X5_lowerTo_17 npw npw2 fpw2 vlargest_1) nn))) h
          refine v_iastV hk dX5_lowerTo_63 1 rfl (ix_in hi) (ws' := [(adp, .inr (4, [.ref adpw, .int vlargest_1])), (adpw, .inl (gI (kG K), npw, .inl fpw_4)), (adp2, .inr (4, [.ref adpw2, .int lg2])), (adpw2, .inl (gI (kG K), npw2, .inl fpw2))]) (by rw [efpw_4]; rfl) ?_
          obtain ⟨x2_5, ex2_5, h⟩ := lt_e (g := (lpk (lp (b_X5_lowerTo_17 npw npw2 fpw2 vlargest_1) nn))) h
          refine v_iinc (v := x2_5) hk dX5_lowerTo_64 rfl (by rw [ex2_5]; rfl) (by decide) [1, 2, 0] (lv' := [(0, .ref adp), (1, .ref adp2), (2, .int x2_5)]) rfl ?_
          refine v_goto (tgt := 17) hk dX5_lowerTo_67 (by decide) ?_
          exact ih x2_5 fpw_4 h
set_option maxHeartbeats 4000000 in
set_option maxRecDepth 100000 in
theorem c_X5_lowerTo (l : Launch) (G : GG) (adp : Nat) (adpw : Nat) (adp2 : Nat) (adpw2 : Nat) (lg : Int32) (npw : Nat) (fpw : Nat → Int32) (lg2 : Int32) (npw2 : Nat) (fpw2 : Nat → Int32) (r : Int32 × (Nat → Int32)) (h : m_X5_lowerTo lg npw fpw lg2 npw2 fpw2 = some r) : Ctr l G yX5_lowerTo w2_X5_lowerTo rm_X5_lowerTo [.ref adp, .ref adp2] [(adp, .inr (4, [.ref adpw, .int lg])), (adpw, .inl (gI G, npw, .inl fpw)), (adp2, .inr (4, [.ref adpw2, .int lg2])), (adpw2, .inl (gI G, npw2, .inl fpw2))] (fun v w => v = none ∧ w = [(adp, .inr (4, [.ref adpw, .int r.1])), (adpw, .inl (gI G, npw, .inl r.2)), (adp2, .inr (4, [.ref adpw2, .int lg2])), (adpw2, .inl (gI G, npw2, .inl fpw2))]) := by
  refine ctr_entry (cc := cX5_lowerTo) (maxL := 3) (ret := none) (lv0 := [(0, .ref adp), (1, .ref adp2)]) (by decide) rfl (Nat.le_of_ble_eq_true rfl) (rfl) ?_
  intro K hl9 hG9 hk hn9 hrt
  subst hl9
  subst hG9
  have hR9 : RoomGe rm_X5_lowerTo rm_X5_lowerTo := RoomGe.rf
  replace h := id_e h
  rw [em_X5_lowerTo] at h
  refine v_aload_n hk dX5_lowerTo_0 rfl ?_
  refine v_aload_n hk dX5_lowerTo_1 rfl ?_
  refine v_get (C := RX5) (T := TX5) (N := 2) (ci := 4) (v := .int lg) hk dX5_lowerTo_2 w2i_X5_lowerTo_X50 0 rfl rfl 1 (by decide) (by decide +kernel) rfl rfl ?_
  refine v_aload_n hk dX5_lowerTo_5 rfl ?_
  refine v_get (C := RX5) (T := TX5) (N := 2) (ci := 4) (v := .int lg2) hk dX5_lowerTo_6 w2i_X5_lowerTo_X50 2 rfl rfl 1 (by decide) (by decide +kernel) rfl rfl ?_
  refine v_mmax hk dX5_lowerTo_9 (by decide +kernel) (by decide +kernel) (by decide +kernel) (by decide +kernel) (Nat.le_trans (by decide) hR9.1) (Nat.le_trans (Nat.le_of_ble_eq_true rfl) hR9.2.2.2) (Nat.zero_le _) (Nat.zero_le _) ?_
  obtain ⟨vlargest_1, evlargest_1, h⟩ := lt_e (g := id) h
  refine v_topi evlargest_1.symm ?_
  refine v_put (C := RX5) (T := TX5) (N := 2) (ci := 4) (v := .int vlargest_1) (ty := .int) hk dX5_lowerTo_12 w2i_X5_lowerTo_X50 tyX5 tyX5_ok nmX5 0 rfl rfl 1 (by decide) (by decide +kernel) rfl rfl (by decide +kernel) rfl rfl (Nat.le_of_ble_eq_true rfl) (ws' := [(adp, .inr (4, [.ref adpw, .int vlargest_1])), (adpw, .inl (gI (kG K), npw, .inl fpw)), (adp2, .inr (4, [.ref adpw2, .int lg2])), (adpw2, .inl (gI (kG K), npw2, .inl fpw2))]) rfl ?_
  refine v_iconst (v := 0) hk dX5_lowerTo_15 (by decide) ?_
  refine v_istore_n hk dX5_lowerTo_16 rfl (by decide) [1, 2, 0] (lv' := [(0, .ref adp), (1, .ref adp2), (2, .int 0)]) rfl ?_
  obtain ⟨b_7, eb_7, h⟩ := bd_e (g := id) rfl h
  refine L_X5_lowerTo_17 hk hR9 adp adpw adp2 adpw2 npw lg2 npw2 fpw2 vlargest_1 b_7 (fun q_6 eq_6 => ?_) FU 0 fpw eb_7
  · replace eq_6 := eq_6.symm
    subst eq_6
    replace h : some (vlargest_1, q_6.2) = some r := h
    replace h := Option.some.inj h
    subst h
    refine hrt (none) _ _ _ _ _ (⟨rfl, rfl⟩) (Nat.zero_le _) (Nat.zero_le _) (dX5_lowerTo_70)
abbrev rm_X5_divide : Room := { frames := 1, cells := 0, slots := 0, locals := 21 }
set_option maxHeartbeats 4000000 in
set_option maxRecDepth 100000 in
theorem L_X5_divide_17 {K : Cx} {R9 : Room} (hk : Ok K cX5_divide 3 RX5 w2_X5_divide R9) (hR9 : RoomGe R9 rm_X5_divide) (adp : Nat) (adpw : Nat) (adp2 : Nat) (adpw2 : Nat) (npw : Nat) (lg2 : Int32) (npw2 : Nat) (fpw2 : Nat → Int32) (vlargest_1 : Int32) (b9 : (Int32 × (Nat → Int32))) (kk0 : ∀ q9 : (Int32 × (Nat → Int32)), b9 = q9 → V K 3 [(adp, .inr (4, [.ref adpw, .int vlargest_1])), (adpw, .inl (gI (kG K), npw, .inl q9.2)), (adp2, .inr (4, [.ref adpw2, .int lg2])), (adpw2, .inl (gI (kG K), npw2, .inl fpw2))] 0 0 64 [(0, .ref adp), (1, .ref adp2), (2, .int q9.1)] []) : ∀ (nn : Nat) (i2_2 : Int32) (fpw_3 : Nat → Int32), lp (b_X5_divide_17 npw npw2 fpw2 vlargest_1) nn (i2_2, fpw_3) = some b9 → V K 3 [(adp, .inr (4, [.ref adpw, .int vlargest_1])), (adpw, .inl (gI (kG K), npw, .inl fpw_3)), (adp2, .inr (4, [.ref adpw2, .int lg2])), (adpw2, .inl (gI (kG K), npw2, .inl fpw2))] 0 0 17 [(0, .ref adp), (1, .ref adp2), (2, .int i2_2)] [] := by
  intro nn
  induction nn with
  | zero => intro i2_2 fpw_3 h; exact absurd h (by simp [lp])
  | succ nn ih =>
    intro i2_2 fpw_3 h
    replace h := lp_s h
    rw [eb_X5_divide_17] at h
    refine v_iload_n hk dX5_divide_17 rfl ?_
    refine v_aload_n hk dX5_divide_18 rfl ?_
    refine v_get (C := RX5) (T := TX5) (N := 2) (ci := 4) (v := .int vlargest_1) hk dX5_divide_19 w2i_X5_divide_X50 0 rfl rfl 1 (by decide) (by decide +kernel) rfl rfl ?_
    refine v_icmp_gt (tgt := 64) hk dX5_divide_22 (by decide) (fun hc => ?_) (fun hc => ?_)
    · replace h := it_t (g := (lpk (lp (b_X5_divide_17 npw npw2 fpw2 vlargest_1) nn))) h hc
      replace h : some (i2_2, fpw_3) = some b9 := h
      replace h := Option.some.inj h
      subst h
      exact kk0 _ rfl
    · replace h := it_f (g := (lpk (lp (b_X5_divide_17 npw npw2 fpw2 vlargest_1) nn))) h hc
      refine v_iload_n hk dX5_divide_25 rfl ?_
      refine v_aload_n hk dX5_divide_26 rfl ?_
      refine v_get (C := RX5) (T := TX5) (N := 2) (ci := 4) (v := .ref adpw) hk dX5_divide_27 w2i_X5_divide_X50 0 rfl rfl 0 (by decide) (by decide +kernel) rfl rfl ?_
      refine v_alenI hk dX5_divide_30 1 rfl rfl ?_
      refine v_icmp_ge (tgt := 64) hk dX5_divide_31 (by decide) (fun hc => ?_) (fun hc => ?_)
      · replace h := it_t (g := (lpk (lp (b_X5_divide_17 npw npw2 fpw2 vlargest_1) nn))) h hc
        replace h : some (i2_2, fpw_3) = some b9 := h
        replace h := Option.some.inj h
        subst h
        exact kk0 _ rfl
      · replace h := it_f (g := (lpk (lp (b_X5_divide_17 npw npw2 fpw2 vlargest_1) nn))) h hc
        refine v_iload_n hk dX5_divide_34 rfl ?_
        refine v_aload_n hk dX5_divide_35 rfl ?_
        refine v_get (C := RX5) (T := TX5) (N := 2) (ci := 4) (v := .ref adpw2) hk dX5_divide_36 w2i_X5_divide_X50 2 rfl rfl 0 (by decide) (by decide +kernel) rfl rfl ?_
        refine v_alenI hk dX5_divide_39 3 rfl rfl ?_
        refine v_icmp_ge (tgt := 64) hk dX5_divide_40 (by decide) (fun hc => ?_) (fun hc => ?_)
        · replace h := it_t (g := (lpk (lp (b_X5_divide_17 npw npw2 fpw2 vlargest_1) nn))) h hc
          replace h : some (i2_2, fpw_3) = some b9 := h
          replace h := Option.some.inj h
          subst h
          exact kk0 _ rfl
        · replace h := it_f (g := (lpk (lp (b_X5_divide_17 npw npw2 fpw2 vlargest_1) nn))) h hc
          refine v_aload_n hk dX5_divide_43 rfl ?_
          refine v_get (C := RX5) (T := TX5) (N := 2) (ci := 4) (v := .ref adpw) hk dX5_divide_44 w2i_X5_divide_X50 0 rfl rfl 0 (by decide) (by decide +kernel) rfl rfl ?_
          refine v_iload_n hk dX5_divide_47 rfl ?_
          refine v_dup2 hk dX5_divide_48 rfl rfl ?_
          obtain ⟨hi, h⟩ := ok_e (g := (lpk (lp (b_X5_divide_17 npw npw2 fpw2 vlargest_1) nn))) rfl h
          refine v_ialdV hk dX5_divide_49 1 rfl (ix_in hi) ?_
          refine v_aload_n hk dX5_divide_50 rfl ?_
          refine v_get (C := RX5) (T := TX5) (N := 2) (ci := 4) (v := .ref adpw2) hk dX5_divide_51 w2i_X5_divide_X50 2 rfl rfl 0 (by decide) (by decide +kernel) rfl rfl ?_
          refine v_iload_n hk dX5_divide_54 rfl ?_
          obtain ⟨hi, h⟩ := ok_e (g := (lpk (lp (b_X5_divide_17 npw npw2 fpw2 vlargest_1) nn))) rfl h
          refine v_ialdV hk dX5_divide_55 3 rfl (ix_in hi) ?_
          refine v_isub hk dX5_divide_56 ?_
          obtain ⟨hi, h⟩ := ok_e (g := (lpk (lp (b_X5_divide_17 npw npw2 fpw2 vlargest_1) nn))) rfl h
          obtain ⟨fpw_4, efpw_4, h⟩ := lt_e (g := (lpk (lp (b_X5_divide_17 npw npw2 fpw2 vlargest_1) nn))) h
          refine v_iastV hk dX5_divide_57 1 rfl (ix_in hi) (ws' := [(adp, .inr (4, [.ref adpw, .int vlargest_1])), (adpw, .inl (gI (kG K), npw, .inl fpw_4)), (adp2, .inr (4, [.ref adpw2, .int lg2])), (adpw2, .inl (gI (kG K), npw2, .inl fpw2))]) (by rw [efpw_4]; rfl) ?_
          obtain ⟨x2_5, ex2_5, h⟩ := lt_e (g := (lpk (lp (b_X5_divide_17 npw npw2 fpw2 vlargest_1) nn))) h
          refine v_iinc (v := x2_5) hk dX5_divide_58 rfl (by rw [ex2_5]; rfl) (by decide) [1, 2, 0] (lv' := [(0, .ref adp), (1, .ref adp2), (2, .int x2_5)]) rfl ?_
          refine v_goto (tgt := 17) hk dX5_divide_61 (by decide) ?_
          exact ih x2_5 fpw_4 h
set_option maxHeartbeats 4000000 in
set_option maxRecDepth 100000 in
theorem c_X5_divide (l : Launch) (G : GG) (adp : Nat) (adpw : Nat) (adp2 : Nat) (adpw2 : Nat) (lg : Int32) (npw : Nat) (fpw : Nat → Int32) (lg2 : Int32) (npw2 : Nat) (fpw2 : Nat → Int32) (r : Int32 × (Nat → Int32)) (h : m_X5_divide lg npw fpw lg2 npw2 fpw2 = some r) : Ctr l G yX5_divide w2_X5_divide rm_X5_divide [.ref adp, .ref adp2] [(adp, .inr (4, [.ref adpw, .int lg])), (adpw, .inl (gI G, npw, .inl fpw)), (adp2, .inr (4, [.ref adpw2, .int lg2])), (adpw2, .inl (gI G, npw2, .inl fpw2))] (fun v w => v = none ∧ w = [(adp, .inr (4, [.ref adpw, .int r.1])), (adpw, .inl (gI G, npw, .inl r.2)), (adp2, .inr (4, [.ref adpw2, .int lg2])), (adpw2, .inl (gI G, npw2, .inl fpw2))]) := by
  refine ctr_entry (cc := cX5_divide) (maxL := 3) (ret := none) (lv0 := [(0, .ref adp), (1, .ref adp2)]) (by decide) rfl (Nat.le_of_ble_eq_true rfl) (rfl) ?_
  intro K hl9 hG9 hk hn9 hrt
  subst hl9
  subst hG9
  have hR9 : RoomGe rm_X5_divide rm_X5_divide := RoomGe.rf
  replace h := id_e h
  rw [em_X5_divide] at h
  refine v_aload_n hk dX5_divide_0 rfl ?_
  refine v_aload_n hk dX5_divide_1 rfl ?_
  refine v_get (C := RX5) (T := TX5) (N := 2) (ci := 4) (v := .int lg) hk dX5_divide_2 w2i_X5_divide_X50 0 rfl rfl 1 (by decide) (by decide +kernel) rfl rfl ?_
  refine v_aload_n hk dX5_divide_5 rfl ?_
  refine v_get (C := RX5) (T := TX5) (N := 2) (ci := 4) (v := .int lg2) hk dX5_divide_6 w2i_X5_divide_X50 2 rfl rfl 1 (by decide) (by decide +kernel) rfl rfl ?_
  refine v_mmax hk dX5_divide_9 (by decide +kernel) (by decide +kernel) (by decide +kernel) (by decide +kernel) (Nat.le_trans (by decide) hR9.1) (Nat.le_trans (Nat.le_of_ble_eq_true rfl) hR9.2.2.2) (Nat.zero_le _) (Nat.zero_le _) ?_
  obtain ⟨vlargest_1, evlargest_1, h⟩ := lt_e (g := id) h
  refine v_topi evlargest_1.symm ?_
  refine v_put (C := RX5) (T := TX5) (N := 2) (ci := 4) (v := .int vlargest_1) (ty := .int) hk dX5_divide_12 w2i_X5_divide_X50 tyX5 tyX5_ok nmX5 0 rfl rfl 1 (by decide) (by decide +kernel) rfl rfl (by decide +kernel) rfl rfl (Nat.le_of_ble_eq_true rfl) (ws' := [(adp, .inr (4, [.ref adpw, .int vlargest_1])), (adpw, .inl (gI (kG K), npw, .inl fpw)), (adp2, .inr (4, [.ref adpw2, .int lg2])), (adpw2, .inl (gI (kG K), npw2, .inl fpw2))]) rfl ?_
  refine v_iconst (v := 0) hk dX5_divide_15 (by decide) ?_
  refine v_istore_n hk dX5_divide_16 rfl (by decide) [1, 2, 0] (lv' := [(0, .ref adp), (1, .ref adp2), (2, .int 0)]) rfl ?_
  obtain ⟨b_7, eb_7, h⟩ := bd_e (g := id) rfl h
  refine L_X5_divide_17 hk hR9 adp adpw adp2 adpw2 npw lg2 npw2 fpw2 vlargest_1 b_7 (fun q_6 eq_6 => ?_) FU 0 fpw eb_7
  · replace eq_6 := eq_6.symm
    subst eq_6
    replace h : some (vlargest_1, q_6.2) = some r := h
    replace h := Option.some.inj h
    subst h
    refine hrt (none) _ _ _ _ _ (⟨rfl, rfl⟩) (Nat.zero_le _) (Nat.zero_le _) (dX5_divide_64)
abbrev rm_X8_startAnew : Room := { frames := 0, cells := 0, slots := 0, locals := 0 }
set_option maxHeartbeats 4000000 in
set_option maxRecDepth 100000 in
theorem c_X8_startAnew (l : Launch) (G : GG) (ads : Nat) (adsv : Nat) (adsc : Nat) (nm : Int32) (rw : Int32) (sg : Int32) (ms : Int32) (r : Int32 × Int32 × Int32 × Int32) (h : m_X8_startAnew nm rw sg ms = some r) : Ctr l G yX8_startAnew w2_X8_startAnew rm_X8_startAnew [.ref ads] [(ads, .inr (7, [.int nm, .int rw, .int sg, .int ms, .ref adsv, .ref adsc]))] (fun v w => v = none ∧ w = [(ads, .inr (7, [.int r.1, .int r.2.1, .int r.2.2.1, .int r.2.2.2, .ref adsv, .ref adsc]))]) := by
  refine ctr_entry (cc := cX8_startAnew) (maxL := 1) (ret := none) (lv0 := [(0, .ref ads)]) (by decide) rfl (Nat.le_of_ble_eq_true rfl) (rfl) ?_
  intro K hl9 hG9 hk hn9 hrt
  subst hl9
  subst hG9
  have hR9 : RoomGe rm_X8_startAnew rm_X8_startAnew := RoomGe.rf
  replace h := id_e h
  rw [em_X8_startAnew] at h
  refine v_aload_n hk dX8_startAnew_0 rfl ?_
  refine v_iconst (v := 0) hk dX8_startAnew_1 (by decide) ?_
  refine v_put (C := RX8) (T := TX8) (N := 6) (ci := 7) (v := .int 0) (ty := .int) hk dX8_startAnew_2 w2i_X8_startAnew_X80 tyX8 tyX8_ok nmX8 0 rfl rfl 0 (by decide) (by decide +kernel) rfl rfl (by decide +kernel) rfl rfl (Nat.le_of_ble_eq_true rfl) (ws' := [(ads, .inr (7, [.int 0, .int rw, .int sg, .int ms, .ref adsv, .ref adsc]))]) rfl ?_
  refine v_aload_n hk dX8_startAnew_5 rfl ?_
  refine v_iconst (v := 0) hk dX8_startAnew_6 (by decide) ?_
  refine v_put (C := RX8) (T := TX8) (N := 6) (ci := 7) (v := .int 0) (ty := .int) hk dX8_startAnew_7 w2i_X8_startAnew_X80 tyX8 tyX8_ok nmX8 0 rfl rfl 1 (by decide) (by decide +kernel) rfl rfl (by decide +kernel) rfl rfl (Nat.le_of_ble_eq_true rfl) (ws' := [(ads, .inr (7, [.int 0, .int 0, .int sg, .int ms, .ref adsv, .ref adsc]))]) rfl ?_
  refine v_aload_n hk dX8_startAnew_10 rfl ?_
  refine v_iconst (v := 1) hk dX8_startAnew_11 (by decide) ?_
  refine v_put (C := RX8) (T := TX8) (N := 6) (ci := 7) (v := .int 1) (ty := .int) hk dX8_startAnew_12 w2i_X8_startAnew_X80 tyX8 tyX8_ok nmX8 0 rfl rfl 2 (by decide) (by decide +kernel) rfl rfl (by decide +kernel) rfl rfl (Nat.le_of_ble_eq_true rfl) (ws' := [(ads, .inr (7, [.int 0, .int 0, .int 1, .int ms, .ref adsv, .ref adsc]))]) rfl ?_
  refine v_aload_n hk dX8_startAnew_15 rfl ?_
  refine v_iconst (v := 4) hk dX8_startAnew_16 (by decide) ?_
  refine v_put (C := RX8) (T := TX8) (N := 6) (ci := 7) (v := .int 4) (ty := .int) hk dX8_startAnew_17 w2i_X8_startAnew_X80 tyX8 tyX8_ok nmX8 0 rfl rfl 3 (by decide) (by decide +kernel) rfl rfl (by decide +kernel) rfl rfl (Nat.le_of_ble_eq_true rfl) (ws' := [(ads, .inr (7, [.int 0, .int 0, .int 1, .int 4, .ref adsv, .ref adsc]))]) rfl ?_
  replace h : some (0, 0, 1, 4) = some r := h
  replace h := Option.some.inj h
  subst h
  refine hrt (none) _ _ _ _ _ (⟨rfl, rfl⟩) (Nat.zero_le _) (Nat.zero_le _) (dX8_startAnew_20)
abbrev rm_X8_addName : Room := { frames := 0, cells := 0, slots := 0, locals := 0 }
set_option maxHeartbeats 4000000 in
set_option maxRecDepth 100000 in
theorem c_X8_addName (l : Launch) (G : GG) (ads : Nat) (adsv : Nat) (adsc : Nat) (nm : Int32) (rw : Int32) (sg : Int32) (ms : Int32) (nsv : Nat) (fsv : Nat → Int32) (kinds : Int32) (r : Int32 × Int32 × (Nat → Int32)) (h : m_X8_addName nm rw sg ms nsv fsv kinds = some r) : Ctr l G yX8_addName w2_X8_addName rm_X8_addName [.ref ads, .int kinds] [(ads, .inr (7, [.int nm, .int rw, .int sg, .int ms, .ref adsv, .ref adsc])), (adsv, .inl (gI G, nsv, .inl fsv))] (fun v w => v = some (.int r.1) ∧ w = [(ads, .inr (7, [.int r.2.1, .int rw, .int sg, .int ms, .ref adsv, .ref adsc])), (adsv, .inl (gI G, nsv, .inl r.2.2))]) := by
  refine ctr_entry (cc := cX8_addName) (maxL := 2) (ret := some .int) (lv0 := [(0, .ref ads), (1, .int kinds)]) (by decide) rfl (Nat.le_of_ble_eq_true rfl) (rfl) ?_
  intro K hl9 hG9 hk hn9 hrt
  subst hl9
  subst hG9
  have hR9 : RoomGe rm_X8_addName rm_X8_addName := RoomGe.rf
  replace h := id_e h
  rw [em_X8_addName] at h
  refine v_aload_n hk dX8_addName_0 rfl ?_
  refine v_get (C := RX8) (T := TX8) (N := 6) (ci := 7) (v := .int nm) hk dX8_addName_1 w2i_X8_addName_X80 0 rfl rfl 0 (by decide) (by decide +kernel) rfl rfl ?_
  refine v_if_lt (tgt := 19) hk dX8_addName_4 (by decide) (fun hc => ?_) (fun hc => ?_)
  · replace h := it_t (g := id) h hc
    refine v_bipush (v := (-3)) hk dX8_addName_19 (by decide) ?_
    replace h : some ((-3), nm, fsv) = some r := h
    replace h := Option.some.inj h
    subst h
    refine hrt (some (.int (-3))) _ _ _ _ _ (⟨rfl, rfl⟩) (Nat.zero_le _) (Nat.zero_le _) (dX8_addName_21)
  · replace h := it_f (g := id) h hc
    refine v_aload_n hk dX8_addName_7 rfl ?_
    refine v_get (C := RX8) (T := TX8) (N := 6) (ci := 7) (v := .int nm) hk dX8_addName_8 w2i_X8_addName_X80 0 rfl rfl 0 (by decide) (by decide +kernel) rfl rfl ?_
    refine v_aload_n hk dX8_addName_11 rfl ?_
    refine v_get (C := RX8) (T := TX8) (N := 6) (ci := 7) (v := .ref adsv) hk dX8_addName_12 w2i_X8_addName_X80 0 rfl rfl 4 (by decide) (by decide +kernel) rfl rfl ?_
    refine v_alenI hk dX8_addName_15 1 rfl rfl ?_
    refine v_icmp_lt (tgt := 22) hk dX8_addName_16 (by decide) (fun hc => ?_) (fun hc => ?_)
    · replace h := it_t (g := id) h hc
      refine v_aload_n hk dX8_addName_22 rfl ?_
      refine v_get (C := RX8) (T := TX8) (N := 6) (ci := 7) (v := .ref adsv) hk dX8_addName_23 w2i_X8_addName_X80 0 rfl rfl 4 (by decide) (by decide +kernel) rfl rfl ?_
      refine v_aload_n hk dX8_addName_26 rfl ?_
      refine v_get (C := RX8) (T := TX8) (N := 6) (ci := 7) (v := .int nm) hk dX8_addName_27 w2i_X8_addName_X80 0 rfl rfl 0 (by decide) (by decide +kernel) rfl rfl ?_
      refine v_iload_n hk dX8_addName_30 rfl ?_
      obtain ⟨hi, h⟩ := ok_e (g := id) rfl h
      obtain ⟨fsv_1, efsv_1, h⟩ := lt_e (g := id) h
      refine v_iastV hk dX8_addName_31 1 rfl (ix_in hi) (ws' := [(ads, .inr (7, [.int nm, .int rw, .int sg, .int ms, .ref adsv, .ref adsc])), (adsv, .inl (gI (kG K), nsv, .inl fsv_1))]) (by rw [efsv_1]; rfl) ?_
      refine v_aload_n hk dX8_addName_32 rfl ?_
      refine v_dup hk dX8_addName_33 rfl ?_
      refine v_get (C := RX8) (T := TX8) (N := 6) (ci := 7) (v := .int nm) hk dX8_addName_34 w2i_X8_addName_X80 0 rfl rfl 0 (by decide) (by decide +kernel) rfl rfl ?_
      refine v_iconst (v := 1) hk dX8_addName_37 (by decide) ?_
      refine v_iadd hk dX8_addName_38 ?_
      obtain ⟨vnames_2, evnames_2, h⟩ := lt_e (g := id) h
      refine v_topi evnames_2.symm ?_
      refine v_put (C := RX8) (T := TX8) (N := 6) (ci := 7) (v := .int vnames_2) (ty := .int) hk dX8_addName_39 w2i_X8_addName_X80 tyX8 tyX8_ok nmX8 0 rfl rfl 0 (by decide) (by decide +kernel) rfl rfl (by decide +kernel) rfl rfl (Nat.le_of_ble_eq_true rfl) (ws' := [(ads, .inr (7, [.int vnames_2, .int rw, .int sg, .int ms, .ref adsv, .ref adsc])), (adsv, .inl (gI (kG K), nsv, .inl fsv_1))]) rfl ?_
      refine v_aload_n hk dX8_addName_42 rfl ?_
      refine v_get (C := RX8) (T := TX8) (N := 6) (ci := 7) (v := .int vnames_2) hk dX8_addName_43 w2i_X8_addName_X80 0 rfl rfl 0 (by decide) (by decide +kernel) rfl rfl ?_
      refine v_iconst (v := 1) hk dX8_addName_46 (by decide) ?_
      refine v_isub hk dX8_addName_47 ?_
      replace h : some (vnames_2 - 1, vnames_2, fsv_1) = some r := h
      replace h := Option.some.inj h
      subst h
      refine hrt (some (.int (vnames_2 - 1))) _ _ _ _ _ (⟨rfl, rfl⟩) (Nat.zero_le _) (Nat.zero_le _) (dX8_addName_48)
    · replace h := it_f (g := id) h hc
      refine v_bipush (v := (-3)) hk dX8_addName_19 (by decide) ?_
      replace h : some ((-3), nm, fsv) = some r := h
      replace h := Option.some.inj h
      subst h
      refine hrt (some (.int (-3))) _ _ _ _ _ (⟨rfl, rfl⟩) (Nat.zero_le _) (Nat.zero_le _) (dX8_addName_21)
abbrev rm_X8_addRow : Room := { frames := 0, cells := 0, slots := 0, locals := 0 }
set_option maxHeartbeats 4000000 in
set_option maxRecDepth 100000 in
theorem c_X8_addRow (l : Launch) (G : GG) (ads : Nat) (adsc : Nat) (adsv : Nat) (nm : Int32) (rw : Int32) (sg : Int32) (ms : Int32) (nsc : Nat) (fsc : Nat → Int32) (code : Int32) (r : Int32 × Int32 × (Nat → Int32)) (h : m_X8_addRow nm rw sg ms nsc fsc code = some r) : Ctr l G yX8_addRow w2_X8_addRow rm_X8_addRow [.ref ads, .int code] [(ads, .inr (7, [.int nm, .int rw, .int sg, .int ms, .ref adsv, .ref adsc])), (adsc, .inl (gI G, nsc, .inl fsc))] (fun v w => v = some (.int r.1) ∧ w = [(ads, .inr (7, [.int nm, .int r.2.1, .int sg, .int ms, .ref adsv, .ref adsc])), (adsc, .inl (gI G, nsc, .inl r.2.2))]) := by
  refine ctr_entry (cc := cX8_addRow) (maxL := 2) (ret := some .int) (lv0 := [(0, .ref ads), (1, .int code)]) (by decide) rfl (Nat.le_of_ble_eq_true rfl) (rfl) ?_
  intro K hl9 hG9 hk hn9 hrt
  subst hl9
  subst hG9
  have hR9 : RoomGe rm_X8_addRow rm_X8_addRow := RoomGe.rf
  replace h := id_e h
  rw [em_X8_addRow] at h
  refine v_aload_n hk dX8_addRow_0 rfl ?_
  refine v_get (C := RX8) (T := TX8) (N := 6) (ci := 7) (v := .int rw) hk dX8_addRow_1 w2i_X8_addRow_X80 0 rfl rfl 1 (by decide) (by decide +kernel) rfl rfl ?_
  refine v_if_lt (tgt := 19) hk dX8_addRow_4 (by decide) (fun hc => ?_) (fun hc => ?_)
  · replace h := it_t (g := id) h hc
    refine v_bipush (v := (-3)) hk dX8_addRow_19 (by decide) ?_
    replace h : some ((-3), rw, fsc) = some r := h
    replace h := Option.some.inj h
    subst h
    refine hrt (some (.int (-3))) _ _ _ _ _ (⟨rfl, rfl⟩) (Nat.zero_le _) (Nat.zero_le _) (dX8_addRow_21)
  · replace h := it_f (g := id) h hc
    refine v_aload_n hk dX8_addRow_7 rfl ?_
    refine v_get (C := RX8) (T := TX8) (N := 6) (ci := 7) (v := .int rw) hk dX8_addRow_8 w2i_X8_addRow_X80 0 rfl rfl 1 (by decide) (by decide +kernel) rfl rfl ?_
    refine v_aload_n hk dX8_addRow_11 rfl ?_
    refine v_get (C := RX8) (T := TX8) (N := 6) (ci := 7) (v := .ref adsc) hk dX8_addRow_12 w2i_X8_addRow_X80 0 rfl rfl 5 (by decide) (by decide +kernel) rfl rfl ?_
    refine v_alenI hk dX8_addRow_15 1 rfl rfl ?_
    refine v_icmp_lt (tgt := 22) hk dX8_addRow_16 (by decide) (fun hc => ?_) (fun hc => ?_)
    · replace h := it_t (g := id) h hc
      refine v_aload_n hk dX8_addRow_22 rfl ?_
      refine v_get (C := RX8) (T := TX8) (N := 6) (ci := 7) (v := .ref adsc) hk dX8_addRow_23 w2i_X8_addRow_X80 0 rfl rfl 5 (by decide) (by decide +kernel) rfl rfl ?_
      refine v_aload_n hk dX8_addRow_26 rfl ?_
      refine v_get (C := RX8) (T := TX8) (N := 6) (ci := 7) (v := .int rw) hk dX8_addRow_27 w2i_X8_addRow_X80 0 rfl rfl 1 (by decide) (by decide +kernel) rfl rfl ?_
      refine v_iload_n hk dX8_addRow_30 rfl ?_
      obtain ⟨hi, h⟩ := ok_e (g := id) rfl h
      obtain ⟨fsc_1, efsc_1, h⟩ := lt_e (g := id) h
      refine v_iastV hk dX8_addRow_31 1 rfl (ix_in hi) (ws' := [(ads, .inr (7, [.int nm, .int rw, .int sg, .int ms, .ref adsv, .ref adsc])), (adsc, .inl (gI (kG K), nsc, .inl fsc_1))]) (by rw [efsc_1]; rfl) ?_
      refine v_aload_n hk dX8_addRow_32 rfl ?_
      refine v_dup hk dX8_addRow_33 rfl ?_
      refine v_get (C := RX8) (T := TX8) (N := 6) (ci := 7) (v := .int rw) hk dX8_addRow_34 w2i_X8_addRow_X80 0 rfl rfl 1 (by decide) (by decide +kernel) rfl rfl ?_
      refine v_iconst (v := 1) hk dX8_addRow_37 (by decide) ?_
      refine v_iadd hk dX8_addRow_38 ?_
      obtain ⟨vrows_2, evrows_2, h⟩ := lt_e (g := id) h
      refine v_topi evrows_2.symm ?_
      refine v_put (C := RX8) (T := TX8) (N := 6) (ci := 7) (v := .int vrows_2) (ty := .int) hk dX8_addRow_39 w2i_X8_addRow_X80 tyX8 tyX8_ok nmX8 0 rfl rfl 1 (by decide) (by decide +kernel) rfl rfl (by decide +kernel) rfl rfl (Nat.le_of_ble_eq_true rfl) (ws' := [(ads, .inr (7, [.int nm, .int vrows_2, .int sg, .int ms, .ref adsv, .ref adsc])), (adsc, .inl (gI (kG K), nsc, .inl fsc_1))]) rfl ?_
      refine v_aload_n hk dX8_addRow_42 rfl ?_
      refine v_get (C := RX8) (T := TX8) (N := 6) (ci := 7) (v := .int vrows_2) hk dX8_addRow_43 w2i_X8_addRow_X80 0 rfl rfl 1 (by decide) (by decide +kernel) rfl rfl ?_
      refine v_iconst (v := 1) hk dX8_addRow_46 (by decide) ?_
      refine v_isub hk dX8_addRow_47 ?_
      replace h : some (vrows_2 - 1, vrows_2, fsc_1) = some r := h
      replace h := Option.some.inj h
      subst h
      refine hrt (some (.int (vrows_2 - 1))) _ _ _ _ _ (⟨rfl, rfl⟩) (Nat.zero_le _) (Nat.zero_le _) (dX8_addRow_48)
    · replace h := it_f (g := id) h hc
      refine v_bipush (v := (-3)) hk dX8_addRow_19 (by decide) ?_
      replace h : some ((-3), rw, fsc) = some r := h
      replace h := Option.some.inj h
      subst h
      refine hrt (some (.int (-3))) _ _ _ _ _ (⟨rfl, rfl⟩) (Nat.zero_le _) (Nat.zero_le _) (dX8_addRow_21)
abbrev rm_X8_removeRow : Room := { frames := 0, cells := 0, slots := 0, locals := 0 }
set_option maxHeartbeats 4000000 in
set_option maxRecDepth 100000 in
theorem L_X8_removeRow_2 {K : Cx} {R9 : Room} (hk : Ok K cX8_removeRow 3 RX8 w2_X8_removeRow R9) (hR9 : RoomGe R9 rm_X8_removeRow) (ads : Nat) (adsc : Nat) (adsv : Nat) (nm : Int32) (rw : Int32) (sg : Int32) (ms : Int32) (nsc : Nat) (gone : Int32) (b9 : (Int32 × (Nat → Int32))) (kk0 : ∀ q9 : (Int32 × (Nat → Int32)), b9 = q9 → V K 3 [(ads, .inr (7, [.int nm, .int rw, .int sg, .int ms, .ref adsv, .ref adsc])), (adsc, .inl (gI (kG K), nsc, .inl q9.2))] 0 0 47 [(0, .ref ads), (1, .int gone), (2, .int q9.1)] []) : ∀ (nn : Nat) (i2_1 : Int32) (fsc_2 : Nat → Int32), lp (b_X8_removeRow_2 rw nsc) nn (i2_1, fsc_2) = some b9 → V K 3 [(ads, .inr (7, [.int nm, .int rw, .int sg, .int ms, .ref adsv, .ref adsc])), (adsc, .inl (gI (kG K), nsc, .inl fsc_2))] 0 0 2 [(0, .ref ads), (1, .int gone), (2, .int i2_1)] [] := by
  intro nn
  induction nn with
  | zero => intro i2_1 fsc_2 h; exact absurd h (by simp [lp])
  | succ nn ih =>
    intro i2_1 fsc_2 h
    replace h := lp_s h
    rw [eb_X8_removeRow_2] at h
    refine v_iload_n hk dX8_removeRow_2 rfl ?_
    refine v_if_lt (tgt := 47) hk dX8_removeRow_3 (by decide) (fun hc => ?_) (fun hc => ?_)
    · replace h := it_t (g := (lpk (lp (b_X8_removeRow_2 rw nsc) nn))) h hc
      replace h : some (i2_1, fsc_2) = some b9 := h
      replace h := Option.some.inj h
      subst h
      exact kk0 _ rfl
    · replace h := it_f (g := (lpk (lp (b_X8_removeRow_2 rw nsc) nn))) h hc
      refine v_iload_n hk dX8_removeRow_6 rfl ?_
      refine v_iconst (v := 1) hk dX8_removeRow_7 (by decide) ?_
      refine v_iadd hk dX8_removeRow_8 ?_
      refine v_aload_n hk dX8_removeRow_9 rfl ?_
      refine v_get (C := RX8) (T := TX8) (N := 6) (ci := 7) (v := .int rw) hk dX8_removeRow_10 w2i_X8_removeRow_X80 0 rfl rfl 1 (by decide) (by decide +kernel) rfl rfl ?_
      refine v_icmp_ge (tgt := 47) hk dX8_removeRow_13 (by decide) (fun hc => ?_) (fun hc => ?_)
      · replace h := it_t (g := (lpk (lp (b_X8_removeRow_2 rw nsc) nn))) h hc
        replace h : some (i2_1, fsc_2) = some b9 := h
        replace h := Option.some.inj h
        subst h
        exact kk0 _ rfl
      · replace h := it_f (g := (lpk (lp (b_X8_removeRow_2 rw nsc) nn))) h hc
        refine v_iload_n hk dX8_removeRow_16 rfl ?_
        refine v_iconst (v := 1) hk dX8_removeRow_17 (by decide) ?_
        refine v_iadd hk dX8_removeRow_18 ?_
        refine v_aload_n hk dX8_removeRow_19 rfl ?_
        refine v_get (C := RX8) (T := TX8) (N := 6) (ci := 7) (v := .ref adsc) hk dX8_removeRow_20 w2i_X8_removeRow_X80 0 rfl rfl 5 (by decide) (by decide +kernel) rfl rfl ?_
        refine v_alenI hk dX8_removeRow_23 1 rfl rfl ?_
        refine v_icmp_ge (tgt := 47) hk dX8_removeRow_24 (by decide) (fun hc => ?_) (fun hc => ?_)
        · replace h := it_t (g := (lpk (lp (b_X8_removeRow_2 rw nsc) nn))) h hc
          replace h : some (i2_1, fsc_2) = some b9 := h
          replace h := Option.some.inj h
          subst h
          exact kk0 _ rfl
        · replace h := it_f (g := (lpk (lp (b_X8_removeRow_2 rw nsc) nn))) h hc
          refine v_aload_n hk dX8_removeRow_27 rfl ?_
          refine v_get (C := RX8) (T := TX8) (N := 6) (ci := 7) (v := .ref adsc) hk dX8_removeRow_28 w2i_X8_removeRow_X80 0 rfl rfl 5 (by decide) (by decide +kernel) rfl rfl ?_
          refine v_iload_n hk dX8_removeRow_31 rfl ?_
          refine v_aload_n hk dX8_removeRow_32 rfl ?_
          refine v_get (C := RX8) (T := TX8) (N := 6) (ci := 7) (v := .ref adsc) hk dX8_removeRow_33 w2i_X8_removeRow_X80 0 rfl rfl 5 (by decide) (by decide +kernel) rfl rfl ?_
          refine v_iload_n hk dX8_removeRow_36 rfl ?_
          refine v_iconst (v := 1) hk dX8_removeRow_37 (by decide) ?_
          refine v_iadd hk dX8_removeRow_38 ?_
          obtain ⟨hi, h⟩ := ok_e (g := (lpk (lp (b_X8_removeRow_2 rw nsc) nn))) rfl h
          refine v_ialdV hk dX8_removeRow_39 1 rfl (ix_in hi) ?_
          obtain ⟨hi, h⟩ := ok_e (g := (lpk (lp (b_X8_removeRow_2 rw nsc) nn))) rfl h
          obtain ⟨fsc_3, efsc_3, h⟩ := lt_e (g := (lpk (lp (b_X8_removeRow_2 rw nsc) nn))) h
          refine v_iastV hk dX8_removeRow_40 1 rfl (ix_in hi) (ws' := [(ads, .inr (7, [.int nm, .int rw, .int sg, .int ms, .ref adsv, .ref adsc])), (adsc, .inl (gI (kG K), nsc, .inl fsc_3))]) (by rw [efsc_3]; rfl) ?_
          obtain ⟨x2_4, ex2_4, h⟩ := lt_e (g := (lpk (lp (b_X8_removeRow_2 rw nsc) nn))) h
          refine v_iinc (v := x2_4) hk dX8_removeRow_41 rfl (by rw [ex2_4]; rfl) (by decide) [1, 2, 0] (lv' := [(0, .ref ads), (1, .int gone), (2, .int x2_4)]) rfl ?_
          refine v_goto (tgt := 2) hk dX8_removeRow_44 (by decide) ?_
          exact ih x2_4 fsc_3 h
set_option maxHeartbeats 4000000 in
set_option maxRecDepth 100000 in
theorem c_X8_removeRow (l : Launch) (G : GG) (ads : Nat) (adsc : Nat) (adsv : Nat) (nm : Int32) (rw : Int32) (sg : Int32) (ms : Int32) (nsc : Nat) (fsc : Nat → Int32) (gone : Int32) (r : Int32 × Int32 × (Nat → Int32)) (h : m_X8_removeRow nm rw sg ms nsc fsc gone = some r) : Ctr l G yX8_removeRow w2_X8_removeRow rm_X8_removeRow [.ref ads, .int gone] [(ads, .inr (7, [.int nm, .int rw, .int sg, .int ms, .ref adsv, .ref adsc])), (adsc, .inl (gI G, nsc, .inl fsc))] (fun v w => v = some (.int r.1) ∧ w = [(ads, .inr (7, [.int nm, .int r.2.1, .int sg, .int ms, .ref adsv, .ref adsc])), (adsc, .inl (gI G, nsc, .inl r.2.2))]) := by
  refine ctr_entry (cc := cX8_removeRow) (maxL := 3) (ret := some .int) (lv0 := [(0, .ref ads), (1, .int gone)]) (by decide) rfl (Nat.le_of_ble_eq_true rfl) (rfl) ?_
  intro K hl9 hG9 hk hn9 hrt
  subst hl9
  subst hG9
  have hR9 : RoomGe rm_X8_removeRow rm_X8_removeRow := RoomGe.rf
  replace h := id_e h
  rw [em_X8_removeRow] at h
  refine v_iload_n hk dX8_removeRow_0 rfl ?_
  refine v_istore_n hk dX8_removeRow_1 rfl (by decide) [1, 2, 0] (lv' := [(0, .ref ads), (1, .int gone), (2, .int gone)]) rfl ?_
  obtain ⟨b_7, eb_7, h⟩ := bd_e (g := id) rfl h
  refine L_X8_removeRow_2 hk hR9 ads adsc adsv nm rw sg ms nsc gone b_7 (fun q_5 eq_5 => ?_) FU gone fsc eb_7
  · replace eq_5 := eq_5.symm
    subst eq_5
    refine v_aload_n hk dX8_removeRow_47 rfl ?_
    refine v_dup hk dX8_removeRow_48 rfl ?_
    refine v_get (C := RX8) (T := TX8) (N := 6) (ci := 7) (v := .int rw) hk dX8_removeRow_49 w2i_X8_removeRow_X80 0 rfl rfl 1 (by decide) (by decide +kernel) rfl rfl ?_
    refine v_iconst (v := 1) hk dX8_removeRow_52 (by decide) ?_
    refine v_isub hk dX8_removeRow_53 ?_
    obtain ⟨vrows_6, evrows_6, h⟩ := lt_e (g := id) h
    refine v_topi evrows_6.symm ?_
    refine v_put (C := RX8) (T := TX8) (N := 6) (ci := 7) (v := .int vrows_6) (ty := .int) hk dX8_removeRow_54 w2i_X8_removeRow_X80 tyX8 tyX8_ok nmX8 0 rfl rfl 1 (by decide) (by decide +kernel) rfl rfl (by decide +kernel) rfl rfl (Nat.le_of_ble_eq_true rfl) (ws' := [(ads, .inr (7, [.int nm, .int vrows_6, .int sg, .int ms, .ref adsv, .ref adsc])), (adsc, .inl (gI (kG K), nsc, .inl q_5.2))]) rfl ?_
    refine v_aload_n hk dX8_removeRow_57 rfl ?_
    refine v_get (C := RX8) (T := TX8) (N := 6) (ci := 7) (v := .int vrows_6) hk dX8_removeRow_58 w2i_X8_removeRow_X80 0 rfl rfl 1 (by decide) (by decide +kernel) rfl rfl ?_
    replace h : some (vrows_6, vrows_6, q_5.2) = some r := h
    replace h := Option.some.inj h
    subst h
    refine hrt (some (.int vrows_6)) _ _ _ _ _ (⟨rfl, rfl⟩) (Nat.zero_le _) (Nat.zero_le _) (dX8_removeRow_61)
abbrev rm_X8_valuesOf : Room := { frames := 0, cells := 0, slots := 0, locals := 0 }
set_option maxHeartbeats 4000000 in
set_option maxRecDepth 100000 in
theorem c_X8_valuesOf (l : Launch) (G : GG) (ads : Nat) (adsv : Nat) (adsc : Nat) (nm : Int32) (rw : Int32) (sg : Int32) (ms : Int32) (nsv : Nat) (fsv : Nat → Int32) (nam : Int32) (r : Int32) (h : m_X8_valuesOf nm rw sg ms nsv fsv nam = some r) : Ctr l G yX8_valuesOf w2_X8_valuesOf rm_X8_valuesOf [.ref ads, .int nam] [(ads, .inr (7, [.int nm, .int rw, .int sg, .int ms, .ref adsv, .ref adsc])), (adsv, .inl (gI G, nsv, .inl fsv))] (fun v w => v = some (.int r) ∧ w = [(ads, .inr (7, [.int nm, .int rw, .int sg, .int ms, .ref adsv, .ref adsc])), (adsv, .inl (gI G, nsv, .inl fsv))]) := by
  refine ctr_entry (cc := cX8_valuesOf) (maxL := 2) (ret := some .int) (lv0 := [(0, .ref ads), (1, .int nam)]) (by decide) rfl (Nat.le_of_ble_eq_true rfl) (rfl) ?_
  intro K hl9 hG9 hk hn9 hrt
  subst hl9
  subst hG9
  have hR9 : RoomGe rm_X8_valuesOf rm_X8_valuesOf := RoomGe.rf
  replace h := id_e h
  rw [em_X8_valuesOf] at h
  refine v_iload_n hk dX8_valuesOf_0 rfl ?_
  obtain ⟨y_1, ey_1, h⟩ := bd_e (g := id) rfl h
  have Jy_1 : V K 2 [(ads, .inr (7, [.int nm, .int rw, .int sg, .int ms, .ref adsv, .ref adsc])), (adsv, .inl (gI (kG K), nsv, .inl fsv))] 0 0 31 [(0, .ref ads), (1, .int nam)] [.int y_1] := by
    replace h : some y_1 = some r := h
    replace h := Option.some.inj h
    subst h
    refine hrt (some (.int y_1)) _ _ _ _ _ (⟨rfl, rfl⟩) (Nat.zero_le _) (Nat.zero_le _) (dX8_valuesOf_31)
  clear h
  have h := id_e ey_1
  clear ey_1
  refine v_if_lt (tgt := 30) hk dX8_valuesOf_1 (by decide) (fun hc => ?_) (fun hc => ?_)
  · replace h := it_t (g := id) h hc
    refine v_iconst (v := 1) hk dX8_valuesOf_30 (by decide) ?_
    replace h : some (1 : Int32) = some y_1 := h
    replace h := Option.some.inj h
    subst h
    exact Jy_1
  · replace h := it_f (g := id) h hc
    refine v_iload_n hk dX8_valuesOf_4 rfl ?_
    refine v_aload_n hk dX8_valuesOf_5 rfl ?_
    refine v_get (C := RX8) (T := TX8) (N := 6) (ci := 7) (v := .int nm) hk dX8_valuesOf_6 w2i_X8_valuesOf_X80 0 rfl rfl 0 (by decide) (by decide +kernel) rfl rfl ?_
    obtain ⟨y_2, ey_2, h⟩ := bd_e (g := id) rfl h
    have Jy_2 : V K 2 [(ads, .inr (7, [.int nm, .int rw, .int sg, .int ms, .ref adsv, .ref adsc])), (adsv, .inl (gI (kG K), nsv, .inl fsv))] 0 0 31 [(0, .ref ads), (1, .int nam)] [.int y_2] := by
      replace h : some (y_2 : Int32) = some y_1 := h
      replace h := Option.some.inj h
      subst h
      exact Jy_1
    clear h
    have h := id_e ey_2
    clear ey_2
    refine v_icmp_ge (tgt := 30) hk dX8_valuesOf_9 (by decide) (fun hc => ?_) (fun hc => ?_)
    · replace h := it_t (g := id) h hc
      refine v_iconst (v := 1) hk dX8_valuesOf_30 (by decide) ?_
      replace h : some (1 : Int32) = some y_2 := h
      replace h := Option.some.inj h
      subst h
      exact Jy_2
    · replace h := it_f (g := id) h hc
      refine v_iload_n hk dX8_valuesOf_12 rfl ?_
      refine v_aload_n hk dX8_valuesOf_13 rfl ?_
      refine v_get (C := RX8) (T := TX8) (N := 6) (ci := 7) (v := .ref adsv) hk dX8_valuesOf_14 w2i_X8_valuesOf_X80 0 rfl rfl 4 (by decide) (by decide +kernel) rfl rfl ?_
      refine v_alenI hk dX8_valuesOf_17 1 rfl rfl ?_
      obtain ⟨y_3, ey_3, h⟩ := bd_e (g := id) rfl h
      have Jy_3 : V K 2 [(ads, .inr (7, [.int nm, .int rw, .int sg, .int ms, .ref adsv, .ref adsc])), (adsv, .inl (gI (kG K), nsv, .inl fsv))] 0 0 31 [(0, .ref ads), (1, .int nam)] [.int y_3] := by
        replace h : some (y_3 : Int32) = some y_2 := h
        replace h := Option.some.inj h
        subst h
        exact Jy_2
      clear h
      have h := id_e ey_3
      clear ey_3
      refine v_icmp_ge (tgt := 30) hk dX8_valuesOf_18 (by decide) (fun hc => ?_) (fun hc => ?_)
      · replace h := it_t (g := id) h hc
        refine v_iconst (v := 1) hk dX8_valuesOf_30 (by decide) ?_
        replace h : some (1 : Int32) = some y_3 := h
        replace h := Option.some.inj h
        subst h
        exact Jy_3
      · replace h := it_f (g := id) h hc
        refine v_aload_n hk dX8_valuesOf_21 rfl ?_
        refine v_get (C := RX8) (T := TX8) (N := 6) (ci := 7) (v := .ref adsv) hk dX8_valuesOf_22 w2i_X8_valuesOf_X80 0 rfl rfl 4 (by decide) (by decide +kernel) rfl rfl ?_
        refine v_iload_n hk dX8_valuesOf_25 rfl ?_
        obtain ⟨hi, h⟩ := ok_e (g := id) rfl h
        refine v_ialdV hk dX8_valuesOf_26 1 rfl (ix_in hi) ?_
        refine v_goto (tgt := 31) hk dX8_valuesOf_27 (by decide) ?_
        replace h : some (fsv nam.toNatClampNeg : Int32) = some y_3 := h
        replace h := Option.some.inj h
        subst h
        exact Jy_3
abbrev rm_X8_codeOf : Room := { frames := 0, cells := 0, slots := 0, locals := 0 }
set_option maxHeartbeats 4000000 in
set_option maxRecDepth 100000 in
theorem c_X8_codeOf (l : Launch) (G : GG) (ads : Nat) (adsc : Nat) (adsv : Nat) (nm : Int32) (rw : Int32) (sg : Int32) (ms : Int32) (nsc : Nat) (fsc : Nat → Int32) (row : Int32) (r : Int32) (h : m_X8_codeOf nm rw sg ms nsc fsc row = some r) : Ctr l G yX8_codeOf w2_X8_codeOf rm_X8_codeOf [.ref ads, .int row] [(ads, .inr (7, [.int nm, .int rw, .int sg, .int ms, .ref adsv, .ref adsc])), (adsc, .inl (gI G, nsc, .inl fsc))] (fun v w => v = some (.int r) ∧ w = [(ads, .inr (7, [.int nm, .int rw, .int sg, .int ms, .ref adsv, .ref adsc])), (adsc, .inl (gI G, nsc, .inl fsc))]) := by
  refine ctr_entry (cc := cX8_codeOf) (maxL := 2) (ret := some .int) (lv0 := [(0, .ref ads), (1, .int row)]) (by decide) rfl (Nat.le_of_ble_eq_true rfl) (rfl) ?_
  intro K hl9 hG9 hk hn9 hrt
  subst hl9
  subst hG9
  have hR9 : RoomGe rm_X8_codeOf rm_X8_codeOf := RoomGe.rf
  replace h := id_e h
  rw [em_X8_codeOf] at h
  refine v_iload_n hk dX8_codeOf_0 rfl ?_
  obtain ⟨y_1, ey_1, h⟩ := bd_e (g := id) rfl h
  have Jy_1 : V K 2 [(ads, .inr (7, [.int nm, .int rw, .int sg, .int ms, .ref adsv, .ref adsc])), (adsc, .inl (gI (kG K), nsc, .inl fsc))] 0 0 31 [(0, .ref ads), (1, .int row)] [.int y_1] := by
    replace h : some y_1 = some r := h
    replace h := Option.some.inj h
    subst h
    refine hrt (some (.int y_1)) _ _ _ _ _ (⟨rfl, rfl⟩) (Nat.zero_le _) (Nat.zero_le _) (dX8_codeOf_31)
  clear h
  have h := id_e ey_1
  clear ey_1
  refine v_if_lt (tgt := 30) hk dX8_codeOf_1 (by decide) (fun hc => ?_) (fun hc => ?_)
  · replace h := it_t (g := id) h hc
    refine v_iconst (v := 0) hk dX8_codeOf_30 (by decide) ?_
    replace h : some (0 : Int32) = some y_1 := h
    replace h := Option.some.inj h
    subst h
    exact Jy_1
  · replace h := it_f (g := id) h hc
    refine v_iload_n hk dX8_codeOf_4 rfl ?_
    refine v_aload_n hk dX8_codeOf_5 rfl ?_
    refine v_get (C := RX8) (T := TX8) (N := 6) (ci := 7) (v := .int rw) hk dX8_codeOf_6 w2i_X8_codeOf_X80 0 rfl rfl 1 (by decide) (by decide +kernel) rfl rfl ?_
    obtain ⟨y_2, ey_2, h⟩ := bd_e (g := id) rfl h
    have Jy_2 : V K 2 [(ads, .inr (7, [.int nm, .int rw, .int sg, .int ms, .ref adsv, .ref adsc])), (adsc, .inl (gI (kG K), nsc, .inl fsc))] 0 0 31 [(0, .ref ads), (1, .int row)] [.int y_2] := by
      replace h : some (y_2 : Int32) = some y_1 := h
      replace h := Option.some.inj h
      subst h
      exact Jy_1
    clear h
    have h := id_e ey_2
    clear ey_2
    refine v_icmp_ge (tgt := 30) hk dX8_codeOf_9 (by decide) (fun hc => ?_) (fun hc => ?_)
    · replace h := it_t (g := id) h hc
      refine v_iconst (v := 0) hk dX8_codeOf_30 (by decide) ?_
      replace h : some (0 : Int32) = some y_2 := h
      replace h := Option.some.inj h
      subst h
      exact Jy_2
    · replace h := it_f (g := id) h hc
      refine v_iload_n hk dX8_codeOf_12 rfl ?_
      refine v_aload_n hk dX8_codeOf_13 rfl ?_
      refine v_get (C := RX8) (T := TX8) (N := 6) (ci := 7) (v := .ref adsc) hk dX8_codeOf_14 w2i_X8_codeOf_X80 0 rfl rfl 5 (by decide) (by decide +kernel) rfl rfl ?_
      refine v_alenI hk dX8_codeOf_17 1 rfl rfl ?_
      obtain ⟨y_3, ey_3, h⟩ := bd_e (g := id) rfl h
      have Jy_3 : V K 2 [(ads, .inr (7, [.int nm, .int rw, .int sg, .int ms, .ref adsv, .ref adsc])), (adsc, .inl (gI (kG K), nsc, .inl fsc))] 0 0 31 [(0, .ref ads), (1, .int row)] [.int y_3] := by
        replace h : some (y_3 : Int32) = some y_2 := h
        replace h := Option.some.inj h
        subst h
        exact Jy_2
      clear h
      have h := id_e ey_3
      clear ey_3
      refine v_icmp_ge (tgt := 30) hk dX8_codeOf_18 (by decide) (fun hc => ?_) (fun hc => ?_)
      · replace h := it_t (g := id) h hc
        refine v_iconst (v := 0) hk dX8_codeOf_30 (by decide) ?_
        replace h : some (0 : Int32) = some y_3 := h
        replace h := Option.some.inj h
        subst h
        exact Jy_3
      · replace h := it_f (g := id) h hc
        refine v_aload_n hk dX8_codeOf_21 rfl ?_
        refine v_get (C := RX8) (T := TX8) (N := 6) (ci := 7) (v := .ref adsc) hk dX8_codeOf_22 w2i_X8_codeOf_X80 0 rfl rfl 5 (by decide) (by decide +kernel) rfl rfl ?_
        refine v_iload_n hk dX8_codeOf_25 rfl ?_
        obtain ⟨hi, h⟩ := ok_e (g := id) rfl h
        refine v_ialdV hk dX8_codeOf_26 1 rfl (ix_in hi) ?_
        refine v_goto (tgt := 31) hk dX8_codeOf_27 (by decide) ?_
        replace h : some (fsc row.toNatClampNeg : Int32) = some y_3 := h
        replace h := Option.some.inj h
        subst h
        exact Jy_3
abbrev rm_X8_valueIn : Room := { frames := 1, cells := 0, slots := 0, locals := 21 }
set_option maxHeartbeats 4000000 in
set_option maxRecDepth 100000 in
theorem c_X8_valueIn (l : Launch) (G : GG) (ads : Nat) (adsc : Nat) (adsv : Nat) (nm : Int32) (rw : Int32) (sg : Int32) (ms : Int32) (nsc : Nat) (fsc : Nat → Int32) (row : Int32) (nam : Int32) (r : Int32) (h : m_X8_valueIn nm rw sg ms nsc fsc row nam = some r) : Ctr l G yX8_valueIn w2_X8_valueIn rm_X8_valueIn [.ref ads, .int row, .int nam] [(ads, .inr (7, [.int nm, .int rw, .int sg, .int ms, .ref adsv, .ref adsc])), (adsc, .inl (gI G, nsc, .inl fsc))] (fun v w => v = some (.int r) ∧ w = [(ads, .inr (7, [.int nm, .int rw, .int sg, .int ms, .ref adsv, .ref adsc])), (adsc, .inl (gI G, nsc, .inl fsc))]) := by
  refine ctr_entry (cc := cX8_valueIn) (maxL := 3) (ret := some .int) (lv0 := [(0, .ref ads), (1, .int row), (2, .int nam)]) (by decide) rfl (Nat.le_of_ble_eq_true rfl) (rfl) ?_
  intro K hl9 hG9 hk hn9 hrt
  subst hl9
  subst hG9
  have hR9 : RoomGe rm_X8_valueIn rm_X8_valueIn := RoomGe.rf
  replace h := id_e h
  rw [em_X8_valueIn] at h
  refine v_aload_n hk dX8_valueIn_0 rfl ?_
  refine v_iload_n hk dX8_valueIn_1 rfl ?_
  obtain ⟨r_1, er_1, h⟩ := bd_e (g := id) rfl h
  refine v_callV (n := 1) (st := []) (b := ads) (T := TX8) (N := 6) hk dX8_valueIn_2 (c_X8_codeOf (kl K) (kG K) ads adsc adsv nm rw sg ms nsc fsc row r_1 er_1) rfl gd_X8_valueIn_X8_codeOf rfl (by decide +kernel) (frok hR9 (Nat.le_of_ble_eq_true rfl) (Nat.le_of_ble_eq_true rfl)) (roomk hR9 (Nat.le_of_ble_eq_true rfl) (Nat.le_of_ble_eq_true rfl)) rfl rfl (Nat.le_of_ble_eq_true rfl) 0 rfl rfl [0, 1] [] (wr := []) rfl rfl (by decide) (by decide) (by decide) ?_
  intro v9 w9 hp9
  obtain ⟨rfl, rfl⟩ := hp9
  show V K 3 [(ads, .inr (7, [.int nm, .int rw, .int sg, .int ms, .ref adsv, .ref adsc])), (adsc, .inl (gI (kG K), nsc, .inl fsc))] 0 0 5 [(0, .ref ads), (1, .int row), (2, .int nam)] [.int r_1]
  refine v_iconst (v := 2) hk dX8_valueIn_5 (by decide) ?_
  refine v_iload_n hk dX8_valueIn_6 rfl ?_
  refine v_imul hk dX8_valueIn_7 ?_
  refine v_ishr hk dX8_valueIn_8 ?_
  refine v_iconst (v := 3) hk dX8_valueIn_9 (by decide) ?_
  refine v_iand hk dX8_valueIn_10 ?_
  replace h : some ((r_1 >>> ((2 * nam) &&& 31)) &&& 3) = some r := h
  replace h := Option.some.inj h
  subst h
  refine hrt (some (.int ((r_1 >>> ((2 * nam) &&& 31)) &&& 3))) _ _ _ _ _ (⟨rfl, rfl⟩) (Nat.zero_le _) (Nat.zero_le _) (dX8_valueIn_11)
abbrev rm_X8_pourFit : Room := { frames := 1, cells := 0, slots := 0, locals := 26 }
set_option maxHeartbeats 4000000 in
set_option maxRecDepth 100000 in
theorem L_X8_pourFit_24 {K : Cx} {R9 : Room} (hk : Ok K cX8_pourFit 13 RX8 w2_X8_pourFit R9) (hR9 : RoomGe R9 rm_X8_pourFit) (ads : Nat) (adsv : Nat) (adsc : Nat) (adp : Nat) (adpw : Nat) (nm : Int32) (rw : Int32) (sg : Int32) (ms : Int32) (nsv : Nat) (fsv : Nat → Int32) (nsc : Nat) (fsc : Nat → Int32) (lg : Int32) (npw : Nat) (fpw : Nat → Int32) (nam : Int32) (se : Int32) (r_1 : Int32) (x5_2 : Int32) (b9 : (Int32 × Int32 × Int32)) (kk0 : ∀ q9 : (Int32 × Int32 × Int32), b9 = q9 → V K 13 [(adsc, .inl (gI (kG K), nsc, .inl fsc)), (adp, .inr (4, [.ref adpw, .int lg])), (adpw, .inl (gI (kG K), npw, .inl fpw)), (ads, .inr (7, [.int nm, .int rw, .int sg, .int ms, .ref adsv, .ref adsc])), (adsv, .inl (gI (kG K), nsv, .inl fsv))] 0 0 70 [(0, .ref ads), (1, .int nam), (2, .int se), (3, .ref adp), (4, .int r_1), (5, .int x5_2), (6, .int q9.1), (7, .int q9.2.1), (8, .int q9.2.2)] []) : ∀ (nn : Nat) (i6_3 : Int32) (i7_4 : Int32) (i8_5 : Int32), lp (b_X8_pourFit_24 nm rw sg ms nsv fsv se) nn (i6_3, i7_4, i8_5) = some b9 → V K 13 [(adsc, .inl (gI (kG K), nsc, .inl fsc)), (adp, .inr (4, [.ref adpw, .int lg])), (adpw, .inl (gI (kG K), npw, .inl fpw)), (ads, .inr (7, [.int nm, .int rw, .int sg, .int ms, .ref adsv, .ref adsc])), (adsv, .inl (gI (kG K), nsv, .inl fsv))] 0 0 24 [(0, .ref ads), (1, .int nam), (2, .int se), (3, .ref adp), (4, .int r_1), (5, .int x5_2), (6, .int i6_3), (7, .int i7_4), (8, .int i8_5)] [] := by
  intro nn
  induction nn with
  | zero => intro i6_3 i7_4 i8_5 h; exact absurd h (by simp [lp])
  | succ nn ih =>
    intro i6_3 i7_4 i8_5 h
    replace h := lp_s h
    rw [eb_X8_pourFit_24] at h
    refine v_iload hk dX8_pourFit_24 rfl ?_
    refine v_aload_n hk dX8_pourFit_26 rfl ?_
    refine v_get (C := RX8) (T := TX8) (N := 6) (ci := 7) (v := .int nm) hk dX8_pourFit_27 w2i_X8_pourFit_X80 3 rfl rfl 0 (by decide) (by decide +kernel) rfl rfl ?_
    refine v_icmp_ge (tgt := 70) hk dX8_pourFit_30 (by decide) (fun hc => ?_) (fun hc => ?_)
    · replace h := it_t (g := (lpk (lp (b_X8_pourFit_24 nm rw sg ms nsv fsv se) nn))) h hc
      replace h : some (i6_3, i7_4, i8_5) = some b9 := h
      replace h := Option.some.inj h
      subst h
      exact kk0 _ rfl
    · replace h := it_f (g := (lpk (lp (b_X8_pourFit_24 nm rw sg ms nsv fsv se) nn))) h hc
      refine v_iload_n hk dX8_pourFit_33 rfl ?_
      refine v_iload hk dX8_pourFit_34 rfl ?_
      obtain ⟨r_6, er_6, h⟩ := bd_e (g := (lpk (lp (b_X8_pourFit_24 nm rw sg ms nsv fsv se) nn))) rfl h
      refine v_callS (n := 2) (st := []) hk dX8_pourFit_36 (c_X0_isIn (kl K) (kG K) se i8_5 r_6 er_6) gd_X8_pourFit_X0_isIn rfl (by decide +kernel) (frok hR9 (Nat.le_of_ble_eq_true rfl) (Nat.le_of_ble_eq_true rfl)) (roomk hR9 (Nat.le_of_ble_eq_true rfl) (Nat.le_of_ble_eq_true rfl)) rfl rfl (Nat.le_of_ble_eq_true rfl) [] [0, 1, 2, 3, 4] (wr := [(adsc, .inl (gI (kG K), nsc, .inl fsc)), (adp, .inr (4, [.ref adpw, .int lg])), (adpw, .inl (gI (kG K), npw, .inl fpw)), (ads, .inr (7, [.int nm, .int rw, .int sg, .int ms, .ref adsv, .ref adsc])), (adsv, .inl (gI (kG K), nsv, .inl fsv))]) rfl rfl (by decide) (by decide) (by decide) ?_
      intro v9 w9 hp9
      obtain ⟨rfl, rfl⟩ := hp9
      show V K 13 [(adsc, .inl (gI (kG K), nsc, .inl fsc)), (adp, .inr (4, [.ref adpw, .int lg])), (adpw, .inl (gI (kG K), npw, .inl fpw)), (ads, .inr (7, [.int nm, .int rw, .int sg, .int ms, .ref adsv, .ref adsc])), (adsv, .inl (gI (kG K), nsv, .inl fsv))] 0 0 39 [(0, .ref ads), (1, .int nam), (2, .int se), (3, .ref adp), (4, .int r_1), (5, .int x5_2), (6, .int i6_3), (7, .int i7_4), (8, .int i8_5)] [.int r_6]
      refine v_if_eq (tgt := 64) hk dX8_pourFit_39 (by decide) (fun hc => ?_) (fun hc => ?_)
      · replace h := it_t (g := (lpk (lp (b_X8_pourFit_24 nm rw sg ms nsv fsv se) nn))) h hc
        obtain ⟨x8_7, ex8_7, h⟩ := lt_e (g := (lpk (lp (b_X8_pourFit_24 nm rw sg ms nsv fsv se) nn))) h
        refine v_iinc (v := x8_7) hk dX8_pourFit_64 rfl (by rw [ex8_7]; rfl) (by decide) [1, 2, 3, 4, 5, 6, 7, 8, 0] (lv' := [(0, .ref ads), (1, .int nam), (2, .int se), (3, .ref adp), (4, .int r_1), (5, .int x5_2), (6, .int i6_3), (7, .int i7_4), (8, .int x8_7)]) rfl ?_
        refine v_goto (tgt := 24) hk dX8_pourFit_67 (by decide) ?_
        exact ih i6_3 i7_4 x8_7 h
      · replace h := it_f (g := (lpk (lp (b_X8_pourFit_24 nm rw sg ms nsv fsv se) nn))) h hc
        refine v_iload hk dX8_pourFit_42 rfl ?_
        refine v_iconst (v := 3) hk dX8_pourFit_44 (by decide) ?_
        refine v_iconst (v := 2) hk dX8_pourFit_45 (by decide) ?_
        refine v_iload hk dX8_pourFit_46 rfl ?_
        refine v_imul hk dX8_pourFit_48 ?_
        refine v_ishl hk dX8_pourFit_49 ?_
        refine v_ior hk dX8_pourFit_50 ?_
        obtain ⟨x6_8, ex6_8, h⟩ := lt_e (g := (lpk (lp (b_X8_pourFit_24 nm rw sg ms nsv fsv se) nn))) h
        refine v_topi ex6_8.symm ?_
        refine v_istore hk dX8_pourFit_51 (by decide) [1, 2, 3, 4, 5, 6, 0, 7, 8] (lv' := [(0, .ref ads), (1, .int nam), (2, .int se), (3, .ref adp), (4, .int r_1), (5, .int x5_2), (6, .int x6_8), (7, .int i7_4), (8, .int i8_5)]) rfl ?_
        refine v_iload hk dX8_pourFit_53 rfl ?_
        refine v_aload_n hk dX8_pourFit_55 rfl ?_
        refine v_iload hk dX8_pourFit_56 rfl ?_
        obtain ⟨r_9, er_9, h⟩ := bd_e (g := (lpk (lp (b_X8_pourFit_24 nm rw sg ms nsv fsv se) nn))) rfl h
        refine v_callV (n := 1) (st := [.int i7_4]) (b := ads) (T := TX8) (N := 6) hk dX8_pourFit_58 (c_X8_valuesOf (kl K) (kG K) ads adsv adsc nm rw sg ms nsv fsv i8_5 r_9 er_9) rfl gd_X8_pourFit_X8_valuesOf rfl (by decide +kernel) (frok hR9 (Nat.le_of_ble_eq_true rfl) (Nat.le_of_ble_eq_true rfl)) (roomk hR9 (Nat.le_of_ble_eq_true rfl) (Nat.le_of_ble_eq_true rfl)) rfl rfl (Nat.le_of_ble_eq_true rfl) 3 rfl rfl [3, 4] [0, 1, 2] (wr := [(adsc, .inl (gI (kG K), nsc, .inl fsc)), (adp, .inr (4, [.ref adpw, .int lg])), (adpw, .inl (gI (kG K), npw, .inl fpw))]) rfl rfl (by decide) (by decide) (by decide) ?_
        intro v9 w9 hp9
        obtain ⟨rfl, rfl⟩ := hp9
        show V K 13 [(adsc, .inl (gI (kG K), nsc, .inl fsc)), (adp, .inr (4, [.ref adpw, .int lg])), (adpw, .inl (gI (kG K), npw, .inl fpw)), (ads, .inr (7, [.int nm, .int rw, .int sg, .int ms, .ref adsv, .ref adsc])), (adsv, .inl (gI (kG K), nsv, .inl fsv))] 0 0 61 [(0, .ref ads), (1, .int nam), (2, .int se), (3, .ref adp), (4, .int r_1), (5, .int x5_2), (6, .int x6_8), (7, .int i7_4), (8, .int i8_5)] [.int r_9, .int i7_4]
        refine v_imul hk dX8_pourFit_61 ?_
        obtain ⟨x7_10, ex7_10, h⟩ := lt_e (g := (lpk (lp (b_X8_pourFit_24 nm rw sg ms nsv fsv se) nn))) h
        refine v_topi ex7_10.symm ?_
        refine v_istore hk dX8_pourFit_62 (by decide) [1, 2, 3, 4, 5, 6, 7, 0, 8] (lv' := [(0, .ref ads), (1, .int nam), (2, .int se), (3, .ref adp), (4, .int r_1), (5, .int x5_2), (6, .int x6_8), (7, .int x7_10), (8, .int i8_5)]) rfl ?_
        obtain ⟨x8_11, ex8_11, h⟩ := lt_e (g := (lpk (lp (b_X8_pourFit_24 nm rw sg ms nsv fsv se) nn))) h
        refine v_iinc (v := x8_11) hk dX8_pourFit_64 rfl (by rw [ex8_11]; rfl) (by decide) [1, 2, 3, 4, 5, 6, 7, 8, 0] (lv' := [(0, .ref ads), (1, .int nam), (2, .int se), (3, .ref adp), (4, .int r_1), (5, .int x5_2), (6, .int x6_8), (7, .int x7_10), (8, .int x8_11)]) rfl ?_
        refine v_goto (tgt := 24) hk dX8_pourFit_67 (by decide) ?_
        exact ih x6_8 x7_10 x8_11 h
set_option maxHeartbeats 4000000 in
set_option maxRecDepth 100000 in
theorem L_X8_pourFit_91 {K : Cx} {R9 : Room} (hk : Ok K cX8_pourFit 13 RX8 w2_X8_pourFit R9) (hR9 : RoomGe R9 rm_X8_pourFit) (ads : Nat) (adsv : Nat) (adsc : Nat) (adp : Nat) (adpw : Nat) (nm : Int32) (rw : Int32) (sg : Int32) (ms : Int32) (nsv : Nat) (fsv : Nat → Int32) (nsc : Nat) (fsc : Nat → Int32) (npw : Nat) (nam : Int32) (se : Int32) (r_1 : Int32) (x5_2 : Int32) (q_12 : Int32 × Int32 × Int32) (i8_13 : Int32) (pp_14 : Int32) (fpw_15 : Nat → Int32) (b9 : (Int32 × Int32 × Int32)) (kk0 : ∀ q9 : (Int32 × Int32 × Int32), b9 = q9 → V K 13 [(adsc, .inl (gI (kG K), nsc, .inl fsc)), (adp, .inr (4, [.ref adpw, .int pp_14])), (adpw, .inl (gI (kG K), npw, .inl fpw_15)), (ads, .inr (7, [.int nm, .int rw, .int sg, .int ms, .ref adsv, .ref adsc])), (adsv, .inl (gI (kG K), nsv, .inl fsv))] 0 0 144 [(0, .ref ads), (1, .int nam), (2, .int se), (3, .ref adp), (4, .int r_1), (5, .int x5_2), (6, .int q_12.1), (7, .int q_12.2.1), (8, .int i8_13), (9, .int q9.1), (10, .int q9.2.1), (11, .int q9.2.2)] []) : ∀ (nn : Nat) (i9_16 : Int32) (i10_17 : Int32) (i11_18 : Int32), lp (b_X8_pourFit_91 nm rw sg ms nsc fsc x5_2 q_12 i8_13) nn (i9_16, i10_17, i11_18) = some b9 → V K 13 [(adsc, .inl (gI (kG K), nsc, .inl fsc)), (adp, .inr (4, [.ref adpw, .int pp_14])), (adpw, .inl (gI (kG K), npw, .inl fpw_15)), (ads, .inr (7, [.int nm, .int rw, .int sg, .int ms, .ref adsv, .ref adsc])), (adsv, .inl (gI (kG K), nsv, .inl fsv))] 0 0 91 [(0, .ref ads), (1, .int nam), (2, .int se), (3, .ref adp), (4, .int r_1), (5, .int x5_2), (6, .int q_12.1), (7, .int q_12.2.1), (8, .int i8_13), (9, .int i9_16), (10, .int i10_17), (11, .int i11_18)] [] := by
  intro nn
  induction nn with
  | zero => intro i9_16 i10_17 i11_18 h; exact absurd h (by simp [lp])
  | succ nn ih =>
    intro i9_16 i10_17 i11_18 h
    replace h := lp_s h
    rw [eb_X8_pourFit_91] at h
    refine v_iload hk dX8_pourFit_91 rfl ?_
    refine v_iload hk dX8_pourFit_93 rfl ?_
    refine v_icmp_ge (tgt := 144) hk dX8_pourFit_95 (by decide) (fun hc => ?_) (fun hc => ?_)
    · replace h := it_t (g := (lpk (lp (b_X8_pourFit_91 nm rw sg ms nsc fsc x5_2 q_12 i8_13) nn))) h hc
      replace h : some (i9_16, i10_17, i11_18) = some b9 := h
      replace h := Option.some.inj h
      subst h
      exact kk0 _ rfl
    · replace h := it_f (g := (lpk (lp (b_X8_pourFit_91 nm rw sg ms nsc fsc x5_2 q_12 i8_13) nn))) h hc
      refine v_aload_n hk dX8_pourFit_98 rfl ?_
      refine v_iload hk dX8_pourFit_99 rfl ?_
      obtain ⟨r_19, er_19, h⟩ := bd_e (g := (lpk (lp (b_X8_pourFit_91 nm rw sg ms nsc fsc x5_2 q_12 i8_13) nn))) rfl h
      refine v_callV (n := 1) (st := []) (b := ads) (T := TX8) (N := 6) hk dX8_pourFit_101 (c_X8_codeOf (kl K) (kG K) ads adsc adsv nm rw sg ms nsc fsc i8_13 r_19 er_19) rfl gd_X8_pourFit_X8_codeOf rfl (by decide +kernel) (frok hR9 (Nat.le_of_ble_eq_true rfl) (Nat.le_of_ble_eq_true rfl)) (roomk hR9 (Nat.le_of_ble_eq_true rfl) (Nat.le_of_ble_eq_true rfl)) rfl rfl (Nat.le_of_ble_eq_true rfl) 3 rfl rfl [3, 0] [1, 2, 4] (wr := [(adp, .inr (4, [.ref adpw, .int pp_14])), (adpw, .inl (gI (kG K), npw, .inl fpw_15)), (adsv, .inl (gI (kG K), nsv, .inl fsv))]) rfl rfl (by decide) (by decide) (by decide) ?_
      intro v9 w9 hp9
      obtain ⟨rfl, rfl⟩ := hp9
      show V K 13 [(adp, .inr (4, [.ref adpw, .int pp_14])), (adpw, .inl (gI (kG K), npw, .inl fpw_15)), (adsv, .inl (gI (kG K), nsv, .inl fsv)), (ads, .inr (7, [.int nm, .int rw, .int sg, .int ms, .ref adsv, .ref adsc])), (adsc, .inl (gI (kG K), nsc, .inl fsc))] 0 0 104 [(0, .ref ads), (1, .int nam), (2, .int se), (3, .ref adp), (4, .int r_1), (5, .int x5_2), (6, .int q_12.1), (7, .int q_12.2.1), (8, .int i8_13), (9, .int i9_16), (10, .int i10_17), (11, .int i11_18)] [.int r_19]
      refine v_aload_n hk dX8_pourFit_104 rfl ?_
      refine v_iload hk dX8_pourFit_105 rfl ?_
      obtain ⟨r_20, er_20, h⟩ := bd_e (g := (lpk (lp (b_X8_pourFit_91 nm rw sg ms nsc fsc x5_2 q_12 i8_13) nn))) rfl h
      refine v_callV (n := 1) (st := [.int r_19]) (b := ads) (T := TX8) (N := 6) hk dX8_pourFit_107 (c_X8_codeOf (kl K) (kG K) ads adsc adsv nm rw sg ms nsc fsc i11_18 r_20 er_20) rfl gd_X8_pourFit_X8_codeOf rfl (by decide +kernel) (frok hR9 (Nat.le_of_ble_eq_true rfl) (Nat.le_of_ble_eq_true rfl)) (roomk hR9 (Nat.le_of_ble_eq_true rfl) (Nat.le_of_ble_eq_true rfl)) rfl rfl (Nat.le_of_ble_eq_true rfl) 3 rfl rfl [3, 4] [0, 1, 2] (wr := [(adp, .inr (4, [.ref adpw, .int pp_14])), (adpw, .inl (gI (kG K), npw, .inl fpw_15)), (adsv, .inl (gI (kG K), nsv, .inl fsv))]) rfl rfl (by decide) (by decide) (by decide) ?_
      intro v9 w9 hp9
      obtain ⟨rfl, rfl⟩ := hp9
      show V K 13 [(adp, .inr (4, [.ref adpw, .int pp_14])), (adpw, .inl (gI (kG K), npw, .inl fpw_15)), (adsv, .inl (gI (kG K), nsv, .inl fsv)), (ads, .inr (7, [.int nm, .int rw, .int sg, .int ms, .ref adsv, .ref adsc])), (adsc, .inl (gI (kG K), nsc, .inl fsc))] 0 0 110 [(0, .ref ads), (1, .int nam), (2, .int se), (3, .ref adp), (4, .int r_1), (5, .int x5_2), (6, .int q_12.1), (7, .int q_12.2.1), (8, .int i8_13), (9, .int i9_16), (10, .int i10_17), (11, .int i11_18)] [.int r_20, .int r_19]
      refine v_ixor hk dX8_pourFit_110 ?_
      obtain ⟨x12_21, ex12_21, h⟩ := lt_e (g := (lpk (lp (b_X8_pourFit_91 nm rw sg ms nsc fsc x5_2 q_12 i8_13) nn))) h
      refine v_topi ex12_21.symm ?_
      refine v_istore hk dX8_pourFit_111 (by decide) [1, 2, 3, 4, 5, 6, 7, 8, 9, 10, 11, 12, 0] (lv' := [(0, .ref ads), (1, .int nam), (2, .int se), (3, .ref adp), (4, .int r_1), (5, .int x5_2), (6, .int q_12.1), (7, .int q_12.2.1), (8, .int i8_13), (9, .int i9_16), (10, .int i10_17), (11, .int i11_18), (12, .int x12_21)]) rfl ?_
      refine v_iload hk dX8_pourFit_113 rfl ?_
      refine v_iload hk dX8_pourFit_115 rfl ?_
      refine v_iand hk dX8_pourFit_117 ?_
      obtain ⟨y_22, ey_22, h⟩ := bd_e (g := (lpk (lp (b_X8_pourFit_91 nm rw sg ms nsc fsc x5_2 q_12 i8_13) nn))) rfl h
      have Jy_22 : V K 13 [(adp, .inr (4, [.ref adpw, .int pp_14])), (adpw, .inl (gI (kG K), npw, .inl fpw_15)), (adsv, .inl (gI (kG K), nsv, .inl fsv)), (ads, .inr (7, [.int nm, .int rw, .int sg, .int ms, .ref adsv, .ref adsc])), (adsc, .inl (gI (kG K), nsc, .inl fsc))] 0 0 138 [(0, .ref ads), (1, .int nam), (2, .int se), (3, .ref adp), (4, .int r_1), (5, .int x5_2), (6, .int q_12.1), (7, .int q_12.2.1), (8, .int i8_13), (9, .int y_22.1), (10, .int y_22.2), (11, .int i11_18), (12, .int x12_21)] [] := by
        obtain ⟨x11_23, ex11_23, h⟩ := lt_e (g := (lpk (lp (b_X8_pourFit_91 nm rw sg ms nsc fsc x5_2 q_12 i8_13) nn))) h
        refine v_iinc (v := x11_23) hk dX8_pourFit_138 rfl (by rw [ex11_23]; rfl) (by decide) [1, 2, 3, 4, 5, 6, 7, 8, 9, 10, 11, 0, 12] (lv' := [(0, .ref ads), (1, .int nam), (2, .int se), (3, .ref adp), (4, .int r_1), (5, .int x5_2), (6, .int q_12.1), (7, .int q_12.2.1), (8, .int i8_13), (9, .int y_22.1), (10, .int y_22.2), (11, .int x11_23), (12, .int x12_21)]) rfl ?_
        refine v_goto (tgt := 91) hk dX8_pourFit_141 (by decide) ?_
        refine v_loc [0, 1, 2, 3, 4, 5, 6, 7, 8, 9, 10, 11] (lv' := [(0, .ref ads), (1, .int nam), (2, .int se), (3, .ref adp), (4, .int r_1), (5, .int x5_2), (6, .int q_12.1), (7, .int q_12.2.1), (8, .int i8_13), (9, .int y_22.1), (10, .int y_22.2), (11, .int x11_23)]) rfl ?_
        refine v_perm [4, 0, 1, 3, 2] (ws' := [(adsc, .inl (gI (kG K), nsc, .inl fsc)), (adp, .inr (4, [.ref adpw, .int pp_14])), (adpw, .inl (gI (kG K), npw, .inl fpw_15)), (ads, .inr (7, [.int nm, .int rw, .int sg, .int ms, .ref adsv, .ref adsc])), (adsv, .inl (gI (kG K), nsv, .inl fsv))]) rfl rfl (by decide) ?_
        exact ih y_22.1 y_22.2 x11_23 h
      clear h
      have h := id_e ey_22
      clear ey_22
      refine v_if_eq (tgt := 124) hk dX8_pourFit_118 (by decide) (fun hc => ?_) (fun hc => ?_)
      · replace h := it_t (g := id) h hc
        obtain ⟨x9_24, ex9_24, h⟩ := lt_e (g := id) h
        refine v_iinc (v := x9_24) hk dX8_pourFit_124 rfl (by rw [ex9_24]; rfl) (by decide) [1, 2, 3, 4, 5, 6, 7, 8, 9, 0, 10, 11, 12] (lv' := [(0, .ref ads), (1, .int nam), (2, .int se), (3, .ref adp), (4, .int r_1), (5, .int x5_2), (6, .int q_12.1), (7, .int q_12.2.1), (8, .int i8_13), (9, .int x9_24), (10, .int i10_17), (11, .int i11_18), (12, .int x12_21)]) rfl ?_
        refine v_iload hk dX8_pourFit_127 rfl ?_
        refine v_iload hk dX8_pourFit_129 rfl ?_
        refine v_iand hk dX8_pourFit_131 ?_
        obtain ⟨y_25, ey_25, h⟩ := bd_e (g := id) rfl h
        have Jy_25 : V K 13 [(adp, .inr (4, [.ref adpw, .int pp_14])), (adpw, .inl (gI (kG K), npw, .inl fpw_15)), (adsv, .inl (gI (kG K), nsv, .inl fsv)), (ads, .inr (7, [.int nm, .int rw, .int sg, .int ms, .ref adsv, .ref adsc])), (adsc, .inl (gI (kG K), nsc, .inl fsc))] 0 0 138 [(0, .ref ads), (1, .int nam), (2, .int se), (3, .ref adp), (4, .int r_1), (5, .int x5_2), (6, .int q_12.1), (7, .int q_12.2.1), (8, .int i8_13), (9, .int x9_24), (10, .int y_25), (11, .int i11_18), (12, .int x12_21)] [] := by
          replace h : some (x9_24, y_25) = some y_22 := h
          replace h := Option.some.inj h
          subst h
          exact Jy_22
        clear h
        have h := id_e ey_25
        clear ey_25
        refine v_if_ne (tgt := 138) hk dX8_pourFit_132 (by decide) (fun hc => ?_) (fun hc => ?_)
        · replace h := it_f (g := id) h hc
          replace h : some (i10_17 : Int32) = some y_25 := h
          replace h := Option.some.inj h
          subst h
          exact Jy_25
        · replace h := it_t (g := id) h hc
          obtain ⟨x10_26, ex10_26, h⟩ := lt_e (g := id) h
          refine v_iinc (v := x10_26) hk dX8_pourFit_135 rfl (by rw [ex10_26]; rfl) (by decide) [1, 2, 3, 4, 5, 6, 7, 8, 9, 10, 0, 11, 12] (lv' := [(0, .ref ads), (1, .int nam), (2, .int se), (3, .ref adp), (4, .int r_1), (5, .int x5_2), (6, .int q_12.1), (7, .int q_12.2.1), (8, .int i8_13), (9, .int x9_24), (10, .int x10_26), (11, .int i11_18), (12, .int x12_21)]) rfl ?_
          replace h : some (x10_26 : Int32) = some y_25 := h
          replace h := Option.some.inj h
          subst h
          exact Jy_25
      · replace h := it_f (g := id) h hc
        refine v_goto (tgt := 138) hk dX8_pourFit_121 (by decide) ?_
        replace h : some (i9_16, i10_17) = some y_22 := h
        replace h := Option.some.inj h
        subst h
        exact Jy_22
set_option maxHeartbeats 4000000 in
set_option maxRecDepth 100000 in
theorem L_X8_pourFit_73 {K : Cx} {R9 : Room} (hk : Ok K cX8_pourFit 13 RX8 w2_X8_pourFit R9) (hR9 : RoomGe R9 rm_X8_pourFit) (ads : Nat) (adsv : Nat) (adsc : Nat) (adp : Nat) (adpw : Nat) (nm : Int32) (rw : Int32) (sg : Int32) (ms : Int32) (nsv : Nat) (fsv : Nat → Int32) (nsc : Nat) (fsc : Nat → Int32) (npw : Nat) (nam : Int32) (se : Int32) (r_1 : Int32) (x5_2 : Int32) (q_12 : Int32 × Int32 × Int32) (b9 : (Int32 × Int32 × (Nat → Int32))) (kk0 : ∀ q9 : (Int32 × Int32 × (Nat → Int32)), b9 = q9 → V K 13 [(adsc, .inl (gI (kG K), nsc, .inl fsc)), (adp, .inr (4, [.ref adpw, .int q9.2.1])), (adpw, .inl (gI (kG K), npw, .inl q9.2.2)), (ads, .inr (7, [.int nm, .int rw, .int sg, .int ms, .ref adsv, .ref adsc])), (adsv, .inl (gI (kG K), nsv, .inl fsv))] 0 0 183 [(0, .ref ads), (1, .int nam), (2, .int se), (3, .ref adp), (4, .int r_1), (5, .int x5_2), (6, .int q_12.1), (7, .int q_12.2.1), (8, .int q9.1)] []) : ∀ (nn : Nat) (i8_13 : Int32) (pp_14 : Int32) (fpw_15 : Nat → Int32), lp (b_X8_pourFit_73 nm rw sg ms nsc fsc npw r_1 x5_2 q_12) nn (i8_13, pp_14, fpw_15) = some b9 → V K 13 [(adsc, .inl (gI (kG K), nsc, .inl fsc)), (adp, .inr (4, [.ref adpw, .int pp_14])), (adpw, .inl (gI (kG K), npw, .inl fpw_15)), (ads, .inr (7, [.int nm, .int rw, .int sg, .int ms, .ref adsv, .ref adsc])), (adsv, .inl (gI (kG K), nsv, .inl fsv))] 0 0 73 [(0, .ref ads), (1, .int nam), (2, .int se), (3, .ref adp), (4, .int r_1), (5, .int x5_2), (6, .int q_12.1), (7, .int q_12.2.1), (8, .int i8_13)] [] := by
  intro nn
  induction nn with
  | zero => intro i8_13 pp_14 fpw_15 h; exact absurd h (by simp [lp])
  | succ nn ih =>
    intro i8_13 pp_14 fpw_15 h
    replace h := lp_s h
    rw [eb_X8_pourFit_73] at h
    refine v_iload hk dX8_pourFit_73 rfl ?_
    refine v_aload_n hk dX8_pourFit_75 rfl ?_
    refine v_get (C := RX8) (T := TX8) (N := 6) (ci := 7) (v := .int rw) hk dX8_pourFit_76 w2i_X8_pourFit_X80 3 rfl rfl 1 (by decide) (by decide +kernel) rfl rfl ?_
    refine v_icmp_ge (tgt := 183) hk dX8_pourFit_79 (by decide) (fun hc => ?_) (fun hc => ?_)
    · replace h := it_t (g := (lpk (lp (b_X8_pourFit_73 nm rw sg ms nsc fsc npw r_1 x5_2 q_12) nn))) h hc
      replace h : some (i8_13, pp_14, fpw_15) = some b9 := h
      replace h := Option.some.inj h
      subst h
      exact kk0 _ rfl
    · replace h := it_f (g := (lpk (lp (b_X8_pourFit_73 nm rw sg ms nsc fsc npw r_1 x5_2 q_12) nn))) h hc
      refine v_iconst (v := 0) hk dX8_pourFit_82 (by decide) ?_
      refine v_istore hk dX8_pourFit_83 (by decide) [1, 2, 3, 4, 5, 6, 7, 8, 9, 0] (lv' := [(0, .ref ads), (1, .int nam), (2, .int se), (3, .ref adp), (4, .int r_1), (5, .int x5_2), (6, .int q_12.1), (7, .int q_12.2.1), (8, .int i8_13), (9, .int 0)]) rfl ?_
      refine v_iconst (v := 0) hk dX8_pourFit_85 (by decide) ?_
      refine v_istore hk dX8_pourFit_86 (by decide) [1, 2, 3, 4, 5, 6, 7, 8, 9, 10, 0] (lv' := [(0, .ref ads), (1, .int nam), (2, .int se), (3, .ref adp), (4, .int r_1), (5, .int x5_2), (6, .int q_12.1), (7, .int q_12.2.1), (8, .int i8_13), (9, .int 0), (10, .int 0)]) rfl ?_
      refine v_iconst (v := 0) hk dX8_pourFit_88 (by decide) ?_
      refine v_istore hk dX8_pourFit_89 (by decide) [1, 2, 3, 4, 5, 6, 7, 8, 9, 10, 11, 0] (lv' := [(0, .ref ads), (1, .int nam), (2, .int se), (3, .ref adp), (4, .int r_1), (5, .int x5_2), (6, .int q_12.1), (7, .int q_12.2.1), (8, .int i8_13), (9, .int 0), (10, .int 0), (11, .int 0)]) rfl ?_
      obtain ⟨b_31, eb_31, h⟩ := bd_e (g := (lpk (lp (b_X8_pourFit_73 nm rw sg ms nsc fsc npw r_1 x5_2 q_12) nn))) rfl h
      refine L_X8_pourFit_91 hk hR9 ads adsv adsc adp adpw nm rw sg ms nsv fsv nsc fsc npw nam se r_1 x5_2 q_12 i8_13 pp_14 fpw_15 b_31 (fun q_27 eq_27 => ?_) FU 0 0 0 eb_31
      · replace eq_27 := eq_27.symm
        subst eq_27
        refine v_aload_n hk dX8_pourFit_144 rfl ?_
        refine v_aload_n hk dX8_pourFit_145 rfl ?_
        refine v_get (C := RX8) (T := TX8) (N := 6) (ci := 7) (v := .int sg) hk dX8_pourFit_146 w2i_X8_pourFit_X80 3 rfl rfl 2 (by decide) (by decide +kernel) rfl rfl ?_
        refine v_iload hk dX8_pourFit_149 rfl ?_
        refine v_iload hk dX8_pourFit_151 rfl ?_
        refine v_imul hk dX8_pourFit_153 ?_
        refine v_iadd hk dX8_pourFit_154 ?_
        refine v_iconst (v := 1) hk dX8_pourFit_155 (by decide) ?_
        obtain ⟨r_28, er_28, h⟩ := bd_e (g := (lpk (lp (b_X8_pourFit_73 nm rw sg ms nsc fsc npw r_1 x5_2 q_12) nn))) rfl h
        refine v_callV (n := 2) (st := []) (b := adp) (T := TX5) (N := 2) hk dX8_pourFit_156 (c_X5_multiply (kl K) (kG K) adp adpw pp_14 npw fpw_15 (sg + (q_27.2.1 * q_12.2.1)) 1 r_28 er_28) rfl gd_X8_pourFit_X5_multiply rfl (by decide +kernel) (frok hR9 (Nat.le_of_ble_eq_true rfl) (Nat.le_of_ble_eq_true rfl)) (roomk hR9 (Nat.le_of_ble_eq_true rfl) (Nat.le_of_ble_eq_true rfl)) rfl rfl (Nat.le_of_ble_eq_true rfl) 1 rfl rfl [1, 2] [0, 3, 4] (wr := [(adsc, .inl (gI (kG K), nsc, .inl fsc)), (ads, .inr (7, [.int nm, .int rw, .int sg, .int ms, .ref adsv, .ref adsc])), (adsv, .inl (gI (kG K), nsv, .inl fsv))]) rfl rfl (by decide) (by decide) (by decide) ?_
        intro v9 w9 hp9
        obtain ⟨rfl, rfl⟩ := hp9
        show V K 13 [(adsc, .inl (gI (kG K), nsc, .inl fsc)), (ads, .inr (7, [.int nm, .int rw, .int sg, .int ms, .ref adsv, .ref adsc])), (adsv, .inl (gI (kG K), nsv, .inl fsv)), (adp, .inr (4, [.ref adpw, .int r_28.1])), (adpw, .inl (gI (kG K), npw, .inl r_28.2))] 0 0 159 [(0, .ref ads), (1, .int nam), (2, .int se), (3, .ref adp), (4, .int r_1), (5, .int x5_2), (6, .int q_12.1), (7, .int q_12.2.1), (8, .int i8_13), (9, .int q_27.1), (10, .int q_27.2.1), (11, .int q_27.2.2)] []
        refine v_aload_n hk dX8_pourFit_159 rfl ?_
        refine v_iload hk dX8_pourFit_160 rfl ?_
        refine v_aload_n hk dX8_pourFit_162 rfl ?_
        refine v_get (C := RX8) (T := TX8) (N := 6) (ci := 7) (v := .int sg) hk dX8_pourFit_163 w2i_X8_pourFit_X80 1 rfl rfl 2 (by decide) (by decide +kernel) rfl rfl ?_
        refine v_imul hk dX8_pourFit_166 ?_
        refine v_iload hk dX8_pourFit_167 rfl ?_
        refine v_iload hk dX8_pourFit_169 rfl ?_
        refine v_imul hk dX8_pourFit_171 ?_
        refine v_iadd hk dX8_pourFit_172 ?_
        refine v_iconst (v := (-1)) hk dX8_pourFit_173 (by decide) ?_
        obtain ⟨r_29, er_29, h⟩ := bd_e (g := (lpk (lp (b_X8_pourFit_73 nm rw sg ms nsc fsc npw r_1 x5_2 q_12) nn))) rfl h
        refine v_callV (n := 2) (st := []) (b := adp) (T := TX5) (N := 2) hk dX8_pourFit_174 (c_X5_multiply (kl K) (kG K) adp adpw r_28.1 npw r_28.2 ((r_1 * sg) + (q_27.1 * q_12.2.1)) (-1) r_29 er_29) rfl gd_X8_pourFit_X5_multiply rfl (by decide +kernel) (frok hR9 (Nat.le_of_ble_eq_true rfl) (Nat.le_of_ble_eq_true rfl)) (roomk hR9 (Nat.le_of_ble_eq_true rfl) (Nat.le_of_ble_eq_true rfl)) rfl rfl (Nat.le_of_ble_eq_true rfl) 3 rfl rfl [3, 4] [0, 1, 2] (wr := [(adsc, .inl (gI (kG K), nsc, .inl fsc)), (ads, .inr (7, [.int nm, .int rw, .int sg, .int ms, .ref adsv, .ref adsc])), (adsv, .inl (gI (kG K), nsv, .inl fsv))]) rfl rfl (by decide) (by decide) (by decide) ?_
        intro v9 w9 hp9
        obtain ⟨rfl, rfl⟩ := hp9
        show V K 13 [(adsc, .inl (gI (kG K), nsc, .inl fsc)), (ads, .inr (7, [.int nm, .int rw, .int sg, .int ms, .ref adsv, .ref adsc])), (adsv, .inl (gI (kG K), nsv, .inl fsv)), (adp, .inr (4, [.ref adpw, .int r_29.1])), (adpw, .inl (gI (kG K), npw, .inl r_29.2))] 0 0 177 [(0, .ref ads), (1, .int nam), (2, .int se), (3, .ref adp), (4, .int r_1), (5, .int x5_2), (6, .int q_12.1), (7, .int q_12.2.1), (8, .int i8_13), (9, .int q_27.1), (10, .int q_27.2.1), (11, .int q_27.2.2)] []
        obtain ⟨x8_30, ex8_30, h⟩ := lt_e (g := (lpk (lp (b_X8_pourFit_73 nm rw sg ms nsc fsc npw r_1 x5_2 q_12) nn))) h
        refine v_iinc (v := x8_30) hk dX8_pourFit_177 rfl (by rw [ex8_30]; rfl) (by decide) [1, 2, 3, 4, 5, 6, 7, 8, 0, 9, 10, 11] (lv' := [(0, .ref ads), (1, .int nam), (2, .int se), (3, .ref adp), (4, .int r_1), (5, .int x5_2), (6, .int q_12.1), (7, .int q_12.2.1), (8, .int x8_30), (9, .int q_27.1), (10, .int q_27.2.1), (11, .int q_27.2.2)]) rfl ?_
        refine v_goto (tgt := 73) hk dX8_pourFit_180 (by decide) ?_
        refine v_loc [0, 1, 2, 3, 4, 5, 6, 7, 8] (lv' := [(0, .ref ads), (1, .int nam), (2, .int se), (3, .ref adp), (4, .int r_1), (5, .int x5_2), (6, .int q_12.1), (7, .int q_12.2.1), (8, .int x8_30)]) rfl ?_
        refine v_perm [0, 3, 4, 1, 2] (ws' := [(adsc, .inl (gI (kG K), nsc, .inl fsc)), (adp, .inr (4, [.ref adpw, .int r_29.1])), (adpw, .inl (gI (kG K), npw, .inl r_29.2)), (ads, .inr (7, [.int nm, .int rw, .int sg, .int ms, .ref adsv, .ref adsc])), (adsv, .inl (gI (kG K), nsv, .inl fsv))]) rfl rfl (by decide) ?_
        exact ih x8_30 r_29.1 r_29.2 h
set_option maxHeartbeats 4000000 in
set_option maxRecDepth 100000 in
theorem c_X8_pourFit (l : Launch) (G : GG) (ads : Nat) (adsv : Nat) (adsc : Nat) (adp : Nat) (adpw : Nat) (nm : Int32) (rw : Int32) (sg : Int32) (ms : Int32) (nsv : Nat) (fsv : Nat → Int32) (nsc : Nat) (fsc : Nat → Int32) (lg : Int32) (npw : Nat) (fpw : Nat → Int32) (nam : Int32) (se : Int32) (r : Int32 × (Nat → Int32)) (h : m_X8_pourFit nm rw sg ms nsv fsv nsc fsc lg npw fpw nam se = some r) : Ctr l G yX8_pourFit w2_X8_pourFit rm_X8_pourFit [.ref ads, .int nam, .int se, .ref adp] [(ads, .inr (7, [.int nm, .int rw, .int sg, .int ms, .ref adsv, .ref adsc])), (adsv, .inl (gI G, nsv, .inl fsv)), (adsc, .inl (gI G, nsc, .inl fsc)), (adp, .inr (4, [.ref adpw, .int lg])), (adpw, .inl (gI G, npw, .inl fpw))] (fun v w => v = none ∧ w = [(ads, .inr (7, [.int nm, .int rw, .int sg, .int ms, .ref adsv, .ref adsc])), (adsv, .inl (gI G, nsv, .inl fsv)), (adsc, .inl (gI G, nsc, .inl fsc)), (adp, .inr (4, [.ref adpw, .int r.1])), (adpw, .inl (gI G, npw, .inl r.2))]) := by
  refine ctr_entry (cc := cX8_pourFit) (maxL := 13) (ret := none) (lv0 := [(0, .ref ads), (1, .int nam), (2, .int se), (3, .ref adp)]) (by decide) rfl (Nat.le_of_ble_eq_true rfl) (rfl) ?_
  intro K hl9 hG9 hk hn9 hrt
  subst hl9
  subst hG9
  have hR9 : RoomGe rm_X8_pourFit rm_X8_pourFit := RoomGe.rf
  replace h := id_e h
  rw [em_X8_pourFit] at h
  refine v_aload_n hk dX8_pourFit_0 rfl ?_
  refine v_iload_n hk dX8_pourFit_1 rfl ?_
  obtain ⟨r_1, er_1, h⟩ := bd_e (g := id) rfl h
  refine v_callV (n := 1) (st := []) (b := ads) (T := TX8) (N := 6) hk dX8_pourFit_2 (c_X8_valuesOf (kl K) (kG K) ads adsv adsc nm rw sg ms nsv fsv nam r_1 er_1) rfl gd_X8_pourFit_X8_valuesOf rfl (by decide +kernel) (frok hR9 (Nat.le_of_ble_eq_true rfl) (Nat.le_of_ble_eq_true rfl)) (roomk hR9 (Nat.le_of_ble_eq_true rfl) (Nat.le_of_ble_eq_true rfl)) rfl rfl (Nat.le_of_ble_eq_true rfl) 0 rfl rfl [0, 1] [2, 3, 4] (wr := [(adsc, .inl (gI (kG K), nsc, .inl fsc)), (adp, .inr (4, [.ref adpw, .int lg])), (adpw, .inl (gI (kG K), npw, .inl fpw))]) rfl rfl (by decide) (by decide) (by decide) ?_
  intro v9 w9 hp9
  obtain ⟨rfl, rfl⟩ := hp9
  show V K 13 [(adsc, .inl (gI (kG K), nsc, .inl fsc)), (adp, .inr (4, [.ref adpw, .int lg])), (adpw, .inl (gI (kG K), npw, .inl fpw)), (ads, .inr (7, [.int nm, .int rw, .int sg, .int ms, .ref adsv, .ref adsc])), (adsv, .inl (gI (kG K), nsv, .inl fsv))] 0 0 5 [(0, .ref ads), (1, .int nam), (2, .int se), (3, .ref adp)] [.int r_1]
  refine v_istore hk dX8_pourFit_5 (by decide) [1, 2, 3, 4, 0] (lv' := [(0, .ref ads), (1, .int nam), (2, .int se), (3, .ref adp), (4, .int r_1)]) rfl ?_
  refine v_iconst (v := 3) hk dX8_pourFit_7 (by decide) ?_
  refine v_iconst (v := 2) hk dX8_pourFit_8 (by decide) ?_
  refine v_iload_n hk dX8_pourFit_9 rfl ?_
  refine v_imul hk dX8_pourFit_10 ?_
  refine v_ishl hk dX8_pourFit_11 ?_
  obtain ⟨x5_2, ex5_2, h⟩ := lt_e (g := id) h
  refine v_topi ex5_2.symm ?_
  refine v_istore hk dX8_pourFit_12 (by decide) [1, 2, 3, 4, 5, 0] (lv' := [(0, .ref ads), (1, .int nam), (2, .int se), (3, .ref adp), (4, .int r_1), (5, .int x5_2)]) rfl ?_
  refine v_iconst (v := 0) hk dX8_pourFit_14 (by decide) ?_
  refine v_istore hk dX8_pourFit_15 (by decide) [1, 2, 3, 4, 5, 6, 0] (lv' := [(0, .ref ads), (1, .int nam), (2, .int se), (3, .ref adp), (4, .int r_1), (5, .int x5_2), (6, .int 0)]) rfl ?_
  refine v_iload hk dX8_pourFit_17 rfl ?_
  refine v_istore hk dX8_pourFit_19 (by decide) [1, 2, 3, 4, 5, 6, 7, 0] (lv' := [(0, .ref ads), (1, .int nam), (2, .int se), (3, .ref adp), (4, .int r_1), (5, .int x5_2), (6, .int 0), (7, .int r_1)]) rfl ?_
  refine v_iconst (v := 0) hk dX8_pourFit_21 (by decide) ?_
  refine v_istore hk dX8_pourFit_22 (by decide) [1, 2, 3, 4, 5, 6, 7, 8, 0] (lv' := [(0, .ref ads), (1, .int nam), (2, .int se), (3, .ref adp), (4, .int r_1), (5, .int x5_2), (6, .int 0), (7, .int r_1), (8, .int 0)]) rfl ?_
  obtain ⟨b_34, eb_34, h⟩ := bd_e (g := id) rfl h
  refine L_X8_pourFit_24 hk hR9 ads adsv adsc adp adpw nm rw sg ms nsv fsv nsc fsc lg npw fpw nam se r_1 x5_2 b_34 (fun q_12 eq_12 => ?_) FU 0 r_1 0 eb_34
  · replace eq_12 := eq_12.symm
    subst eq_12
    refine v_iconst (v := 0) hk dX8_pourFit_70 (by decide) ?_
    refine v_istore hk dX8_pourFit_71 (by decide) [1, 2, 3, 4, 5, 6, 7, 8, 0] (lv' := [(0, .ref ads), (1, .int nam), (2, .int se), (3, .ref adp), (4, .int r_1), (5, .int x5_2), (6, .int q_12.1), (7, .int q_12.2.1), (8, .int 0)]) rfl ?_
    obtain ⟨b_33, eb_33, h⟩ := bd_e (g := id) rfl h
    refine L_X8_pourFit_73 hk hR9 ads adsv adsc adp adpw nm rw sg ms nsv fsv nsc fsc npw nam se r_1 x5_2 q_12 b_33 (fun q_32 eq_32 => ?_) FU 0 lg fpw eb_33
    · replace eq_32 := eq_32.symm
      subst eq_32
      replace h : some (q_32.2.1, q_32.2.2) = some r := h
      replace h := Option.some.inj h
      subst h
      refine v_perm [3, 4, 0, 1, 2] (ws' := [(ads, .inr (7, [.int nm, .int rw, .int sg, .int ms, .ref adsv, .ref adsc])), (adsv, .inl (gI (kG K), nsv, .inl fsv)), (adsc, .inl (gI (kG K), nsc, .inl fsc)), (adp, .inr (4, [.ref adpw, .int q_32.2.1])), (adpw, .inl (gI (kG K), npw, .inl q_32.2.2))]) rfl rfl (by decide) ?_
      refine hrt (none) _ _ _ _ _ (⟨rfl, rfl⟩) (Nat.zero_le _) (Nat.zero_le _) (dX8_pourFit_183)
abbrev rm_X9_cell : Room := { frames := 0, cells := 0, slots := 0, locals := 0 }
set_option maxHeartbeats 4000000 in
set_option maxRecDepth 100000 in
theorem c_X9_cell (l : Launch) (G : GG) (adt : Nat) (adtc : Nat) (ads : Nat) (adtf : Nat) (adts : Nat) (ntc : Nat) (ftc : Nat → Int32) (i : Int32) (j : Int32) (r : Int32) (h : m_X9_cell ntc ftc i j = some r) : Ctr l G yX9_cell w2_X9_cell rm_X9_cell [.ref adt, .int i, .int j] [(adt, .inr (8, [.ref ads, .ref adtc, .ref adtf, .ref adts])), (adtc, .inl (gI G, ntc, .inl ftc))] (fun v w => v = some (.int r) ∧ w = [(adt, .inr (8, [.ref ads, .ref adtc, .ref adtf, .ref adts])), (adtc, .inl (gI G, ntc, .inl ftc))]) := by
  refine ctr_entry (cc := cX9_cell) (maxL := 4) (ret := some .int) (lv0 := [(0, .ref adt), (1, .int i), (2, .int j)]) (by decide) rfl (Nat.le_of_ble_eq_true rfl) (rfl) ?_
  intro K hl9 hG9 hk hn9 hrt
  subst hl9
  subst hG9
  have hR9 : RoomGe rm_X9_cell rm_X9_cell := RoomGe.rf
  replace h := id_e h
  rw [em_X9_cell] at h
  refine v_iconst (v := 3) hk dX9_cell_0 (by decide) ?_
  refine v_iload_n hk dX9_cell_1 rfl ?_
  refine v_imul hk dX9_cell_2 ?_
  refine v_iload_n hk dX9_cell_3 rfl ?_
  refine v_iadd hk dX9_cell_4 ?_
  obtain ⟨x3_1, ex3_1, h⟩ := lt_e (g := id) h
  refine v_topi ex3_1.symm ?_
  refine v_istore_n hk dX9_cell_5 rfl (by decide) [1, 2, 3, 0] (lv' := [(0, .ref adt), (1, .int i), (2, .int j), (3, .int x3_1)]) rfl ?_
  refine v_iload_n hk dX9_cell_6 rfl ?_
  obtain ⟨y_2, ey_2, h⟩ := bd_e (g := id) rfl h
  have Jy_2 : V K 4 [(adt, .inr (8, [.ref ads, .ref adtc, .ref adtf, .ref adts])), (adtc, .inl (gI (kG K), ntc, .inl ftc))] 0 0 29 [(0, .ref adt), (1, .int i), (2, .int j), (3, .int x3_1)] [.int y_2] := by
    replace h : some y_2 = some r := h
    replace h := Option.some.inj h
    subst h
    refine hrt (some (.int y_2)) _ _ _ _ _ (⟨rfl, rfl⟩) (Nat.zero_le _) (Nat.zero_le _) (dX9_cell_29)
  clear h
  have h := id_e ey_2
  clear ey_2
  refine v_if_lt (tgt := 28) hk dX9_cell_7 (by decide) (fun hc => ?_) (fun hc => ?_)
  · replace h := it_t (g := id) h hc
    refine v_iconst (v := 0) hk dX9_cell_28 (by decide) ?_
    replace h : some (0 : Int32) = some y_2 := h
    replace h := Option.some.inj h
    subst h
    exact Jy_2
  · replace h := it_f (g := id) h hc
    refine v_iload_n hk dX9_cell_10 rfl ?_
    refine v_aload_n hk dX9_cell_11 rfl ?_
    refine v_get (C := RX9) (T := TX9) (N := 4) (ci := 8) (v := .ref adtc) hk dX9_cell_12 w2i_X9_cell_X90 0 rfl rfl 1 (by decide) (by decide +kernel) rfl rfl ?_
    refine v_alenI hk dX9_cell_15 1 rfl rfl ?_
    obtain ⟨y_3, ey_3, h⟩ := bd_e (g := id) rfl h
    have Jy_3 : V K 4 [(adt, .inr (8, [.ref ads, .ref adtc, .ref adtf, .ref adts])), (adtc, .inl (gI (kG K), ntc, .inl ftc))] 0 0 29 [(0, .ref adt), (1, .int i), (2, .int j), (3, .int x3_1)] [.int y_3] := by
      replace h : some (y_3 : Int32) = some y_2 := h
      replace h := Option.some.inj h
      subst h
      exact Jy_2
    clear h
    have h := id_e ey_3
    clear ey_3
    refine v_icmp_ge (tgt := 28) hk dX9_cell_16 (by decide) (fun hc => ?_) (fun hc => ?_)
    · replace h := it_t (g := id) h hc
      refine v_iconst (v := 0) hk dX9_cell_28 (by decide) ?_
      replace h : some (0 : Int32) = some y_3 := h
      replace h := Option.some.inj h
      subst h
      exact Jy_3
    · replace h := it_f (g := id) h hc
      refine v_aload_n hk dX9_cell_19 rfl ?_
      refine v_get (C := RX9) (T := TX9) (N := 4) (ci := 8) (v := .ref adtc) hk dX9_cell_20 w2i_X9_cell_X90 0 rfl rfl 1 (by decide) (by decide +kernel) rfl rfl ?_
      refine v_iload_n hk dX9_cell_23 rfl ?_
      obtain ⟨hi, h⟩ := ok_e (g := id) rfl h
      refine v_ialdV hk dX9_cell_24 1 rfl (ix_in hi) ?_
      refine v_goto (tgt := 29) hk dX9_cell_25 (by decide) ?_
      replace h : some (ftc x3_1.toNatClampNeg : Int32) = some y_3 := h
      replace h := Option.some.inj h
      subst h
      exact Jy_3
abbrev rm_X9_first : Room := { frames := 0, cells := 0, slots := 0, locals := 0 }
set_option maxHeartbeats 4000000 in
set_option maxRecDepth 100000 in
theorem c_X9_first (l : Launch) (G : GG) (adt : Nat) (adtf : Nat) (ads : Nat) (adtc : Nat) (adts : Nat) (ntf : Nat) (ftf : Nat → Int32) (k : Int32) (r : Int32) (h : m_X9_first ntf ftf k = some r) : Ctr l G yX9_first w2_X9_first rm_X9_first [.ref adt, .int k] [(adt, .inr (8, [.ref ads, .ref adtc, .ref adtf, .ref adts])), (adtf, .inl (gI G, ntf, .inl ftf))] (fun v w => v = some (.int r) ∧ w = [(adt, .inr (8, [.ref ads, .ref adtc, .ref adtf, .ref adts])), (adtf, .inl (gI G, ntf, .inl ftf))]) := by
  refine ctr_entry (cc := cX9_first) (maxL := 2) (ret := some .int) (lv0 := [(0, .ref adt), (1, .int k)]) (by decide) rfl (Nat.le_of_ble_eq_true rfl) (rfl) ?_
  intro K hl9 hG9 hk hn9 hrt
  subst hl9
  subst hG9
  have hR9 : RoomGe rm_X9_first rm_X9_first := RoomGe.rf
  replace h := id_e h
  rw [em_X9_first] at h
  refine v_iload_n hk dX9_first_0 rfl ?_
  obtain ⟨y_1, ey_1, h⟩ := bd_e (g := id) rfl h
  have Jy_1 : V K 2 [(adt, .inr (8, [.ref ads, .ref adtc, .ref adtf, .ref adts])), (adtf, .inl (gI (kG K), ntf, .inl ftf))] 0 0 23 [(0, .ref adt), (1, .int k)] [.int y_1] := by
    replace h : some y_1 = some r := h
    replace h := Option.some.inj h
    subst h
    refine hrt (some (.int y_1)) _ _ _ _ _ (⟨rfl, rfl⟩) (Nat.zero_le _) (Nat.zero_le _) (dX9_first_23)
  clear h
  have h := id_e ey_1
  clear ey_1
  refine v_if_lt (tgt := 22) hk dX9_first_1 (by decide) (fun hc => ?_) (fun hc => ?_)
  · replace h := it_t (g := id) h hc
    refine v_iconst (v := 0) hk dX9_first_22 (by decide) ?_
    replace h : some (0 : Int32) = some y_1 := h
    replace h := Option.some.inj h
    subst h
    exact Jy_1
  · replace h := it_f (g := id) h hc
    refine v_iload_n hk dX9_first_4 rfl ?_
    refine v_aload_n hk dX9_first_5 rfl ?_
    refine v_get (C := RX9) (T := TX9) (N := 4) (ci := 8) (v := .ref adtf) hk dX9_first_6 w2i_X9_first_X90 0 rfl rfl 2 (by decide) (by decide +kernel) rfl rfl ?_
    refine v_alenI hk dX9_first_9 1 rfl rfl ?_
    obtain ⟨y_2, ey_2, h⟩ := bd_e (g := id) rfl h
    have Jy_2 : V K 2 [(adt, .inr (8, [.ref ads, .ref adtc, .ref adtf, .ref adts])), (adtf, .inl (gI (kG K), ntf, .inl ftf))] 0 0 23 [(0, .ref adt), (1, .int k)] [.int y_2] := by
      replace h : some (y_2 : Int32) = some y_1 := h
      replace h := Option.some.inj h
      subst h
      exact Jy_1
    clear h
    have h := id_e ey_2
    clear ey_2
    refine v_icmp_ge (tgt := 22) hk dX9_first_10 (by decide) (fun hc => ?_) (fun hc => ?_)
    · replace h := it_t (g := id) h hc
      refine v_iconst (v := 0) hk dX9_first_22 (by decide) ?_
      replace h : some (0 : Int32) = some y_2 := h
      replace h := Option.some.inj h
      subst h
      exact Jy_2
    · replace h := it_f (g := id) h hc
      refine v_aload_n hk dX9_first_13 rfl ?_
      refine v_get (C := RX9) (T := TX9) (N := 4) (ci := 8) (v := .ref adtf) hk dX9_first_14 w2i_X9_first_X90 0 rfl rfl 2 (by decide) (by decide +kernel) rfl rfl ?_
      refine v_iload_n hk dX9_first_17 rfl ?_
      obtain ⟨hi, h⟩ := ok_e (g := id) rfl h
      refine v_ialdV hk dX9_first_18 1 rfl (ix_in hi) ?_
      refine v_goto (tgt := 23) hk dX9_first_19 (by decide) ?_
      replace h : some (ftf k.toNatClampNeg : Int32) = some y_2 := h
      replace h := Option.some.inj h
      subst h
      exact Jy_2
abbrev rm_X9_second : Room := { frames := 0, cells := 0, slots := 0, locals := 0 }
set_option maxHeartbeats 4000000 in
set_option maxRecDepth 100000 in
theorem c_X9_second (l : Launch) (G : GG) (adt : Nat) (adts : Nat) (ads : Nat) (adtc : Nat) (adtf : Nat) (nts : Nat) (fts : Nat → Int32) (k : Int32) (r : Int32) (h : m_X9_second nts fts k = some r) : Ctr l G yX9_second w2_X9_second rm_X9_second [.ref adt, .int k] [(adt, .inr (8, [.ref ads, .ref adtc, .ref adtf, .ref adts])), (adts, .inl (gI G, nts, .inl fts))] (fun v w => v = some (.int r) ∧ w = [(adt, .inr (8, [.ref ads, .ref adtc, .ref adtf, .ref adts])), (adts, .inl (gI G, nts, .inl fts))]) := by
  refine ctr_entry (cc := cX9_second) (maxL := 2) (ret := some .int) (lv0 := [(0, .ref adt), (1, .int k)]) (by decide) rfl (Nat.le_of_ble_eq_true rfl) (rfl) ?_
  intro K hl9 hG9 hk hn9 hrt
  subst hl9
  subst hG9
  have hR9 : RoomGe rm_X9_second rm_X9_second := RoomGe.rf
  replace h := id_e h
  rw [em_X9_second] at h
  refine v_iload_n hk dX9_second_0 rfl ?_
  obtain ⟨y_1, ey_1, h⟩ := bd_e (g := id) rfl h
  have Jy_1 : V K 2 [(adt, .inr (8, [.ref ads, .ref adtc, .ref adtf, .ref adts])), (adts, .inl (gI (kG K), nts, .inl fts))] 0 0 23 [(0, .ref adt), (1, .int k)] [.int y_1] := by
    replace h : some y_1 = some r := h
    replace h := Option.some.inj h
    subst h
    refine hrt (some (.int y_1)) _ _ _ _ _ (⟨rfl, rfl⟩) (Nat.zero_le _) (Nat.zero_le _) (dX9_second_23)
  clear h
  have h := id_e ey_1
  clear ey_1
  refine v_if_lt (tgt := 22) hk dX9_second_1 (by decide) (fun hc => ?_) (fun hc => ?_)
  · replace h := it_t (g := id) h hc
    refine v_iconst (v := 0) hk dX9_second_22 (by decide) ?_
    replace h : some (0 : Int32) = some y_1 := h
    replace h := Option.some.inj h
    subst h
    exact Jy_1
  · replace h := it_f (g := id) h hc
    refine v_iload_n hk dX9_second_4 rfl ?_
    refine v_aload_n hk dX9_second_5 rfl ?_
    refine v_get (C := RX9) (T := TX9) (N := 4) (ci := 8) (v := .ref adts) hk dX9_second_6 w2i_X9_second_X90 0 rfl rfl 3 (by decide) (by decide +kernel) rfl rfl ?_
    refine v_alenI hk dX9_second_9 1 rfl rfl ?_
    obtain ⟨y_2, ey_2, h⟩ := bd_e (g := id) rfl h
    have Jy_2 : V K 2 [(adt, .inr (8, [.ref ads, .ref adtc, .ref adtf, .ref adts])), (adts, .inl (gI (kG K), nts, .inl fts))] 0 0 23 [(0, .ref adt), (1, .int k)] [.int y_2] := by
      replace h : some (y_2 : Int32) = some y_1 := h
      replace h := Option.some.inj h
      subst h
      exact Jy_1
    clear h
    have h := id_e ey_2
    clear ey_2
    refine v_icmp_ge (tgt := 22) hk dX9_second_10 (by decide) (fun hc => ?_) (fun hc => ?_)
    · replace h := it_t (g := id) h hc
      refine v_iconst (v := 0) hk dX9_second_22 (by decide) ?_
      replace h : some (0 : Int32) = some y_2 := h
      replace h := Option.some.inj h
      subst h
      exact Jy_2
    · replace h := it_f (g := id) h hc
      refine v_aload_n hk dX9_second_13 rfl ?_
      refine v_get (C := RX9) (T := TX9) (N := 4) (ci := 8) (v := .ref adts) hk dX9_second_14 w2i_X9_second_X90 0 rfl rfl 3 (by decide) (by decide +kernel) rfl rfl ?_
      refine v_iload_n hk dX9_second_17 rfl ?_
      obtain ⟨hi, h⟩ := ok_e (g := id) rfl h
      refine v_ialdV hk dX9_second_18 1 rfl (ix_in hi) ?_
      refine v_goto (tgt := 23) hk dX9_second_19 (by decide) ?_
      replace h : some (fts k.toNatClampNeg : Int32) = some y_2 := h
      replace h := Option.some.inj h
      subst h
      exact Jy_2
abbrev rm_X9_count : Room := { frames := 2, cells := 0, slots := 0, locals := 43 }
set_option maxHeartbeats 4000000 in
set_option maxRecDepth 100000 in
theorem L_X9_count_3 {K : Cx} {R9 : Room} (hk : Ok K cX9_count 7 RX9 w2_X9_count R9) (hR9 : RoomGe R9 rm_X9_count) (adt : Nat) (adtc : Nat) (adtf : Nat) (adts : Nat) (ads : Nat) (adsc : Nat) (adsv : Nat) (ntc : Nat) (ntf : Nat) (ftf : Nat → Int32) (nts : Nat) (fts : Nat → Int32) (nm : Int32) (rw : Int32) (sg : Int32) (ms : Int32) (nsc : Nat) (fsc : Nat → Int32) (p0 : Int32) (p1 : Int32) (p2 : Int32) (v : Int32) (b9 : (Int32 × (Nat → Int32))) (kk0 : ∀ q9 : (Int32 × (Nat → Int32)), b9 = q9 → V K 7 [(adt, .inr (8, [.ref ads, .ref adtc, .ref adtf, .ref adts])), (adtc, .inl (gI (kG K), ntc, .inl q9.2)), (adtf, .inl (gI (kG K), ntf, .inl ftf)), (adts, .inl (gI (kG K), nts, .inl fts)), (ads, .inr (7, [.int nm, .int rw, .int sg, .int ms, .ref adsv, .ref adsc])), (adsc, .inl (gI (kG K), nsc, .inl fsc))] 0 0 27 [(0, .ref adt), (1, .int p0), (2, .int p1), (3, .int p2), (4, .int v), (5, .int q9.1)] []) : ∀ (nn : Nat) (i5_1 : Int32) (ftc_2 : Nat → Int32), lp (b_X9_count_3 ntc) nn (i5_1, ftc_2) = some b9 → V K 7 [(adt, .inr (8, [.ref ads, .ref adtc, .ref adtf, .ref adts])), (adtc, .inl (gI (kG K), ntc, .inl ftc_2)), (adtf, .inl (gI (kG K), ntf, .inl ftf)), (adts, .inl (gI (kG K), nts, .inl fts)), (ads, .inr (7, [.int nm, .int rw, .int sg, .int ms, .ref adsv, .ref adsc])), (adsc, .inl (gI (kG K), nsc, .inl fsc))] 0 0 3 [(0, .ref adt), (1, .int p0), (2, .int p1), (3, .int p2), (4, .int v), (5, .int i5_1)] [] := by
  intro nn
  induction nn with
  | zero => intro i5_1 ftc_2 h; exact absurd h (by simp [lp])
  | succ nn ih =>
    intro i5_1 ftc_2 h
    replace h := lp_s h
    rw [eb_X9_count_3] at h
    refine v_iload hk dX9_count_3 rfl ?_
    refine v_aload_n hk dX9_count_5 rfl ?_
    refine v_get (C := RX9) (T := TX9) (N := 4) (ci := 8) (v := .ref adtc) hk dX9_count_6 w2i_X9_count_X90 0 rfl rfl 1 (by decide) (by decide +kernel) rfl rfl ?_
    refine v_alenI hk dX9_count_9 1 rfl rfl ?_
    refine v_icmp_ge (tgt := 27) hk dX9_count_10 (by decide) (fun hc => ?_) (fun hc => ?_)
    · replace h := it_t (g := (lpk (lp (b_X9_count_3 ntc) nn))) h hc
      replace h : some (i5_1, ftc_2) = some b9 := h
      replace h := Option.some.inj h
      subst h
      exact kk0 _ rfl
    · replace h := it_f (g := (lpk (lp (b_X9_count_3 ntc) nn))) h hc
      refine v_aload_n hk dX9_count_13 rfl ?_
      refine v_get (C := RX9) (T := TX9) (N := 4) (ci := 8) (v := .ref adtc) hk dX9_count_14 w2i_X9_count_X90 0 rfl rfl 1 (by decide) (by decide +kernel) rfl rfl ?_
      refine v_iload hk dX9_count_17 rfl ?_
      refine v_iconst (v := 0) hk dX9_count_19 (by decide) ?_
      obtain ⟨hi, h⟩ := ok_e (g := (lpk (lp (b_X9_count_3 ntc) nn))) rfl h
      obtain ⟨ftc_3, eftc_3, h⟩ := lt_e (g := (lpk (lp (b_X9_count_3 ntc) nn))) h
      refine v_iastV hk dX9_count_20 1 rfl (ix_in hi) (ws' := [(adt, .inr (8, [.ref ads, .ref adtc, .ref adtf, .ref adts])), (adtc, .inl (gI (kG K), ntc, .inl ftc_3)), (adtf, .inl (gI (kG K), ntf, .inl ftf)), (adts, .inl (gI (kG K), nts, .inl fts)), (ads, .inr (7, [.int nm, .int rw, .int sg, .int ms, .ref adsv, .ref adsc])), (adsc, .inl (gI (kG K), nsc, .inl fsc))]) (by rw [eftc_3]; rfl) ?_
      obtain ⟨x5_4, ex5_4, h⟩ := lt_e (g := (lpk (lp (b_X9_count_3 ntc) nn))) h
      refine v_iinc (v := x5_4) hk dX9_count_21 rfl (by rw [ex5_4]; rfl) (by decide) [1, 2, 3, 4, 5, 0] (lv' := [(0, .ref adt), (1, .int p0), (2, .int p1), (3, .int p2), (4, .int v), (5, .int x5_4)]) rfl ?_
      refine v_goto (tgt := 3) hk dX9_count_24 (by decide) ?_
      exact ih x5_4 ftc_3 h
set_option maxHeartbeats 4000000 in
set_option maxRecDepth 100000 in
theorem L_X9_count_30 {K : Cx} {R9 : Room} (hk : Ok K cX9_count 7 RX9 w2_X9_count R9) (hR9 : RoomGe R9 rm_X9_count) (adt : Nat) (adtc : Nat) (adtf : Nat) (adts : Nat) (ads : Nat) (adsc : Nat) (adsv : Nat) (ntc : Nat) (ntf : Nat) (ftf : Nat → Int32) (nts : Nat) (fts : Nat → Int32) (nm : Int32) (rw : Int32) (sg : Int32) (ms : Int32) (nsc : Nat) (fsc : Nat → Int32) (p0 : Int32) (p1 : Int32) (p2 : Int32) (v : Int32) (b9 : (Int32 × (Nat → Int32))) (kk0 : ∀ q9 : (Int32 × (Nat → Int32)), b9 = q9 → V K 7 [(adt, .inr (8, [.ref ads, .ref adtc, .ref adtf, .ref adts])), (adtc, .inl (gI (kG K), ntc, .inl q9.2)), (adtf, .inl (gI (kG K), ntf, .inl ftf)), (adts, .inl (gI (kG K), nts, .inl fts)), (ads, .inr (7, [.int nm, .int rw, .int sg, .int ms, .ref adsv, .ref adsc])), (adsc, .inl (gI (kG K), nsc, .inl fsc))] 0 0 121 [(0, .ref adt), (1, .int p0), (2, .int p1), (3, .int p2), (4, .int v), (5, .int q9.1)] []) : ∀ (nn : Nat) (i5_6 : Int32) (ftc_7 : Nat → Int32), lp (b_X9_count_30 ntc nm rw sg ms nsc fsc p0 p1 p2 v) nn (i5_6, ftc_7) = some b9 → V K 7 [(adt, .inr (8, [.ref ads, .ref adtc, .ref adtf, .ref adts])), (adtc, .inl (gI (kG K), ntc, .inl ftc_7)), (adtf, .inl (gI (kG K), ntf, .inl ftf)), (adts, .inl (gI (kG K), nts, .inl fts)), (ads, .inr (7, [.int nm, .int rw, .int sg, .int ms, .ref adsv, .ref adsc])), (adsc, .inl (gI (kG K), nsc, .inl fsc))] 0 0 30 [(0, .ref adt), (1, .int p0), (2, .int p1), (3, .int p2), (4, .int v), (5, .int i5_6)] [] := by
  intro nn
  induction nn with
  | zero => intro i5_6 ftc_7 h; exact absurd h (by simp [lp])
  | succ nn ih =>
    intro i5_6 ftc_7 h
    replace h := lp_s h
    rw [eb_X9_count_30] at h
    refine v_iload hk dX9_count_30 rfl ?_
    refine v_aload_n hk dX9_count_32 rfl ?_
    refine v_get (C := RX9) (T := TX9) (N := 4) (ci := 8) (v := .ref ads) hk dX9_count_33 w2i_X9_count_X90 0 rfl rfl 0 (by decide) (by decide +kernel) rfl rfl ?_
    refine v_get (C := RX8) (T := TX8) (N := 6) (ci := 7) (v := .int rw) hk dX9_count_36 w2i_X9_count_X80 4 rfl rfl 1 (by decide) (by decide +kernel) rfl rfl ?_
    refine v_icmp_ge (tgt := 121) hk dX9_count_39 (by decide) (fun hc => ?_) (fun hc => ?_)
    · replace h := it_t (g := (lpk (lp (b_X9_count_30 ntc nm rw sg ms nsc fsc p0 p1 p2 v) nn))) h hc
      replace h : some (i5_6, ftc_7) = some b9 := h
      replace h := Option.some.inj h
      subst h
      exact kk0 _ rfl
    · replace h := it_f (g := (lpk (lp (b_X9_count_30 ntc nm rw sg ms nsc fsc p0 p1 p2 v) nn))) h hc
      refine v_iload_n hk dX9_count_42 rfl ?_
      refine v_if_lt (tgt := 64) hk dX9_count_43 (by decide) (fun hc => ?_) (fun hc => ?_)
      · replace h := it_t (g := (lpk (lp (b_X9_count_30 ntc nm rw sg ms nsc fsc p0 p1 p2 v) nn))) h hc
        refine v_iconst (v := 3) hk dX9_count_64 (by decide) ?_
        refine v_aload_n hk dX9_count_65 rfl ?_
        refine v_get (C := RX9) (T := TX9) (N := 4) (ci := 8) (v := .ref ads) hk dX9_count_66 w2i_X9_count_X90 0 rfl rfl 0 (by decide) (by decide +kernel) rfl rfl ?_
        refine v_iload hk dX9_count_69 rfl ?_
        refine v_iload_n hk dX9_count_71 rfl ?_
        obtain ⟨r_8, er_8, h⟩ := bd_e (g := (lpk (lp (b_X9_count_30 ntc nm rw sg ms nsc fsc p0 p1 p2 v) nn))) rfl h
        refine v_callV (n := 2) (st := [.int 3]) (b := ads) (T := TX8) (N := 6) hk dX9_count_72 (c_X8_valueIn (kl K) (kG K) ads adsc adsv nm rw sg ms nsc fsc i5_6 p0 r_8 er_8) rfl gd_X9_count_X8_valueIn rfl (by decide +kernel) (frok hR9 (Nat.le_of_ble_eq_true rfl) (Nat.le_of_ble_eq_true rfl)) (roomk hR9 (Nat.le_of_ble_eq_true rfl) (Nat.le_of_ble_eq_true rfl)) rfl rfl (Nat.le_of_ble_eq_true rfl) 4 rfl rfl [4, 5] [0, 1, 2, 3] (wr := [(adt, .inr (8, [.ref ads, .ref adtc, .ref adtf, .ref adts])), (adtc, .inl (gI (kG K), ntc, .inl ftc_7)), (adtf, .inl (gI (kG K), ntf, .inl ftf)), (adts, .inl (gI (kG K), nts, .inl fts))]) rfl rfl (by decide) (by decide) (by decide) ?_
        intro v9 w9 hp9
        obtain ⟨rfl, rfl⟩ := hp9
        show V K 7 [(adt, .inr (8, [.ref ads, .ref adtc, .ref adtf, .ref adts])), (adtc, .inl (gI (kG K), ntc, .inl ftc_7)), (adtf, .inl (gI (kG K), ntf, .inl ftf)), (adts, .inl (gI (kG K), nts, .inl fts)), (ads, .inr (7, [.int nm, .int rw, .int sg, .int ms, .ref adsv, .ref adsc])), (adsc, .inl (gI (kG K), nsc, .inl fsc))] 0 0 75 [(0, .ref adt), (1, .int p0), (2, .int p1), (3, .int p2), (4, .int v), (5, .int i5_6)] [.int r_8, .int 3]
        refine v_imul hk dX9_count_75 ?_
        refine v_aload_n hk dX9_count_76 rfl ?_
        refine v_get (C := RX9) (T := TX9) (N := 4) (ci := 8) (v := .ref ads) hk dX9_count_77 w2i_X9_count_X90 0 rfl rfl 0 (by decide) (by decide +kernel) rfl rfl ?_
        refine v_iload hk dX9_count_80 rfl ?_
        refine v_iload_n hk dX9_count_82 rfl ?_
        obtain ⟨r_9, er_9, h⟩ := bd_e (g := (lpk (lp (b_X9_count_30 ntc nm rw sg ms nsc fsc p0 p1 p2 v) nn))) rfl h
        refine v_callV (n := 2) (st := [.int (3 * r_8)]) (b := ads) (T := TX8) (N := 6) hk dX9_count_83 (c_X8_valueIn (kl K) (kG K) ads adsc adsv nm rw sg ms nsc fsc i5_6 p1 r_9 er_9) rfl gd_X9_count_X8_valueIn rfl (by decide +kernel) (frok hR9 (Nat.le_of_ble_eq_true rfl) (Nat.le_of_ble_eq_true rfl)) (roomk hR9 (Nat.le_of_ble_eq_true rfl) (Nat.le_of_ble_eq_true rfl)) rfl rfl (Nat.le_of_ble_eq_true rfl) 4 rfl rfl [4, 5] [0, 1, 2, 3] (wr := [(adt, .inr (8, [.ref ads, .ref adtc, .ref adtf, .ref adts])), (adtc, .inl (gI (kG K), ntc, .inl ftc_7)), (adtf, .inl (gI (kG K), ntf, .inl ftf)), (adts, .inl (gI (kG K), nts, .inl fts))]) rfl rfl (by decide) (by decide) (by decide) ?_
        intro v9 w9 hp9
        obtain ⟨rfl, rfl⟩ := hp9
        show V K 7 [(adt, .inr (8, [.ref ads, .ref adtc, .ref adtf, .ref adts])), (adtc, .inl (gI (kG K), ntc, .inl ftc_7)), (adtf, .inl (gI (kG K), ntf, .inl ftf)), (adts, .inl (gI (kG K), nts, .inl fts)), (ads, .inr (7, [.int nm, .int rw, .int sg, .int ms, .ref adsv, .ref adsc])), (adsc, .inl (gI (kG K), nsc, .inl fsc))] 0 0 86 [(0, .ref adt), (1, .int p0), (2, .int p1), (3, .int p2), (4, .int v), (5, .int i5_6)] [.int r_9, .int (3 * r_8)]
        refine v_iadd hk dX9_count_86 ?_
        obtain ⟨x6_10, ex6_10, h⟩ := lt_e (g := (lpk (lp (b_X9_count_30 ntc nm rw sg ms nsc fsc p0 p1 p2 v) nn))) h
        refine v_topi ex6_10.symm ?_
        refine v_istore hk dX9_count_87 (by decide) [1, 2, 3, 4, 5, 6, 0] (lv' := [(0, .ref adt), (1, .int p0), (2, .int p1), (3, .int p2), (4, .int v), (5, .int i5_6), (6, .int x6_10)]) rfl ?_
        refine v_iload hk dX9_count_89 rfl ?_
        refine v_if_lt (tgt := 115) hk dX9_count_91 (by decide) (fun hc => ?_) (fun hc => ?_)
        · replace h := it_t (g := (lpk (lp (b_X9_count_30 ntc nm rw sg ms nsc fsc p0 p1 p2 v) nn))) h hc
          obtain ⟨x5_11, ex5_11, h⟩ := lt_e (g := (lpk (lp (b_X9_count_30 ntc nm rw sg ms nsc fsc p0 p1 p2 v) nn))) h
          refine v_iinc (v := x5_11) hk dX9_count_115 rfl (by rw [ex5_11]; rfl) (by decide) [1, 2, 3, 4, 5, 0, 6] (lv' := [(0, .ref adt), (1, .int p0), (2, .int p1), (3, .int p2), (4, .int v), (5, .int x5_11), (6, .int x6_10)]) rfl ?_
          refine v_goto (tgt := 30) hk dX9_count_118 (by decide) ?_
          refine v_loc [0, 1, 2, 3, 4, 5] (lv' := [(0, .ref adt), (1, .int p0), (2, .int p1), (3, .int p2), (4, .int v), (5, .int x5_11)]) rfl ?_
          exact ih x5_11 ftc_7 h
        · replace h := it_f (g := (lpk (lp (b_X9_count_30 ntc nm rw sg ms nsc fsc p0 p1 p2 v) nn))) h hc
          refine v_iload hk dX9_count_94 rfl ?_
          refine v_aload_n hk dX9_count_96 rfl ?_
          refine v_get (C := RX9) (T := TX9) (N := 4) (ci := 8) (v := .ref adtc) hk dX9_count_97 w2i_X9_count_X90 0 rfl rfl 1 (by decide) (by decide +kernel) rfl rfl ?_
          refine v_alenI hk dX9_count_100 1 rfl rfl ?_
          refine v_icmp_ge (tgt := 115) hk dX9_count_101 (by decide) (fun hc => ?_) (fun hc => ?_)
          · replace h := it_t (g := (lpk (lp (b_X9_count_30 ntc nm rw sg ms nsc fsc p0 p1 p2 v) nn))) h hc
            obtain ⟨x5_12, ex5_12, h⟩ := lt_e (g := (lpk (lp (b_X9_count_30 ntc nm rw sg ms nsc fsc p0 p1 p2 v) nn))) h
            refine v_iinc (v := x5_12) hk dX9_count_115 rfl (by rw [ex5_12]; rfl) (by decide) [1, 2, 3, 4, 5, 0, 6] (lv' := [(0, .ref adt), (1, .int p0), (2, .int p1), (3, .int p2), (4, .int v), (5, .int x5_12), (6, .int x6_10)]) rfl ?_
            refine v_goto (tgt := 30) hk dX9_count_118 (by decide) ?_
            refine v_loc [0, 1, 2, 3, 4, 5] (lv' := [(0, .ref adt), (1, .int p0), (2, .int p1), (3, .int p2), (4, .int v), (5, .int x5_12)]) rfl ?_
            exact ih x5_12 ftc_7 h
          · replace h := it_f (g := (lpk (lp (b_X9_count_30 ntc nm rw sg ms nsc fsc p0 p1 p2 v) nn))) h hc
            refine v_aload_n hk dX9_count_104 rfl ?_
            refine v_get (C := RX9) (T := TX9) (N := 4) (ci := 8) (v := .ref adtc) hk dX9_count_105 w2i_X9_count_X90 0 rfl rfl 1 (by decide) (by decide +kernel) rfl rfl ?_
            refine v_iload hk dX9_count_108 rfl ?_
            refine v_dup2 hk dX9_count_110 rfl rfl ?_
            obtain ⟨hi, h⟩ := ok_e (g := (lpk (lp (b_X9_count_30 ntc nm rw sg ms nsc fsc p0 p1 p2 v) nn))) rfl h
            refine v_ialdV hk dX9_count_111 1 rfl (ix_in hi) ?_
            refine v_iconst (v := 1) hk dX9_count_112 (by decide) ?_
            refine v_iadd hk dX9_count_113 ?_
            obtain ⟨hi, h⟩ := ok_e (g := (lpk (lp (b_X9_count_30 ntc nm rw sg ms nsc fsc p0 p1 p2 v) nn))) rfl h
            obtain ⟨ftc_13, eftc_13, h⟩ := lt_e (g := (lpk (lp (b_X9_count_30 ntc nm rw sg ms nsc fsc p0 p1 p2 v) nn))) h
            refine v_iastV hk dX9_count_114 1 rfl (ix_in hi) (ws' := [(adt, .inr (8, [.ref ads, .ref adtc, .ref adtf, .ref adts])), (adtc, .inl (gI (kG K), ntc, .inl ftc_13)), (adtf, .inl (gI (kG K), ntf, .inl ftf)), (adts, .inl (gI (kG K), nts, .inl fts)), (ads, .inr (7, [.int nm, .int rw, .int sg, .int ms, .ref adsv, .ref adsc])), (adsc, .inl (gI (kG K), nsc, .inl fsc))]) (by rw [eftc_13]; rfl) ?_
            obtain ⟨x5_14, ex5_14, h⟩ := lt_e (g := (lpk (lp (b_X9_count_30 ntc nm rw sg ms nsc fsc p0 p1 p2 v) nn))) h
            refine v_iinc (v := x5_14) hk dX9_count_115 rfl (by rw [ex5_14]; rfl) (by decide) [1, 2, 3, 4, 5, 0, 6] (lv' := [(0, .ref adt), (1, .int p0), (2, .int p1), (3, .int p2), (4, .int v), (5, .int x5_14), (6, .int x6_10)]) rfl ?_
            refine v_goto (tgt := 30) hk dX9_count_118 (by decide) ?_
            refine v_loc [0, 1, 2, 3, 4, 5] (lv' := [(0, .ref adt), (1, .int p0), (2, .int p1), (3, .int p2), (4, .int v), (5, .int x5_14)]) rfl ?_
            exact ih x5_14 ftc_13 h
      · replace h := it_f (g := (lpk (lp (b_X9_count_30 ntc nm rw sg ms nsc fsc p0 p1 p2 v) nn))) h hc
        refine v_aload_n hk dX9_count_46 rfl ?_
        refine v_get (C := RX9) (T := TX9) (N := 4) (ci := 8) (v := .ref ads) hk dX9_count_47 w2i_X9_count_X90 0 rfl rfl 0 (by decide) (by decide +kernel) rfl rfl ?_
        refine v_iload hk dX9_count_50 rfl ?_
        refine v_iload_n hk dX9_count_52 rfl ?_
        obtain ⟨r_15, er_15, h⟩ := bd_e (g := (lpk (lp (b_X9_count_30 ntc nm rw sg ms nsc fsc p0 p1 p2 v) nn))) rfl h
        refine v_callV (n := 2) (st := []) (b := ads) (T := TX8) (N := 6) hk dX9_count_53 (c_X8_valueIn (kl K) (kG K) ads adsc adsv nm rw sg ms nsc fsc i5_6 p2 r_15 er_15) rfl gd_X9_count_X8_valueIn rfl (by decide +kernel) (frok hR9 (Nat.le_of_ble_eq_true rfl) (Nat.le_of_ble_eq_true rfl)) (roomk hR9 (Nat.le_of_ble_eq_true rfl) (Nat.le_of_ble_eq_true rfl)) rfl rfl (Nat.le_of_ble_eq_true rfl) 4 rfl rfl [4, 5] [0, 1, 2, 3] (wr := [(adt, .inr (8, [.ref ads, .ref adtc, .ref adtf, .ref adts])), (adtc, .inl (gI (kG K), ntc, .inl ftc_7)), (adtf, .inl (gI (kG K), ntf, .inl ftf)), (adts, .inl (gI (kG K), nts, .inl fts))]) rfl rfl (by decide) (by decide) (by decide) ?_
        intro v9 w9 hp9
        obtain ⟨rfl, rfl⟩ := hp9
        show V K 7 [(adt, .inr (8, [.ref ads, .ref adtc, .ref adtf, .ref adts])), (adtc, .inl (gI (kG K), ntc, .inl ftc_7)), (adtf, .inl (gI (kG K), ntf, .inl ftf)), (adts, .inl (gI (kG K), nts, .inl fts)), (ads, .inr (7, [.int nm, .int rw, .int sg, .int ms, .ref adsv, .ref adsc])), (adsc, .inl (gI (kG K), nsc, .inl fsc))] 0 0 56 [(0, .ref adt), (1, .int p0), (2, .int p1), (3, .int p2), (4, .int v), (5, .int i5_6)] [.int r_15]
        refine v_iload hk dX9_count_56 rfl ?_
        obtain ⟨y_16, ey_16, h⟩ := bd_e (g := (lpk (lp (b_X9_count_30 ntc nm rw sg ms nsc fsc p0 p1 p2 v) nn))) rfl h
        have Jay_16 : y_16 = true → V K 7 [(adt, .inr (8, [.ref ads, .ref adtc, .ref adtf, .ref adts])), (adtc, .inl (gI (kG K), ntc, .inl ftc_7)), (adtf, .inl (gI (kG K), ntf, .inl ftf)), (adts, .inl (gI (kG K), nts, .inl fts)), (ads, .inr (7, [.int nm, .int rw, .int sg, .int ms, .ref adsv, .ref adsc])), (adsc, .inl (gI (kG K), nsc, .inl fsc))] 0 0 64 [(0, .ref adt), (1, .int p0), (2, .int p1), (3, .int p2), (4, .int v), (5, .int i5_6)] [] := by
          intro hz9
          replace h := it_t (g := (lpk (lp (b_X9_count_30 ntc nm rw sg ms nsc fsc p0 p1 p2 v) nn))) h hz9
          refine v_iconst (v := 3) hk dX9_count_64 (by decide) ?_
          refine v_aload_n hk dX9_count_65 rfl ?_
          refine v_get (C := RX9) (T := TX9) (N := 4) (ci := 8) (v := .ref ads) hk dX9_count_66 w2i_X9_count_X90 0 rfl rfl 0 (by decide) (by decide +kernel) rfl rfl ?_
          refine v_iload hk dX9_count_69 rfl ?_
          refine v_iload_n hk dX9_count_71 rfl ?_
          obtain ⟨r_17, er_17, h⟩ := bd_e (g := (lpk (lp (b_X9_count_30 ntc nm rw sg ms nsc fsc p0 p1 p2 v) nn))) rfl h
          refine v_callV (n := 2) (st := [.int 3]) (b := ads) (T := TX8) (N := 6) hk dX9_count_72 (c_X8_valueIn (kl K) (kG K) ads adsc adsv nm rw sg ms nsc fsc i5_6 p0 r_17 er_17) rfl gd_X9_count_X8_valueIn rfl (by decide +kernel) (frok hR9 (Nat.le_of_ble_eq_true rfl) (Nat.le_of_ble_eq_true rfl)) (roomk hR9 (Nat.le_of_ble_eq_true rfl) (Nat.le_of_ble_eq_true rfl)) rfl rfl (Nat.le_of_ble_eq_true rfl) 4 rfl rfl [4, 5] [0, 1, 2, 3] (wr := [(adt, .inr (8, [.ref ads, .ref adtc, .ref adtf, .ref adts])), (adtc, .inl (gI (kG K), ntc, .inl ftc_7)), (adtf, .inl (gI (kG K), ntf, .inl ftf)), (adts, .inl (gI (kG K), nts, .inl fts))]) rfl rfl (by decide) (by decide) (by decide) ?_
          intro v9 w9 hp9
          obtain ⟨rfl, rfl⟩ := hp9
          show V K 7 [(adt, .inr (8, [.ref ads, .ref adtc, .ref adtf, .ref adts])), (adtc, .inl (gI (kG K), ntc, .inl ftc_7)), (adtf, .inl (gI (kG K), ntf, .inl ftf)), (adts, .inl (gI (kG K), nts, .inl fts)), (ads, .inr (7, [.int nm, .int rw, .int sg, .int ms, .ref adsv, .ref adsc])), (adsc, .inl (gI (kG K), nsc, .inl fsc))] 0 0 75 [(0, .ref adt), (1, .int p0), (2, .int p1), (3, .int p2), (4, .int v), (5, .int i5_6)] [.int r_17, .int 3]
          refine v_imul hk dX9_count_75 ?_
          refine v_aload_n hk dX9_count_76 rfl ?_
          refine v_get (C := RX9) (T := TX9) (N := 4) (ci := 8) (v := .ref ads) hk dX9_count_77 w2i_X9_count_X90 0 rfl rfl 0 (by decide) (by decide +kernel) rfl rfl ?_
          refine v_iload hk dX9_count_80 rfl ?_
          refine v_iload_n hk dX9_count_82 rfl ?_
          obtain ⟨r_18, er_18, h⟩ := bd_e (g := (lpk (lp (b_X9_count_30 ntc nm rw sg ms nsc fsc p0 p1 p2 v) nn))) rfl h
          refine v_callV (n := 2) (st := [.int (3 * r_17)]) (b := ads) (T := TX8) (N := 6) hk dX9_count_83 (c_X8_valueIn (kl K) (kG K) ads adsc adsv nm rw sg ms nsc fsc i5_6 p1 r_18 er_18) rfl gd_X9_count_X8_valueIn rfl (by decide +kernel) (frok hR9 (Nat.le_of_ble_eq_true rfl) (Nat.le_of_ble_eq_true rfl)) (roomk hR9 (Nat.le_of_ble_eq_true rfl) (Nat.le_of_ble_eq_true rfl)) rfl rfl (Nat.le_of_ble_eq_true rfl) 4 rfl rfl [4, 5] [0, 1, 2, 3] (wr := [(adt, .inr (8, [.ref ads, .ref adtc, .ref adtf, .ref adts])), (adtc, .inl (gI (kG K), ntc, .inl ftc_7)), (adtf, .inl (gI (kG K), ntf, .inl ftf)), (adts, .inl (gI (kG K), nts, .inl fts))]) rfl rfl (by decide) (by decide) (by decide) ?_
          intro v9 w9 hp9
          obtain ⟨rfl, rfl⟩ := hp9
          show V K 7 [(adt, .inr (8, [.ref ads, .ref adtc, .ref adtf, .ref adts])), (adtc, .inl (gI (kG K), ntc, .inl ftc_7)), (adtf, .inl (gI (kG K), ntf, .inl ftf)), (adts, .inl (gI (kG K), nts, .inl fts)), (ads, .inr (7, [.int nm, .int rw, .int sg, .int ms, .ref adsv, .ref adsc])), (adsc, .inl (gI (kG K), nsc, .inl fsc))] 0 0 86 [(0, .ref adt), (1, .int p0), (2, .int p1), (3, .int p2), (4, .int v), (5, .int i5_6)] [.int r_18, .int (3 * r_17)]
          refine v_iadd hk dX9_count_86 ?_
          obtain ⟨x6_19, ex6_19, h⟩ := lt_e (g := (lpk (lp (b_X9_count_30 ntc nm rw sg ms nsc fsc p0 p1 p2 v) nn))) h
          refine v_topi ex6_19.symm ?_
          refine v_istore hk dX9_count_87 (by decide) [1, 2, 3, 4, 5, 6, 0] (lv' := [(0, .ref adt), (1, .int p0), (2, .int p1), (3, .int p2), (4, .int v), (5, .int i5_6), (6, .int x6_19)]) rfl ?_
          refine v_iload hk dX9_count_89 rfl ?_
          refine v_if_lt (tgt := 115) hk dX9_count_91 (by decide) (fun hc => ?_) (fun hc => ?_)
          · replace h := it_t (g := (lpk (lp (b_X9_count_30 ntc nm rw sg ms nsc fsc p0 p1 p2 v) nn))) h hc
            obtain ⟨x5_20, ex5_20, h⟩ := lt_e (g := (lpk (lp (b_X9_count_30 ntc nm rw sg ms nsc fsc p0 p1 p2 v) nn))) h
            refine v_iinc (v := x5_20) hk dX9_count_115 rfl (by rw [ex5_20]; rfl) (by decide) [1, 2, 3, 4, 5, 0, 6] (lv' := [(0, .ref adt), (1, .int p0), (2, .int p1), (3, .int p2), (4, .int v), (5, .int x5_20), (6, .int x6_19)]) rfl ?_
            refine v_goto (tgt := 30) hk dX9_count_118 (by decide) ?_
            refine v_loc [0, 1, 2, 3, 4, 5] (lv' := [(0, .ref adt), (1, .int p0), (2, .int p1), (3, .int p2), (4, .int v), (5, .int x5_20)]) rfl ?_
            exact ih x5_20 ftc_7 h
          · replace h := it_f (g := (lpk (lp (b_X9_count_30 ntc nm rw sg ms nsc fsc p0 p1 p2 v) nn))) h hc
            refine v_iload hk dX9_count_94 rfl ?_
            refine v_aload_n hk dX9_count_96 rfl ?_
            refine v_get (C := RX9) (T := TX9) (N := 4) (ci := 8) (v := .ref adtc) hk dX9_count_97 w2i_X9_count_X90 0 rfl rfl 1 (by decide) (by decide +kernel) rfl rfl ?_
            refine v_alenI hk dX9_count_100 1 rfl rfl ?_
            refine v_icmp_ge (tgt := 115) hk dX9_count_101 (by decide) (fun hc => ?_) (fun hc => ?_)
            · replace h := it_t (g := (lpk (lp (b_X9_count_30 ntc nm rw sg ms nsc fsc p0 p1 p2 v) nn))) h hc
              obtain ⟨x5_21, ex5_21, h⟩ := lt_e (g := (lpk (lp (b_X9_count_30 ntc nm rw sg ms nsc fsc p0 p1 p2 v) nn))) h
              refine v_iinc (v := x5_21) hk dX9_count_115 rfl (by rw [ex5_21]; rfl) (by decide) [1, 2, 3, 4, 5, 0, 6] (lv' := [(0, .ref adt), (1, .int p0), (2, .int p1), (3, .int p2), (4, .int v), (5, .int x5_21), (6, .int x6_19)]) rfl ?_
              refine v_goto (tgt := 30) hk dX9_count_118 (by decide) ?_
              refine v_loc [0, 1, 2, 3, 4, 5] (lv' := [(0, .ref adt), (1, .int p0), (2, .int p1), (3, .int p2), (4, .int v), (5, .int x5_21)]) rfl ?_
              exact ih x5_21 ftc_7 h
            · replace h := it_f (g := (lpk (lp (b_X9_count_30 ntc nm rw sg ms nsc fsc p0 p1 p2 v) nn))) h hc
              refine v_aload_n hk dX9_count_104 rfl ?_
              refine v_get (C := RX9) (T := TX9) (N := 4) (ci := 8) (v := .ref adtc) hk dX9_count_105 w2i_X9_count_X90 0 rfl rfl 1 (by decide) (by decide +kernel) rfl rfl ?_
              refine v_iload hk dX9_count_108 rfl ?_
              refine v_dup2 hk dX9_count_110 rfl rfl ?_
              obtain ⟨hi, h⟩ := ok_e (g := (lpk (lp (b_X9_count_30 ntc nm rw sg ms nsc fsc p0 p1 p2 v) nn))) rfl h
              refine v_ialdV hk dX9_count_111 1 rfl (ix_in hi) ?_
              refine v_iconst (v := 1) hk dX9_count_112 (by decide) ?_
              refine v_iadd hk dX9_count_113 ?_
              obtain ⟨hi, h⟩ := ok_e (g := (lpk (lp (b_X9_count_30 ntc nm rw sg ms nsc fsc p0 p1 p2 v) nn))) rfl h
              obtain ⟨ftc_22, eftc_22, h⟩ := lt_e (g := (lpk (lp (b_X9_count_30 ntc nm rw sg ms nsc fsc p0 p1 p2 v) nn))) h
              refine v_iastV hk dX9_count_114 1 rfl (ix_in hi) (ws' := [(adt, .inr (8, [.ref ads, .ref adtc, .ref adtf, .ref adts])), (adtc, .inl (gI (kG K), ntc, .inl ftc_22)), (adtf, .inl (gI (kG K), ntf, .inl ftf)), (adts, .inl (gI (kG K), nts, .inl fts)), (ads, .inr (7, [.int nm, .int rw, .int sg, .int ms, .ref adsv, .ref adsc])), (adsc, .inl (gI (kG K), nsc, .inl fsc))]) (by rw [eftc_22]; rfl) ?_
              obtain ⟨x5_23, ex5_23, h⟩ := lt_e (g := (lpk (lp (b_X9_count_30 ntc nm rw sg ms nsc fsc p0 p1 p2 v) nn))) h
              refine v_iinc (v := x5_23) hk dX9_count_115 rfl (by rw [ex5_23]; rfl) (by decide) [1, 2, 3, 4, 5, 0, 6] (lv' := [(0, .ref adt), (1, .int p0), (2, .int p1), (3, .int p2), (4, .int v), (5, .int x5_23), (6, .int x6_19)]) rfl ?_
              refine v_goto (tgt := 30) hk dX9_count_118 (by decide) ?_
              refine v_loc [0, 1, 2, 3, 4, 5] (lv' := [(0, .ref adt), (1, .int p0), (2, .int p1), (3, .int p2), (4, .int v), (5, .int x5_23)]) rfl ?_
              exact ih x5_23 ftc_22 h
        have Jby_16 : y_16 = false → V K 7 [(adt, .inr (8, [.ref ads, .ref adtc, .ref adtf, .ref adts])), (adtc, .inl (gI (kG K), ntc, .inl ftc_7)), (adtf, .inl (gI (kG K), ntf, .inl ftf)), (adts, .inl (gI (kG K), nts, .inl fts)), (ads, .inr (7, [.int nm, .int rw, .int sg, .int ms, .ref adsv, .ref adsc])), (adsc, .inl (gI (kG K), nsc, .inl fsc))] 0 0 115 [(0, .ref adt), (1, .int p0), (2, .int p1), (3, .int p2), (4, .int v), (5, .int i5_6)] [] := by
          intro hz9
          replace h := it_f (g := (lpk (lp (b_X9_count_30 ntc nm rw sg ms nsc fsc p0 p1 p2 v) nn))) h (by rw [hz9]; decide)
          obtain ⟨x5_24, ex5_24, h⟩ := lt_e (g := (lpk (lp (b_X9_count_30 ntc nm rw sg ms nsc fsc p0 p1 p2 v) nn))) h
          refine v_iinc (v := x5_24) hk dX9_count_115 rfl (by rw [ex5_24]; rfl) (by decide) [1, 2, 3, 4, 5, 0] (lv' := [(0, .ref adt), (1, .int p0), (2, .int p1), (3, .int p2), (4, .int v), (5, .int x5_24)]) rfl ?_
          refine v_goto (tgt := 30) hk dX9_count_118 (by decide) ?_
          exact ih x5_24 ftc_7 h
        clear h
        have h := id_e ey_16
        clear ey_16
        refine v_icmp_eq (tgt := 64) hk dX9_count_58 (by decide) (fun hc => ?_) (fun hc => ?_)
        · replace h := it_t (g := id) h hc
          replace h : some true = some y_16 := h
          replace h := Option.some.inj h
          subst h
          exact Jay_16 rfl
        · replace h := it_f (g := id) h hc
          refine v_goto (tgt := 115) hk dX9_count_61 (by decide) ?_
          replace h : some false = some y_16 := h
          replace h := Option.some.inj h
          subst h
          exact Jby_16 rfl
set_option maxHeartbeats 4000000 in
set_option maxRecDepth 100000 in
theorem L_X9_count_124 {K : Cx} {R9 : Room} (hk : Ok K cX9_count 7 RX9 w2_X9_count R9) (hR9 : RoomGe R9 rm_X9_count) (adt : Nat) (adtc : Nat) (adtf : Nat) (adts : Nat) (ads : Nat) (adsc : Nat) (adsv : Nat) (ntc : Nat) (ntf : Nat) (nts : Nat) (nm : Int32) (rw : Int32) (sg : Int32) (ms : Int32) (nsc : Nat) (fsc : Nat → Int32) (p0 : Int32) (p1 : Int32) (p2 : Int32) (v : Int32) (q_25 : Int32 × (Nat → Int32)) (b9 : (Int32 × (Nat → Int32) × (Nat → Int32))) (kk0 : ∀ q9 : (Int32 × (Nat → Int32) × (Nat → Int32)), b9 = q9 → V K 7 [(adt, .inr (8, [.ref ads, .ref adtc, .ref adtf, .ref adts])), (adtc, .inl (gI (kG K), ntc, .inl q_25.2)), (adtf, .inl (gI (kG K), ntf, .inl q9.2.1)), (adts, .inl (gI (kG K), nts, .inl q9.2.2)), (ads, .inr (7, [.int nm, .int rw, .int sg, .int ms, .ref adsv, .ref adsc])), (adsc, .inl (gI (kG K), nsc, .inl fsc))] 0 0 216 [(0, .ref adt), (1, .int p0), (2, .int p1), (3, .int p2), (4, .int v), (5, .int q9.1)] []) : ∀ (nn : Nat) (i5_26 : Int32) (ftf_27 : Nat → Int32) (fts_28 : Nat → Int32), lp (b_X9_count_124 ntc ntf nts q_25) nn (i5_26, ftf_27, fts_28) = some b9 → V K 7 [(adt, .inr (8, [.ref ads, .ref adtc, .ref adtf, .ref adts])), (adtc, .inl (gI (kG K), ntc, .inl q_25.2)), (adtf, .inl (gI (kG K), ntf, .inl ftf_27)), (adts, .inl (gI (kG K), nts, .inl fts_28)), (ads, .inr (7, [.int nm, .int rw, .int sg, .int ms, .ref adsv, .ref adsc])), (adsc, .inl (gI (kG K), nsc, .inl fsc))] 0 0 124 [(0, .ref adt), (1, .int p0), (2, .int p1), (3, .int p2), (4, .int v), (5, .int i5_26)] [] := by
  intro nn
  induction nn with
  | zero => intro i5_26 ftf_27 fts_28 h; exact absurd h (by simp [lp])
  | succ nn ih =>
    intro i5_26 ftf_27 fts_28 h
    replace h := lp_s h
    rw [eb_X9_count_124] at h
    refine v_iload hk dX9_count_124 rfl ?_
    refine v_iconst (v := 3) hk dX9_count_126 (by decide) ?_
    refine v_icmp_ge (tgt := 216) hk dX9_count_127 (by decide) (fun hc => ?_) (fun hc => ?_)
    · replace h := it_t (g := (lpk (lp (b_X9_count_124 ntc ntf nts q_25) nn))) h hc
      replace h : some (i5_26, ftf_27, fts_28) = some b9 := h
      replace h := Option.some.inj h
      subst h
      exact kk0 _ rfl
    · replace h := it_f (g := (lpk (lp (b_X9_count_124 ntc ntf nts q_25) nn))) h hc
      refine v_iload hk dX9_count_130 rfl ?_
      refine v_aload_n hk dX9_count_132 rfl ?_
      refine v_get (C := RX9) (T := TX9) (N := 4) (ci := 8) (v := .ref adtf) hk dX9_count_133 w2i_X9_count_X90 0 rfl rfl 2 (by decide) (by decide +kernel) rfl rfl ?_
      refine v_alenI hk dX9_count_136 2 rfl rfl ?_
      refine v_icmp_ge (tgt := 216) hk dX9_count_137 (by decide) (fun hc => ?_) (fun hc => ?_)
      · replace h := it_t (g := (lpk (lp (b_X9_count_124 ntc ntf nts q_25) nn))) h hc
        replace h : some (i5_26, ftf_27, fts_28) = some b9 := h
        replace h := Option.some.inj h
        subst h
        exact kk0 _ rfl
      · replace h := it_f (g := (lpk (lp (b_X9_count_124 ntc ntf nts q_25) nn))) h hc
        refine v_iload hk dX9_count_140 rfl ?_
        refine v_aload_n hk dX9_count_142 rfl ?_
        refine v_get (C := RX9) (T := TX9) (N := 4) (ci := 8) (v := .ref adts) hk dX9_count_143 w2i_X9_count_X90 0 rfl rfl 3 (by decide) (by decide +kernel) rfl rfl ?_
        refine v_alenI hk dX9_count_146 3 rfl rfl ?_
        refine v_icmp_ge (tgt := 216) hk dX9_count_147 (by decide) (fun hc => ?_) (fun hc => ?_)
        · replace h := it_t (g := (lpk (lp (b_X9_count_124 ntc ntf nts q_25) nn))) h hc
          replace h : some (i5_26, ftf_27, fts_28) = some b9 := h
          replace h := Option.some.inj h
          subst h
          exact kk0 _ rfl
        · replace h := it_f (g := (lpk (lp (b_X9_count_124 ntc ntf nts q_25) nn))) h hc
          refine v_aload_n hk dX9_count_150 rfl ?_
          refine v_get (C := RX9) (T := TX9) (N := 4) (ci := 8) (v := .ref adtf) hk dX9_count_151 w2i_X9_count_X90 0 rfl rfl 2 (by decide) (by decide +kernel) rfl rfl ?_
          refine v_iload hk dX9_count_154 rfl ?_
          refine v_aload_n hk dX9_count_156 rfl ?_
          refine v_iload hk dX9_count_157 rfl ?_
          refine v_iconst (v := 0) hk dX9_count_159 (by decide) ?_
          obtain ⟨r_29, er_29, h⟩ := bd_e (g := (lpk (lp (b_X9_count_124 ntc ntf nts q_25) nn))) rfl h
          refine v_callV (n := 2) (st := [.int i5_26, .ref adtf]) (b := adt) (T := TX9) (N := 4) hk dX9_count_160 (c_X9_cell (kl K) (kG K) adt adtc ads adtf adts ntc q_25.2 i5_26 0 r_29 er_29) rfl gd_X9_count_X9_cell rfl (by decide +kernel) (frok hR9 (Nat.le_of_ble_eq_true rfl) (Nat.le_of_ble_eq_true rfl)) (roomk hR9 (Nat.le_of_ble_eq_true rfl) (Nat.le_of_ble_eq_true rfl)) rfl rfl (Nat.le_of_ble_eq_true rfl) 0 rfl rfl [0, 1] [2, 3, 4, 5] (wr := [(adtf, .inl (gI (kG K), ntf, .inl ftf_27)), (adts, .inl (gI (kG K), nts, .inl fts_28)), (ads, .inr (7, [.int nm, .int rw, .int sg, .int ms, .ref adsv, .ref adsc])), (adsc, .inl (gI (kG K), nsc, .inl fsc))]) rfl rfl (by decide) (by decide) (by decide) ?_
          intro v9 w9 hp9
          obtain ⟨rfl, rfl⟩ := hp9
          show V K 7 [(adtf, .inl (gI (kG K), ntf, .inl ftf_27)), (adts, .inl (gI (kG K), nts, .inl fts_28)), (ads, .inr (7, [.int nm, .int rw, .int sg, .int ms, .ref adsv, .ref adsc])), (adsc, .inl (gI (kG K), nsc, .inl fsc)), (adt, .inr (8, [.ref ads, .ref adtc, .ref adtf, .ref adts])), (adtc, .inl (gI (kG K), ntc, .inl q_25.2))] 0 0 163 [(0, .ref adt), (1, .int p0), (2, .int p1), (3, .int p2), (4, .int v), (5, .int i5_26)] [.int r_29, .int i5_26, .ref adtf]
          refine v_aload_n hk dX9_count_163 rfl ?_
          refine v_iload hk dX9_count_164 rfl ?_
          refine v_iconst (v := 1) hk dX9_count_166 (by decide) ?_
          obtain ⟨r_30, er_30, h⟩ := bd_e (g := (lpk (lp (b_X9_count_124 ntc ntf nts q_25) nn))) rfl h
          refine v_callV (n := 2) (st := [.int r_29, .int i5_26, .ref adtf]) (b := adt) (T := TX9) (N := 4) hk dX9_count_167 (c_X9_cell (kl K) (kG K) adt adtc ads adtf adts ntc q_25.2 i5_26 1 r_30 er_30) rfl gd_X9_count_X9_cell rfl (by decide +kernel) (frok hR9 (Nat.le_of_ble_eq_true rfl) (Nat.le_of_ble_eq_true rfl)) (roomk hR9 (Nat.le_of_ble_eq_true rfl) (Nat.le_of_ble_eq_true rfl)) rfl rfl (Nat.le_of_ble_eq_true rfl) 4 rfl rfl [4, 5] [0, 1, 2, 3] (wr := [(adtf, .inl (gI (kG K), ntf, .inl ftf_27)), (adts, .inl (gI (kG K), nts, .inl fts_28)), (ads, .inr (7, [.int nm, .int rw, .int sg, .int ms, .ref adsv, .ref adsc])), (adsc, .inl (gI (kG K), nsc, .inl fsc))]) rfl rfl (by decide) (by decide) (by decide) ?_
          intro v9 w9 hp9
          obtain ⟨rfl, rfl⟩ := hp9
          show V K 7 [(adtf, .inl (gI (kG K), ntf, .inl ftf_27)), (adts, .inl (gI (kG K), nts, .inl fts_28)), (ads, .inr (7, [.int nm, .int rw, .int sg, .int ms, .ref adsv, .ref adsc])), (adsc, .inl (gI (kG K), nsc, .inl fsc)), (adt, .inr (8, [.ref ads, .ref adtc, .ref adtf, .ref adts])), (adtc, .inl (gI (kG K), ntc, .inl q_25.2))] 0 0 170 [(0, .ref adt), (1, .int p0), (2, .int p1), (3, .int p2), (4, .int v), (5, .int i5_26)] [.int r_30, .int r_29, .int i5_26, .ref adtf]
          refine v_iadd hk dX9_count_170 ?_
          refine v_aload_n hk dX9_count_171 rfl ?_
          refine v_iload hk dX9_count_172 rfl ?_
          refine v_iconst (v := 2) hk dX9_count_174 (by decide) ?_
          obtain ⟨r_31, er_31, h⟩ := bd_e (g := (lpk (lp (b_X9_count_124 ntc ntf nts q_25) nn))) rfl h
          refine v_callV (n := 2) (st := [.int (r_29 + r_30), .int i5_26, .ref adtf]) (b := adt) (T := TX9) (N := 4) hk dX9_count_175 (c_X9_cell (kl K) (kG K) adt adtc ads adtf adts ntc q_25.2 i5_26 2 r_31 er_31) rfl gd_X9_count_X9_cell rfl (by decide +kernel) (frok hR9 (Nat.le_of_ble_eq_true rfl) (Nat.le_of_ble_eq_true rfl)) (roomk hR9 (Nat.le_of_ble_eq_true rfl) (Nat.le_of_ble_eq_true rfl)) rfl rfl (Nat.le_of_ble_eq_true rfl) 4 rfl rfl [4, 5] [0, 1, 2, 3] (wr := [(adtf, .inl (gI (kG K), ntf, .inl ftf_27)), (adts, .inl (gI (kG K), nts, .inl fts_28)), (ads, .inr (7, [.int nm, .int rw, .int sg, .int ms, .ref adsv, .ref adsc])), (adsc, .inl (gI (kG K), nsc, .inl fsc))]) rfl rfl (by decide) (by decide) (by decide) ?_
          intro v9 w9 hp9
          obtain ⟨rfl, rfl⟩ := hp9
          show V K 7 [(adtf, .inl (gI (kG K), ntf, .inl ftf_27)), (adts, .inl (gI (kG K), nts, .inl fts_28)), (ads, .inr (7, [.int nm, .int rw, .int sg, .int ms, .ref adsv, .ref adsc])), (adsc, .inl (gI (kG K), nsc, .inl fsc)), (adt, .inr (8, [.ref ads, .ref adtc, .ref adtf, .ref adts])), (adtc, .inl (gI (kG K), ntc, .inl q_25.2))] 0 0 178 [(0, .ref adt), (1, .int p0), (2, .int p1), (3, .int p2), (4, .int v), (5, .int i5_26)] [.int r_31, .int (r_29 + r_30), .int i5_26, .ref adtf]
          refine v_iadd hk dX9_count_178 ?_
          obtain ⟨hi, h⟩ := ok_e (g := (lpk (lp (b_X9_count_124 ntc ntf nts q_25) nn))) rfl h
          obtain ⟨ftf_32, eftf_32, h⟩ := lt_e (g := (lpk (lp (b_X9_count_124 ntc ntf nts q_25) nn))) h
          refine v_iastV hk dX9_count_179 0 rfl (ix_in hi) (ws' := [(adtf, .inl (gI (kG K), ntf, .inl ftf_32)), (adts, .inl (gI (kG K), nts, .inl fts_28)), (ads, .inr (7, [.int nm, .int rw, .int sg, .int ms, .ref adsv, .ref adsc])), (adsc, .inl (gI (kG K), nsc, .inl fsc)), (adt, .inr (8, [.ref ads, .ref adtc, .ref adtf, .ref adts])), (adtc, .inl (gI (kG K), ntc, .inl q_25.2))]) (by rw [eftf_32]; rfl) ?_
          refine v_aload_n hk dX9_count_180 rfl ?_
          refine v_get (C := RX9) (T := TX9) (N := 4) (ci := 8) (v := .ref adts) hk dX9_count_181 w2i_X9_count_X90 4 rfl rfl 3 (by decide) (by decide +kernel) rfl rfl ?_
          refine v_iload hk dX9_count_184 rfl ?_
          refine v_aload_n hk dX9_count_186 rfl ?_
          refine v_iconst (v := 0) hk dX9_count_187 (by decide) ?_
          refine v_iload hk dX9_count_188 rfl ?_
          obtain ⟨r_33, er_33, h⟩ := bd_e (g := (lpk (lp (b_X9_count_124 ntc ntf nts q_25) nn))) rfl h
          refine v_callV (n := 2) (st := [.int i5_26, .ref adts]) (b := adt) (T := TX9) (N := 4) hk dX9_count_190 (c_X9_cell (kl K) (kG K) adt adtc ads adtf adts ntc q_25.2 0 i5_26 r_33 er_33) rfl gd_X9_count_X9_cell rfl (by decide +kernel) (frok hR9 (Nat.le_of_ble_eq_true rfl) (Nat.le_of_ble_eq_true rfl)) (roomk hR9 (Nat.le_of_ble_eq_true rfl) (Nat.le_of_ble_eq_true rfl)) rfl rfl (Nat.le_of_ble_eq_true rfl) 4 rfl rfl [4, 5] [0, 1, 2, 3] (wr := [(adtf, .inl (gI (kG K), ntf, .inl ftf_32)), (adts, .inl (gI (kG K), nts, .inl fts_28)), (ads, .inr (7, [.int nm, .int rw, .int sg, .int ms, .ref adsv, .ref adsc])), (adsc, .inl (gI (kG K), nsc, .inl fsc))]) rfl rfl (by decide) (by decide) (by decide) ?_
          intro v9 w9 hp9
          obtain ⟨rfl, rfl⟩ := hp9
          show V K 7 [(adtf, .inl (gI (kG K), ntf, .inl ftf_32)), (adts, .inl (gI (kG K), nts, .inl fts_28)), (ads, .inr (7, [.int nm, .int rw, .int sg, .int ms, .ref adsv, .ref adsc])), (adsc, .inl (gI (kG K), nsc, .inl fsc)), (adt, .inr (8, [.ref ads, .ref adtc, .ref adtf, .ref adts])), (adtc, .inl (gI (kG K), ntc, .inl q_25.2))] 0 0 193 [(0, .ref adt), (1, .int p0), (2, .int p1), (3, .int p2), (4, .int v), (5, .int i5_26)] [.int r_33, .int i5_26, .ref adts]
          refine v_aload_n hk dX9_count_193 rfl ?_
          refine v_iconst (v := 1) hk dX9_count_194 (by decide) ?_
          refine v_iload hk dX9_count_195 rfl ?_
          obtain ⟨r_34, er_34, h⟩ := bd_e (g := (lpk (lp (b_X9_count_124 ntc ntf nts q_25) nn))) rfl h
          refine v_callV (n := 2) (st := [.int r_33, .int i5_26, .ref adts]) (b := adt) (T := TX9) (N := 4) hk dX9_count_197 (c_X9_cell (kl K) (kG K) adt adtc ads adtf adts ntc q_25.2 1 i5_26 r_34 er_34) rfl gd_X9_count_X9_cell rfl (by decide +kernel) (frok hR9 (Nat.le_of_ble_eq_true rfl) (Nat.le_of_ble_eq_true rfl)) (roomk hR9 (Nat.le_of_ble_eq_true rfl) (Nat.le_of_ble_eq_true rfl)) rfl rfl (Nat.le_of_ble_eq_true rfl) 4 rfl rfl [4, 5] [0, 1, 2, 3] (wr := [(adtf, .inl (gI (kG K), ntf, .inl ftf_32)), (adts, .inl (gI (kG K), nts, .inl fts_28)), (ads, .inr (7, [.int nm, .int rw, .int sg, .int ms, .ref adsv, .ref adsc])), (adsc, .inl (gI (kG K), nsc, .inl fsc))]) rfl rfl (by decide) (by decide) (by decide) ?_
          intro v9 w9 hp9
          obtain ⟨rfl, rfl⟩ := hp9
          show V K 7 [(adtf, .inl (gI (kG K), ntf, .inl ftf_32)), (adts, .inl (gI (kG K), nts, .inl fts_28)), (ads, .inr (7, [.int nm, .int rw, .int sg, .int ms, .ref adsv, .ref adsc])), (adsc, .inl (gI (kG K), nsc, .inl fsc)), (adt, .inr (8, [.ref ads, .ref adtc, .ref adtf, .ref adts])), (adtc, .inl (gI (kG K), ntc, .inl q_25.2))] 0 0 200 [(0, .ref adt), (1, .int p0), (2, .int p1), (3, .int p2), (4, .int v), (5, .int i5_26)] [.int r_34, .int r_33, .int i5_26, .ref adts]
          refine v_iadd hk dX9_count_200 ?_
          refine v_aload_n hk dX9_count_201 rfl ?_
          refine v_iconst (v := 2) hk dX9_count_202 (by decide) ?_
          refine v_iload hk dX9_count_203 rfl ?_
          obtain ⟨r_35, er_35, h⟩ := bd_e (g := (lpk (lp (b_X9_count_124 ntc ntf nts q_25) nn))) rfl h
          refine v_callV (n := 2) (st := [.int (r_33 + r_34), .int i5_26, .ref adts]) (b := adt) (T := TX9) (N := 4) hk dX9_count_205 (c_X9_cell (kl K) (kG K) adt adtc ads adtf adts ntc q_25.2 2 i5_26 r_35 er_35) rfl gd_X9_count_X9_cell rfl (by decide +kernel) (frok hR9 (Nat.le_of_ble_eq_true rfl) (Nat.le_of_ble_eq_true rfl)) (roomk hR9 (Nat.le_of_ble_eq_true rfl) (Nat.le_of_ble_eq_true rfl)) rfl rfl (Nat.le_of_ble_eq_true rfl) 4 rfl rfl [4, 5] [0, 1, 2, 3] (wr := [(adtf, .inl (gI (kG K), ntf, .inl ftf_32)), (adts, .inl (gI (kG K), nts, .inl fts_28)), (ads, .inr (7, [.int nm, .int rw, .int sg, .int ms, .ref adsv, .ref adsc])), (adsc, .inl (gI (kG K), nsc, .inl fsc))]) rfl rfl (by decide) (by decide) (by decide) ?_
          intro v9 w9 hp9
          obtain ⟨rfl, rfl⟩ := hp9
          show V K 7 [(adtf, .inl (gI (kG K), ntf, .inl ftf_32)), (adts, .inl (gI (kG K), nts, .inl fts_28)), (ads, .inr (7, [.int nm, .int rw, .int sg, .int ms, .ref adsv, .ref adsc])), (adsc, .inl (gI (kG K), nsc, .inl fsc)), (adt, .inr (8, [.ref ads, .ref adtc, .ref adtf, .ref adts])), (adtc, .inl (gI (kG K), ntc, .inl q_25.2))] 0 0 208 [(0, .ref adt), (1, .int p0), (2, .int p1), (3, .int p2), (4, .int v), (5, .int i5_26)] [.int r_35, .int (r_33 + r_34), .int i5_26, .ref adts]
          refine v_iadd hk dX9_count_208 ?_
          obtain ⟨hi, h⟩ := ok_e (g := (lpk (lp (b_X9_count_124 ntc ntf nts q_25) nn))) rfl h
          obtain ⟨fts_36, efts_36, h⟩ := lt_e (g := (lpk (lp (b_X9_count_124 ntc ntf nts q_25) nn))) h
          refine v_iastV hk dX9_count_209 1 rfl (ix_in hi) (ws' := [(adtf, .inl (gI (kG K), ntf, .inl ftf_32)), (adts, .inl (gI (kG K), nts, .inl fts_36)), (ads, .inr (7, [.int nm, .int rw, .int sg, .int ms, .ref adsv, .ref adsc])), (adsc, .inl (gI (kG K), nsc, .inl fsc)), (adt, .inr (8, [.ref ads, .ref adtc, .ref adtf, .ref adts])), (adtc, .inl (gI (kG K), ntc, .inl q_25.2))]) (by rw [efts_36]; rfl) ?_
          obtain ⟨x5_37, ex5_37, h⟩ := lt_e (g := (lpk (lp (b_X9_count_124 ntc ntf nts q_25) nn))) h
          refine v_iinc (v := x5_37) hk dX9_count_210 rfl (by rw [ex5_37]; rfl) (by decide) [1, 2, 3, 4, 5, 0] (lv' := [(0, .ref adt), (1, .int p0), (2, .int p1), (3, .int p2), (4, .int v), (5, .int x5_37)]) rfl ?_
          refine v_goto (tgt := 124) hk dX9_count_213 (by decide) ?_
          refine v_perm [4, 5, 0, 1, 2, 3] (ws' := [(adt, .inr (8, [.ref ads, .ref adtc, .ref adtf, .ref adts])), (adtc, .inl (gI (kG K), ntc, .inl q_25.2)), (adtf, .inl (gI (kG K), ntf, .inl ftf_32)), (adts, .inl (gI (kG K), nts, .inl fts_36)), (ads, .inr (7, [.int nm, .int rw, .int sg, .int ms, .ref adsv, .ref adsc])), (adsc, .inl (gI (kG K), nsc, .inl fsc))]) rfl rfl (by decide) ?_
          exact ih x5_37 ftf_32 fts_36 h
set_option maxHeartbeats 4000000 in
set_option maxRecDepth 100000 in
theorem c_X9_count (l : Launch) (G : GG) (adt : Nat) (adtc : Nat) (adtf : Nat) (adts : Nat) (ads : Nat) (adsc : Nat) (adsv : Nat) (ntc : Nat) (ftc : Nat → Int32) (ntf : Nat) (ftf : Nat → Int32) (nts : Nat) (fts : Nat → Int32) (nm : Int32) (rw : Int32) (sg : Int32) (ms : Int32) (nsc : Nat) (fsc : Nat → Int32) (p0 : Int32) (p1 : Int32) (p2 : Int32) (v : Int32) (r : (Nat → Int32) × (Nat → Int32) × (Nat → Int32)) (h : m_X9_count ntc ftc ntf ftf nts fts nm rw sg ms nsc fsc p0 p1 p2 v = some r) : Ctr l G yX9_count w2_X9_count rm_X9_count [.ref adt, .int p0, .int p1, .int p2, .int v] [(adt, .inr (8, [.ref ads, .ref adtc, .ref adtf, .ref adts])), (adtc, .inl (gI G, ntc, .inl ftc)), (adtf, .inl (gI G, ntf, .inl ftf)), (adts, .inl (gI G, nts, .inl fts)), (ads, .inr (7, [.int nm, .int rw, .int sg, .int ms, .ref adsv, .ref adsc])), (adsc, .inl (gI G, nsc, .inl fsc))] (fun v w => v = none ∧ w = [(adt, .inr (8, [.ref ads, .ref adtc, .ref adtf, .ref adts])), (adtc, .inl (gI G, ntc, .inl r.1)), (adtf, .inl (gI G, ntf, .inl r.2.1)), (adts, .inl (gI G, nts, .inl r.2.2)), (ads, .inr (7, [.int nm, .int rw, .int sg, .int ms, .ref adsv, .ref adsc])), (adsc, .inl (gI G, nsc, .inl fsc))]) := by
  refine ctr_entry (cc := cX9_count) (maxL := 7) (ret := none) (lv0 := [(0, .ref adt), (1, .int p0), (2, .int p1), (3, .int p2), (4, .int v)]) (by decide) rfl (Nat.le_of_ble_eq_true rfl) (rfl) ?_
  intro K hl9 hG9 hk hn9 hrt
  subst hl9
  subst hG9
  have hR9 : RoomGe rm_X9_count rm_X9_count := RoomGe.rf
  replace h := id_e h
  rw [em_X9_count] at h
  refine v_iconst (v := 0) hk dX9_count_0 (by decide) ?_
  refine v_istore hk dX9_count_1 (by decide) [1, 2, 3, 4, 5, 0] (lv' := [(0, .ref adt), (1, .int p0), (2, .int p1), (3, .int p2), (4, .int v), (5, .int 0)]) rfl ?_
  obtain ⟨b_41, eb_41, h⟩ := bd_e (g := id) rfl h
  refine L_X9_count_3 hk hR9 adt adtc adtf adts ads adsc adsv ntc ntf ftf nts fts nm rw sg ms nsc fsc p0 p1 p2 v b_41 (fun q_5 eq_5 => ?_) FU 0 ftc eb_41
  · replace eq_5 := eq_5.symm
    subst eq_5
    refine v_iconst (v := 0) hk dX9_count_27 (by decide) ?_
    refine v_istore hk dX9_count_28 (by decide) [1, 2, 3, 4, 5, 0] (lv' := [(0, .ref adt), (1, .int p0), (2, .int p1), (3, .int p2), (4, .int v), (5, .int 0)]) rfl ?_
    obtain ⟨b_40, eb_40, h⟩ := bd_e (g := id) rfl h
    refine L_X9_count_30 hk hR9 adt adtc adtf adts ads adsc adsv ntc ntf ftf nts fts nm rw sg ms nsc fsc p0 p1 p2 v b_40 (fun q_25 eq_25 => ?_) FU 0 q_5.2 eb_40
    · replace eq_25 := eq_25.symm
      subst eq_25
      refine v_iconst (v := 0) hk dX9_count_121 (by decide) ?_
      refine v_istore hk dX9_count_122 (by decide) [1, 2, 3, 4, 5, 0] (lv' := [(0, .ref adt), (1, .int p0), (2, .int p1), (3, .int p2), (4, .int v), (5, .int 0)]) rfl ?_
      obtain ⟨b_39, eb_39, h⟩ := bd_e (g := id) rfl h
      refine L_X9_count_124 hk hR9 adt adtc adtf adts ads adsc adsv ntc ntf nts nm rw sg ms nsc fsc p0 p1 p2 v q_25 b_39 (fun q_38 eq_38 => ?_) FU 0 ftf fts eb_39
      · replace eq_38 := eq_38.symm
        subst eq_38
        replace h : some (q_25.2, q_38.2.1, q_38.2.2) = some r := h
        replace h := Option.some.inj h
        subst h
        refine hrt (none) _ _ _ _ _ (⟨rfl, rfl⟩) (Nat.zero_le _) (Nat.zero_le _) (dX9_count_216)
abbrev rm_X9_waysWith : Room := { frames := 2, cells := 0, slots := 0, locals := 44 }
set_option maxHeartbeats 4000000 in
set_option maxRecDepth 100000 in
theorem L_X9_waysWith_77 {K : Cx} {R9 : Room} (hk : Ok K cX9_waysWith 17 RX9 w2_X9_waysWith R9) (hR9 : RoomGe R9 rm_X9_waysWith) (adt : Nat) (adtf : Nat) (adts : Nat) (ads : Nat) (adtc : Nat) (ntf : Nat) (ftf : Nat → Int32) (nts : Nat) (fts : Nat → Int32) (i : Int32) (j : Int32) (limit : Int64) (x5_2 : Int32) (x6_4 : Int32) (x7_7 : Int32) (r_9 : Int64) (i12_11 : Int32) (b9 : (Int64 × Int32)) (kk0 : ∀ q9 : (Int64 × Int32), b9 = q9 → V K 17 [(adts, .inl (gI (kG K), nts, .inl fts)), (adt, .inr (8, [.ref ads, .ref adtc, .ref adtf, .ref adts])), (adtf, .inl (gI (kG K), ntf, .inl ftf))] 0 0 163 [(0, .ref adt), (1, .int i), (2, .int j), (3, .long limit), (5, .int x5_2), (6, .int x6_4), (7, .int x7_7), (8, .long r_9), (10, .long q9.1), (12, .int i12_11), (13, .int q9.2)] []) : ∀ (nn : Nat) (i10_13 : Int64) (i13_14 : Int32), lp (b_X9_waysWith_77 ntf ftf limit x5_2 x6_4 x7_7 r_9 i12_11) nn (i10_13, i13_14) = some b9 → V K 17 [(adts, .inl (gI (kG K), nts, .inl fts)), (adt, .inr (8, [.ref ads, .ref adtc, .ref adtf, .ref adts])), (adtf, .inl (gI (kG K), ntf, .inl ftf))] 0 0 77 [(0, .ref adt), (1, .int i), (2, .int j), (3, .long limit), (5, .int x5_2), (6, .int x6_4), (7, .int x7_7), (8, .long r_9), (10, .long i10_13), (12, .int i12_11), (13, .int i13_14)] [] := by
  intro nn
  induction nn with
  | zero => intro i10_13 i13_14 h; exact absurd h (by simp [lp])
  | succ nn ih =>
    intro i10_13 i13_14 h
    replace h := lp_s h
    rw [eb_X9_waysWith_77] at h
    refine v_iload hk dX9_waysWith_77 rfl ?_
    refine v_iload hk dX9_waysWith_79 rfl ?_
    refine v_iadd hk dX9_waysWith_81 ?_
    refine v_aload_n hk dX9_waysWith_82 rfl ?_
    refine v_iconst (v := 1) hk dX9_waysWith_83 (by decide) ?_
    obtain ⟨r_15, er_15, h⟩ := bd_e (g := (lpk (lp (b_X9_waysWith_77 ntf ftf limit x5_2 x6_4 x7_7 r_9 i12_11) nn))) rfl h
    refine v_callV (n := 1) (st := [.int (i12_11 + i13_14)]) (b := adt) (T := TX9) (N := 4) hk dX9_waysWith_84 (c_X9_first (kl K) (kG K) adt adtf ads adtc adts ntf ftf 1 r_15 er_15) rfl gd_X9_waysWith_X9_first rfl (by decide +kernel) (frok hR9 (Nat.le_of_ble_eq_true rfl) (Nat.le_of_ble_eq_true rfl)) (roomk hR9 (Nat.le_of_ble_eq_true rfl) (Nat.le_of_ble_eq_true rfl)) rfl rfl (Nat.le_of_ble_eq_true rfl) 1 rfl rfl [1, 2] [0] (wr := [(adts, .inl (gI (kG K), nts, .inl fts))]) rfl rfl (by decide) (by decide) (by decide) ?_
    intro v9 w9 hp9
    obtain ⟨rfl, rfl⟩ := hp9
    show V K 17 [(adts, .inl (gI (kG K), nts, .inl fts)), (adt, .inr (8, [.ref ads, .ref adtc, .ref adtf, .ref adts])), (adtf, .inl (gI (kG K), ntf, .inl ftf))] 0 0 87 [(0, .ref adt), (1, .int i), (2, .int j), (3, .long limit), (5, .int x5_2), (6, .int x6_4), (7, .int x7_7), (8, .long r_9), (10, .long i10_13), (12, .int i12_11), (13, .int i13_14)] [.int r_15, .int (i12_11 + i13_14)]
    refine v_icmp_gt (tgt := 163) hk dX9_waysWith_87 (by decide) (fun hc => ?_) (fun hc => ?_)
    · replace h := it_t (g := (lpk (lp (b_X9_waysWith_77 ntf ftf limit x5_2 x6_4 x7_7 r_9 i12_11) nn))) h hc
      replace h : some (i10_13, i13_14) = some b9 := h
      replace h := Option.some.inj h
      subst h
      exact kk0 _ rfl
    · replace h := it_f (g := (lpk (lp (b_X9_waysWith_77 ntf ftf limit x5_2 x6_4 x7_7 r_9 i12_11) nn))) h hc
      refine v_iload hk dX9_waysWith_90 rfl ?_
      refine v_iload hk dX9_waysWith_92 rfl ?_
      refine v_icmp_gt (tgt := 163) hk dX9_waysWith_94 (by decide) (fun hc => ?_) (fun hc => ?_)
      · replace h := it_t (g := (lpk (lp (b_X9_waysWith_77 ntf ftf limit x5_2 x6_4 x7_7 r_9 i12_11) nn))) h hc
        replace h : some (i10_13, i13_14) = some b9 := h
        replace h := Option.some.inj h
        subst h
        exact kk0 _ rfl
      · replace h := it_f (g := (lpk (lp (b_X9_waysWith_77 ntf ftf limit x5_2 x6_4 x7_7 r_9 i12_11) nn))) h hc
        refine v_aload_n hk dX9_waysWith_97 rfl ?_
        refine v_iconst (v := 1) hk dX9_waysWith_98 (by decide) ?_
        obtain ⟨r_16, er_16, h⟩ := bd_e (g := (lpk (lp (b_X9_waysWith_77 ntf ftf limit x5_2 x6_4 x7_7 r_9 i12_11) nn))) rfl h
        refine v_callV (n := 1) (st := []) (b := adt) (T := TX9) (N := 4) hk dX9_waysWith_99 (c_X9_first (kl K) (kG K) adt adtf ads adtc adts ntf ftf 1 r_16 er_16) rfl gd_X9_waysWith_X9_first rfl (by decide +kernel) (frok hR9 (Nat.le_of_ble_eq_true rfl) (Nat.le_of_ble_eq_true rfl)) (roomk hR9 (Nat.le_of_ble_eq_true rfl) (Nat.le_of_ble_eq_true rfl)) rfl rfl (Nat.le_of_ble_eq_true rfl) 1 rfl rfl [1, 2] [0] (wr := [(adts, .inl (gI (kG K), nts, .inl fts))]) rfl rfl (by decide) (by decide) (by decide) ?_
        intro v9 w9 hp9
        obtain ⟨rfl, rfl⟩ := hp9
        show V K 17 [(adts, .inl (gI (kG K), nts, .inl fts)), (adt, .inr (8, [.ref ads, .ref adtc, .ref adtf, .ref adts])), (adtf, .inl (gI (kG K), ntf, .inl ftf))] 0 0 102 [(0, .ref adt), (1, .int i), (2, .int j), (3, .long limit), (5, .int x5_2), (6, .int x6_4), (7, .int x7_7), (8, .long r_9), (10, .long i10_13), (12, .int i12_11), (13, .int i13_14)] [.int r_16]
        refine v_iload hk dX9_waysWith_102 rfl ?_
        refine v_isub hk dX9_waysWith_104 ?_
        refine v_iload hk dX9_waysWith_105 rfl ?_
        refine v_isub hk dX9_waysWith_107 ?_
        obtain ⟨x14_17, ex14_17, h⟩ := lt_e (g := (lpk (lp (b_X9_waysWith_77 ntf ftf limit x5_2 x6_4 x7_7 r_9 i12_11) nn))) h
        refine v_topi ex14_17.symm ?_
        refine v_istore hk dX9_waysWith_108 (by decide) [1, 2, 3, 4, 5, 6, 7, 8, 9, 10, 11, 0] (lv' := [(0, .ref adt), (1, .int i), (2, .int j), (3, .long limit), (5, .int x5_2), (6, .int x6_4), (7, .int x7_7), (8, .long r_9), (10, .long i10_13), (12, .int i12_11), (13, .int i13_14), (14, .int x14_17)]) rfl ?_
        refine v_lload hk dX9_waysWith_110 rfl ?_
        refine v_iload hk dX9_waysWith_112 rfl ?_
        refine v_iload hk dX9_waysWith_114 rfl ?_
        refine v_iload hk dX9_waysWith_116 rfl ?_
        obtain ⟨r_18, er_18, h⟩ := bd_e (g := (lpk (lp (b_X9_waysWith_77 ntf ftf limit x5_2 x6_4 x7_7 r_9 i12_11) nn))) rfl h
        refine v_callS (n := 3) (st := [.long r_9]) hk dX9_waysWith_118 (c_X9_deals (kl K) (kG K) i12_11 i13_14 x14_17 r_18 er_18) gd_X9_waysWith_X9_deals rfl (by decide +kernel) (frok hR9 (Nat.le_of_ble_eq_true rfl) (Nat.le_of_ble_eq_true rfl)) (roomk hR9 (Nat.le_of_ble_eq_true rfl) (Nat.le_of_ble_eq_true rfl)) rfl rfl (Nat.le_of_ble_eq_true rfl) [] [0, 1, 2] (wr := [(adts, .inl (gI (kG K), nts, .inl fts)), (adt, .inr (8, [.ref ads, .ref adtc, .ref adtf, .ref adts])), (adtf, .inl (gI (kG K), ntf, .inl ftf))]) rfl rfl (by decide) (by decide) (by decide) ?_
        intro v9 w9 hp9
        obtain ⟨rfl, rfl⟩ := hp9
        show V K 17 [(adts, .inl (gI (kG K), nts, .inl fts)), (adt, .inr (8, [.ref ads, .ref adtc, .ref adtf, .ref adts])), (adtf, .inl (gI (kG K), ntf, .inl ftf))] 0 0 121 [(0, .ref adt), (1, .int i), (2, .int j), (3, .long limit), (5, .int x5_2), (6, .int x6_4), (7, .int x7_7), (8, .long r_9), (10, .long i10_13), (12, .int i12_11), (13, .int i13_14), (14, .int x14_17)] [.long r_18, .long r_9]
        refine v_lmul hk dX9_waysWith_121 ?_
        refine v_iload hk dX9_waysWith_122 rfl ?_
        refine v_iload hk dX9_waysWith_124 rfl ?_
        refine v_isub hk dX9_waysWith_126 ?_
        refine v_iload hk dX9_waysWith_127 rfl ?_
        refine v_iload hk dX9_waysWith_129 rfl ?_
        refine v_isub hk dX9_waysWith_131 ?_
        refine v_iload hk dX9_waysWith_132 rfl ?_
        refine v_iload hk dX9_waysWith_134 rfl ?_
        refine v_isub hk dX9_waysWith_136 ?_
        obtain ⟨r_19, er_19, h⟩ := bd_e (g := (lpk (lp (b_X9_waysWith_77 ntf ftf limit x5_2 x6_4 x7_7 r_9 i12_11) nn))) rfl h
        refine v_callS (n := 3) (st := [.long (r_9 * r_18)]) hk dX9_waysWith_137 (c_X9_deals (kl K) (kG K) (x5_2 - i12_11) (x6_4 - i13_14) (x7_7 - x14_17) r_19 er_19) gd_X9_waysWith_X9_deals rfl (by decide +kernel) (frok hR9 (Nat.le_of_ble_eq_true rfl) (Nat.le_of_ble_eq_true rfl)) (roomk hR9 (Nat.le_of_ble_eq_true rfl) (Nat.le_of_ble_eq_true rfl)) rfl rfl (Nat.le_of_ble_eq_true rfl) [] [0, 1, 2] (wr := [(adts, .inl (gI (kG K), nts, .inl fts)), (adt, .inr (8, [.ref ads, .ref adtc, .ref adtf, .ref adts])), (adtf, .inl (gI (kG K), ntf, .inl ftf))]) rfl rfl (by decide) (by decide) (by decide) ?_
        intro v9 w9 hp9
        obtain ⟨rfl, rfl⟩ := hp9
        show V K 17 [(adts, .inl (gI (kG K), nts, .inl fts)), (adt, .inr (8, [.ref ads, .ref adtc, .ref adtf, .ref adts])), (adtf, .inl (gI (kG K), ntf, .inl ftf))] 0 0 140 [(0, .ref adt), (1, .int i), (2, .int j), (3, .long limit), (5, .int x5_2), (6, .int x6_4), (7, .int x7_7), (8, .long r_9), (10, .long i10_13), (12, .int i12_11), (13, .int i13_14), (14, .int x14_17)] [.long r_19, .long (r_9 * r_18)]
        refine v_lmul hk dX9_waysWith_140 ?_
        obtain ⟨x15_20, ex15_20, h⟩ := lt_e (g := (lpk (lp (b_X9_waysWith_77 ntf ftf limit x5_2 x6_4 x7_7 r_9 i12_11) nn))) h
        refine v_topl ex15_20.symm ?_
        refine v_lstore hk dX9_waysWith_141 (by decide) [1, 2, 3, 4, 5, 6, 7, 8, 9, 10, 11, 12, 0] (lv' := [(0, .ref adt), (1, .int i), (2, .int j), (3, .long limit), (5, .int x5_2), (6, .int x6_4), (7, .int x7_7), (8, .long r_9), (10, .long i10_13), (12, .int i12_11), (13, .int i13_14), (14, .int x14_17), (15, .long x15_20)]) rfl ?_
        refine v_lload hk dX9_waysWith_143 rfl ?_
        refine v_lload_n hk dX9_waysWith_145 rfl ?_
        refine v_lcmp hk dX9_waysWith_146 ?_
        obtain ⟨y_21, ey_21, h⟩ := bd_e (g := (lpk (lp (b_X9_waysWith_77 ntf ftf limit x5_2 x6_4 x7_7 r_9 i12_11) nn))) rfl h
        have Jy_21 : V K 17 [(adts, .inl (gI (kG K), nts, .inl fts)), (adt, .inr (8, [.ref ads, .ref adtc, .ref adtf, .ref adts])), (adtf, .inl (gI (kG K), ntf, .inl ftf))] 0 0 157 [(0, .ref adt), (1, .int i), (2, .int j), (3, .long limit), (5, .int x5_2), (6, .int x6_4), (7, .int x7_7), (8, .long r_9), (10, .long y_21), (12, .int i12_11), (13, .int i13_14), (14, .int x14_17), (15, .long x15_20)] [] := by
          obtain ⟨x13_22, ex13_22, h⟩ := lt_e (g := (lpk (lp (b_X9_waysWith_77 ntf ftf limit x5_2 x6_4 x7_7 r_9 i12_11) nn))) h
          refine v_iinc (v := x13_22) hk dX9_waysWith_157 rfl (by rw [ex13_22]; rfl) (by decide) [1, 2, 3, 4, 5, 6, 7, 8, 9, 10, 0, 11, 12] (lv' := [(0, .ref adt), (1, .int i), (2, .int j), (3, .long limit), (5, .int x5_2), (6, .int x6_4), (7, .int x7_7), (8, .long r_9), (10, .long y_21), (12, .int i12_11), (13, .int x13_22), (14, .int x14_17), (15, .long x15_20)]) rfl ?_
          refine v_goto (tgt := 77) hk dX9_waysWith_160 (by decide) ?_
          refine v_loc [0, 1, 2, 3, 4, 5, 6, 7, 8, 9, 10] (lv' := [(0, .ref adt), (1, .int i), (2, .int j), (3, .long limit), (5, .int x5_2), (6, .int x6_4), (7, .int x7_7), (8, .long r_9), (10, .long y_21), (12, .int i12_11), (13, .int x13_22)]) rfl ?_
          exact ih y_21 x13_22 h
        clear h
        have h := id_e ey_21
        clear ey_21
        refine v_if_gt (tgt := 157) hk dX9_waysWith_147 (by decide) (fun hc => ?_) (fun hc => ?_)
        · replace h := it_t (g := id) h hc
          replace h : some (i10_13 : Int64) = some y_21 := h
          replace h := Option.some.inj h
          subst h
          exact Jy_21
        · replace h := it_f (g := id) h hc
          refine v_lload hk dX9_waysWith_150 rfl ?_
          refine v_lload hk dX9_waysWith_152 rfl ?_
          refine v_ladd hk dX9_waysWith_154 ?_
          obtain ⟨x10_23, ex10_23, h⟩ := lt_e (g := id) h
          refine v_topl ex10_23.symm ?_
          refine v_lstore hk dX9_waysWith_155 (by decide) [1, 2, 3, 4, 5, 6, 7, 8, 0, 9, 10, 11, 12] (lv' := [(0, .ref adt), (1, .int i), (2, .int j), (3, .long limit), (5, .int x5_2), (6, .int x6_4), (7, .int x7_7), (8, .long r_9), (10, .long x10_23), (12, .int i12_11), (13, .int i13_14), (14, .int x14_17), (15, .long x15_20)]) rfl ?_
          replace h : some (x10_23 : Int64) = some y_21 := h
          replace h := Option.some.inj h
          subst h
          exact Jy_21
set_option maxHeartbeats 4000000 in
set_option maxRecDepth 100000 in
theorem L_X9_waysWith_57 {K : Cx} {R9 : Room} (hk : Ok K cX9_waysWith 17 RX9 w2_X9_waysWith R9) (hR9 : RoomGe R9 rm_X9_waysWith) (adt : Nat) (adtf : Nat) (adts : Nat) (ads : Nat) (adtc : Nat) (ntf : Nat) (ftf : Nat → Int32) (nts : Nat) (fts : Nat → Int32) (i : Int32) (j : Int32) (limit : Int64) (x5_2 : Int32) (x6_4 : Int32) (x7_7 : Int32) (r_9 : Int64) (b9 : (Int64 × Int32)) (kk0 : ∀ q9 : (Int64 × Int32), b9 = q9 → V K 17 [(adts, .inl (gI (kG K), nts, .inl fts)), (adt, .inr (8, [.ref ads, .ref adtc, .ref adtf, .ref adts])), (adtf, .inl (gI (kG K), ntf, .inl ftf))] 0 0 169 [(0, .ref adt), (1, .int i), (2, .int j), (3, .long limit), (5, .int x5_2), (6, .int x6_4), (7, .int x7_7), (8, .long r_9), (10, .long q9.1), (12, .int q9.2)] []) : ∀ (nn : Nat) (i10_10 : Int64) (i12_11 : Int32), lp (b_X9_waysWith_57 ntf ftf limit x5_2 x6_4 x7_7 r_9) nn (i10_10, i12_11) = some b9 → V K 17 [(adts, .inl (gI (kG K), nts, .inl fts)), (adt, .inr (8, [.ref ads, .ref adtc, .ref adtf, .ref adts])), (adtf, .inl (gI (kG K), ntf, .inl ftf))] 0 0 57 [(0, .ref adt), (1, .int i), (2, .int j), (3, .long limit), (5, .int x5_2), (6, .int x6_4), (7, .int x7_7), (8, .long r_9), (10, .long i10_10), (12, .int i12_11)] [] := by
  intro nn
  induction nn with
  | zero => intro i10_10 i12_11 h; exact absurd h (by simp [lp])
  | succ nn ih =>
    intro i10_10 i12_11 h
    replace h := lp_s h
    rw [eb_X9_waysWith_57] at h
    refine v_iload hk dX9_waysWith_57 rfl ?_
    refine v_aload_n hk dX9_waysWith_59 rfl ?_
    refine v_iconst (v := 1) hk dX9_waysWith_60 (by decide) ?_
    obtain ⟨r_12, er_12, h⟩ := bd_e (g := (lpk (lp (b_X9_waysWith_57 ntf ftf limit x5_2 x6_4 x7_7 r_9) nn))) rfl h
    refine v_callV (n := 1) (st := [.int i12_11]) (b := adt) (T := TX9) (N := 4) hk dX9_waysWith_61 (c_X9_first (kl K) (kG K) adt adtf ads adtc adts ntf ftf 1 r_12 er_12) rfl gd_X9_waysWith_X9_first rfl (by decide +kernel) (frok hR9 (Nat.le_of_ble_eq_true rfl) (Nat.le_of_ble_eq_true rfl)) (roomk hR9 (Nat.le_of_ble_eq_true rfl) (Nat.le_of_ble_eq_true rfl)) rfl rfl (Nat.le_of_ble_eq_true rfl) 1 rfl rfl [1, 2] [0] (wr := [(adts, .inl (gI (kG K), nts, .inl fts))]) rfl rfl (by decide) (by decide) (by decide) ?_
    intro v9 w9 hp9
    obtain ⟨rfl, rfl⟩ := hp9
    show V K 17 [(adts, .inl (gI (kG K), nts, .inl fts)), (adt, .inr (8, [.ref ads, .ref adtc, .ref adtf, .ref adts])), (adtf, .inl (gI (kG K), ntf, .inl ftf))] 0 0 64 [(0, .ref adt), (1, .int i), (2, .int j), (3, .long limit), (5, .int x5_2), (6, .int x6_4), (7, .int x7_7), (8, .long r_9), (10, .long i10_10), (12, .int i12_11)] [.int r_12, .int i12_11]
    refine v_icmp_gt (tgt := 169) hk dX9_waysWith_64 (by decide) (fun hc => ?_) (fun hc => ?_)
    · replace h := it_t (g := (lpk (lp (b_X9_waysWith_57 ntf ftf limit x5_2 x6_4 x7_7 r_9) nn))) h hc
      replace h : some (i10_10, i12_11) = some b9 := h
      replace h := Option.some.inj h
      subst h
      exact kk0 _ rfl
    · replace h := it_f (g := (lpk (lp (b_X9_waysWith_57 ntf ftf limit x5_2 x6_4 x7_7 r_9) nn))) h hc
      refine v_iload hk dX9_waysWith_67 rfl ?_
      refine v_iload hk dX9_waysWith_69 rfl ?_
      refine v_icmp_gt (tgt := 169) hk dX9_waysWith_71 (by decide) (fun hc => ?_) (fun hc => ?_)
      · replace h := it_t (g := (lpk (lp (b_X9_waysWith_57 ntf ftf limit x5_2 x6_4 x7_7 r_9) nn))) h hc
        replace h : some (i10_10, i12_11) = some b9 := h
        replace h := Option.some.inj h
        subst h
        exact kk0 _ rfl
      · replace h := it_f (g := (lpk (lp (b_X9_waysWith_57 ntf ftf limit x5_2 x6_4 x7_7 r_9) nn))) h hc
        refine v_iconst (v := 0) hk dX9_waysWith_74 (by decide) ?_
        refine v_istore hk dX9_waysWith_75 (by decide) [1, 2, 3, 4, 5, 6, 7, 8, 9, 10, 0] (lv' := [(0, .ref adt), (1, .int i), (2, .int j), (3, .long limit), (5, .int x5_2), (6, .int x6_4), (7, .int x7_7), (8, .long r_9), (10, .long i10_10), (12, .int i12_11), (13, .int 0)]) rfl ?_
        obtain ⟨b_26, eb_26, h⟩ := bd_e (g := (lpk (lp (b_X9_waysWith_57 ntf ftf limit x5_2 x6_4 x7_7 r_9) nn))) rfl h
        refine L_X9_waysWith_77 hk hR9 adt adtf adts ads adtc ntf ftf nts fts i j limit x5_2 x6_4 x7_7 r_9 i12_11 b_26 (fun q_24 eq_24 => ?_) FU i10_10 0 eb_26
        · replace eq_24 := eq_24.symm
          subst eq_24
          obtain ⟨x12_25, ex12_25, h⟩ := lt_e (g := (lpk (lp (b_X9_waysWith_57 ntf ftf limit x5_2 x6_4 x7_7 r_9) nn))) h
          refine v_iinc (v := x12_25) hk dX9_waysWith_163 rfl (by rw [ex12_25]; rfl) (by decide) [1, 2, 3, 4, 5, 6, 7, 8, 9, 0, 10] (lv' := [(0, .ref adt), (1, .int i), (2, .int j), (3, .long limit), (5, .int x5_2), (6, .int x6_4), (7, .int x7_7), (8, .long r_9), (10, .long q_24.1), (12, .int x12_25), (13, .int q_24.2)]) rfl ?_
          refine v_goto (tgt := 57) hk dX9_waysWith_166 (by decide) ?_
          refine v_loc [0, 1, 2, 3, 4, 5, 6, 7, 8, 9] (lv' := [(0, .ref adt), (1, .int i), (2, .int j), (3, .long limit), (5, .int x5_2), (6, .int x6_4), (7, .int x7_7), (8, .long r_9), (10, .long q_24.1), (12, .int x12_25)]) rfl ?_
          exact ih q_24.1 x12_25 h
set_option maxHeartbeats 4000000 in
set_option maxRecDepth 100000 in
theorem c_X9_waysWith (l : Launch) (G : GG) (adt : Nat) (adtf : Nat) (adts : Nat) (ads : Nat) (adtc : Nat) (ntf : Nat) (ftf : Nat → Int32) (nts : Nat) (fts : Nat → Int32) (i : Int32) (j : Int32) (limit : Int64) (r : Int64) (h : m_X9_waysWith ntf ftf nts fts i j limit = some r) : Ctr l G yX9_waysWith w2_X9_waysWith rm_X9_waysWith [.ref adt, .int i, .int j, .long limit] [(adt, .inr (8, [.ref ads, .ref adtc, .ref adtf, .ref adts])), (adtf, .inl (gI G, ntf, .inl ftf)), (adts, .inl (gI G, nts, .inl fts))] (fun v w => v = some (.long r) ∧ w = [(adt, .inr (8, [.ref ads, .ref adtc, .ref adtf, .ref adts])), (adtf, .inl (gI G, ntf, .inl ftf)), (adts, .inl (gI G, nts, .inl fts))]) := by
  refine ctr_entry (cc := cX9_waysWith) (maxL := 17) (ret := some .long) (lv0 := [(0, .ref adt), (1, .int i), (2, .int j), (3, .long limit)]) (by decide) rfl (Nat.le_of_ble_eq_true rfl) (by simp [lv_args, Value.category]) ?_
  intro K hl9 hG9 hk hn9 hrt
  subst hl9
  subst hG9
  have hR9 : RoomGe rm_X9_waysWith rm_X9_waysWith := RoomGe.rf
  replace h := id_e h
  rw [em_X9_waysWith] at h
  refine v_aload_n hk dX9_waysWith_0 rfl ?_
  refine v_iconst (v := 0) hk dX9_waysWith_1 (by decide) ?_
  obtain ⟨r_1, er_1, h⟩ := bd_e (g := id) rfl h
  refine v_callV (n := 1) (st := []) (b := adt) (T := TX9) (N := 4) hk dX9_waysWith_2 (c_X9_second (kl K) (kG K) adt adts ads adtc adtf nts fts 0 r_1 er_1) rfl gd_X9_waysWith_X9_second rfl (by decide +kernel) (frok hR9 (Nat.le_of_ble_eq_true rfl) (Nat.le_of_ble_eq_true rfl)) (roomk hR9 (Nat.le_of_ble_eq_true rfl) (Nat.le_of_ble_eq_true rfl)) rfl rfl (Nat.le_of_ble_eq_true rfl) 0 rfl rfl [0, 2] [1] (wr := [(adtf, .inl (gI (kG K), ntf, .inl ftf))]) rfl rfl (by decide) (by decide) (by decide) ?_
  intro v9 w9 hp9
  obtain ⟨rfl, rfl⟩ := hp9
  show V K 17 [(adtf, .inl (gI (kG K), ntf, .inl ftf)), (adt, .inr (8, [.ref ads, .ref adtc, .ref adtf, .ref adts])), (adts, .inl (gI (kG K), nts, .inl fts))] 0 0 5 [(0, .ref adt), (1, .int i), (2, .int j), (3, .long limit)] [.int r_1]
  refine v_iload_n hk dX9_waysWith_5 rfl ?_
  refine v_isub hk dX9_waysWith_6 ?_
  obtain ⟨x5_2, ex5_2, h⟩ := lt_e (g := id) h
  refine v_topi ex5_2.symm ?_
  refine v_istore hk dX9_waysWith_7 (by decide) [1, 2, 3, 4, 0] (lv' := [(0, .ref adt), (1, .int i), (2, .int j), (3, .long limit), (5, .int x5_2)]) rfl ?_
  refine v_aload_n hk dX9_waysWith_9 rfl ?_
  refine v_iconst (v := 1) hk dX9_waysWith_10 (by decide) ?_
  obtain ⟨r_3, er_3, h⟩ := bd_e (g := id) rfl h
  refine v_callV (n := 1) (st := []) (b := adt) (T := TX9) (N := 4) hk dX9_waysWith_11 (c_X9_second (kl K) (kG K) adt adts ads adtc adtf nts fts 1 r_3 er_3) rfl gd_X9_waysWith_X9_second rfl (by decide +kernel) (frok hR9 (Nat.le_of_ble_eq_true rfl) (Nat.le_of_ble_eq_true rfl)) (roomk hR9 (Nat.le_of_ble_eq_true rfl) (Nat.le_of_ble_eq_true rfl)) rfl rfl (Nat.le_of_ble_eq_true rfl) 1 rfl rfl [1, 2] [0] (wr := [(adtf, .inl (gI (kG K), ntf, .inl ftf))]) rfl rfl (by decide) (by decide) (by decide) ?_
  intro v9 w9 hp9
  obtain ⟨rfl, rfl⟩ := hp9
  show V K 17 [(adtf, .inl (gI (kG K), ntf, .inl ftf)), (adt, .inr (8, [.ref ads, .ref adtc, .ref adtf, .ref adts])), (adts, .inl (gI (kG K), nts, .inl fts))] 0 0 14 [(0, .ref adt), (1, .int i), (2, .int j), (3, .long limit), (5, .int x5_2)] [.int r_3]
  refine v_iload_n hk dX9_waysWith_14 rfl ?_
  refine v_isub hk dX9_waysWith_15 ?_
  obtain ⟨x6_4, ex6_4, h⟩ := lt_e (g := id) h
  refine v_topi ex6_4.symm ?_
  refine v_istore hk dX9_waysWith_16 (by decide) [1, 2, 3, 4, 5, 0] (lv' := [(0, .ref adt), (1, .int i), (2, .int j), (3, .long limit), (5, .int x5_2), (6, .int x6_4)]) rfl ?_
  refine v_aload_n hk dX9_waysWith_18 rfl ?_
  refine v_iconst (v := 2) hk dX9_waysWith_19 (by decide) ?_
  obtain ⟨r_5, er_5, h⟩ := bd_e (g := id) rfl h
  refine v_callV (n := 1) (st := []) (b := adt) (T := TX9) (N := 4) hk dX9_waysWith_20 (c_X9_second (kl K) (kG K) adt adts ads adtc adtf nts fts 2 r_5 er_5) rfl gd_X9_waysWith_X9_second rfl (by decide +kernel) (frok hR9 (Nat.le_of_ble_eq_true rfl) (Nat.le_of_ble_eq_true rfl)) (roomk hR9 (Nat.le_of_ble_eq_true rfl) (Nat.le_of_ble_eq_true rfl)) rfl rfl (Nat.le_of_ble_eq_true rfl) 1 rfl rfl [1, 2] [0] (wr := [(adtf, .inl (gI (kG K), ntf, .inl ftf))]) rfl rfl (by decide) (by decide) (by decide) ?_
  intro v9 w9 hp9
  obtain ⟨rfl, rfl⟩ := hp9
  show V K 17 [(adtf, .inl (gI (kG K), ntf, .inl ftf)), (adt, .inr (8, [.ref ads, .ref adtc, .ref adtf, .ref adts])), (adts, .inl (gI (kG K), nts, .inl fts))] 0 0 23 [(0, .ref adt), (1, .int i), (2, .int j), (3, .long limit), (5, .int x5_2), (6, .int x6_4)] [.int r_5]
  refine v_aload_n hk dX9_waysWith_23 rfl ?_
  refine v_iconst (v := 0) hk dX9_waysWith_24 (by decide) ?_
  obtain ⟨r_6, er_6, h⟩ := bd_e (g := id) rfl h
  refine v_callV (n := 1) (st := [.int r_5]) (b := adt) (T := TX9) (N := 4) hk dX9_waysWith_25 (c_X9_first (kl K) (kG K) adt adtf ads adtc adts ntf ftf 0 r_6 er_6) rfl gd_X9_waysWith_X9_first rfl (by decide +kernel) (frok hR9 (Nat.le_of_ble_eq_true rfl) (Nat.le_of_ble_eq_true rfl)) (roomk hR9 (Nat.le_of_ble_eq_true rfl) (Nat.le_of_ble_eq_true rfl)) rfl rfl (Nat.le_of_ble_eq_true rfl) 1 rfl rfl [1, 0] [2] (wr := [(adts, .inl (gI (kG K), nts, .inl fts))]) rfl rfl (by decide) (by decide) (by decide) ?_
  intro v9 w9 hp9
  obtain ⟨rfl, rfl⟩ := hp9
  show V K 17 [(adts, .inl (gI (kG K), nts, .inl fts)), (adt, .inr (8, [.ref ads, .ref adtc, .ref adtf, .ref adts])), (adtf, .inl (gI (kG K), ntf, .inl ftf))] 0 0 28 [(0, .ref adt), (1, .int i), (2, .int j), (3, .long limit), (5, .int x5_2), (6, .int x6_4)] [.int r_6, .int r_5]
  refine v_iload_n hk dX9_waysWith_28 rfl ?_
  refine v_isub hk dX9_waysWith_29 ?_
  refine v_iload_n hk dX9_waysWith_30 rfl ?_
  refine v_isub hk dX9_waysWith_31 ?_
  refine v_isub hk dX9_waysWith_32 ?_
  obtain ⟨x7_7, ex7_7, h⟩ := lt_e (g := id) h
  refine v_topi ex7_7.symm ?_
  refine v_istore hk dX9_waysWith_33 (by decide) [1, 2, 3, 4, 5, 6, 0] (lv' := [(0, .ref adt), (1, .int i), (2, .int j), (3, .long limit), (5, .int x5_2), (6, .int x6_4), (7, .int x7_7)]) rfl ?_
  refine v_iload_n hk dX9_waysWith_35 rfl ?_
  refine v_iload_n hk dX9_waysWith_36 rfl ?_
  refine v_aload_n hk dX9_waysWith_37 rfl ?_
  refine v_iconst (v := 0) hk dX9_waysWith_38 (by decide) ?_
  obtain ⟨r_8, er_8, h⟩ := bd_e (g := id) rfl h
  refine v_callV (n := 1) (st := [.int j, .int i]) (b := adt) (T := TX9) (N := 4) hk dX9_waysWith_39 (c_X9_first (kl K) (kG K) adt adtf ads adtc adts ntf ftf 0 r_8 er_8) rfl gd_X9_waysWith_X9_first rfl (by decide +kernel) (frok hR9 (Nat.le_of_ble_eq_true rfl) (Nat.le_of_ble_eq_true rfl)) (roomk hR9 (Nat.le_of_ble_eq_true rfl) (Nat.le_of_ble_eq_true rfl)) rfl rfl (Nat.le_of_ble_eq_true rfl) 1 rfl rfl [1, 2] [0] (wr := [(adts, .inl (gI (kG K), nts, .inl fts))]) rfl rfl (by decide) (by decide) (by decide) ?_
  intro v9 w9 hp9
  obtain ⟨rfl, rfl⟩ := hp9
  show V K 17 [(adts, .inl (gI (kG K), nts, .inl fts)), (adt, .inr (8, [.ref ads, .ref adtc, .ref adtf, .ref adts])), (adtf, .inl (gI (kG K), ntf, .inl ftf))] 0 0 42 [(0, .ref adt), (1, .int i), (2, .int j), (3, .long limit), (5, .int x5_2), (6, .int x6_4), (7, .int x7_7)] [.int r_8, .int j, .int i]
  refine v_iload_n hk dX9_waysWith_42 rfl ?_
  refine v_isub hk dX9_waysWith_43 ?_
  refine v_iload_n hk dX9_waysWith_44 rfl ?_
  refine v_isub hk dX9_waysWith_45 ?_
  obtain ⟨r_9, er_9, h⟩ := bd_e (g := id) rfl h
  refine v_callS (n := 3) (st := []) hk dX9_waysWith_46 (c_X9_deals (kl K) (kG K) i j ((r_8 - i) - j) r_9 er_9) gd_X9_waysWith_X9_deals rfl (by decide +kernel) (frok hR9 (Nat.le_of_ble_eq_true rfl) (Nat.le_of_ble_eq_true rfl)) (roomk hR9 (Nat.le_of_ble_eq_true rfl) (Nat.le_of_ble_eq_true rfl)) rfl rfl (Nat.le_of_ble_eq_true rfl) [] [0, 1, 2] (wr := [(adts, .inl (gI (kG K), nts, .inl fts)), (adt, .inr (8, [.ref ads, .ref adtc, .ref adtf, .ref adts])), (adtf, .inl (gI (kG K), ntf, .inl ftf))]) rfl rfl (by decide) (by decide) (by decide) ?_
  intro v9 w9 hp9
  obtain ⟨rfl, rfl⟩ := hp9
  show V K 17 [(adts, .inl (gI (kG K), nts, .inl fts)), (adt, .inr (8, [.ref ads, .ref adtc, .ref adtf, .ref adts])), (adtf, .inl (gI (kG K), ntf, .inl ftf))] 0 0 49 [(0, .ref adt), (1, .int i), (2, .int j), (3, .long limit), (5, .int x5_2), (6, .int x6_4), (7, .int x7_7)] [.long r_9]
  refine v_lstore hk dX9_waysWith_49 (by decide) [1, 2, 3, 4, 5, 6, 7, 0] (lv' := [(0, .ref adt), (1, .int i), (2, .int j), (3, .long limit), (5, .int x5_2), (6, .int x6_4), (7, .int x7_7), (8, .long r_9)]) rfl ?_
  refine v_lconst (v := 0) hk dX9_waysWith_51 (by decide) ?_
  refine v_lstore hk dX9_waysWith_52 (by decide) [1, 2, 3, 4, 5, 6, 7, 8, 0] (lv' := [(0, .ref adt), (1, .int i), (2, .int j), (3, .long limit), (5, .int x5_2), (6, .int x6_4), (7, .int x7_7), (8, .long r_9), (10, .long 0)]) rfl ?_
  refine v_iconst (v := 0) hk dX9_waysWith_54 (by decide) ?_
  refine v_istore hk dX9_waysWith_55 (by decide) [1, 2, 3, 4, 5, 6, 7, 8, 9, 0] (lv' := [(0, .ref adt), (1, .int i), (2, .int j), (3, .long limit), (5, .int x5_2), (6, .int x6_4), (7, .int x7_7), (8, .long r_9), (10, .long 0), (12, .int 0)]) rfl ?_
  obtain ⟨b_28, eb_28, h⟩ := bd_e (g := id) rfl h
  refine L_X9_waysWith_57 hk hR9 adt adtf adts ads adtc ntf ftf nts fts i j limit x5_2 x6_4 x7_7 r_9 b_28 (fun q_27 eq_27 => ?_) FU 0 0 eb_28
  · replace eq_27 := eq_27.symm
    subst eq_27
    refine v_lload hk dX9_waysWith_169 rfl ?_
    replace h : some q_27.1 = some r := h
    replace h := Option.some.inj h
    subst h
    refine v_perm [1, 2, 0] (ws' := [(adt, .inr (8, [.ref ads, .ref adtc, .ref adtf, .ref adts])), (adtf, .inl (gI (kG K), ntf, .inl ftf)), (adts, .inl (gI (kG K), nts, .inl fts))]) rfl rfl (by decide) ?_
    refine hrt (some (.long q_27.1)) _ _ _ _ _ (⟨rfl, rfl⟩) (Nat.zero_le _) (Nat.zero_le _) (dX9_waysWith_171)
abbrev rm_X9_allWays : Room := { frames := 2, cells := 0, slots := 0, locals := 44 }
set_option maxHeartbeats 4000000 in
set_option maxRecDepth 100000 in
theorem c_X9_allWays (l : Launch) (G : GG) (adt : Nat) (adts : Nat) (ads : Nat) (adtc : Nat) (adtf : Nat) (nts : Nat) (fts : Nat → Int32) (r : Int64) (h : m_X9_allWays nts fts = some r) : Ctr l G yX9_allWays w2_X9_allWays rm_X9_allWays [.ref adt] [(adt, .inr (8, [.ref ads, .ref adtc, .ref adtf, .ref adts])), (adts, .inl (gI G, nts, .inl fts))] (fun v w => v = some (.long r) ∧ w = [(adt, .inr (8, [.ref ads, .ref adtc, .ref adtf, .ref adts])), (adts, .inl (gI G, nts, .inl fts))]) := by
  refine ctr_entry (cc := cX9_allWays) (maxL := 1) (ret := some .long) (lv0 := [(0, .ref adt)]) (by decide) rfl (Nat.le_of_ble_eq_true rfl) (rfl) ?_
  intro K hl9 hG9 hk hn9 hrt
  subst hl9
  subst hG9
  have hR9 : RoomGe rm_X9_allWays rm_X9_allWays := RoomGe.rf
  replace h := id_e h
  rw [em_X9_allWays] at h
  refine v_aload_n hk dX9_allWays_0 rfl ?_
  refine v_iconst (v := 0) hk dX9_allWays_1 (by decide) ?_
  obtain ⟨r_1, er_1, h⟩ := bd_e (g := id) rfl h
  refine v_callV (n := 1) (st := []) (b := adt) (T := TX9) (N := 4) hk dX9_allWays_2 (c_X9_second (kl K) (kG K) adt adts ads adtc adtf nts fts 0 r_1 er_1) rfl gd_X9_allWays_X9_second rfl (by decide +kernel) (frok hR9 (Nat.le_of_ble_eq_true rfl) (Nat.le_of_ble_eq_true rfl)) (roomk hR9 (Nat.le_of_ble_eq_true rfl) (Nat.le_of_ble_eq_true rfl)) rfl rfl (Nat.le_of_ble_eq_true rfl) 0 rfl rfl [0, 1] [] (wr := []) rfl rfl (by decide) (by decide) (by decide) ?_
  intro v9 w9 hp9
  obtain ⟨rfl, rfl⟩ := hp9
  show V K 1 [(adt, .inr (8, [.ref ads, .ref adtc, .ref adtf, .ref adts])), (adts, .inl (gI (kG K), nts, .inl fts))] 0 0 5 [(0, .ref adt)] [.int r_1]
  refine v_aload_n hk dX9_allWays_5 rfl ?_
  refine v_iconst (v := 1) hk dX9_allWays_6 (by decide) ?_
  obtain ⟨r_2, er_2, h⟩ := bd_e (g := id) rfl h
  refine v_callV (n := 1) (st := [.int r_1]) (b := adt) (T := TX9) (N := 4) hk dX9_allWays_7 (c_X9_second (kl K) (kG K) adt adts ads adtc adtf nts fts 1 r_2 er_2) rfl gd_X9_allWays_X9_second rfl (by decide +kernel) (frok hR9 (Nat.le_of_ble_eq_true rfl) (Nat.le_of_ble_eq_true rfl)) (roomk hR9 (Nat.le_of_ble_eq_true rfl) (Nat.le_of_ble_eq_true rfl)) rfl rfl (Nat.le_of_ble_eq_true rfl) 0 rfl rfl [0, 1] [] (wr := []) rfl rfl (by decide) (by decide) (by decide) ?_
  intro v9 w9 hp9
  obtain ⟨rfl, rfl⟩ := hp9
  show V K 1 [(adt, .inr (8, [.ref ads, .ref adtc, .ref adtf, .ref adts])), (adts, .inl (gI (kG K), nts, .inl fts))] 0 0 10 [(0, .ref adt)] [.int r_2, .int r_1]
  refine v_aload_n hk dX9_allWays_10 rfl ?_
  refine v_iconst (v := 2) hk dX9_allWays_11 (by decide) ?_
  obtain ⟨r_3, er_3, h⟩ := bd_e (g := id) rfl h
  refine v_callV (n := 1) (st := [.int r_2, .int r_1]) (b := adt) (T := TX9) (N := 4) hk dX9_allWays_12 (c_X9_second (kl K) (kG K) adt adts ads adtc adtf nts fts 2 r_3 er_3) rfl gd_X9_allWays_X9_second rfl (by decide +kernel) (frok hR9 (Nat.le_of_ble_eq_true rfl) (Nat.le_of_ble_eq_true rfl)) (roomk hR9 (Nat.le_of_ble_eq_true rfl) (Nat.le_of_ble_eq_true rfl)) rfl rfl (Nat.le_of_ble_eq_true rfl) 0 rfl rfl [0, 1] [] (wr := []) rfl rfl (by decide) (by decide) (by decide) ?_
  intro v9 w9 hp9
  obtain ⟨rfl, rfl⟩ := hp9
  show V K 1 [(adt, .inr (8, [.ref ads, .ref adtc, .ref adtf, .ref adts])), (adts, .inl (gI (kG K), nts, .inl fts))] 0 0 15 [(0, .ref adt)] [.int r_3, .int r_2, .int r_1]
  obtain ⟨r_4, er_4, h⟩ := bd_e (g := id) rfl h
  refine v_callS (n := 3) (st := []) hk dX9_allWays_15 (c_X9_deals (kl K) (kG K) r_1 r_2 r_3 r_4 er_4) gd_X9_allWays_X9_deals rfl (by decide +kernel) (frok hR9 (Nat.le_of_ble_eq_true rfl) (Nat.le_of_ble_eq_true rfl)) (roomk hR9 (Nat.le_of_ble_eq_true rfl) (Nat.le_of_ble_eq_true rfl)) rfl rfl (Nat.le_of_ble_eq_true rfl) [] [0, 1] (wr := [(adt, .inr (8, [.ref ads, .ref adtc, .ref adtf, .ref adts])), (adts, .inl (gI (kG K), nts, .inl fts))]) rfl rfl (by decide) (by decide) (by decide) ?_
  intro v9 w9 hp9
  obtain ⟨rfl, rfl⟩ := hp9
  show V K 1 [(adt, .inr (8, [.ref ads, .ref adtc, .ref adtf, .ref adts])), (adts, .inl (gI (kG K), nts, .inl fts))] 0 0 18 [(0, .ref adt)] [.long r_4]
  replace h : some r_4 = some r := h
  replace h := Option.some.inj h
  subst h
  refine hrt (some (.long r_4)) _ _ _ _ _ (⟨rfl, rfl⟩) (Nat.zero_le _) (Nat.zero_le _) (dX9_allWays_18)
abbrev rm_X9_waysNotAbove : Room := { frames := 3, cells := 0, slots := 0, locals := 80 }
set_option maxHeartbeats 4000000 in
set_option maxRecDepth 100000 in
theorem L_X9_waysNotAbove_4 {K : Cx} {R9 : Room} (hk : Ok K cX9_waysNotAbove 7 RX9 w2_X9_waysNotAbove R9) (hR9 : RoomGe R9 rm_X9_waysNotAbove) (adt : Nat) (adtc : Nat) (adtf : Nat) (adts : Nat) (ads : Nat) (ntc : Nat) (ftc : Nat → Int32) (ntf : Nat) (ftf : Nat → Int32) (nts : Nat) (fts : Nat → Int32) (b9 : (Int64 × Int32)) (kk0 : ∀ q9 : (Int64 × Int32), b9 = q9 → V K 7 [(adt, .inr (8, [.ref ads, .ref adtc, .ref adtf, .ref adts])), (adtc, .inl (gI (kG K), ntc, .inl ftc)), (adtf, .inl (gI (kG K), ntf, .inl ftf)), (adts, .inl (gI (kG K), nts, .inl fts))] 0 0 39 [(0, .ref adt), (1, .long q9.1), (3, .int q9.2)] []) : ∀ (nn : Nat) (i1_1 : Int64) (i3_2 : Int32), lp (b_X9_waysNotAbove_4 ntc ftc) nn (i1_1, i3_2) = some b9 → V K 7 [(adt, .inr (8, [.ref ads, .ref adtc, .ref adtf, .ref adts])), (adtc, .inl (gI (kG K), ntc, .inl ftc)), (adtf, .inl (gI (kG K), ntf, .inl ftf)), (adts, .inl (gI (kG K), nts, .inl fts))] 0 0 4 [(0, .ref adt), (1, .long i1_1), (3, .int i3_2)] [] := by
  intro nn
  induction nn with
  | zero => intro i1_1 i3_2 h; exact absurd h (by simp [lp])
  | succ nn ih =>
    intro i1_1 i3_2 h
    replace h := lp_s h
    rw [eb_X9_waysNotAbove_4] at h
    refine v_iload_n hk dX9_waysNotAbove_4 rfl ?_
    refine v_iconst (v := 3) hk dX9_waysNotAbove_5 (by decide) ?_
    refine v_icmp_ge (tgt := 39) hk dX9_waysNotAbove_6 (by decide) (fun hc => ?_) (fun hc => ?_)
    · replace h := it_t (g := (lpk (lp (b_X9_waysNotAbove_4 ntc ftc) nn))) h hc
      replace h : some (i1_1, i3_2) = some b9 := h
      replace h := Option.some.inj h
      subst h
      exact kk0 _ rfl
    · replace h := it_f (g := (lpk (lp (b_X9_waysNotAbove_4 ntc ftc) nn))) h hc
      refine v_lload_n hk dX9_waysNotAbove_9 rfl ?_
      refine v_aload_n hk dX9_waysNotAbove_10 rfl ?_
      refine v_iload_n hk dX9_waysNotAbove_11 rfl ?_
      refine v_iconst (v := 0) hk dX9_waysNotAbove_12 (by decide) ?_
      obtain ⟨r_3, er_3, h⟩ := bd_e (g := (lpk (lp (b_X9_waysNotAbove_4 ntc ftc) nn))) rfl h
      refine v_callV (n := 2) (st := [.long i1_1]) (b := adt) (T := TX9) (N := 4) hk dX9_waysNotAbove_13 (c_X9_cell (kl K) (kG K) adt adtc ads adtf adts ntc ftc i3_2 0 r_3 er_3) rfl gd_X9_waysNotAbove_X9_cell rfl (by decide +kernel) (frok hR9 (Nat.le_of_ble_eq_true rfl) (Nat.le_of_ble_eq_true rfl)) (roomk hR9 (Nat.le_of_ble_eq_true rfl) (Nat.le_of_ble_eq_true rfl)) rfl rfl (Nat.le_of_ble_eq_true rfl) 0 rfl rfl [0, 1] [2, 3] (wr := [(adtf, .inl (gI (kG K), ntf, .inl ftf)), (adts, .inl (gI (kG K), nts, .inl fts))]) rfl rfl (by decide) (by decide) (by decide) ?_
      intro v9 w9 hp9
      obtain ⟨rfl, rfl⟩ := hp9
      show V K 7 [(adtf, .inl (gI (kG K), ntf, .inl ftf)), (adts, .inl (gI (kG K), nts, .inl fts)), (adt, .inr (8, [.ref ads, .ref adtc, .ref adtf, .ref adts])), (adtc, .inl (gI (kG K), ntc, .inl ftc))] 0 0 16 [(0, .ref adt), (1, .long i1_1), (3, .int i3_2)] [.int r_3, .long i1_1]
      refine v_aload_n hk dX9_waysNotAbove_16 rfl ?_
      refine v_iload_n hk dX9_waysNotAbove_17 rfl ?_
      refine v_iconst (v := 1) hk dX9_waysNotAbove_18 (by decide) ?_
      obtain ⟨r_4, er_4, h⟩ := bd_e (g := (lpk (lp (b_X9_waysNotAbove_4 ntc ftc) nn))) rfl h
      refine v_callV (n := 2) (st := [.int r_3, .long i1_1]) (b := adt) (T := TX9) (N := 4) hk dX9_waysNotAbove_19 (c_X9_cell (kl K) (kG K) adt adtc ads adtf adts ntc ftc i3_2 1 r_4 er_4) rfl gd_X9_waysNotAbove_X9_cell rfl (by decide +kernel) (frok hR9 (Nat.le_of_ble_eq_true rfl) (Nat.le_of_ble_eq_true rfl)) (roomk hR9 (Nat.le_of_ble_eq_true rfl) (Nat.le_of_ble_eq_true rfl)) rfl rfl (Nat.le_of_ble_eq_true rfl) 2 rfl rfl [2, 3] [0, 1] (wr := [(adtf, .inl (gI (kG K), ntf, .inl ftf)), (adts, .inl (gI (kG K), nts, .inl fts))]) rfl rfl (by decide) (by decide) (by decide) ?_
      intro v9 w9 hp9
      obtain ⟨rfl, rfl⟩ := hp9
      show V K 7 [(adtf, .inl (gI (kG K), ntf, .inl ftf)), (adts, .inl (gI (kG K), nts, .inl fts)), (adt, .inr (8, [.ref ads, .ref adtc, .ref adtf, .ref adts])), (adtc, .inl (gI (kG K), ntc, .inl ftc))] 0 0 22 [(0, .ref adt), (1, .long i1_1), (3, .int i3_2)] [.int r_4, .int r_3, .long i1_1]
      refine v_aload_n hk dX9_waysNotAbove_22 rfl ?_
      refine v_iload_n hk dX9_waysNotAbove_23 rfl ?_
      refine v_iconst (v := 2) hk dX9_waysNotAbove_24 (by decide) ?_
      obtain ⟨r_5, er_5, h⟩ := bd_e (g := (lpk (lp (b_X9_waysNotAbove_4 ntc ftc) nn))) rfl h
      refine v_callV (n := 2) (st := [.int r_4, .int r_3, .long i1_1]) (b := adt) (T := TX9) (N := 4) hk dX9_waysNotAbove_25 (c_X9_cell (kl K) (kG K) adt adtc ads adtf adts ntc ftc i3_2 2 r_5 er_5) rfl gd_X9_waysNotAbove_X9_cell rfl (by decide +kernel) (frok hR9 (Nat.le_of_ble_eq_true rfl) (Nat.le_of_ble_eq_true rfl)) (roomk hR9 (Nat.le_of_ble_eq_true rfl) (Nat.le_of_ble_eq_true rfl)) rfl rfl (Nat.le_of_ble_eq_true rfl) 2 rfl rfl [2, 3] [0, 1] (wr := [(adtf, .inl (gI (kG K), ntf, .inl ftf)), (adts, .inl (gI (kG K), nts, .inl fts))]) rfl rfl (by decide) (by decide) (by decide) ?_
      intro v9 w9 hp9
      obtain ⟨rfl, rfl⟩ := hp9
      show V K 7 [(adtf, .inl (gI (kG K), ntf, .inl ftf)), (adts, .inl (gI (kG K), nts, .inl fts)), (adt, .inr (8, [.ref ads, .ref adtc, .ref adtf, .ref adts])), (adtc, .inl (gI (kG K), ntc, .inl ftc))] 0 0 28 [(0, .ref adt), (1, .long i1_1), (3, .int i3_2)] [.int r_5, .int r_4, .int r_3, .long i1_1]
      obtain ⟨r_6, er_6, h⟩ := bd_e (g := (lpk (lp (b_X9_waysNotAbove_4 ntc ftc) nn))) rfl h
      refine v_callS (n := 3) (st := [.long i1_1]) hk dX9_waysNotAbove_28 (c_X9_deals (kl K) (kG K) r_3 r_4 r_5 r_6 er_6) gd_X9_waysNotAbove_X9_deals rfl (by decide +kernel) (frok hR9 (Nat.le_of_ble_eq_true rfl) (Nat.le_of_ble_eq_true rfl)) (roomk hR9 (Nat.le_of_ble_eq_true rfl) (Nat.le_of_ble_eq_true rfl)) rfl rfl (Nat.le_of_ble_eq_true rfl) [] [0, 1, 2, 3] (wr := [(adtf, .inl (gI (kG K), ntf, .inl ftf)), (adts, .inl (gI (kG K), nts, .inl fts)), (adt, .inr (8, [.ref ads, .ref adtc, .ref adtf, .ref adts])), (adtc, .inl (gI (kG K), ntc, .inl ftc))]) rfl rfl (by decide) (by decide) (by decide) ?_
      intro v9 w9 hp9
      obtain ⟨rfl, rfl⟩ := hp9
      show V K 7 [(adtf, .inl (gI (kG K), ntf, .inl ftf)), (adts, .inl (gI (kG K), nts, .inl fts)), (adt, .inr (8, [.ref ads, .ref adtc, .ref adtf, .ref adts])), (adtc, .inl (gI (kG K), ntc, .inl ftc))] 0 0 31 [(0, .ref adt), (1, .long i1_1), (3, .int i3_2)] [.long r_6, .long i1_1]
      refine v_lmul hk dX9_waysNotAbove_31 ?_
      obtain ⟨x1_7, ex1_7, h⟩ := lt_e (g := (lpk (lp (b_X9_waysNotAbove_4 ntc ftc) nn))) h
      refine v_topl ex1_7.symm ?_
      refine v_lstore_n hk dX9_waysNotAbove_32 rfl (by decide) [1, 0, 2] (lv' := [(0, .ref adt), (1, .long x1_7), (3, .int i3_2)]) rfl ?_
      obtain ⟨x3_8, ex3_8, h⟩ := lt_e (g := (lpk (lp (b_X9_waysNotAbove_4 ntc ftc) nn))) h
      refine v_iinc (v := x3_8) hk dX9_waysNotAbove_33 rfl (by rw [ex3_8]; rfl) (by decide) [1, 2, 0] (lv' := [(0, .ref adt), (1, .long x1_7), (3, .int x3_8)]) rfl ?_
      refine v_goto (tgt := 4) hk dX9_waysNotAbove_36 (by decide) ?_
      refine v_perm [2, 3, 0, 1] (ws' := [(adt, .inr (8, [.ref ads, .ref adtc, .ref adtf, .ref adts])), (adtc, .inl (gI (kG K), ntc, .inl ftc)), (adtf, .inl (gI (kG K), ntf, .inl ftf)), (adts, .inl (gI (kG K), nts, .inl fts))]) rfl rfl (by decide) ?_
      exact ih x1_7 x3_8 h
set_option maxHeartbeats 4000000 in
set_option maxRecDepth 100000 in
theorem L_X9_waysNotAbove_57 {K : Cx} {R9 : Room} (hk : Ok K cX9_waysNotAbove 7 RX9 w2_X9_waysNotAbove R9) (hR9 : RoomGe R9 rm_X9_waysNotAbove) (adt : Nat) (adtc : Nat) (adtf : Nat) (adts : Nat) (ads : Nat) (ntc : Nat) (ftc : Nat → Int32) (ntf : Nat) (ftf : Nat → Int32) (nts : Nat) (fts : Nat → Int32) (q_9 : Int64 × Int32) (i5_11 : Int32) (b9 : (Int64 × Int32)) (kk0 : ∀ q9 : (Int64 × Int32), b9 = q9 → V K 7 [(adtc, .inl (gI (kG K), ntc, .inl ftc)), (adts, .inl (gI (kG K), nts, .inl fts)), (adt, .inr (8, [.ref ads, .ref adtc, .ref adtf, .ref adts])), (adtf, .inl (gI (kG K), ntf, .inl ftf))] 0 0 88 [(0, .ref adt), (1, .long q_9.1), (3, .long q9.1), (5, .int i5_11), (6, .int q9.2)] []) : ∀ (nn : Nat) (i3_13 : Int64) (i6_14 : Int32), lp (b_X9_waysNotAbove_57 ntf ftf nts fts q_9 i5_11) nn (i3_13, i6_14) = some b9 → V K 7 [(adtc, .inl (gI (kG K), ntc, .inl ftc)), (adts, .inl (gI (kG K), nts, .inl fts)), (adt, .inr (8, [.ref ads, .ref adtc, .ref adtf, .ref adts])), (adtf, .inl (gI (kG K), ntf, .inl ftf))] 0 0 57 [(0, .ref adt), (1, .long q_9.1), (3, .long i3_13), (5, .int i5_11), (6, .int i6_14)] [] := by
  intro nn
  induction nn with
  | zero => intro i3_13 i6_14 h; exact absurd h (by simp [lp])
  | succ nn ih =>
    intro i3_13 i6_14 h
    replace h := lp_s h
    rw [eb_X9_waysNotAbove_57] at h
    refine v_iload hk dX9_waysNotAbove_57 rfl ?_
    refine v_iload hk dX9_waysNotAbove_59 rfl ?_
    refine v_iadd hk dX9_waysNotAbove_61 ?_
    refine v_aload_n hk dX9_waysNotAbove_62 rfl ?_
    refine v_iconst (v := 0) hk dX9_waysNotAbove_63 (by decide) ?_
    obtain ⟨r_15, er_15, h⟩ := bd_e (g := (lpk (lp (b_X9_waysNotAbove_57 ntf ftf nts fts q_9 i5_11) nn))) rfl h
    refine v_callV (n := 1) (st := [.int (i5_11 + i6_14)]) (b := adt) (T := TX9) (N := 4) hk dX9_waysNotAbove_64 (c_X9_first (kl K) (kG K) adt adtf ads adtc adts ntf ftf 0 r_15 er_15) rfl gd_X9_waysNotAbove_X9_first rfl (by decide +kernel) (frok hR9 (Nat.le_of_ble_eq_true rfl) (Nat.le_of_ble_eq_true rfl)) (roomk hR9 (Nat.le_of_ble_eq_true rfl) (Nat.le_of_ble_eq_true rfl)) rfl rfl (Nat.le_of_ble_eq_true rfl) 2 rfl rfl [2, 3] [0, 1] (wr := [(adtc, .inl (gI (kG K), ntc, .inl ftc)), (adts, .inl (gI (kG K), nts, .inl fts))]) rfl rfl (by decide) (by decide) (by decide) ?_
    intro v9 w9 hp9
    obtain ⟨rfl, rfl⟩ := hp9
    show V K 7 [(adtc, .inl (gI (kG K), ntc, .inl ftc)), (adts, .inl (gI (kG K), nts, .inl fts)), (adt, .inr (8, [.ref ads, .ref adtc, .ref adtf, .ref adts])), (adtf, .inl (gI (kG K), ntf, .inl ftf))] 0 0 67 [(0, .ref adt), (1, .long q_9.1), (3, .long i3_13), (5, .int i5_11), (6, .int i6_14)] [.int r_15, .int (i5_11 + i6_14)]
    refine v_icmp_gt (tgt := 88) hk dX9_waysNotAbove_67 (by decide) (fun hc => ?_) (fun hc => ?_)
    · replace h := it_t (g := (lpk (lp (b_X9_waysNotAbove_57 ntf ftf nts fts q_9 i5_11) nn))) h hc
      replace h : some (i3_13, i6_14) = some b9 := h
      replace h := Option.some.inj h
      subst h
      exact kk0 _ rfl
    · replace h := it_f (g := (lpk (lp (b_X9_waysNotAbove_57 ntf ftf nts fts q_9 i5_11) nn))) h hc
      refine v_lload_n hk dX9_waysNotAbove_70 rfl ?_
      refine v_aload_n hk dX9_waysNotAbove_71 rfl ?_
      refine v_iload hk dX9_waysNotAbove_72 rfl ?_
      refine v_iload hk dX9_waysNotAbove_74 rfl ?_
      refine v_lload_n hk dX9_waysNotAbove_76 rfl ?_
      obtain ⟨r_16, er_16, h⟩ := bd_e (g := (lpk (lp (b_X9_waysNotAbove_57 ntf ftf nts fts q_9 i5_11) nn))) rfl h
      refine v_callV (n := 3) (st := [.long i3_13]) (b := adt) (T := TX9) (N := 4) hk dX9_waysNotAbove_77 (c_X9_waysWith (kl K) (kG K) adt adtf adts ads adtc ntf ftf nts fts i5_11 i6_14 q_9.1 r_16 er_16) rfl gd_X9_waysNotAbove_X9_waysWith rfl (by decide +kernel) (frok hR9 (Nat.le_of_ble_eq_true rfl) (Nat.le_of_ble_eq_true rfl)) (roomk hR9 (Nat.le_of_ble_eq_true rfl) (Nat.le_of_ble_eq_true rfl)) rfl rfl (Nat.le_of_ble_eq_true rfl) 2 rfl rfl [2, 3, 1] [0] (wr := [(adtc, .inl (gI (kG K), ntc, .inl ftc))]) rfl rfl (by decide) (by decide) (by decide) ?_
      intro v9 w9 hp9
      obtain ⟨rfl, rfl⟩ := hp9
      show V K 7 [(adtc, .inl (gI (kG K), ntc, .inl ftc)), (adt, .inr (8, [.ref ads, .ref adtc, .ref adtf, .ref adts])), (adtf, .inl (gI (kG K), ntf, .inl ftf)), (adts, .inl (gI (kG K), nts, .inl fts))] 0 0 80 [(0, .ref adt), (1, .long q_9.1), (3, .long i3_13), (5, .int i5_11), (6, .int i6_14)] [.long r_16, .long i3_13]
      refine v_ladd hk dX9_waysNotAbove_80 ?_
      obtain ⟨x3_17, ex3_17, h⟩ := lt_e (g := (lpk (lp (b_X9_waysNotAbove_57 ntf ftf nts fts q_9 i5_11) nn))) h
      refine v_topl ex3_17.symm ?_
      refine v_lstore_n hk dX9_waysNotAbove_81 rfl (by decide) [1, 2, 0, 3, 4] (lv' := [(0, .ref adt), (1, .long q_9.1), (3, .long x3_17), (5, .int i5_11), (6, .int i6_14)]) rfl ?_
      obtain ⟨x6_18, ex6_18, h⟩ := lt_e (g := (lpk (lp (b_X9_waysNotAbove_57 ntf ftf nts fts q_9 i5_11) nn))) h
      refine v_iinc (v := x6_18) hk dX9_waysNotAbove_82 rfl (by rw [ex6_18]; rfl) (by decide) [1, 2, 3, 4, 0] (lv' := [(0, .ref adt), (1, .long q_9.1), (3, .long x3_17), (5, .int i5_11), (6, .int x6_18)]) rfl ?_
      refine v_goto (tgt := 57) hk dX9_waysNotAbove_85 (by decide) ?_
      refine v_perm [0, 3, 1, 2] (ws' := [(adtc, .inl (gI (kG K), ntc, .inl ftc)), (adts, .inl (gI (kG K), nts, .inl fts)), (adt, .inr (8, [.ref ads, .ref adtc, .ref adtf, .ref adts])), (adtf, .inl (gI (kG K), ntf, .inl ftf))]) rfl rfl (by decide) ?_
      exact ih x3_17 x6_18 h
set_option maxHeartbeats 4000000 in
set_option maxRecDepth 100000 in
theorem L_X9_waysNotAbove_44 {K : Cx} {R9 : Room} (hk : Ok K cX9_waysNotAbove 7 RX9 w2_X9_waysNotAbove R9) (hR9 : RoomGe R9 rm_X9_waysNotAbove) (adt : Nat) (adtc : Nat) (adtf : Nat) (adts : Nat) (ads : Nat) (ntc : Nat) (ftc : Nat → Int32) (ntf : Nat) (ftf : Nat → Int32) (nts : Nat) (fts : Nat → Int32) (q_9 : Int64 × Int32) (b9 : (Int64 × Int32)) (kk0 : ∀ q9 : (Int64 × Int32), b9 = q9 → V K 7 [(adt, .inr (8, [.ref ads, .ref adtc, .ref adtf, .ref adts])), (adtc, .inl (gI (kG K), ntc, .inl ftc)), (adtf, .inl (gI (kG K), ntf, .inl ftf)), (adts, .inl (gI (kG K), nts, .inl fts))] 0 0 94 [(0, .ref adt), (1, .long q_9.1), (3, .long q9.1), (5, .int q9.2)] []) : ∀ (nn : Nat) (i3_10 : Int64) (i5_11 : Int32), lp (b_X9_waysNotAbove_44 ntf ftf nts fts q_9) nn (i3_10, i5_11) = some b9 → V K 7 [(adt, .inr (8, [.ref ads, .ref adtc, .ref adtf, .ref adts])), (adtc, .inl (gI (kG K), ntc, .inl ftc)), (adtf, .inl (gI (kG K), ntf, .inl ftf)), (adts, .inl (gI (kG K), nts, .inl fts))] 0 0 44 [(0, .ref adt), (1, .long q_9.1), (3, .long i3_10), (5, .int i5_11)] [] := by
  intro nn
  induction nn with
  | zero => intro i3_10 i5_11 h; exact absurd h (by simp [lp])
  | succ nn ih =>
    intro i3_10 i5_11 h
    replace h := lp_s h
    rw [eb_X9_waysNotAbove_44] at h
    refine v_iload hk dX9_waysNotAbove_44 rfl ?_
    refine v_aload_n hk dX9_waysNotAbove_46 rfl ?_
    refine v_iconst (v := 0) hk dX9_waysNotAbove_47 (by decide) ?_
    obtain ⟨r_12, er_12, h⟩ := bd_e (g := (lpk (lp (b_X9_waysNotAbove_44 ntf ftf nts fts q_9) nn))) rfl h
    refine v_callV (n := 1) (st := [.int i5_11]) (b := adt) (T := TX9) (N := 4) hk dX9_waysNotAbove_48 (c_X9_first (kl K) (kG K) adt adtf ads adtc adts ntf ftf 0 r_12 er_12) rfl gd_X9_waysNotAbove_X9_first rfl (by decide +kernel) (frok hR9 (Nat.le_of_ble_eq_true rfl) (Nat.le_of_ble_eq_true rfl)) (roomk hR9 (Nat.le_of_ble_eq_true rfl) (Nat.le_of_ble_eq_true rfl)) rfl rfl (Nat.le_of_ble_eq_true rfl) 0 rfl rfl [0, 2] [1, 3] (wr := [(adtc, .inl (gI (kG K), ntc, .inl ftc)), (adts, .inl (gI (kG K), nts, .inl fts))]) rfl rfl (by decide) (by decide) (by decide) ?_
    intro v9 w9 hp9
    obtain ⟨rfl, rfl⟩ := hp9
    show V K 7 [(adtc, .inl (gI (kG K), ntc, .inl ftc)), (adts, .inl (gI (kG K), nts, .inl fts)), (adt, .inr (8, [.ref ads, .ref adtc, .ref adtf, .ref adts])), (adtf, .inl (gI (kG K), ntf, .inl ftf))] 0 0 51 [(0, .ref adt), (1, .long q_9.1), (3, .long i3_10), (5, .int i5_11)] [.int r_12, .int i5_11]
    refine v_icmp_gt (tgt := 94) hk dX9_waysNotAbove_51 (by decide) (fun hc => ?_) (fun hc => ?_)
    · replace h := it_t (g := (lpk (lp (b_X9_waysNotAbove_44 ntf ftf nts fts q_9) nn))) h hc
      refine v_perm [2, 0, 3, 1] (ws' := [(adt, .inr (8, [.ref ads, .ref adtc, .ref adtf, .ref adts])), (adtc, .inl (gI (kG K), ntc, .inl ftc)), (adtf, .inl (gI (kG K), ntf, .inl ftf)), (adts, .inl (gI (kG K), nts, .inl fts))]) rfl rfl (by decide) ?_
      replace h : some (i3_10, i5_11) = some b9 := h
      replace h := Option.some.inj h
      subst h
      exact kk0 _ rfl
    · replace h := it_f (g := (lpk (lp (b_X9_waysNotAbove_44 ntf ftf nts fts q_9) nn))) h hc
      refine v_iconst (v := 0) hk dX9_waysNotAbove_54 (by decide) ?_
      refine v_istore hk dX9_waysNotAbove_55 (by decide) [1, 2, 3, 4, 0] (lv' := [(0, .ref adt), (1, .long q_9.1), (3, .long i3_10), (5, .int i5_11), (6, .int 0)]) rfl ?_
      obtain ⟨b_21, eb_21, h⟩ := bd_e (g := (lpk (lp (b_X9_waysNotAbove_44 ntf ftf nts fts q_9) nn))) rfl h
      refine L_X9_waysNotAbove_57 hk hR9 adt adtc adtf adts ads ntc ftc ntf ftf nts fts q_9 i5_11 b_21 (fun q_19 eq_19 => ?_) FU i3_10 0 eb_21
      · replace eq_19 := eq_19.symm
        subst eq_19
        obtain ⟨x5_20, ex5_20, h⟩ := lt_e (g := (lpk (lp (b_X9_waysNotAbove_44 ntf ftf nts fts q_9) nn))) h
        refine v_iinc (v := x5_20) hk dX9_waysNotAbove_88 rfl (by rw [ex5_20]; rfl) (by decide) [1, 2, 3, 0, 4] (lv' := [(0, .ref adt), (1, .long q_9.1), (3, .long q_19.1), (5, .int x5_20), (6, .int q_19.2)]) rfl ?_
        refine v_goto (tgt := 44) hk dX9_waysNotAbove_91 (by decide) ?_
        refine v_loc [0, 1, 2, 3] (lv' := [(0, .ref adt), (1, .long q_9.1), (3, .long q_19.1), (5, .int x5_20)]) rfl ?_
        refine v_perm [2, 0, 3, 1] (ws' := [(adt, .inr (8, [.ref ads, .ref adtc, .ref adtf, .ref adts])), (adtc, .inl (gI (kG K), ntc, .inl ftc)), (adtf, .inl (gI (kG K), ntf, .inl ftf)), (adts, .inl (gI (kG K), nts, .inl fts))]) rfl rfl (by decide) ?_
        exact ih q_19.1 x5_20 h
set_option maxHeartbeats 4000000 in
set_option maxRecDepth 100000 in
theorem c_X9_waysNotAbove (l : Launch) (G : GG) (adt : Nat) (adtc : Nat) (adtf : Nat) (adts : Nat) (ads : Nat) (ntc : Nat) (ftc : Nat → Int32) (ntf : Nat) (ftf : Nat → Int32) (nts : Nat) (fts : Nat → Int32) (r : Int64) (h : m_X9_waysNotAbove ntc ftc ntf ftf nts fts = some r) : Ctr l G yX9_waysNotAbove w2_X9_waysNotAbove rm_X9_waysNotAbove [.ref adt] [(adt, .inr (8, [.ref ads, .ref adtc, .ref adtf, .ref adts])), (adtc, .inl (gI G, ntc, .inl ftc)), (adtf, .inl (gI G, ntf, .inl ftf)), (adts, .inl (gI G, nts, .inl fts))] (fun v w => v = some (.long r) ∧ w = [(adt, .inr (8, [.ref ads, .ref adtc, .ref adtf, .ref adts])), (adtc, .inl (gI G, ntc, .inl ftc)), (adtf, .inl (gI G, ntf, .inl ftf)), (adts, .inl (gI G, nts, .inl fts))]) := by
  refine ctr_entry (cc := cX9_waysNotAbove) (maxL := 7) (ret := some .long) (lv0 := [(0, .ref adt)]) (by decide) rfl (Nat.le_of_ble_eq_true rfl) (rfl) ?_
  intro K hl9 hG9 hk hn9 hrt
  subst hl9
  subst hG9
  have hR9 : RoomGe rm_X9_waysNotAbove rm_X9_waysNotAbove := RoomGe.rf
  replace h := id_e h
  rw [em_X9_waysNotAbove] at h
  refine v_lconst (v := 1) hk dX9_waysNotAbove_0 (by decide) ?_
  refine v_lstore_n hk dX9_waysNotAbove_1 rfl (by decide) [1, 0] (lv' := [(0, .ref adt), (1, .long 1)]) rfl ?_
  refine v_iconst (v := 0) hk dX9_waysNotAbove_2 (by decide) ?_
  refine v_istore_n hk dX9_waysNotAbove_3 rfl (by decide) [1, 2, 0] (lv' := [(0, .ref adt), (1, .long 1), (3, .int 0)]) rfl ?_
  obtain ⟨b_24, eb_24, h⟩ := bd_e (g := id) rfl h
  refine L_X9_waysNotAbove_4 hk hR9 adt adtc adtf adts ads ntc ftc ntf ftf nts fts b_24 (fun q_9 eq_9 => ?_) FU 1 0 eb_24
  · replace eq_9 := eq_9.symm
    subst eq_9
    refine v_lconst (v := 0) hk dX9_waysNotAbove_39 (by decide) ?_
    refine v_lstore_n hk dX9_waysNotAbove_40 rfl (by decide) [1, 2, 0] (lv' := [(0, .ref adt), (1, .long q_9.1), (3, .long 0)]) rfl ?_
    refine v_iconst (v := 0) hk dX9_waysNotAbove_41 (by decide) ?_
    refine v_istore hk dX9_waysNotAbove_42 (by decide) [1, 2, 3, 0] (lv' := [(0, .ref adt), (1, .long q_9.1), (3, .long 0), (5, .int 0)]) rfl ?_
    obtain ⟨b_23, eb_23, h⟩ := bd_e (g := id) rfl h
    refine L_X9_waysNotAbove_44 hk hR9 adt adtc adtf adts ads ntc ftc ntf ftf nts fts q_9 b_23 (fun q_22 eq_22 => ?_) FU 0 0 eb_23
    · replace eq_22 := eq_22.symm
      subst eq_22
      refine v_lload_n hk dX9_waysNotAbove_94 rfl ?_
      replace h : some q_22.1 = some r := h
      replace h := Option.some.inj h
      subst h
      refine hrt (some (.long q_22.1)) _ _ _ _ _ (⟨rfl, rfl⟩) (Nat.zero_le _) (Nat.zero_le _) (dX9_waysNotAbove_95)
abbrev rm_X4_add : Room := { frames := 1, cells := 0, slots := 0, locals := 21 }
set_option maxHeartbeats 4000000 in
set_option maxRecDepth 100000 in
theorem c_X4_add (l : Launch) (G : GG) (adk : Nat) (cnt : Int32) (lst : Int32) (gst : Int32) (cmn : Int32) (gr : Int32) (r : Int32 × Int32 × Int32 × Int32) (h : m_X4_add cnt lst gst cmn gr = some r) : Ctr l G yX4_add w2_X4_add rm_X4_add [.ref adk, .int gr] [(adk, .inr (3, [.int cnt, .int lst, .int gst, .int cmn]))] (fun v w => v = none ∧ w = [(adk, .inr (3, [.int r.1, .int r.2.1, .int r.2.2.1, .int r.2.2.2]))]) := by
  refine ctr_entry (cc := cX4_add) (maxL := 2) (ret := none) (lv0 := [(0, .ref adk), (1, .int gr)]) (by decide) rfl (Nat.le_of_ble_eq_true rfl) (rfl) ?_
  intro K hl9 hG9 hk hn9 hrt
  subst hl9
  subst hG9
  have hR9 : RoomGe rm_X4_add rm_X4_add := RoomGe.rf
  replace h := id_e h
  rw [em_X4_add] at h
  refine v_aload_n hk dX4_add_0 rfl ?_
  refine v_aload_n hk dX4_add_1 rfl ?_
  refine v_get (C := RX4) (T := TX4) (N := 4) (ci := 3) (v := .int cnt) hk dX4_add_2 w2i_X4_add_X40 0 rfl rfl 0 (by decide) (by decide +kernel) rfl rfl ?_
  obtain ⟨y_1, ey_1, h⟩ := bd_e (g := id) rfl h
  have Jy_1 : V K 2 [(adk, .inr (3, [.int cnt, .int lst, .int gst, .int cmn]))] 0 0 20 [(0, .ref adk), (1, .int gr)] [.int y_1, .ref adk] := by
    refine v_put (C := RX4) (T := TX4) (N := 4) (ci := 3) (v := .int y_1) (ty := .int) hk dX4_add_20 w2i_X4_add_X40 tyX4 tyX4_ok nmX4 0 rfl rfl 1 (by decide) (by decide +kernel) rfl rfl (by decide +kernel) rfl rfl (Nat.le_of_ble_eq_true rfl) (ws' := [(adk, .inr (3, [.int cnt, .int y_1, .int gst, .int cmn]))]) rfl ?_
    refine v_aload_n hk dX4_add_23 rfl ?_
    refine v_aload_n hk dX4_add_24 rfl ?_
    refine v_get (C := RX4) (T := TX4) (N := 4) (ci := 3) (v := .int gst) hk dX4_add_25 w2i_X4_add_X40 0 rfl rfl 2 (by decide) (by decide +kernel) rfl rfl ?_
    refine v_iload_n hk dX4_add_28 rfl ?_
    refine v_mmax hk dX4_add_29 (by decide +kernel) (by decide +kernel) (by decide +kernel) (by decide +kernel) (Nat.le_trans (by decide) hR9.1) (Nat.le_trans (Nat.le_of_ble_eq_true rfl) hR9.2.2.2) (Nat.zero_le _) (Nat.zero_le _) ?_
    obtain ⟨vgreatest_2, evgreatest_2, h⟩ := lt_e (g := id) h
    refine v_topi evgreatest_2.symm ?_
    refine v_put (C := RX4) (T := TX4) (N := 4) (ci := 3) (v := .int vgreatest_2) (ty := .int) hk dX4_add_32 w2i_X4_add_X40 tyX4 tyX4_ok nmX4 0 rfl rfl 2 (by decide) (by decide +kernel) rfl rfl (by decide +kernel) rfl rfl (Nat.le_of_ble_eq_true rfl) (ws' := [(adk, .inr (3, [.int cnt, .int y_1, .int vgreatest_2, .int cmn]))]) rfl ?_
    refine v_aload_n hk dX4_add_35 rfl ?_
    refine v_aload_n hk dX4_add_36 rfl ?_
    refine v_get (C := RX4) (T := TX4) (N := 4) (ci := 3) (v := .int cnt) hk dX4_add_37 w2i_X4_add_X40 0 rfl rfl 0 (by decide) (by decide +kernel) rfl rfl ?_
    obtain ⟨y_3, ey_3, h⟩ := bd_e (g := id) rfl h
    have Jy_3 : V K 2 [(adk, .inr (3, [.int cnt, .int y_1, .int vgreatest_2, .int cmn]))] 0 0 53 [(0, .ref adk), (1, .int gr)] [.int y_3, .ref adk] := by
      refine v_put (C := RX4) (T := TX4) (N := 4) (ci := 3) (v := .int y_3) (ty := .int) hk dX4_add_53 w2i_X4_add_X40 tyX4 tyX4_ok nmX4 0 rfl rfl 3 (by decide) (by decide +kernel) rfl rfl (by decide +kernel) rfl rfl (Nat.le_of_ble_eq_true rfl) (ws' := [(adk, .inr (3, [.int cnt, .int y_1, .int vgreatest_2, .int y_3]))]) rfl ?_
      refine v_aload_n hk dX4_add_56 rfl ?_
      refine v_dup hk dX4_add_57 rfl ?_
      refine v_get (C := RX4) (T := TX4) (N := 4) (ci := 3) (v := .int cnt) hk dX4_add_58 w2i_X4_add_X40 0 rfl rfl 0 (by decide) (by decide +kernel) rfl rfl ?_
      refine v_iconst (v := 1) hk dX4_add_61 (by decide) ?_
      refine v_iadd hk dX4_add_62 ?_
      obtain ⟨vcount_4, evcount_4, h⟩ := lt_e (g := id) h
      refine v_topi evcount_4.symm ?_
      refine v_put (C := RX4) (T := TX4) (N := 4) (ci := 3) (v := .int vcount_4) (ty := .int) hk dX4_add_63 w2i_X4_add_X40 tyX4 tyX4_ok nmX4 0 rfl rfl 0 (by decide) (by decide +kernel) rfl rfl (by decide +kernel) rfl rfl (Nat.le_of_ble_eq_true rfl) (ws' := [(adk, .inr (3, [.int vcount_4, .int y_1, .int vgreatest_2, .int y_3]))]) rfl ?_
      replace h : some (vcount_4, y_1, vgreatest_2, y_3) = some r := h
      replace h := Option.some.inj h
      subst h
      refine hrt (none) _ _ _ _ _ (⟨rfl, rfl⟩) (Nat.zero_le _) (Nat.zero_le _) (dX4_add_66)
    clear h
    have h := id_e ey_3
    clear ey_3
    refine v_if_ne (tgt := 47) hk dX4_add_40 (by decide) (fun hc => ?_) (fun hc => ?_)
    · replace h := it_f (g := id) h hc
      refine v_aload_n hk dX4_add_47 rfl ?_
      refine v_get (C := RX4) (T := TX4) (N := 4) (ci := 3) (v := .int cmn) hk dX4_add_48 w2i_X4_add_X40 0 rfl rfl 3 (by decide) (by decide +kernel) rfl rfl ?_
      refine v_iload_n hk dX4_add_51 rfl ?_
      refine v_iand hk dX4_add_52 ?_
      replace h : some (cmn &&& gr : Int32) = some y_3 := h
      replace h := Option.some.inj h
      subst h
      exact Jy_3
    · replace h := it_t (g := id) h hc
      refine v_iload_n hk dX4_add_43 rfl ?_
      refine v_goto (tgt := 53) hk dX4_add_44 (by decide) ?_
      replace h : some (gr : Int32) = some y_3 := h
      replace h := Option.some.inj h
      subst h
      exact Jy_3
  clear h
  have h := id_e ey_1
  clear ey_1
  refine v_if_ne (tgt := 12) hk dX4_add_5 (by decide) (fun hc => ?_) (fun hc => ?_)
  · replace h := it_f (g := id) h hc
    refine v_aload_n hk dX4_add_12 rfl ?_
    refine v_get (C := RX4) (T := TX4) (N := 4) (ci := 3) (v := .int lst) hk dX4_add_13 w2i_X4_add_X40 0 rfl rfl 1 (by decide) (by decide +kernel) rfl rfl ?_
    refine v_iload_n hk dX4_add_16 rfl ?_
    refine v_mmin hk dX4_add_17 (by decide +kernel) (by decide +kernel) (by decide +kernel) (by decide +kernel) (Nat.le_trans (by decide) hR9.1) (Nat.le_trans (Nat.le_of_ble_eq_true rfl) hR9.2.2.2) (Nat.zero_le _) (Nat.zero_le _) ?_
    replace h : some (if gr < lst then gr else lst : Int32) = some y_1 := h
    replace h := Option.some.inj h
    subst h
    exact Jy_1
  · replace h := it_t (g := id) h hc
    refine v_iload_n hk dX4_add_8 rfl ?_
    refine v_goto (tgt := 20) hk dX4_add_9 (by decide) ?_
    replace h : some (gr : Int32) = some y_1 := h
    replace h := Option.some.inj h
    subst h
    exact Jy_1
abbrev rm_X4_gather : Room := { frames := 4, cells := 0, slots := 0, locals := 95 }
set_option maxHeartbeats 4000000 in
set_option maxRecDepth 100000 in
theorem L_X4_gather_22 {K : Cx} {R9 : Room} (hk : Ok K cX4_gather 9 RX4 w2_X4_gather R9) (hR9 : RoomGe R9 rm_X4_gather) (adk : Nat) (gr : Int32) (nam : Int32) (r_1 : Int32) (r_2 : Int64) (x6_4 : Int32) (b9 : (Int32 × Int32 × Int32 × Int32 × Int32)) (kk0 : ∀ q9 : (Int32 × Int32 × Int32 × Int32 × Int32), b9 = q9 → V K 9 [(adk, .inr (3, [.int q9.2.1, .int q9.2.2.1, .int q9.2.2.2.1, .int q9.2.2.2.2]))] 0 0 69 [(0, .ref adk), (1, .int gr), (2, .int nam), (3, .int r_1), (4, .long r_2), (6, .int x6_4), (7, .int q9.1)] []) : ∀ (nn : Nat) (i7_5 : Int32) (pk_6 : Int32) (pk_7 : Int32) (pk_8 : Int32) (pk_9 : Int32), lp (b_X4_gather_22 nam r_1 r_2 x6_4) nn (i7_5, pk_6, pk_7, pk_8, pk_9) = some b9 → V K 9 [(adk, .inr (3, [.int pk_6, .int pk_7, .int pk_8, .int pk_9]))] 0 0 22 [(0, .ref adk), (1, .int gr), (2, .int nam), (3, .int r_1), (4, .long r_2), (6, .int x6_4), (7, .int i7_5)] [] := by
  intro nn
  induction nn with
  | zero => intro i7_5 pk_6 pk_7 pk_8 pk_9 h; exact absurd h (by simp [lp])
  | succ nn ih =>
    intro i7_5 pk_6 pk_7 pk_8 pk_9 h
    replace h := lp_s h
    rw [eb_X4_gather_22] at h
    refine v_iload hk dX4_gather_22 rfl ?_
    refine v_iload hk dX4_gather_24 rfl ?_
    refine v_icmp_ge (tgt := 69) hk dX4_gather_26 (by decide) (fun hc => ?_) (fun hc => ?_)
    · replace h := it_t (g := (lpk (lp (b_X4_gather_22 nam r_1 r_2 x6_4) nn))) h hc
      replace h : some (i7_5, pk_6, pk_7, pk_8, pk_9) = some b9 := h
      replace h := Option.some.inj h
      subst h
      exact kk0 _ rfl
    · replace h := it_f (g := (lpk (lp (b_X4_gather_22 nam r_1 r_2 x6_4) nn))) h hc
      refine v_iload_n hk dX4_gather_29 rfl ?_
      refine v_iload hk dX4_gather_30 rfl ?_
      obtain ⟨r_10, er_10, h⟩ := bd_e (g := (lpk (lp (b_X4_gather_22 nam r_1 r_2 x6_4) nn))) rfl h
      refine v_callS (n := 2) (st := []) hk dX4_gather_32 (c_X4_directed (kl K) (kG K) r_1 i7_5 r_10 er_10) gd_X4_gather_X4_directed rfl (by decide +kernel) (frok hR9 (Nat.le_of_ble_eq_true rfl) (Nat.le_of_ble_eq_true rfl)) (roomk hR9 (Nat.le_of_ble_eq_true rfl) (Nat.le_of_ble_eq_true rfl)) rfl rfl (Nat.le_of_ble_eq_true rfl) [] [0] (wr := [(adk, .inr (3, [.int pk_6, .int pk_7, .int pk_8, .int pk_9]))]) rfl rfl (by decide) (by decide) (by decide) ?_
      intro v9 w9 hp9
      obtain ⟨rfl, rfl⟩ := hp9
      show V K 9 [(adk, .inr (3, [.int pk_6, .int pk_7, .int pk_8, .int pk_9]))] 0 0 35 [(0, .ref adk), (1, .int gr), (2, .int nam), (3, .int r_1), (4, .long r_2), (6, .int x6_4), (7, .int i7_5)] [.int r_10]
      refine v_istore hk dX4_gather_35 (by decide) [1, 2, 3, 4, 5, 6, 7, 0] (lv' := [(0, .ref adk), (1, .int gr), (2, .int nam), (3, .int r_1), (4, .long r_2), (6, .int x6_4), (7, .int i7_5), (8, .int r_10)]) rfl ?_
      refine v_iload hk dX4_gather_37 rfl ?_
      refine v_iload_n hk dX4_gather_39 rfl ?_
      obtain ⟨r_11, er_11, h⟩ := bd_e (g := (lpk (lp (b_X4_gather_22 nam r_1 r_2 x6_4) nn))) rfl h
      refine v_callS (n := 2) (st := []) hk dX4_gather_40 (c_X0_haveNoRound (kl K) (kG K) r_10 nam r_11 er_11) gd_X4_gather_X0_haveNoRound rfl (by decide +kernel) (frok hR9 (Nat.le_of_ble_eq_true rfl) (Nat.le_of_ble_eq_true rfl)) (roomk hR9 (Nat.le_of_ble_eq_true rfl) (Nat.le_of_ble_eq_true rfl)) rfl rfl (Nat.le_of_ble_eq_true rfl) [] [0] (wr := [(adk, .inr (3, [.int pk_6, .int pk_7, .int pk_8, .int pk_9]))]) rfl rfl (by decide) (by decide) (by decide) ?_
      intro v9 w9 hp9
      obtain ⟨rfl, rfl⟩ := hp9
      show V K 9 [(adk, .inr (3, [.int pk_6, .int pk_7, .int pk_8, .int pk_9]))] 0 0 43 [(0, .ref adk), (1, .int gr), (2, .int nam), (3, .int r_1), (4, .long r_2), (6, .int x6_4), (7, .int i7_5), (8, .int r_10)] [.int r_11]
      refine v_if_eq (tgt := 63) hk dX4_gather_43 (by decide) (fun hc => ?_) (fun hc => ?_)
      · replace h := it_t (g := (lpk (lp (b_X4_gather_22 nam r_1 r_2 x6_4) nn))) h hc
        obtain ⟨x7_12, ex7_12, h⟩ := lt_e (g := (lpk (lp (b_X4_gather_22 nam r_1 r_2 x6_4) nn))) h
        refine v_iinc (v := x7_12) hk dX4_gather_63 rfl (by rw [ex7_12]; rfl) (by decide) [1, 2, 3, 4, 5, 6, 0, 7] (lv' := [(0, .ref adk), (1, .int gr), (2, .int nam), (3, .int r_1), (4, .long r_2), (6, .int x6_4), (7, .int x7_12), (8, .int r_10)]) rfl ?_
        refine v_goto (tgt := 22) hk dX4_gather_66 (by decide) ?_
        refine v_loc [0, 1, 2, 3, 4, 5, 6] (lv' := [(0, .ref adk), (1, .int gr), (2, .int nam), (3, .int r_1), (4, .long r_2), (6, .int x6_4), (7, .int x7_12)]) rfl ?_
        exact ih x7_12 pk_6 pk_7 pk_8 pk_9 h
      · replace h := it_f (g := (lpk (lp (b_X4_gather_22 nam r_1 r_2 x6_4) nn))) h hc
        refine v_iload hk dX4_gather_46 rfl ?_
        obtain ⟨r_13, er_13, h⟩ := bd_e (g := (lpk (lp (b_X4_gather_22 nam r_1 r_2 x6_4) nn))) rfl h
        refine v_callS (n := 1) (st := []) hk dX4_gather_48 (c_X4_meetings (kl K) (kG K) r_10 r_13 er_13) gd_X4_gather_X4_meetings rfl (by decide +kernel) (frok hR9 (Nat.le_of_ble_eq_true rfl) (Nat.le_of_ble_eq_true rfl)) (roomk hR9 (Nat.le_of_ble_eq_true rfl) (Nat.le_of_ble_eq_true rfl)) rfl rfl (Nat.le_of_ble_eq_true rfl) [] [0] (wr := [(adk, .inr (3, [.int pk_6, .int pk_7, .int pk_8, .int pk_9]))]) rfl rfl (by decide) (by decide) (by decide) ?_
        intro v9 w9 hp9
        obtain ⟨rfl, rfl⟩ := hp9
        show V K 9 [(adk, .inr (3, [.int pk_6, .int pk_7, .int pk_8, .int pk_9]))] 0 0 51 [(0, .ref adk), (1, .int gr), (2, .int nam), (3, .int r_1), (4, .long r_2), (6, .int x6_4), (7, .int i7_5), (8, .int r_10)] [.long r_13]
        refine v_lload hk dX4_gather_51 rfl ?_
        refine v_lcmp hk dX4_gather_53 ?_
        refine v_if_ne (tgt := 63) hk dX4_gather_54 (by decide) (fun hc => ?_) (fun hc => ?_)
        · replace h := it_f (g := (lpk (lp (b_X4_gather_22 nam r_1 r_2 x6_4) nn))) h hc
          obtain ⟨x7_14, ex7_14, h⟩ := lt_e (g := (lpk (lp (b_X4_gather_22 nam r_1 r_2 x6_4) nn))) h
          refine v_iinc (v := x7_14) hk dX4_gather_63 rfl (by rw [ex7_14]; rfl) (by decide) [1, 2, 3, 4, 5, 6, 0, 7] (lv' := [(0, .ref adk), (1, .int gr), (2, .int nam), (3, .int r_1), (4, .long r_2), (6, .int x6_4), (7, .int x7_14), (8, .int r_10)]) rfl ?_
          refine v_goto (tgt := 22) hk dX4_gather_66 (by decide) ?_
          refine v_loc [0, 1, 2, 3, 4, 5, 6] (lv' := [(0, .ref adk), (1, .int gr), (2, .int nam), (3, .int r_1), (4, .long r_2), (6, .int x6_4), (7, .int x7_14)]) rfl ?_
          exact ih x7_14 pk_6 pk_7 pk_8 pk_9 h
        · replace h := it_t (g := (lpk (lp (b_X4_gather_22 nam r_1 r_2 x6_4) nn))) h hc
          refine v_aload_n hk dX4_gather_57 rfl ?_
          refine v_iload hk dX4_gather_58 rfl ?_
          obtain ⟨r_15, er_15, h⟩ := bd_e (g := (lpk (lp (b_X4_gather_22 nam r_1 r_2 x6_4) nn))) rfl h
          refine v_callV (n := 1) (st := []) (b := adk) (T := TX4) (N := 4) hk dX4_gather_60 (c_X4_add (kl K) (kG K) adk pk_6 pk_7 pk_8 pk_9 r_10 r_15 er_15) rfl gd_X4_gather_X4_add rfl (by decide +kernel) (frok hR9 (Nat.le_of_ble_eq_true rfl) (Nat.le_of_ble_eq_true rfl)) (roomk hR9 (Nat.le_of_ble_eq_true rfl) (Nat.le_of_ble_eq_true rfl)) rfl rfl (Nat.le_of_ble_eq_true rfl) 0 rfl rfl [0] [] (wr := []) rfl rfl (by decide) (by decide) (by decide) ?_
          intro v9 w9 hp9
          obtain ⟨rfl, rfl⟩ := hp9
          show V K 9 [(adk, .inr (3, [.int r_15.1, .int r_15.2.1, .int r_15.2.2.1, .int r_15.2.2.2]))] 0 0 63 [(0, .ref adk), (1, .int gr), (2, .int nam), (3, .int r_1), (4, .long r_2), (6, .int x6_4), (7, .int i7_5), (8, .int r_10)] []
          obtain ⟨x7_16, ex7_16, h⟩ := lt_e (g := (lpk (lp (b_X4_gather_22 nam r_1 r_2 x6_4) nn))) h
          refine v_iinc (v := x7_16) hk dX4_gather_63 rfl (by rw [ex7_16]; rfl) (by decide) [1, 2, 3, 4, 5, 6, 0, 7] (lv' := [(0, .ref adk), (1, .int gr), (2, .int nam), (3, .int r_1), (4, .long r_2), (6, .int x6_4), (7, .int x7_16), (8, .int r_10)]) rfl ?_
          refine v_goto (tgt := 22) hk dX4_gather_66 (by decide) ?_
          refine v_loc [0, 1, 2, 3, 4, 5, 6] (lv' := [(0, .ref adk), (1, .int gr), (2, .int nam), (3, .int r_1), (4, .long r_2), (6, .int x6_4), (7, .int x7_16)]) rfl ?_
          exact ih x7_16 r_15.1 r_15.2.1 r_15.2.2.1 r_15.2.2.2 h
set_option maxHeartbeats 4000000 in
set_option maxRecDepth 100000 in
theorem c_X4_gather (l : Launch) (G : GG) (adk : Nat) (cnt : Int32) (lst : Int32) (gst : Int32) (cmn : Int32) (gr : Int32) (nam : Int32) (r : Int32 × Int32 × Int32 × Int32) (h : m_X4_gather cnt lst gst cmn gr nam = some r) : Ctr l G yX4_gather w2_X4_gather rm_X4_gather [.ref adk, .int gr, .int nam] [(adk, .inr (3, [.int cnt, .int lst, .int gst, .int cmn]))] (fun v w => v = none ∧ w = [(adk, .inr (3, [.int r.1, .int r.2.1, .int r.2.2.1, .int r.2.2.2]))]) := by
  refine ctr_entry (cc := cX4_gather) (maxL := 9) (ret := none) (lv0 := [(0, .ref adk), (1, .int gr), (2, .int nam)]) (by decide) rfl (Nat.le_of_ble_eq_true rfl) (rfl) ?_
  intro K hl9 hG9 hk hn9 hrt
  subst hl9
  subst hG9
  have hR9 : RoomGe rm_X4_gather rm_X4_gather := RoomGe.rf
  replace h := id_e h
  rw [em_X4_gather] at h
  refine v_iload_n hk dX4_gather_0 rfl ?_
  obtain ⟨r_1, er_1, h⟩ := bd_e (g := id) rfl h
  refine v_callS (n := 1) (st := []) hk dX4_gather_1 (c_X4_ties (kl K) (kG K) gr r_1 er_1) gd_X4_gather_X4_ties rfl (by decide +kernel) (frok hR9 (Nat.le_of_ble_eq_true rfl) (Nat.le_of_ble_eq_true rfl)) (roomk hR9 (Nat.le_of_ble_eq_true rfl) (Nat.le_of_ble_eq_true rfl)) rfl rfl (Nat.le_of_ble_eq_true rfl) [] [0] (wr := [(adk, .inr (3, [.int cnt, .int lst, .int gst, .int cmn]))]) rfl rfl (by decide) (by decide) (by decide) ?_
  intro v9 w9 hp9
  obtain ⟨rfl, rfl⟩ := hp9
  show V K 9 [(adk, .inr (3, [.int cnt, .int lst, .int gst, .int cmn]))] 0 0 4 [(0, .ref adk), (1, .int gr), (2, .int nam)] [.int r_1]
  refine v_istore_n hk dX4_gather_4 rfl (by decide) [1, 2, 3, 0] (lv' := [(0, .ref adk), (1, .int gr), (2, .int nam), (3, .int r_1)]) rfl ?_
  refine v_iload_n hk dX4_gather_5 rfl ?_
  obtain ⟨r_2, er_2, h⟩ := bd_e (g := id) rfl h
  refine v_callS (n := 1) (st := []) hk dX4_gather_6 (c_X4_meetings (kl K) (kG K) gr r_2 er_2) gd_X4_gather_X4_meetings rfl (by decide +kernel) (frok hR9 (Nat.le_of_ble_eq_true rfl) (Nat.le_of_ble_eq_true rfl)) (roomk hR9 (Nat.le_of_ble_eq_true rfl) (Nat.le_of_ble_eq_true rfl)) rfl rfl (Nat.le_of_ble_eq_true rfl) [] [0] (wr := [(adk, .inr (3, [.int cnt, .int lst, .int gst, .int cmn]))]) rfl rfl (by decide) (by decide) (by decide) ?_
  intro v9 w9 hp9
  obtain ⟨rfl, rfl⟩ := hp9
  show V K 9 [(adk, .inr (3, [.int cnt, .int lst, .int gst, .int cmn]))] 0 0 9 [(0, .ref adk), (1, .int gr), (2, .int nam), (3, .int r_1)] [.long r_2]
  refine v_lstore hk dX4_gather_9 (by decide) [1, 2, 3, 4, 0] (lv' := [(0, .ref adk), (1, .int gr), (2, .int nam), (3, .int r_1), (4, .long r_2)]) rfl ?_
  refine v_iconst (v := 1) hk dX4_gather_11 (by decide) ?_
  refine v_iload_n hk dX4_gather_12 rfl ?_
  obtain ⟨r_3, er_3, h⟩ := bd_e (g := id) rfl h
  refine v_callS (n := 1) (st := [.int 1]) hk dX4_gather_13 (c_J6_bitCount_0f7a4 (kl K) (kG K) r_1 r_3 er_3) gd_X4_gather_J6_bitCount_0f7a4 rfl (by decide +kernel) (frok hR9 (Nat.le_of_ble_eq_true rfl) (Nat.le_of_ble_eq_true rfl)) (roomk hR9 (Nat.le_of_ble_eq_true rfl) (Nat.le_of_ble_eq_true rfl)) rfl rfl (Nat.le_of_ble_eq_true rfl) [] [0] (wr := [(adk, .inr (3, [.int cnt, .int lst, .int gst, .int cmn]))]) rfl rfl (by decide) (by decide) (by decide) ?_
  intro v9 w9 hp9
  obtain ⟨rfl, rfl⟩ := hp9
  show V K 9 [(adk, .inr (3, [.int cnt, .int lst, .int gst, .int cmn]))] 0 0 16 [(0, .ref adk), (1, .int gr), (2, .int nam), (3, .int r_1), (4, .long r_2)] [.int r_3, .int 1]
  refine v_ishl hk dX4_gather_16 ?_
  obtain ⟨x6_4, ex6_4, h⟩ := lt_e (g := id) h
  refine v_topi ex6_4.symm ?_
  refine v_istore hk dX4_gather_17 (by decide) [1, 2, 3, 4, 5, 0] (lv' := [(0, .ref adk), (1, .int gr), (2, .int nam), (3, .int r_1), (4, .long r_2), (6, .int x6_4)]) rfl ?_
  refine v_iconst (v := 0) hk dX4_gather_19 (by decide) ?_
  refine v_istore hk dX4_gather_20 (by decide) [1, 2, 3, 4, 5, 6, 0] (lv' := [(0, .ref adk), (1, .int gr), (2, .int nam), (3, .int r_1), (4, .long r_2), (6, .int x6_4), (7, .int 0)]) rfl ?_
  obtain ⟨b_18, eb_18, h⟩ := bd_e (g := id) rfl h
  refine L_X4_gather_22 hk hR9 adk gr nam r_1 r_2 x6_4 b_18 (fun q_17 eq_17 => ?_) FU 0 cnt lst gst cmn eb_18
  · replace eq_17 := eq_17.symm
    subst eq_17
    replace h : some (q_17.2.1, q_17.2.2.1, q_17.2.2.2.1, q_17.2.2.2.2) = some r := h
    replace h := Option.some.inj h
    subst h
    refine hrt (none) _ _ _ _ _ (⟨rfl, rfl⟩) (Nat.zero_le _) (Nat.zero_le _) (dX4_gather_69)
abbrev rm_X1_reduceBy_n : Room := { frames := 3, cells := 0, slots := 0, locals := 75 }
set_option maxHeartbeats 4000000 in
set_option maxRecDepth 100000 in
theorem L_X1_reduceBy_n_45 {K : Cx} {R9 : Room} (hk : Ok K cX1_reduceBy 11 RX1 w2_X1_reduceBy R9) (hR9 : RoomGe R9 rm_X1_reduceBy_n) (adb : Nat) (adw : Nat) (adb2 : Nat) (adw2 : Nat) (nw : Nat) (u2 : Int32) (nw2 : Nat) (fw2 : Nat → Int64) (x3_2 : Int32) (x4_5 : Int64) (b9 : (Int32 × Int32 × (Nat → Int64))) (kk0 : ∀ q9 : (Int32 × Int32 × (Nat → Int64)), b9 = q9 → V K 11 [(adb, .inr (0, [.ref adw, .int q9.2.1])), (adw, .inl (gJ (kG K), nw, .inr (.inl q9.2.2))), (adb2, .inr (0, [.ref adw2, .int u2])), (adw2, .inl (gJ (kG K), nw2, .inr (.inl fw2)))] 0 0 142 [(0, .ref adb), (1, .ref adb2), (2, .null), (3, .int x3_2), (4, .long x4_5), (6, .int q9.1)] []) : ∀ (nn : Nat) (i6_6 : Int32) (pb_7 : Int32) (fw_8 : Nat → Int64), lp (b_X1_reduceBy_n_45 nw u2 nw2 fw2 x3_2 x4_5) nn (i6_6, pb_7, fw_8) = some b9 → V K 11 [(adb, .inr (0, [.ref adw, .int pb_7])), (adw, .inl (gJ (kG K), nw, .inr (.inl fw_8))), (adb2, .inr (0, [.ref adw2, .int u2])), (adw2, .inl (gJ (kG K), nw2, .inr (.inl fw2)))] 0 0 45 [(0, .ref adb), (1, .ref adb2), (2, .null), (3, .int x3_2), (4, .long x4_5), (6, .int i6_6)] [] := by
  intro nn
  induction nn with
  | zero => intro i6_6 pb_7 fw_8 h; exact absurd h (by simp [lp])
  | succ nn ih =>
    intro i6_6 pb_7 fw_8 h
    replace h := lp_s h
    rw [eb_X1_reduceBy_n_45] at h
    refine v_iload hk dX1_reduceBy_45 rfl ?_
    refine v_ldc (v := 1000000) hk dX1_reduceBy_47 (by decide +kernel) ?_
    refine v_icmp_ge (tgt := 142) hk dX1_reduceBy_49 (by decide) (fun hc => ?_) (fun hc => ?_)
    · replace h := it_t (g := (lpk (lp (b_X1_reduceBy_n_45 nw u2 nw2 fw2 x3_2 x4_5) nn))) h hc
      replace h : some (i6_6, pb_7, fw_8) = some b9 := h
      replace h := Option.some.inj h
      subst h
      exact kk0 _ rfl
    · replace h := it_f (g := (lpk (lp (b_X1_reduceBy_n_45 nw u2 nw2 fw2 x3_2 x4_5) nn))) h hc
      refine v_aload_n hk dX1_reduceBy_52 rfl ?_
      refine v_aload_n hk dX1_reduceBy_53 rfl ?_
      obtain ⟨r_9, er_9, h⟩ := bd_e (g := (lpk (lp (b_X1_reduceBy_n_45 nw u2 nw2 fw2 x3_2 x4_5) nn))) rfl h
      refine v_callV (n := 1) (st := []) (b := adb) (T := TX1) (N := 2) hk dX1_reduceBy_54 (c_X1_against (kl K) (kG K) adb adw adb2 adw2 pb_7 nw fw_8 u2 nw2 fw2 r_9 er_9) rfl gd_X1_reduceBy_X1_against rfl (by decide +kernel) (frok hR9 (Nat.le_of_ble_eq_true rfl) (Nat.le_of_ble_eq_true rfl)) (roomk hR9 (Nat.le_of_ble_eq_true rfl) (Nat.le_of_ble_eq_true rfl)) rfl rfl (Nat.le_of_ble_eq_true rfl) 0 rfl rfl [0, 1, 2, 3] [] (wr := []) rfl rfl (by decide) (by decide) (by decide) ?_
      intro v9 w9 hp9
      obtain ⟨rfl, rfl⟩ := hp9
      show V K 11 [(adb, .inr (0, [.ref adw, .int pb_7])), (adw, .inl (gJ (kG K), nw, .inr (.inl fw_8))), (adb2, .inr (0, [.ref adw2, .int u2])), (adw2, .inl (gJ (kG K), nw2, .inr (.inl fw2)))] 0 0 57 [(0, .ref adb), (1, .ref adb2), (2, .null), (3, .int x3_2), (4, .long x4_5), (6, .int i6_6)] [.int r_9]
      refine v_if_lt (tgt := 142) hk dX1_reduceBy_57 (by decide) (fun hc => ?_) (fun hc => ?_)
      · replace h := it_t (g := (lpk (lp (b_X1_reduceBy_n_45 nw u2 nw2 fw2 x3_2 x4_5) nn))) h hc
        replace h : some (i6_6, pb_7, fw_8) = some b9 := h
        replace h := Option.some.inj h
        subst h
        exact kk0 _ rfl
      · replace h := it_f (g := (lpk (lp (b_X1_reduceBy_n_45 nw u2 nw2 fw2 x3_2 x4_5) nn))) h hc
        refine v_aload_n hk dX1_reduceBy_60 rfl ?_
        obtain ⟨r_10, er_10, h⟩ := bd_e (g := (lpk (lp (b_X1_reduceBy_n_45 nw u2 nw2 fw2 x3_2 x4_5) nn))) rfl h
        refine v_callV (n := 0) (st := []) (b := adb) (T := TX1) (N := 2) hk dX1_reduceBy_61 (c_X1_bits (kl K) (kG K) adb adw pb_7 nw fw_8 r_10 er_10) rfl gd_X1_reduceBy_X1_bits rfl (by decide +kernel) (frok hR9 (Nat.le_of_ble_eq_true rfl) (Nat.le_of_ble_eq_true rfl)) (roomk hR9 (Nat.le_of_ble_eq_true rfl) (Nat.le_of_ble_eq_true rfl)) rfl rfl (Nat.le_of_ble_eq_true rfl) 0 rfl rfl [0, 1] [2, 3] (wr := [(adb2, .inr (0, [.ref adw2, .int u2])), (adw2, .inl (gJ (kG K), nw2, .inr (.inl fw2)))]) rfl rfl (by decide) (by decide) (by decide) ?_
        intro v9 w9 hp9
        obtain ⟨rfl, rfl⟩ := hp9
        show V K 11 [(adb2, .inr (0, [.ref adw2, .int u2])), (adw2, .inl (gJ (kG K), nw2, .inr (.inl fw2))), (adb, .inr (0, [.ref adw, .int pb_7])), (adw, .inl (gJ (kG K), nw, .inr (.inl fw_8)))] 0 0 64 [(0, .ref adb), (1, .ref adb2), (2, .null), (3, .int x3_2), (4, .long x4_5), (6, .int i6_6)] [.int r_10]
        refine v_aload_n hk dX1_reduceBy_64 rfl ?_
        obtain ⟨r_11, er_11, h⟩ := bd_e (g := (lpk (lp (b_X1_reduceBy_n_45 nw u2 nw2 fw2 x3_2 x4_5) nn))) rfl h
        refine v_callV (n := 0) (st := [.int r_10]) (b := adb2) (T := TX1) (N := 2) hk dX1_reduceBy_65 (c_X1_bits (kl K) (kG K) adb2 adw2 u2 nw2 fw2 r_11 er_11) rfl gd_X1_reduceBy_X1_bits rfl (by decide +kernel) (frok hR9 (Nat.le_of_ble_eq_true rfl) (Nat.le_of_ble_eq_true rfl)) (roomk hR9 (Nat.le_of_ble_eq_true rfl) (Nat.le_of_ble_eq_true rfl)) rfl rfl (Nat.le_of_ble_eq_true rfl) 0 rfl rfl [0, 1] [2, 3] (wr := [(adb, .inr (0, [.ref adw, .int pb_7])), (adw, .inl (gJ (kG K), nw, .inr (.inl fw_8)))]) rfl rfl (by decide) (by decide) (by decide) ?_
        intro v9 w9 hp9
        obtain ⟨rfl, rfl⟩ := hp9
        show V K 11 [(adb, .inr (0, [.ref adw, .int pb_7])), (adw, .inl (gJ (kG K), nw, .inr (.inl fw_8))), (adb2, .inr (0, [.ref adw2, .int u2])), (adw2, .inl (gJ (kG K), nw2, .inr (.inl fw2)))] 0 0 68 [(0, .ref adb), (1, .ref adb2), (2, .null), (3, .int x3_2), (4, .long x4_5), (6, .int i6_6)] [.int r_11, .int r_10]
        refine v_isub hk dX1_reduceBy_68 ?_
        obtain ⟨x7_12, ex7_12, h⟩ := lt_e (g := (lpk (lp (b_X1_reduceBy_n_45 nw u2 nw2 fw2 x3_2 x4_5) nn))) h
        refine v_topi ex7_12.symm ?_
        refine v_istore hk dX1_reduceBy_69 (by decide) [1, 2, 3, 4, 5, 6, 0] (lv' := [(0, .ref adb), (1, .ref adb2), (2, .null), (3, .int x3_2), (4, .long x4_5), (6, .int i6_6), (7, .int x7_12)]) rfl ?_
        refine v_iload hk dX1_reduceBy_71 rfl ?_
        obtain ⟨y_13, ey_13, h⟩ := bd_e (g := (lpk (lp (b_X1_reduceBy_n_45 nw u2 nw2 fw2 x3_2 x4_5) nn))) rfl h
        have Jy_13 : V K 11 [(adb, .inr (0, [.ref adw, .int pb_7])), (adw, .inl (gJ (kG K), nw, .inr (.inl fw_8))), (adb2, .inr (0, [.ref adw2, .int u2])), (adw2, .inl (gJ (kG K), nw2, .inr (.inl fw2)))] 0 0 87 [(0, .ref adb), (1, .ref adb2), (2, .null), (3, .int x3_2), (4, .long x4_5), (6, .int i6_6), (7, .int x7_12)] [.int y_13] := by
          refine v_istore hk dX1_reduceBy_87 (by decide) [1, 2, 3, 4, 5, 6, 7, 0] (lv' := [(0, .ref adb), (1, .ref adb2), (2, .null), (3, .int x3_2), (4, .long x4_5), (6, .int i6_6), (7, .int x7_12), (8, .int y_13)]) rfl ?_
          refine v_lconst (v := 1) hk dX1_reduceBy_89 (by decide) ?_
          refine v_ldc2 (v := 4294967295) hk dX1_reduceBy_90 (by decide +kernel) ?_
          refine v_aload_n hk dX1_reduceBy_93 rfl ?_
          refine v_iload_n hk dX1_reduceBy_94 rfl ?_
          refine v_bipush (v := 32) hk dX1_reduceBy_95 (by decide) ?_
          refine v_iload hk dX1_reduceBy_97 rfl ?_
          refine v_imul hk dX1_reduceBy_99 ?_
          refine v_iadd hk dX1_reduceBy_100 ?_
          obtain ⟨r_14, er_14, h⟩ := bd_e (g := (lpk (lp (b_X1_reduceBy_n_45 nw u2 nw2 fw2 x3_2 x4_5) nn))) rfl h
          refine v_callV (n := 1) (st := [.long 4294967295, .long 1]) (b := adb) (T := TX1) (N := 2) hk dX1_reduceBy_101 (c_X1_from (kl K) (kG K) adb adw pb_7 nw fw_8 (x3_2 + (32 * y_13)) r_14 er_14) rfl gd_X1_reduceBy_X1_from rfl (by decide +kernel) (frok hR9 (Nat.le_of_ble_eq_true rfl) (Nat.le_of_ble_eq_true rfl)) (roomk hR9 (Nat.le_of_ble_eq_true rfl) (Nat.le_of_ble_eq_true rfl)) rfl rfl (Nat.le_of_ble_eq_true rfl) 0 rfl rfl [0, 1] [2, 3] (wr := [(adb2, .inr (0, [.ref adw2, .int u2])), (adw2, .inl (gJ (kG K), nw2, .inr (.inl fw2)))]) rfl rfl (by decide) (by decide) (by decide) ?_
          intro v9 w9 hp9
          obtain ⟨rfl, rfl⟩ := hp9
          show V K 11 [(adb2, .inr (0, [.ref adw2, .int u2])), (adw2, .inl (gJ (kG K), nw2, .inr (.inl fw2))), (adb, .inr (0, [.ref adw, .int pb_7])), (adw, .inl (gJ (kG K), nw, .inr (.inl fw_8)))] 0 0 104 [(0, .ref adb), (1, .ref adb2), (2, .null), (3, .int x3_2), (4, .long x4_5), (6, .int i6_6), (7, .int x7_12), (8, .int y_13)] [.long r_14, .long 4294967295, .long 1]
          refine v_lload hk dX1_reduceBy_104 rfl ?_
          obtain ⟨hz, h⟩ := nz_e (g := (lpk (lp (b_X1_reduceBy_n_45 nw u2 nw2 fw2 x3_2 x4_5) nn))) rfl h
          refine v_ldiv hk dX1_reduceBy_106 hz ?_
          refine v_lmin hk dX1_reduceBy_107 (by decide +kernel) (by decide +kernel) (by decide +kernel) (by decide +kernel) (Nat.le_trans (by decide) hR9.1) (Nat.le_trans (Nat.le_of_ble_eq_true rfl) hR9.2.2.2) (Nat.zero_le _) (Nat.zero_le _) ?_
          refine v_lmax hk dX1_reduceBy_110 (by decide +kernel) (by decide +kernel) (by decide +kernel) (by decide +kernel) (Nat.le_trans (by decide) hR9.1) (Nat.le_trans (Nat.le_of_ble_eq_true rfl) hR9.2.2.2) (Nat.zero_le _) (Nat.zero_le _) ?_
          obtain ⟨x9_15, ex9_15, h⟩ := lt_e (g := (lpk (lp (b_X1_reduceBy_n_45 nw u2 nw2 fw2 x3_2 x4_5) nn))) h
          refine v_topl ex9_15.symm ?_
          refine v_lstore hk dX1_reduceBy_113 (by decide) [1, 2, 3, 4, 5, 6, 7, 8, 0] (lv' := [(0, .ref adb), (1, .ref adb2), (2, .null), (3, .int x3_2), (4, .long x4_5), (6, .int i6_6), (7, .int x7_12), (8, .int y_13), (9, .long x9_15)]) rfl ?_
          refine v_aload_n hk dX1_reduceBy_115 rfl ?_
          refine v_lload hk dX1_reduceBy_116 rfl ?_
          refine v_aload_n hk dX1_reduceBy_118 rfl ?_
          refine v_iload hk dX1_reduceBy_119 rfl ?_
          obtain ⟨r_16, er_16, h⟩ := bd_e (g := (lpk (lp (b_X1_reduceBy_n_45 nw u2 nw2 fw2 x3_2 x4_5) nn))) rfl h
          refine v_callV (n := 3) (st := []) (b := adb) (T := TX1) (N := 2) hk dX1_reduceBy_121 (c_X1_subtractMultiple (kl K) (kG K) adb adw adb2 adw2 pb_7 nw fw_8 u2 nw2 fw2 x9_15 y_13 r_16 er_16) rfl gd_X1_reduceBy_X1_subtractMultiple rfl (by decide +kernel) (frok hR9 (Nat.le_of_ble_eq_true rfl) (Nat.le_of_ble_eq_true rfl)) (roomk hR9 (Nat.le_of_ble_eq_true rfl) (Nat.le_of_ble_eq_true rfl)) rfl rfl (Nat.le_of_ble_eq_true rfl) 2 rfl rfl [2, 3, 0, 1] [] (wr := []) rfl rfl (by decide) (by decide) (by decide) ?_
          intro v9 w9 hp9
          obtain ⟨rfl, rfl⟩ := hp9
          show V K 11 [(adb, .inr (0, [.ref adw, .int r_16.1])), (adw, .inl (gJ (kG K), nw, .inr (.inl r_16.2))), (adb2, .inr (0, [.ref adw2, .int u2])), (adw2, .inl (gJ (kG K), nw2, .inr (.inl fw2)))] 0 0 124 [(0, .ref adb), (1, .ref adb2), (2, .null), (3, .int x3_2), (4, .long x4_5), (6, .int i6_6), (7, .int x7_12), (8, .int y_13), (9, .long x9_15)] []
          refine v_aload_nN hk dX1_reduceBy_124 rfl ?_
          refine v_ifnullN (tgt := 136) hk dX1_reduceBy_125 (by decide) ?_
          obtain ⟨x6_17, ex6_17, h⟩ := lt_e (g := (lpk (lp (b_X1_reduceBy_n_45 nw u2 nw2 fw2 x3_2 x4_5) nn))) h
          refine v_iinc (v := x6_17) hk dX1_reduceBy_136 rfl (by rw [ex6_17]; rfl) (by decide) [1, 2, 3, 4, 5, 0, 6, 7, 8] (lv' := [(0, .ref adb), (1, .ref adb2), (2, .null), (3, .int x3_2), (4, .long x4_5), (6, .int x6_17), (7, .int x7_12), (8, .int y_13), (9, .long x9_15)]) rfl ?_
          refine v_goto (tgt := 45) hk dX1_reduceBy_139 (by decide) ?_
          refine v_loc [0, 1, 2, 3, 4, 5] (lv' := [(0, .ref adb), (1, .ref adb2), (2, .null), (3, .int x3_2), (4, .long x4_5), (6, .int x6_17)]) rfl ?_
          exact ih x6_17 r_16.1 r_16.2 h
        clear h
        have h := id_e ey_13
        clear ey_13
        refine v_if_le (tgt := 86) hk dX1_reduceBy_73 (by decide) (fun hc => ?_) (fun hc => ?_)
        · replace h := it_t (g := id) h hc
          refine v_iconst (v := 0) hk dX1_reduceBy_86 (by decide) ?_
          replace h : some (0 : Int32) = some y_13 := h
          replace h := Option.some.inj h
          subst h
          exact Jy_13
        · replace h := it_f (g := id) h hc
          refine v_iload hk dX1_reduceBy_76 rfl ?_
          refine v_iconst (v := 1) hk dX1_reduceBy_78 (by decide) ?_
          refine v_isub hk dX1_reduceBy_79 ?_
          refine v_bipush (v := 32) hk dX1_reduceBy_80 (by decide) ?_
          refine v_idiv hk dX1_reduceBy_82 (by decide) ?_
          refine v_goto (tgt := 87) hk dX1_reduceBy_83 (by decide) ?_
          replace h : some ((x7_12 - 1) / 32 : Int32) = some y_13 := h
          replace h := Option.some.inj h
          subst h
          exact Jy_13
set_option maxHeartbeats 4000000 in
set_option maxRecDepth 100000 in
theorem c_X1_reduceBy_n (l : Launch) (G : GG) (adb : Nat) (adw : Nat) (adb2 : Nat) (adw2 : Nat) (u : Int32) (nw : Nat) (fw : Nat → Int64) (u2 : Int32) (nw2 : Nat) (fw2 : Nat → Int64) (r : Int32 × (Nat → Int64)) (h : m_X1_reduceBy_n u nw fw u2 nw2 fw2 = some r) : Ctr l G yX1_reduceBy w2_X1_reduceBy rm_X1_reduceBy_n [.ref adb, .ref adb2, .null] [(adb, .inr (0, [.ref adw, .int u])), (adw, .inl (gJ G, nw, .inr (.inl fw))), (adb2, .inr (0, [.ref adw2, .int u2])), (adw2, .inl (gJ G, nw2, .inr (.inl fw2)))] (fun v w => v = none ∧ w = [(adb, .inr (0, [.ref adw, .int r.1])), (adw, .inl (gJ G, nw, .inr (.inl r.2))), (adb2, .inr (0, [.ref adw2, .int u2])), (adw2, .inl (gJ G, nw2, .inr (.inl fw2)))]) := by
  refine ctr_entry (cc := cX1_reduceBy) (maxL := 11) (ret := none) (lv0 := [(0, .ref adb), (1, .ref adb2), (2, .null)]) (by decide) rfl (Nat.le_of_ble_eq_true rfl) (rfl) ?_
  intro K hl9 hG9 hk hn9 hrt
  subst hl9
  subst hG9
  have hR9 : RoomGe rm_X1_reduceBy_n rm_X1_reduceBy_n := RoomGe.rf
  replace h := id_e h
  rw [em_X1_reduceBy_n] at h
  refine v_aload_n hk dX1_reduceBy_0 rfl ?_
  refine v_get (C := RX1) (T := TX1) (N := 2) (ci := 0) (v := .int u2) hk dX1_reduceBy_1 w2i_X1_reduceBy_X10 2 rfl rfl 1 (by decide) (by decide +kernel) rfl rfl ?_
  refine v_if_ne (tgt := 8) hk dX1_reduceBy_4 (by decide) (fun hc => ?_) (fun hc => ?_)
  · replace h := it_f (g := id) h hc
    refine v_iconst (v := 0) hk dX1_reduceBy_8 (by decide) ?_
    refine v_aload_n hk dX1_reduceBy_9 rfl ?_
    obtain ⟨r_1, er_1, h⟩ := bd_e (g := id) rfl h
    refine v_callV (n := 0) (st := [.int 0]) (b := adb2) (T := TX1) (N := 2) hk dX1_reduceBy_10 (c_X1_bits (kl K) (kG K) adb2 adw2 u2 nw2 fw2 r_1 er_1) rfl gd_X1_reduceBy_X1_bits rfl (by decide +kernel) (frok hR9 (Nat.le_of_ble_eq_true rfl) (Nat.le_of_ble_eq_true rfl)) (roomk hR9 (Nat.le_of_ble_eq_true rfl) (Nat.le_of_ble_eq_true rfl)) rfl rfl (Nat.le_of_ble_eq_true rfl) 2 rfl rfl [2, 3] [0, 1] (wr := [(adb, .inr (0, [.ref adw, .int u])), (adw, .inl (gJ (kG K), nw, .inr (.inl fw)))]) rfl rfl (by decide) (by decide) (by decide) ?_
    intro v9 w9 hp9
    obtain ⟨rfl, rfl⟩ := hp9
    show V K 11 [(adb, .inr (0, [.ref adw, .int u])), (adw, .inl (gJ (kG K), nw, .inr (.inl fw))), (adb2, .inr (0, [.ref adw2, .int u2])), (adw2, .inl (gJ (kG K), nw2, .inr (.inl fw2)))] 0 0 13 [(0, .ref adb), (1, .ref adb2), (2, .null)] [.int r_1, .int 0]
    refine v_bipush (v := 31) hk dX1_reduceBy_13 (by decide) ?_
    refine v_isub hk dX1_reduceBy_15 ?_
    refine v_mmax hk dX1_reduceBy_16 (by decide +kernel) (by decide +kernel) (by decide +kernel) (by decide +kernel) (Nat.le_trans (by decide) hR9.1) (Nat.le_trans (Nat.le_of_ble_eq_true rfl) hR9.2.2.2) (Nat.zero_le _) (Nat.zero_le _) ?_
    obtain ⟨x3_2, ex3_2, h⟩ := lt_e (g := id) h
    refine v_topi ex3_2.symm ?_
    refine v_istore_n hk dX1_reduceBy_19 rfl (by decide) [1, 2, 3, 0] (lv' := [(0, .ref adb), (1, .ref adb2), (2, .null), (3, .int x3_2)]) rfl ?_
    refine v_lconst (v := 1) hk dX1_reduceBy_20 (by decide) ?_
    refine v_aload_n hk dX1_reduceBy_21 rfl ?_
    refine v_iload_n hk dX1_reduceBy_22 rfl ?_
    obtain ⟨r_3, er_3, h⟩ := bd_e (g := id) rfl h
    refine v_callV (n := 1) (st := [.long 1]) (b := adb2) (T := TX1) (N := 2) hk dX1_reduceBy_23 (c_X1_from (kl K) (kG K) adb2 adw2 u2 nw2 fw2 x3_2 r_3 er_3) rfl gd_X1_reduceBy_X1_from rfl (by decide +kernel) (frok hR9 (Nat.le_of_ble_eq_true rfl) (Nat.le_of_ble_eq_true rfl)) (roomk hR9 (Nat.le_of_ble_eq_true rfl) (Nat.le_of_ble_eq_true rfl)) rfl rfl (Nat.le_of_ble_eq_true rfl) 2 rfl rfl [2, 3] [0, 1] (wr := [(adb, .inr (0, [.ref adw, .int u])), (adw, .inl (gJ (kG K), nw, .inr (.inl fw)))]) rfl rfl (by decide) (by decide) (by decide) ?_
    intro v9 w9 hp9
    obtain ⟨rfl, rfl⟩ := hp9
    show V K 11 [(adb, .inr (0, [.ref adw, .int u])), (adw, .inl (gJ (kG K), nw, .inr (.inl fw))), (adb2, .inr (0, [.ref adw2, .int u2])), (adw2, .inl (gJ (kG K), nw2, .inr (.inl fw2)))] 0 0 26 [(0, .ref adb), (1, .ref adb2), (2, .null), (3, .int x3_2)] [.long r_3, .long 1]
    refine v_iload_n hk dX1_reduceBy_26 rfl ?_
    obtain ⟨z_4, ez_4, h⟩ := lt_e (g := id) h
    have Jz_4 : V K 11 [(adb, .inr (0, [.ref adw, .int u])), (adw, .inl (gJ (kG K), nw, .inr (.inl fw))), (adb2, .inr (0, [.ref adw2, .int u2])), (adw2, .inl (gJ (kG K), nw2, .inr (.inl fw2)))] 0 0 35 [(0, .ref adb), (1, .ref adb2), (2, .null), (3, .int x3_2)] (.int z_4 :: [.long r_3, .long 1]) := by
      refine v_i2l hk dX1_reduceBy_35 ?_
      refine v_ladd hk dX1_reduceBy_36 ?_
      refine v_lmax hk dX1_reduceBy_37 (by decide +kernel) (by decide +kernel) (by decide +kernel) (by decide +kernel) (Nat.le_trans (by decide) hR9.1) (Nat.le_trans (Nat.le_of_ble_eq_true rfl) hR9.2.2.2) (Nat.zero_le _) (Nat.zero_le _) ?_
      obtain ⟨x4_5, ex4_5, h⟩ := lt_e (g := id) h
      refine v_topl ex4_5.symm ?_
      refine v_lstore hk dX1_reduceBy_40 (by decide) [1, 2, 3, 4, 0] (lv' := [(0, .ref adb), (1, .ref adb2), (2, .null), (3, .int x3_2), (4, .long x4_5)]) rfl ?_
      refine v_iconst (v := 0) hk dX1_reduceBy_42 (by decide) ?_
      refine v_istore hk dX1_reduceBy_43 (by decide) [1, 2, 3, 4, 5, 0] (lv' := [(0, .ref adb), (1, .ref adb2), (2, .null), (3, .int x3_2), (4, .long x4_5), (6, .int 0)]) rfl ?_
      obtain ⟨b_19, eb_19, h⟩ := bd_e (g := id) rfl h
      refine L_X1_reduceBy_n_45 hk hR9 adb adw adb2 adw2 nw u2 nw2 fw2 x3_2 x4_5 b_19 (fun q_18 eq_18 => ?_) FU 0 u fw eb_19
      · replace eq_18 := eq_18.symm
        subst eq_18
        replace h : some (q_18.2.1, q_18.2.2) = some r := h
        replace h := Option.some.inj h
        subst h
        refine hrt (none) _ _ _ _ _ (⟨rfl, rfl⟩) (Nat.zero_le _) (Nat.zero_le _) (dX1_reduceBy_142)
    refine v_if_le (tgt := 34) hk dX1_reduceBy_27 (by decide) (fun hc => ?_) (fun hc => ?_)
    · rw [if_pos hc] at ez_4
      subst ez_4
      refine v_iconst (v := 0) hk dX1_reduceBy_34 (by decide) ?_
      exact Jz_4
    · rw [if_neg hc] at ez_4
      subst ez_4
      refine v_iconst (v := 1) hk dX1_reduceBy_30 (by decide) ?_
      refine v_goto (tgt := 35) hk dX1_reduceBy_31 (by decide) ?_
      exact Jz_4
  · replace h := it_t (g := id) h hc
    replace h : some (u, fw) = some r := h
    replace h := Option.some.inj h
    subst h
    refine hrt (none) _ _ _ _ _ (⟨rfl, rfl⟩) (Nat.zero_le _) (Nat.zero_le _) (dX1_reduceBy_7)
abbrev rm_X1_reduceBy : Room := { frames := 3, cells := 0, slots := 0, locals := 75 }
set_option maxHeartbeats 4000000 in
set_option maxRecDepth 100000 in
theorem L_X1_reduceBy_45 {K : Cx} {R9 : Room} (hk : Ok K cX1_reduceBy 11 RX1 w2_X1_reduceBy R9) (hR9 : RoomGe R9 rm_X1_reduceBy) (adb : Nat) (adw : Nat) (adb2 : Nat) (adw2 : Nat) (adb3 : Nat) (adw3 : Nat) (nw : Nat) (u2 : Int32) (nw2 : Nat) (fw2 : Nat → Int64) (nw3 : Nat) (x3_2 : Int32) (x4_5 : Int64) (b9 : (Int32 × Int32 × (Nat → Int64) × Int32 × (Nat → Int64))) (kk0 : ∀ q9 : (Int32 × Int32 × (Nat → Int64) × Int32 × (Nat → Int64)), b9 = q9 → V K 11 [(adb, .inr (0, [.ref adw, .int q9.2.1])), (adw, .inl (gJ (kG K), nw, .inr (.inl q9.2.2.1))), (adb3, .inr (0, [.ref adw3, .int q9.2.2.2.1])), (adw3, .inl (gJ (kG K), nw3, .inr (.inl q9.2.2.2.2))), (adb2, .inr (0, [.ref adw2, .int u2])), (adw2, .inl (gJ (kG K), nw2, .inr (.inl fw2)))] 0 0 142 [(0, .ref adb), (1, .ref adb2), (2, .ref adb3), (3, .int x3_2), (4, .long x4_5), (6, .int q9.1)] []) : ∀ (nn : Nat) (i6_6 : Int32) (pb_7 : Int32) (fw_8 : Nat → Int64) (pb3_9 : Int32) (fw3_10 : Nat → Int64), lp (b_X1_reduceBy_45 nw u2 nw2 fw2 nw3 x3_2 x4_5) nn (i6_6, pb_7, fw_8, pb3_9, fw3_10) = some b9 → V K 11 [(adb, .inr (0, [.ref adw, .int pb_7])), (adw, .inl (gJ (kG K), nw, .inr (.inl fw_8))), (adb3, .inr (0, [.ref adw3, .int pb3_9])), (adw3, .inl (gJ (kG K), nw3, .inr (.inl fw3_10))), (adb2, .inr (0, [.ref adw2, .int u2])), (adw2, .inl (gJ (kG K), nw2, .inr (.inl fw2)))] 0 0 45 [(0, .ref adb), (1, .ref adb2), (2, .ref adb3), (3, .int x3_2), (4, .long x4_5), (6, .int i6_6)] [] := by
  intro nn
  induction nn with
  | zero => intro i6_6 pb_7 fw_8 pb3_9 fw3_10 h; exact absurd h (by simp [lp])
  | succ nn ih =>
    intro i6_6 pb_7 fw_8 pb3_9 fw3_10 h
    replace h := lp_s h
    rw [eb_X1_reduceBy_45] at h
    refine v_iload hk dX1_reduceBy_45 rfl ?_
    refine v_ldc (v := 1000000) hk dX1_reduceBy_47 (by decide +kernel) ?_
    refine v_icmp_ge (tgt := 142) hk dX1_reduceBy_49 (by decide) (fun hc => ?_) (fun hc => ?_)
    · replace h := it_t (g := (lpk (lp (b_X1_reduceBy_45 nw u2 nw2 fw2 nw3 x3_2 x4_5) nn))) h hc
      replace h : some (i6_6, pb_7, fw_8, pb3_9, fw3_10) = some b9 := h
      replace h := Option.some.inj h
      subst h
      exact kk0 _ rfl
    · replace h := it_f (g := (lpk (lp (b_X1_reduceBy_45 nw u2 nw2 fw2 nw3 x3_2 x4_5) nn))) h hc
      refine v_aload_n hk dX1_reduceBy_52 rfl ?_
      refine v_aload_n hk dX1_reduceBy_53 rfl ?_
      obtain ⟨r_11, er_11, h⟩ := bd_e (g := (lpk (lp (b_X1_reduceBy_45 nw u2 nw2 fw2 nw3 x3_2 x4_5) nn))) rfl h
      refine v_callV (n := 1) (st := []) (b := adb) (T := TX1) (N := 2) hk dX1_reduceBy_54 (c_X1_against (kl K) (kG K) adb adw adb2 adw2 pb_7 nw fw_8 u2 nw2 fw2 r_11 er_11) rfl gd_X1_reduceBy_X1_against rfl (by decide +kernel) (frok hR9 (Nat.le_of_ble_eq_true rfl) (Nat.le_of_ble_eq_true rfl)) (roomk hR9 (Nat.le_of_ble_eq_true rfl) (Nat.le_of_ble_eq_true rfl)) rfl rfl (Nat.le_of_ble_eq_true rfl) 0 rfl rfl [0, 1, 4, 5] [2, 3] (wr := [(adb3, .inr (0, [.ref adw3, .int pb3_9])), (adw3, .inl (gJ (kG K), nw3, .inr (.inl fw3_10)))]) rfl rfl (by decide) (by decide) (by decide) ?_
      intro v9 w9 hp9
      obtain ⟨rfl, rfl⟩ := hp9
      show V K 11 [(adb3, .inr (0, [.ref adw3, .int pb3_9])), (adw3, .inl (gJ (kG K), nw3, .inr (.inl fw3_10))), (adb, .inr (0, [.ref adw, .int pb_7])), (adw, .inl (gJ (kG K), nw, .inr (.inl fw_8))), (adb2, .inr (0, [.ref adw2, .int u2])), (adw2, .inl (gJ (kG K), nw2, .inr (.inl fw2)))] 0 0 57 [(0, .ref adb), (1, .ref adb2), (2, .ref adb3), (3, .int x3_2), (4, .long x4_5), (6, .int i6_6)] [.int r_11]
      refine v_if_lt (tgt := 142) hk dX1_reduceBy_57 (by decide) (fun hc => ?_) (fun hc => ?_)
      · replace h := it_t (g := (lpk (lp (b_X1_reduceBy_45 nw u2 nw2 fw2 nw3 x3_2 x4_5) nn))) h hc
        refine v_perm [2, 3, 0, 1, 4, 5] (ws' := [(adb, .inr (0, [.ref adw, .int pb_7])), (adw, .inl (gJ (kG K), nw, .inr (.inl fw_8))), (adb3, .inr (0, [.ref adw3, .int pb3_9])), (adw3, .inl (gJ (kG K), nw3, .inr (.inl fw3_10))), (adb2, .inr (0, [.ref adw2, .int u2])), (adw2, .inl (gJ (kG K), nw2, .inr (.inl fw2)))]) rfl rfl (by decide) ?_
        replace h : some (i6_6, pb_7, fw_8, pb3_9, fw3_10) = some b9 := h
        replace h := Option.some.inj h
        subst h
        exact kk0 _ rfl
      · replace h := it_f (g := (lpk (lp (b_X1_reduceBy_45 nw u2 nw2 fw2 nw3 x3_2 x4_5) nn))) h hc
        refine v_aload_n hk dX1_reduceBy_60 rfl ?_
        obtain ⟨r_12, er_12, h⟩ := bd_e (g := (lpk (lp (b_X1_reduceBy_45 nw u2 nw2 fw2 nw3 x3_2 x4_5) nn))) rfl h
        refine v_callV (n := 0) (st := []) (b := adb) (T := TX1) (N := 2) hk dX1_reduceBy_61 (c_X1_bits (kl K) (kG K) adb adw pb_7 nw fw_8 r_12 er_12) rfl gd_X1_reduceBy_X1_bits rfl (by decide +kernel) (frok hR9 (Nat.le_of_ble_eq_true rfl) (Nat.le_of_ble_eq_true rfl)) (roomk hR9 (Nat.le_of_ble_eq_true rfl) (Nat.le_of_ble_eq_true rfl)) rfl rfl (Nat.le_of_ble_eq_true rfl) 2 rfl rfl [2, 3] [0, 1, 4, 5] (wr := [(adb3, .inr (0, [.ref adw3, .int pb3_9])), (adw3, .inl (gJ (kG K), nw3, .inr (.inl fw3_10))), (adb2, .inr (0, [.ref adw2, .int u2])), (adw2, .inl (gJ (kG K), nw2, .inr (.inl fw2)))]) rfl rfl (by decide) (by decide) (by decide) ?_
        intro v9 w9 hp9
        obtain ⟨rfl, rfl⟩ := hp9
        show V K 11 [(adb3, .inr (0, [.ref adw3, .int pb3_9])), (adw3, .inl (gJ (kG K), nw3, .inr (.inl fw3_10))), (adb2, .inr (0, [.ref adw2, .int u2])), (adw2, .inl (gJ (kG K), nw2, .inr (.inl fw2))), (adb, .inr (0, [.ref adw, .int pb_7])), (adw, .inl (gJ (kG K), nw, .inr (.inl fw_8)))] 0 0 64 [(0, .ref adb), (1, .ref adb2), (2, .ref adb3), (3, .int x3_2), (4, .long x4_5), (6, .int i6_6)] [.int r_12]
        refine v_aload_n hk dX1_reduceBy_64 rfl ?_
        obtain ⟨r_13, er_13, h⟩ := bd_e (g := (lpk (lp (b_X1_reduceBy_45 nw u2 nw2 fw2 nw3 x3_2 x4_5) nn))) rfl h
        refine v_callV (n := 0) (st := [.int r_12]) (b := adb2) (T := TX1) (N := 2) hk dX1_reduceBy_65 (c_X1_bits (kl K) (kG K) adb2 adw2 u2 nw2 fw2 r_13 er_13) rfl gd_X1_reduceBy_X1_bits rfl (by decide +kernel) (frok hR9 (Nat.le_of_ble_eq_true rfl) (Nat.le_of_ble_eq_true rfl)) (roomk hR9 (Nat.le_of_ble_eq_true rfl) (Nat.le_of_ble_eq_true rfl)) rfl rfl (Nat.le_of_ble_eq_true rfl) 2 rfl rfl [2, 3] [0, 1, 4, 5] (wr := [(adb3, .inr (0, [.ref adw3, .int pb3_9])), (adw3, .inl (gJ (kG K), nw3, .inr (.inl fw3_10))), (adb, .inr (0, [.ref adw, .int pb_7])), (adw, .inl (gJ (kG K), nw, .inr (.inl fw_8)))]) rfl rfl (by decide) (by decide) (by decide) ?_
        intro v9 w9 hp9
        obtain ⟨rfl, rfl⟩ := hp9
        show V K 11 [(adb3, .inr (0, [.ref adw3, .int pb3_9])), (adw3, .inl (gJ (kG K), nw3, .inr (.inl fw3_10))), (adb, .inr (0, [.ref adw, .int pb_7])), (adw, .inl (gJ (kG K), nw, .inr (.inl fw_8))), (adb2, .inr (0, [.ref adw2, .int u2])), (adw2, .inl (gJ (kG K), nw2, .inr (.inl fw2)))] 0 0 68 [(0, .ref adb), (1, .ref adb2), (2, .ref adb3), (3, .int x3_2), (4, .long x4_5), (6, .int i6_6)] [.int r_13, .int r_12]
        refine v_isub hk dX1_reduceBy_68 ?_
        obtain ⟨x7_14, ex7_14, h⟩ := lt_e (g := (lpk (lp (b_X1_reduceBy_45 nw u2 nw2 fw2 nw3 x3_2 x4_5) nn))) h
        refine v_topi ex7_14.symm ?_
        refine v_istore hk dX1_reduceBy_69 (by decide) [1, 2, 3, 4, 5, 6, 0] (lv' := [(0, .ref adb), (1, .ref adb2), (2, .ref adb3), (3, .int x3_2), (4, .long x4_5), (6, .int i6_6), (7, .int x7_14)]) rfl ?_
        refine v_iload hk dX1_reduceBy_71 rfl ?_
        obtain ⟨y_15, ey_15, h⟩ := bd_e (g := (lpk (lp (b_X1_reduceBy_45 nw u2 nw2 fw2 nw3 x3_2 x4_5) nn))) rfl h
        have Jy_15 : V K 11 [(adb3, .inr (0, [.ref adw3, .int pb3_9])), (adw3, .inl (gJ (kG K), nw3, .inr (.inl fw3_10))), (adb, .inr (0, [.ref adw, .int pb_7])), (adw, .inl (gJ (kG K), nw, .inr (.inl fw_8))), (adb2, .inr (0, [.ref adw2, .int u2])), (adw2, .inl (gJ (kG K), nw2, .inr (.inl fw2)))] 0 0 87 [(0, .ref adb), (1, .ref adb2), (2, .ref adb3), (3, .int x3_2), (4, .long x4_5), (6, .int i6_6), (7, .int x7_14)] [.int y_15] := by
          refine v_istore hk dX1_reduceBy_87 (by decide) [1, 2, 3, 4, 5, 6, 7, 0] (lv' := [(0, .ref adb), (1, .ref adb2), (2, .ref adb3), (3, .int x3_2), (4, .long x4_5), (6, .int i6_6), (7, .int x7_14), (8, .int y_15)]) rfl ?_
          refine v_lconst (v := 1) hk dX1_reduceBy_89 (by decide) ?_
          refine v_ldc2 (v := 4294967295) hk dX1_reduceBy_90 (by decide +kernel) ?_
          refine v_aload_n hk dX1_reduceBy_93 rfl ?_
          refine v_iload_n hk dX1_reduceBy_94 rfl ?_
          refine v_bipush (v := 32) hk dX1_reduceBy_95 (by decide) ?_
          refine v_iload hk dX1_reduceBy_97 rfl ?_
          refine v_imul hk dX1_reduceBy_99 ?_
          refine v_iadd hk dX1_reduceBy_100 ?_
          obtain ⟨r_16, er_16, h⟩ := bd_e (g := (lpk (lp (b_X1_reduceBy_45 nw u2 nw2 fw2 nw3 x3_2 x4_5) nn))) rfl h
          refine v_callV (n := 1) (st := [.long 4294967295, .long 1]) (b := adb) (T := TX1) (N := 2) hk dX1_reduceBy_101 (c_X1_from (kl K) (kG K) adb adw pb_7 nw fw_8 (x3_2 + (32 * y_15)) r_16 er_16) rfl gd_X1_reduceBy_X1_from rfl (by decide +kernel) (frok hR9 (Nat.le_of_ble_eq_true rfl) (Nat.le_of_ble_eq_true rfl)) (roomk hR9 (Nat.le_of_ble_eq_true rfl) (Nat.le_of_ble_eq_true rfl)) rfl rfl (Nat.le_of_ble_eq_true rfl) 2 rfl rfl [2, 3] [0, 1, 4, 5] (wr := [(adb3, .inr (0, [.ref adw3, .int pb3_9])), (adw3, .inl (gJ (kG K), nw3, .inr (.inl fw3_10))), (adb2, .inr (0, [.ref adw2, .int u2])), (adw2, .inl (gJ (kG K), nw2, .inr (.inl fw2)))]) rfl rfl (by decide) (by decide) (by decide) ?_
          intro v9 w9 hp9
          obtain ⟨rfl, rfl⟩ := hp9
          show V K 11 [(adb3, .inr (0, [.ref adw3, .int pb3_9])), (adw3, .inl (gJ (kG K), nw3, .inr (.inl fw3_10))), (adb2, .inr (0, [.ref adw2, .int u2])), (adw2, .inl (gJ (kG K), nw2, .inr (.inl fw2))), (adb, .inr (0, [.ref adw, .int pb_7])), (adw, .inl (gJ (kG K), nw, .inr (.inl fw_8)))] 0 0 104 [(0, .ref adb), (1, .ref adb2), (2, .ref adb3), (3, .int x3_2), (4, .long x4_5), (6, .int i6_6), (7, .int x7_14), (8, .int y_15)] [.long r_16, .long 4294967295, .long 1]
          refine v_lload hk dX1_reduceBy_104 rfl ?_
          obtain ⟨hz, h⟩ := nz_e (g := (lpk (lp (b_X1_reduceBy_45 nw u2 nw2 fw2 nw3 x3_2 x4_5) nn))) rfl h
          refine v_ldiv hk dX1_reduceBy_106 hz ?_
          refine v_lmin hk dX1_reduceBy_107 (by decide +kernel) (by decide +kernel) (by decide +kernel) (by decide +kernel) (Nat.le_trans (by decide) hR9.1) (Nat.le_trans (Nat.le_of_ble_eq_true rfl) hR9.2.2.2) (Nat.zero_le _) (Nat.zero_le _) ?_
          refine v_lmax hk dX1_reduceBy_110 (by decide +kernel) (by decide +kernel) (by decide +kernel) (by decide +kernel) (Nat.le_trans (by decide) hR9.1) (Nat.le_trans (Nat.le_of_ble_eq_true rfl) hR9.2.2.2) (Nat.zero_le _) (Nat.zero_le _) ?_
          obtain ⟨x9_17, ex9_17, h⟩ := lt_e (g := (lpk (lp (b_X1_reduceBy_45 nw u2 nw2 fw2 nw3 x3_2 x4_5) nn))) h
          refine v_topl ex9_17.symm ?_
          refine v_lstore hk dX1_reduceBy_113 (by decide) [1, 2, 3, 4, 5, 6, 7, 8, 0] (lv' := [(0, .ref adb), (1, .ref adb2), (2, .ref adb3), (3, .int x3_2), (4, .long x4_5), (6, .int i6_6), (7, .int x7_14), (8, .int y_15), (9, .long x9_17)]) rfl ?_
          refine v_aload_n hk dX1_reduceBy_115 rfl ?_
          refine v_lload hk dX1_reduceBy_116 rfl ?_
          refine v_aload_n hk dX1_reduceBy_118 rfl ?_
          refine v_iload hk dX1_reduceBy_119 rfl ?_
          obtain ⟨r_18, er_18, h⟩ := bd_e (g := (lpk (lp (b_X1_reduceBy_45 nw u2 nw2 fw2 nw3 x3_2 x4_5) nn))) rfl h
          refine v_callV (n := 3) (st := []) (b := adb) (T := TX1) (N := 2) hk dX1_reduceBy_121 (c_X1_subtractMultiple (kl K) (kG K) adb adw adb2 adw2 pb_7 nw fw_8 u2 nw2 fw2 x9_17 y_15 r_18 er_18) rfl gd_X1_reduceBy_X1_subtractMultiple rfl (by decide +kernel) (frok hR9 (Nat.le_of_ble_eq_true rfl) (Nat.le_of_ble_eq_true rfl)) (roomk hR9 (Nat.le_of_ble_eq_true rfl) (Nat.le_of_ble_eq_true rfl)) rfl rfl (Nat.le_of_ble_eq_true rfl) 4 rfl rfl [4, 5, 2, 3] [0, 1] (wr := [(adb3, .inr (0, [.ref adw3, .int pb3_9])), (adw3, .inl (gJ (kG K), nw3, .inr (.inl fw3_10)))]) rfl rfl (by decide) (by decide) (by decide) ?_
          intro v9 w9 hp9
          obtain ⟨rfl, rfl⟩ := hp9
          show V K 11 [(adb3, .inr (0, [.ref adw3, .int pb3_9])), (adw3, .inl (gJ (kG K), nw3, .inr (.inl fw3_10))), (adb, .inr (0, [.ref adw, .int r_18.1])), (adw, .inl (gJ (kG K), nw, .inr (.inl r_18.2))), (adb2, .inr (0, [.ref adw2, .int u2])), (adw2, .inl (gJ (kG K), nw2, .inr (.inl fw2)))] 0 0 124 [(0, .ref adb), (1, .ref adb2), (2, .ref adb3), (3, .int x3_2), (4, .long x4_5), (6, .int i6_6), (7, .int x7_14), (8, .int y_15), (9, .long x9_17)] []
          refine v_aload_n hk dX1_reduceBy_124 rfl ?_
          refine v_ifnull hk dX1_reduceBy_125 ?_
          refine v_aload_n hk dX1_reduceBy_128 rfl ?_
          refine v_lload hk dX1_reduceBy_129 rfl ?_
          refine v_iload hk dX1_reduceBy_131 rfl ?_
          obtain ⟨r_19, er_19, h⟩ := bd_e (g := (lpk (lp (b_X1_reduceBy_45 nw u2 nw2 fw2 nw3 x3_2 x4_5) nn))) rfl h
          refine v_callV (n := 2) (st := []) (b := adb3) (T := TX1) (N := 2) hk dX1_reduceBy_133 (c_X1_addDigit (kl K) (kG K) adb3 adw3 pb3_9 nw3 fw3_10 x9_17 y_15 r_19 er_19) rfl gd_X1_reduceBy_X1_addDigit rfl (by decide +kernel) (frok hR9 (Nat.le_of_ble_eq_true rfl) (Nat.le_of_ble_eq_true rfl)) (roomk hR9 (Nat.le_of_ble_eq_true rfl) (Nat.le_of_ble_eq_true rfl)) rfl rfl (Nat.le_of_ble_eq_true rfl) 0 rfl rfl [0, 1] [2, 3, 4, 5] (wr := [(adb, .inr (0, [.ref adw, .int r_18.1])), (adw, .inl (gJ (kG K), nw, .inr (.inl r_18.2))), (adb2, .inr (0, [.ref adw2, .int u2])), (adw2, .inl (gJ (kG K), nw2, .inr (.inl fw2)))]) rfl rfl (by decide) (by decide) (by decide) ?_
          intro v9 w9 hp9
          obtain ⟨rfl, rfl⟩ := hp9
          show V K 11 [(adb, .inr (0, [.ref adw, .int r_18.1])), (adw, .inl (gJ (kG K), nw, .inr (.inl r_18.2))), (adb2, .inr (0, [.ref adw2, .int u2])), (adw2, .inl (gJ (kG K), nw2, .inr (.inl fw2))), (adb3, .inr (0, [.ref adw3, .int r_19.1])), (adw3, .inl (gJ (kG K), nw3, .inr (.inl r_19.2)))] 0 0 136 [(0, .ref adb), (1, .ref adb2), (2, .ref adb3), (3, .int x3_2), (4, .long x4_5), (6, .int i6_6), (7, .int x7_14), (8, .int y_15), (9, .long x9_17)] []
          obtain ⟨x6_20, ex6_20, h⟩ := lt_e (g := (lpk (lp (b_X1_reduceBy_45 nw u2 nw2 fw2 nw3 x3_2 x4_5) nn))) h
          refine v_iinc (v := x6_20) hk dX1_reduceBy_136 rfl (by rw [ex6_20]; rfl) (by decide) [1, 2, 3, 4, 5, 0, 6, 7, 8] (lv' := [(0, .ref adb), (1, .ref adb2), (2, .ref adb3), (3, .int x3_2), (4, .long x4_5), (6, .int x6_20), (7, .int x7_14), (8, .int y_15), (9, .long x9_17)]) rfl ?_
          refine v_goto (tgt := 45) hk dX1_reduceBy_139 (by decide) ?_
          refine v_loc [0, 1, 2, 3, 4, 5] (lv' := [(0, .ref adb), (1, .ref adb2), (2, .ref adb3), (3, .int x3_2), (4, .long x4_5), (6, .int x6_20)]) rfl ?_
          refine v_perm [0, 1, 4, 5, 2, 3] (ws' := [(adb, .inr (0, [.ref adw, .int r_18.1])), (adw, .inl (gJ (kG K), nw, .inr (.inl r_18.2))), (adb3, .inr (0, [.ref adw3, .int r_19.1])), (adw3, .inl (gJ (kG K), nw3, .inr (.inl r_19.2))), (adb2, .inr (0, [.ref adw2, .int u2])), (adw2, .inl (gJ (kG K), nw2, .inr (.inl fw2)))]) rfl rfl (by decide) ?_
          exact ih x6_20 r_18.1 r_18.2 r_19.1 r_19.2 h
        clear h
        have h := id_e ey_15
        clear ey_15
        refine v_if_le (tgt := 86) hk dX1_reduceBy_73 (by decide) (fun hc => ?_) (fun hc => ?_)
        · replace h := it_t (g := id) h hc
          refine v_iconst (v := 0) hk dX1_reduceBy_86 (by decide) ?_
          replace h : some (0 : Int32) = some y_15 := h
          replace h := Option.some.inj h
          subst h
          exact Jy_15
        · replace h := it_f (g := id) h hc
          refine v_iload hk dX1_reduceBy_76 rfl ?_
          refine v_iconst (v := 1) hk dX1_reduceBy_78 (by decide) ?_
          refine v_isub hk dX1_reduceBy_79 ?_
          refine v_bipush (v := 32) hk dX1_reduceBy_80 (by decide) ?_
          refine v_idiv hk dX1_reduceBy_82 (by decide) ?_
          refine v_goto (tgt := 87) hk dX1_reduceBy_83 (by decide) ?_
          replace h : some ((x7_14 - 1) / 32 : Int32) = some y_15 := h
          replace h := Option.some.inj h
          subst h
          exact Jy_15
set_option maxHeartbeats 4000000 in
set_option maxRecDepth 100000 in
theorem c_X1_reduceBy (l : Launch) (G : GG) (adb : Nat) (adw : Nat) (adb2 : Nat) (adw2 : Nat) (adb3 : Nat) (adw3 : Nat) (u : Int32) (nw : Nat) (fw : Nat → Int64) (u2 : Int32) (nw2 : Nat) (fw2 : Nat → Int64) (u3 : Int32) (nw3 : Nat) (fw3 : Nat → Int64) (r : Int32 × (Nat → Int64) × Int32 × (Nat → Int64)) (h : m_X1_reduceBy u nw fw u2 nw2 fw2 u3 nw3 fw3 = some r) : Ctr l G yX1_reduceBy w2_X1_reduceBy rm_X1_reduceBy [.ref adb, .ref adb2, .ref adb3] [(adb, .inr (0, [.ref adw, .int u])), (adw, .inl (gJ G, nw, .inr (.inl fw))), (adb2, .inr (0, [.ref adw2, .int u2])), (adw2, .inl (gJ G, nw2, .inr (.inl fw2))), (adb3, .inr (0, [.ref adw3, .int u3])), (adw3, .inl (gJ G, nw3, .inr (.inl fw3)))] (fun v w => v = none ∧ w = [(adb, .inr (0, [.ref adw, .int r.1])), (adw, .inl (gJ G, nw, .inr (.inl r.2.1))), (adb2, .inr (0, [.ref adw2, .int u2])), (adw2, .inl (gJ G, nw2, .inr (.inl fw2))), (adb3, .inr (0, [.ref adw3, .int r.2.2.1])), (adw3, .inl (gJ G, nw3, .inr (.inl r.2.2.2)))]) := by
  refine ctr_entry (cc := cX1_reduceBy) (maxL := 11) (ret := none) (lv0 := [(0, .ref adb), (1, .ref adb2), (2, .ref adb3)]) (by decide) rfl (Nat.le_of_ble_eq_true rfl) (rfl) ?_
  intro K hl9 hG9 hk hn9 hrt
  subst hl9
  subst hG9
  have hR9 : RoomGe rm_X1_reduceBy rm_X1_reduceBy := RoomGe.rf
  replace h := id_e h
  rw [em_X1_reduceBy] at h
  refine v_aload_n hk dX1_reduceBy_0 rfl ?_
  refine v_get (C := RX1) (T := TX1) (N := 2) (ci := 0) (v := .int u2) hk dX1_reduceBy_1 w2i_X1_reduceBy_X10 2 rfl rfl 1 (by decide) (by decide +kernel) rfl rfl ?_
  refine v_if_ne (tgt := 8) hk dX1_reduceBy_4 (by decide) (fun hc => ?_) (fun hc => ?_)
  · replace h := it_f (g := id) h hc
    refine v_iconst (v := 0) hk dX1_reduceBy_8 (by decide) ?_
    refine v_aload_n hk dX1_reduceBy_9 rfl ?_
    obtain ⟨r_1, er_1, h⟩ := bd_e (g := id) rfl h
    refine v_callV (n := 0) (st := [.int 0]) (b := adb2) (T := TX1) (N := 2) hk dX1_reduceBy_10 (c_X1_bits (kl K) (kG K) adb2 adw2 u2 nw2 fw2 r_1 er_1) rfl gd_X1_reduceBy_X1_bits rfl (by decide +kernel) (frok hR9 (Nat.le_of_ble_eq_true rfl) (Nat.le_of_ble_eq_true rfl)) (roomk hR9 (Nat.le_of_ble_eq_true rfl) (Nat.le_of_ble_eq_true rfl)) rfl rfl (Nat.le_of_ble_eq_true rfl) 2 rfl rfl [2, 3] [0, 1, 4, 5] (wr := [(adb, .inr (0, [.ref adw, .int u])), (adw, .inl (gJ (kG K), nw, .inr (.inl fw))), (adb3, .inr (0, [.ref adw3, .int u3])), (adw3, .inl (gJ (kG K), nw3, .inr (.inl fw3)))]) rfl rfl (by decide) (by decide) (by decide) ?_
    intro v9 w9 hp9
    obtain ⟨rfl, rfl⟩ := hp9
    show V K 11 [(adb, .inr (0, [.ref adw, .int u])), (adw, .inl (gJ (kG K), nw, .inr (.inl fw))), (adb3, .inr (0, [.ref adw3, .int u3])), (adw3, .inl (gJ (kG K), nw3, .inr (.inl fw3))), (adb2, .inr (0, [.ref adw2, .int u2])), (adw2, .inl (gJ (kG K), nw2, .inr (.inl fw2)))] 0 0 13 [(0, .ref adb), (1, .ref adb2), (2, .ref adb3)] [.int r_1, .int 0]
    refine v_bipush (v := 31) hk dX1_reduceBy_13 (by decide) ?_
    refine v_isub hk dX1_reduceBy_15 ?_
    refine v_mmax hk dX1_reduceBy_16 (by decide +kernel) (by decide +kernel) (by decide +kernel) (by decide +kernel) (Nat.le_trans (by decide) hR9.1) (Nat.le_trans (Nat.le_of_ble_eq_true rfl) hR9.2.2.2) (Nat.zero_le _) (Nat.zero_le _) ?_
    obtain ⟨x3_2, ex3_2, h⟩ := lt_e (g := id) h
    refine v_topi ex3_2.symm ?_
    refine v_istore_n hk dX1_reduceBy_19 rfl (by decide) [1, 2, 3, 0] (lv' := [(0, .ref adb), (1, .ref adb2), (2, .ref adb3), (3, .int x3_2)]) rfl ?_
    refine v_lconst (v := 1) hk dX1_reduceBy_20 (by decide) ?_
    refine v_aload_n hk dX1_reduceBy_21 rfl ?_
    refine v_iload_n hk dX1_reduceBy_22 rfl ?_
    obtain ⟨r_3, er_3, h⟩ := bd_e (g := id) rfl h
    refine v_callV (n := 1) (st := [.long 1]) (b := adb2) (T := TX1) (N := 2) hk dX1_reduceBy_23 (c_X1_from (kl K) (kG K) adb2 adw2 u2 nw2 fw2 x3_2 r_3 er_3) rfl gd_X1_reduceBy_X1_from rfl (by decide +kernel) (frok hR9 (Nat.le_of_ble_eq_true rfl) (Nat.le_of_ble_eq_true rfl)) (roomk hR9 (Nat.le_of_ble_eq_true rfl) (Nat.le_of_ble_eq_true rfl)) rfl rfl (Nat.le_of_ble_eq_true rfl) 4 rfl rfl [4, 5] [0, 1, 2, 3] (wr := [(adb, .inr (0, [.ref adw, .int u])), (adw, .inl (gJ (kG K), nw, .inr (.inl fw))), (adb3, .inr (0, [.ref adw3, .int u3])), (adw3, .inl (gJ (kG K), nw3, .inr (.inl fw3)))]) rfl rfl (by decide) (by decide) (by decide) ?_
    intro v9 w9 hp9
    obtain ⟨rfl, rfl⟩ := hp9
    show V K 11 [(adb, .inr (0, [.ref adw, .int u])), (adw, .inl (gJ (kG K), nw, .inr (.inl fw))), (adb3, .inr (0, [.ref adw3, .int u3])), (adw3, .inl (gJ (kG K), nw3, .inr (.inl fw3))), (adb2, .inr (0, [.ref adw2, .int u2])), (adw2, .inl (gJ (kG K), nw2, .inr (.inl fw2)))] 0 0 26 [(0, .ref adb), (1, .ref adb2), (2, .ref adb3), (3, .int x3_2)] [.long r_3, .long 1]
    refine v_iload_n hk dX1_reduceBy_26 rfl ?_
    obtain ⟨z_4, ez_4, h⟩ := lt_e (g := id) h
    have Jz_4 : V K 11 [(adb, .inr (0, [.ref adw, .int u])), (adw, .inl (gJ (kG K), nw, .inr (.inl fw))), (adb3, .inr (0, [.ref adw3, .int u3])), (adw3, .inl (gJ (kG K), nw3, .inr (.inl fw3))), (adb2, .inr (0, [.ref adw2, .int u2])), (adw2, .inl (gJ (kG K), nw2, .inr (.inl fw2)))] 0 0 35 [(0, .ref adb), (1, .ref adb2), (2, .ref adb3), (3, .int x3_2)] (.int z_4 :: [.long r_3, .long 1]) := by
      refine v_i2l hk dX1_reduceBy_35 ?_
      refine v_ladd hk dX1_reduceBy_36 ?_
      refine v_lmax hk dX1_reduceBy_37 (by decide +kernel) (by decide +kernel) (by decide +kernel) (by decide +kernel) (Nat.le_trans (by decide) hR9.1) (Nat.le_trans (Nat.le_of_ble_eq_true rfl) hR9.2.2.2) (Nat.zero_le _) (Nat.zero_le _) ?_
      obtain ⟨x4_5, ex4_5, h⟩ := lt_e (g := id) h
      refine v_topl ex4_5.symm ?_
      refine v_lstore hk dX1_reduceBy_40 (by decide) [1, 2, 3, 4, 0] (lv' := [(0, .ref adb), (1, .ref adb2), (2, .ref adb3), (3, .int x3_2), (4, .long x4_5)]) rfl ?_
      refine v_iconst (v := 0) hk dX1_reduceBy_42 (by decide) ?_
      refine v_istore hk dX1_reduceBy_43 (by decide) [1, 2, 3, 4, 5, 0] (lv' := [(0, .ref adb), (1, .ref adb2), (2, .ref adb3), (3, .int x3_2), (4, .long x4_5), (6, .int 0)]) rfl ?_
      obtain ⟨b_22, eb_22, h⟩ := bd_e (g := id) rfl h
      refine L_X1_reduceBy_45 hk hR9 adb adw adb2 adw2 adb3 adw3 nw u2 nw2 fw2 nw3 x3_2 x4_5 b_22 (fun q_21 eq_21 => ?_) FU 0 u fw u3 fw3 eb_22
      · replace eq_21 := eq_21.symm
        subst eq_21
        replace h : some (q_21.2.1, q_21.2.2.1, q_21.2.2.2.1, q_21.2.2.2.2) = some r := h
        replace h := Option.some.inj h
        subst h
        refine v_perm [0, 1, 4, 5, 2, 3] (ws' := [(adb, .inr (0, [.ref adw, .int q_21.2.1])), (adw, .inl (gJ (kG K), nw, .inr (.inl q_21.2.2.1))), (adb2, .inr (0, [.ref adw2, .int u2])), (adw2, .inl (gJ (kG K), nw2, .inr (.inl fw2))), (adb3, .inr (0, [.ref adw3, .int q_21.2.2.2.1])), (adw3, .inl (gJ (kG K), nw3, .inr (.inl q_21.2.2.2.2)))]) rfl rfl (by decide) ?_
        refine hrt (none) _ _ _ _ _ (⟨rfl, rfl⟩) (Nat.zero_le _) (Nat.zero_le _) (dX1_reduceBy_142)
    refine v_if_le (tgt := 34) hk dX1_reduceBy_27 (by decide) (fun hc => ?_) (fun hc => ?_)
    · rw [if_pos hc] at ez_4
      subst ez_4
      refine v_iconst (v := 0) hk dX1_reduceBy_34 (by decide) ?_
      exact Jz_4
    · rw [if_neg hc] at ez_4
      subst ez_4
      refine v_iconst (v := 1) hk dX1_reduceBy_30 (by decide) ?_
      refine v_goto (tgt := 35) hk dX1_reduceBy_31 (by decide) ?_
      exact Jz_4
  · replace h := it_t (g := id) h hc
    replace h : some (u, fw, u3, fw3) = some r := h
    replace h := Option.some.inj h
    subst h
    refine hrt (none) _ _ _ _ _ (⟨rfl, rfl⟩) (Nat.zero_le _) (Nat.zero_le _) (dX1_reduceBy_7)
