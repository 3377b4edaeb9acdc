abbrev rm_X11_put : Room := { frames := 0, cells := 0, slots := 0, locals := 0 }
set_option maxHeartbeats 4000000 in
set_option maxRecDepth 100000 in
theorem c_X11_put (l : Launch) (G : GG) (adx : Nat) (nx : Nat) (fx : Nat → Int32) (v : Int32) (r : (Nat → Int32)) (h : m_X11_put nx fx v = some r) : Ctr l G yX11_put w2_X11_put rm_X11_put [.ref adx, .int v] [(adx, .inl (gI G, nx, .inl fx))] (fun v w => v = none ∧ w = [(adx, .inl (gI G, nx, .inl r))]) := by
  refine ctr_entry (cc := cX11_put) (maxL := 2) (ret := none) (lv0 := [(0, .ref adx), (1, .int v)]) (by decide) rfl (Nat.le_of_ble_eq_true rfl) (rfl) ?_
  intro K hl9 hG9 hk hn9 hrt
  subst hl9
  subst hG9
  have hR9 : RoomGe rm_X11_put rm_X11_put := RoomGe.rf
  replace h := id_e h
  rw [em_X11_put] at h
  refine v_aload_n hk dX11_put_0 rfl ?_
  refine v_iconst (v := 0) hk dX11_put_1 (by decide) ?_
  refine v_iload_n hk dX11_put_2 rfl ?_
  obtain ⟨z_1, ez_1, h⟩ := lt_e (g := id) h
  have Jz_1 : V K 2 [(adx, .inl (gI (kG K), nx, .inl fx))] 0 0 11 [(0, .ref adx), (1, .int v)] (.int z_1 :: [.int 0, .ref adx]) := by
    obtain ⟨hi, h⟩ := ok_e (g := id) rfl h
    obtain ⟨fx_2, efx_2, h⟩ := lt_e (g := id) h
    refine v_iastV hk dX11_put_11 0 rfl (ix_in hi) (ws' := [(adx, .inl (gI (kG K), nx, .inl fx_2))]) (by rw [efx_2]; rfl) ?_
    refine v_aload_n hk dX11_put_12 rfl ?_
    refine v_iconst (v := 1) hk dX11_put_13 (by decide) ?_
    refine v_iload_n hk dX11_put_14 rfl ?_
    obtain ⟨hi, h⟩ := ok_e (g := id) rfl h
    obtain ⟨fx_3, efx_3, h⟩ := lt_e (g := id) h
    refine v_iastV hk dX11_put_15 0 rfl (ix_in hi) (ws' := [(adx, .inl (gI (kG K), nx, .inl fx_3))]) (by rw [efx_3]; rfl) ?_
    replace h : some fx_3 = some r := h
    replace h := Option.some.inj h
    subst h
    refine hrt (none) _ _ _ _ _ (⟨rfl, rfl⟩) (Nat.zero_le _) (Nat.zero_le _) (dX11_put_16)
  refine v_if_ne (tgt := 10) hk dX11_put_3 (by decide) (fun hc => ?_) (fun hc => ?_)
  · rw [if_neg hc] at ez_1
    subst ez_1
    refine v_iconst (v := 1) hk dX11_put_10 (by decide) ?_
    exact Jz_1
  · rw [if_pos hc] at ez_1
    subst ez_1
    refine v_iconst (v := 0) hk dX11_put_6 (by decide) ?_
    refine v_goto (tgt := 11) hk dX11_put_7 (by decide) ?_
    exact Jz_1
abbrev rm_X11_copy : Room := { frames := 0, cells := 0, slots := 0, locals := 0 }
set_option maxHeartbeats 4000000 in
set_option maxRecDepth 100000 in
theorem L_X11_copy_2 {K : Cx} {R9 : Room} (hk : Ok K cX11_copy 3 RX11 w2_X11_copy R9) (hR9 : RoomGe R9 rm_X11_copy) (adx : Nat) (ady : Nat) (nx : Nat) (fx : Nat → Int32) (ny : Nat) (b9 : (Int32 × (Nat → Int32))) (kk0 : ∀ q9 : (Int32 × (Nat → Int32)), b9 = q9 → V K 3 [(adx, .inl (gI (kG K), nx, .inl fx)), (ady, .inl (gI (kG K), ny, .inl q9.2))] 0 0 21 [(0, .ref adx), (1, .ref ady), (2, .int q9.1)] []) : ∀ (nn : Nat) (i2_1 : Int32) (fy_2 : Nat → Int32), lp (b_X11_copy_2 nx fx ny) nn (i2_1, fy_2) = some b9 → V K 3 [(adx, .inl (gI (kG K), nx, .inl fx)), (ady, .inl (gI (kG K), ny, .inl fy_2))] 0 0 2 [(0, .ref adx), (1, .ref ady), (2, .int i2_1)] [] := by
  intro nn
  induction nn with
  | zero => intro i2_1 fy_2 h; exact absurd h (by simp [lp])
  | succ nn ih =>
    intro i2_1 fy_2 h
    replace h := lp_s h
    rw [eb_X11_copy_2] at h
    refine v_iload_n hk dX11_copy_2 rfl ?_
    refine v_aload_n hk dX11_copy_3 rfl ?_
    refine v_iconst (v := 0) hk dX11_copy_4 (by decide) ?_
    obtain ⟨hi, h⟩ := ok_e (g := (lpk (lp (b_X11_copy_2 nx fx ny) nn))) rfl h
    refine v_ialdV hk dX11_copy_5 0 rfl (ix_in hi) ?_
    refine v_icmp_gt (tgt := 21) hk dX11_copy_6 (by decide) (fun hc => ?_) (fun hc => ?_)
    · replace h := it_t (g := (lpk (lp (b_X11_copy_2 nx fx ny) nn))) h hc
      replace h : some (i2_1, fy_2) = some b9 := h
      replace h := Option.some.inj h
      subst h
      exact kk0 _ rfl
    · replace h := it_f (g := (lpk (lp (b_X11_copy_2 nx fx ny) nn))) h hc
      refine v_aload_n hk dX11_copy_9 rfl ?_
      refine v_iload_n hk dX11_copy_10 rfl ?_
      refine v_aload_n hk dX11_copy_11 rfl ?_
      refine v_iload_n hk dX11_copy_12 rfl ?_
      obtain ⟨hi, h⟩ := ok_e (g := (lpk (lp (b_X11_copy_2 nx fx ny) nn))) rfl h
      refine v_ialdV hk dX11_copy_13 0 rfl (ix_in hi) ?_
      obtain ⟨hi, h⟩ := ok_e (g := (lpk (lp (b_X11_copy_2 nx fx ny) nn))) rfl h
      obtain ⟨fy_3, efy_3, h⟩ := lt_e (g := (lpk (lp (b_X11_copy_2 nx fx ny) nn))) h
      refine v_iastV hk dX11_copy_14 1 rfl (ix_in hi) (ws' := [(adx, .inl (gI (kG K), nx, .inl fx)), (ady, .inl (gI (kG K), ny, .inl fy_3))]) (by rw [efy_3]; rfl) ?_
      obtain ⟨x2_4, ex2_4, h⟩ := lt_e (g := (lpk (lp (b_X11_copy_2 nx fx ny) nn))) h
      refine v_iinc (v := x2_4) hk dX11_copy_15 rfl (by rw [ex2_4]; rfl) (by decide) [1, 2, 0] (lv' := [(0, .ref adx), (1, .ref ady), (2, .int x2_4)]) rfl ?_
      refine v_goto (tgt := 2) hk dX11_copy_18 (by decide) ?_
      exact ih x2_4 fy_3 h
set_option maxHeartbeats 4000000 in
set_option maxRecDepth 100000 in
theorem c_X11_copy (l : Launch) (G : GG) (adx : Nat) (ady : Nat) (nx : Nat) (fx : Nat → Int32) (ny : Nat) (fy : Nat → Int32) (r : (Nat → Int32)) (h : m_X11_copy nx fx ny fy = some r) : Ctr l G yX11_copy w2_X11_copy rm_X11_copy [.ref adx, .ref ady] [(adx, .inl (gI G, nx, .inl fx)), (ady, .inl (gI G, ny, .inl fy))] (fun v w => v = none ∧ w = [(adx, .inl (gI G, nx, .inl fx)), (ady, .inl (gI G, ny, .inl r))]) := by
  refine ctr_entry (cc := cX11_copy) (maxL := 3) (ret := none) (lv0 := [(0, .ref adx), (1, .ref ady)]) (by decide) rfl (Nat.le_of_ble_eq_true rfl) (rfl) ?_
  intro K hl9 hG9 hk hn9 hrt
  subst hl9
  subst hG9
  have hR9 : RoomGe rm_X11_copy rm_X11_copy := RoomGe.rf
  replace h := id_e h
  rw [em_X11_copy] at h
  refine v_iconst (v := 0) hk dX11_copy_0 (by decide) ?_
  refine v_istore_n hk dX11_copy_1 rfl (by decide) [1, 2, 0] (lv' := [(0, .ref adx), (1, .ref ady), (2, .int 0)]) rfl ?_
  obtain ⟨b_6, eb_6, h⟩ := bd_e (g := id) rfl h
  refine L_X11_copy_2 hk hR9 adx ady nx fx ny b_6 (fun q_5 eq_5 => ?_) FU 0 fy eb_6
  · replace eq_5 := eq_5.symm
    subst eq_5
    replace h : some q_5.2 = some r := h
    replace h := Option.some.inj h
    subst h
    refine hrt (none) _ _ _ _ _ (⟨rfl, rfl⟩) (Nat.zero_le _) (Nat.zero_le _) (dX11_copy_21)
abbrev rm_X11_compareTo : Room := { frames := 0, cells := 0, slots := 0, locals := 0 }
set_option maxHeartbeats 4000000 in
set_option maxRecDepth 100000 in
theorem L_X11_compareTo_12 {K : Cx} {R9 : Room} (hk : Ok K cX11_compareTo 6 RX11 w2_X11_compareTo R9) (hR9 : RoomGe R9 rm_X11_compareTo) (adx : Nat) (ady : Nat) (nx : Nat) (fx : Nat → Int32) (ny : Nat) (fy : Nat → Int32) (b9 : (Int32 × Int32)) (kk0 : ∀ q9 : (Int32 × Int32), b9 = q9 → V K 6 [(adx, .inl (gI (kG K), nx, .inl fx)), (ady, .inl (gI (kG K), ny, .inl fy))] 0 0 69 [(0, .ref adx), (1, .ref ady), (2, .int q9.1), (3, .int q9.2)] []) : ∀ (nn : Nat) (i2_3 : Int32) (i3_4 : Int32), lp (b_X11_compareTo_12 nx fx ny fy) nn (i2_3, i3_4) = some b9 → V K 6 [(adx, .inl (gI (kG K), nx, .inl fx)), (ady, .inl (gI (kG K), ny, .inl fy))] 0 0 12 [(0, .ref adx), (1, .ref ady), (2, .int i2_3), (3, .int i3_4)] [] := by
  intro nn
  induction nn with
  | zero => intro i2_3 i3_4 h; exact absurd h (by simp [lp])
  | succ nn ih =>
    intro i2_3 i3_4 h
    replace h := lp_s h
    rw [eb_X11_compareTo_12] at h
    refine v_iload_n hk dX11_compareTo_12 rfl ?_
    refine v_if_le (tgt := 69) hk dX11_compareTo_13 (by decide) (fun hc => ?_) (fun hc => ?_)
    · replace h := it_t (g := (lpk (lp (b_X11_compareTo_12 nx fx ny fy) nn))) h hc
      replace h : some (i2_3, i3_4) = some b9 := h
      replace h := Option.some.inj h
      subst h
      exact kk0 _ rfl
    · replace h := it_f (g := (lpk (lp (b_X11_compareTo_12 nx fx ny fy) nn))) h hc
      refine v_iload_n hk dX11_compareTo_16 rfl ?_
      refine v_if_ne (tgt := 69) hk dX11_compareTo_17 (by decide) (fun hc => ?_) (fun hc => ?_)
      · replace h := it_f (g := (lpk (lp (b_X11_compareTo_12 nx fx ny fy) nn))) h hc
        replace h : some (i2_3, i3_4) = some b9 := h
        replace h := Option.some.inj h
        subst h
        exact kk0 _ rfl
      · replace h := it_t (g := (lpk (lp (b_X11_compareTo_12 nx fx ny fy) nn))) h hc
        refine v_aload_n hk dX11_compareTo_20 rfl ?_
        refine v_iload_n hk dX11_compareTo_21 rfl ?_
        obtain ⟨hi, h⟩ := ok_e (g := (lpk (lp (b_X11_compareTo_12 nx fx ny fy) nn))) rfl h
        refine v_ialdV hk dX11_compareTo_22 0 rfl (ix_in hi) ?_
        refine v_i2l hk dX11_compareTo_23 ?_
        refine v_ldc2 (v := 4294967295) hk dX11_compareTo_24 (by decide +kernel) ?_
        refine v_land hk dX11_compareTo_27 ?_
        refine v_aload_n hk dX11_compareTo_28 rfl ?_
        refine v_iload_n hk dX11_compareTo_29 rfl ?_
        obtain ⟨hi, h⟩ := ok_e (g := (lpk (lp (b_X11_compareTo_12 nx fx ny fy) nn))) rfl h
        refine v_ialdV hk dX11_compareTo_30 1 rfl (ix_in hi) ?_
        refine v_i2l hk dX11_compareTo_31 ?_
        refine v_ldc2 (v := 4294967295) hk dX11_compareTo_32 (by decide +kernel) ?_
        refine v_land hk dX11_compareTo_35 ?_
        refine v_lsub hk dX11_compareTo_36 ?_
        obtain ⟨x4_5, ex4_5, h⟩ := lt_e (g := (lpk (lp (b_X11_compareTo_12 nx fx ny fy) nn))) h
        refine v_topl ex4_5.symm ?_
        refine v_lstore hk dX11_compareTo_37 (by decide) [1, 2, 3, 4, 0] (lv' := [(0, .ref adx), (1, .ref ady), (2, .int i2_3), (3, .int i3_4), (4, .long x4_5)]) rfl ?_
        refine v_lload hk dX11_compareTo_39 rfl ?_
        refine v_lconst (v := 0) hk dX11_compareTo_41 (by decide) ?_
        refine v_lcmp hk dX11_compareTo_42 ?_
        obtain ⟨y_6, ey_6, h⟩ := bd_e (g := (lpk (lp (b_X11_compareTo_12 nx fx ny fy) nn))) rfl h
        have Jy_6 : V K 6 [(adx, .inl (gI (kG K), nx, .inl fx)), (ady, .inl (gI (kG K), ny, .inl fy))] 0 0 62 [(0, .ref adx), (1, .ref ady), (2, .int i2_3), (3, .int i3_4), (4, .long x4_5)] [.int y_6] := by
          refine v_istore_n hk dX11_compareTo_62 rfl (by decide) [1, 2, 0, 3, 4] (lv' := [(0, .ref adx), (1, .ref ady), (2, .int y_6), (3, .int i3_4), (4, .long x4_5)]) rfl ?_
          obtain ⟨x3_7, ex3_7, h⟩ := lt_e (g := (lpk (lp (b_X11_compareTo_12 nx fx ny fy) nn))) h
          refine v_iinc (v := x3_7) hk dX11_compareTo_63 rfl (by rw [ex3_7]; rfl) (by decide) [1, 2, 3, 0, 4] (lv' := [(0, .ref adx), (1, .ref ady), (2, .int y_6), (3, .int x3_7), (4, .long x4_5)]) rfl ?_
          refine v_goto (tgt := 12) hk dX11_compareTo_66 (by decide) ?_
          refine v_loc [0, 1, 2, 3] (lv' := [(0, .ref adx), (1, .ref ady), (2, .int y_6), (3, .int x3_7)]) rfl ?_
          exact ih y_6 x3_7 h
        clear h
        have h := id_e ey_6
        clear ey_6
        refine v_if_ge (tgt := 50) hk dX11_compareTo_43 (by decide) (fun hc => ?_) (fun hc => ?_)
        · replace h := it_t (g := id) h hc
          refine v_lload hk dX11_compareTo_50 rfl ?_
          refine v_lconst (v := 0) hk dX11_compareTo_52 (by decide) ?_
          refine v_lcmp hk dX11_compareTo_53 ?_
          obtain ⟨z_8, ez_8, h⟩ := lt_e (g := id) h
          have Jz_8 : V K 6 [(adx, .inl (gI (kG K), nx, .inl fx)), (ady, .inl (gI (kG K), ny, .inl fy))] 0 0 62 [(0, .ref adx), (1, .ref ady), (2, .int i2_3), (3, .int i3_4), (4, .long x4_5)] (.int z_8 :: []) := by
            replace h : some (z_8 : Int32) = some y_6 := h
            replace h := Option.some.inj h
            subst h
            exact Jy_6
          refine v_if_ne (tgt := 61) hk dX11_compareTo_54 (by decide) (fun hc => ?_) (fun hc => ?_)
          · rw [if_neg hc] at ez_8
            subst ez_8
            refine v_iconst (v := 1) hk dX11_compareTo_61 (by decide) ?_
            exact Jz_8
          · rw [if_pos hc] at ez_8
            subst ez_8
            refine v_iconst (v := 0) hk dX11_compareTo_57 (by decide) ?_
            refine v_goto (tgt := 62) hk dX11_compareTo_58 (by decide) ?_
            exact Jz_8
        · replace h := it_f (g := id) h hc
          refine v_iconst (v := (-1)) hk dX11_compareTo_46 (by decide) ?_
          refine v_goto (tgt := 62) hk dX11_compareTo_47 (by decide) ?_
          replace h : some ((-1) : Int32) = some y_6 := h
          replace h := Option.some.inj h
          subst h
          exact Jy_6
set_option maxHeartbeats 4000000 in
set_option maxRecDepth 100000 in
theorem c_X11_compareTo (l : Launch) (G : GG) (adx : Nat) (ady : Nat) (nx : Nat) (fx : Nat → Int32) (ny : Nat) (fy : Nat → Int32) (r : Int32) (h : m_X11_compareTo nx fx ny fy = some r) : Ctr l G yX11_compareTo w2_X11_compareTo rm_X11_compareTo [.ref adx, .ref ady] [(adx, .inl (gI G, nx, .inl fx)), (ady, .inl (gI G, ny, .inl fy))] (fun v w => v = some (.int r) ∧ w = [(adx, .inl (gI G, nx, .inl fx)), (ady, .inl (gI G, ny, .inl fy))]) := by
  refine ctr_entry (cc := cX11_compareTo) (maxL := 6) (ret := some .int) (lv0 := [(0, .ref adx), (1, .ref ady)]) (by decide) rfl (Nat.le_of_ble_eq_true rfl) (rfl) ?_
  intro K hl9 hG9 hk hn9 hrt
  subst hl9
  subst hG9
  have hR9 : RoomGe rm_X11_compareTo rm_X11_compareTo := RoomGe.rf
  replace h := id_e h
  rw [em_X11_compareTo] at h
  refine v_aload_n hk dX11_compareTo_0 rfl ?_
  refine v_iconst (v := 0) hk dX11_compareTo_1 (by decide) ?_
  obtain ⟨hi, h⟩ := ok_e (g := id) rfl h
  refine v_ialdV hk dX11_compareTo_2 0 rfl (ix_in hi) ?_
  refine v_aload_n hk dX11_compareTo_3 rfl ?_
  refine v_iconst (v := 0) hk dX11_compareTo_4 (by decide) ?_
  obtain ⟨hi, h⟩ := ok_e (g := id) rfl h
  refine v_ialdV hk dX11_compareTo_5 1 rfl (ix_in hi) ?_
  refine v_isub hk dX11_compareTo_6 ?_
  obtain ⟨x2_1, ex2_1, h⟩ := lt_e (g := id) h
  refine v_topi ex2_1.symm ?_
  refine v_istore_n hk dX11_compareTo_7 rfl (by decide) [1, 2, 0] (lv' := [(0, .ref adx), (1, .ref ady), (2, .int x2_1)]) rfl ?_
  refine v_aload_n hk dX11_compareTo_8 rfl ?_
  refine v_iconst (v := 0) hk dX11_compareTo_9 (by decide) ?_
  obtain ⟨hi, h⟩ := ok_e (g := id) rfl h
  refine v_ialdV hk dX11_compareTo_10 0 rfl (ix_in hi) ?_
  obtain ⟨x3_2, ex3_2, h⟩ := lt_e (g := id) h
  refine v_topi ex3_2.symm ?_
  refine v_istore_n hk dX11_compareTo_11 rfl (by decide) [1, 2, 3, 0] (lv' := [(0, .ref adx), (1, .ref ady), (2, .int x2_1), (3, .int x3_2)]) rfl ?_
  obtain ⟨b_10, eb_10, h⟩ := bd_e (g := id) rfl h
  refine L_X11_compareTo_12 hk hR9 adx ady nx fx ny fy b_10 (fun q_9 eq_9 => ?_) FU x2_1 x3_2 eb_10
  · replace eq_9 := eq_9.symm
    subst eq_9
    refine v_iload_n hk dX11_compareTo_69 rfl ?_
    replace h : some q_9.1 = some r := h
    replace h := Option.some.inj h
    subst h
    refine hrt (some (.int q_9.1)) _ _ _ _ _ (⟨rfl, rfl⟩) (Nat.zero_le _) (Nat.zero_le _) (dX11_compareTo_70)
abbrev rm_X11_trim : Room := { frames := 0, cells := 0, slots := 0, locals := 0 }
set_option maxHeartbeats 4000000 in
set_option maxRecDepth 100000 in
theorem L_X11_trim_2 {K : Cx} {R9 : Room} (hk : Ok K cX11_trim 3 RX11 w2_X11_trim R9) (hR9 : RoomGe R9 rm_X11_trim) (adx : Nat) (nx : Nat) (fx : Nat → Int32) (n : Int32) (b9 : Int32) (kk0 : ∀ q9 : Int32, b9 = q9 → V K 3 [(adx, .inl (gI (kG K), nx, .inl fx))] 0 0 18 [(0, .ref adx), (1, .int n), (2, .int q9)] []) : ∀ (nn : Nat) (i2_1 : Int32), lp (b_X11_trim_2 nx fx) nn i2_1 = some b9 → V K 3 [(adx, .inl (gI (kG K), nx, .inl fx))] 0 0 2 [(0, .ref adx), (1, .int n), (2, .int i2_1)] [] := by
  intro nn
  induction nn with
  | zero => intro i2_1 h; exact absurd h (by simp [lp])
  | succ nn ih =>
    intro i2_1 h
    replace h := lp_s h
    rw [eb_X11_trim_2] at h
    refine v_iload_n hk dX11_trim_2 rfl ?_
    refine v_if_le (tgt := 18) hk dX11_trim_3 (by decide) (fun hc => ?_) (fun hc => ?_)
    · replace h := it_t (g := (lpk (lp (b_X11_trim_2 nx fx) nn))) h hc
      replace h : some i2_1 = some b9 := h
      replace h := Option.some.inj h
      subst h
      exact kk0 _ rfl
    · replace h := it_f (g := (lpk (lp (b_X11_trim_2 nx fx) nn))) h hc
      refine v_aload_n hk dX11_trim_6 rfl ?_
      refine v_iload_n hk dX11_trim_7 rfl ?_
      obtain ⟨hi, h⟩ := ok_e (g := (lpk (lp (b_X11_trim_2 nx fx) nn))) rfl h
      refine v_ialdV hk dX11_trim_8 0 rfl (ix_in hi) ?_
      refine v_if_ne (tgt := 18) hk dX11_trim_9 (by decide) (fun hc => ?_) (fun hc => ?_)
      · replace h := it_f (g := (lpk (lp (b_X11_trim_2 nx fx) nn))) h hc
        replace h : some i2_1 = some b9 := h
        replace h := Option.some.inj h
        subst h
        exact kk0 _ rfl
      · replace h := it_t (g := (lpk (lp (b_X11_trim_2 nx fx) nn))) h hc
        obtain ⟨x2_2, ex2_2, h⟩ := lt_e (g := (lpk (lp (b_X11_trim_2 nx fx) nn))) h
        refine v_iinc (v := x2_2) hk dX11_trim_12 rfl (by rw [ex2_2]; rfl) (by decide) [1, 2, 0] (lv' := [(0, .ref adx), (1, .int n), (2, .int x2_2)]) rfl ?_
        refine v_goto (tgt := 2) hk dX11_trim_15 (by decide) ?_
        exact ih x2_2 h
set_option maxHeartbeats 4000000 in
set_option maxRecDepth 100000 in
theorem c_X11_trim (l : Launch) (G : GG) (adx : Nat) (nx : Nat) (fx : Nat → Int32) (n : Int32) (r : (Nat → Int32)) (h : m_X11_trim nx fx n = some r) : Ctr l G yX11_trim w2_X11_trim rm_X11_trim [.ref adx, .int n] [(adx, .inl (gI G, nx, .inl fx))] (fun v w => v = none ∧ w = [(adx, .inl (gI G, nx, .inl r))]) := by
  refine ctr_entry (cc := cX11_trim) (maxL := 3) (ret := none) (lv0 := [(0, .ref adx), (1, .int n)]) (by decide) rfl (Nat.le_of_ble_eq_true rfl) (rfl) ?_
  intro K hl9 hG9 hk hn9 hrt
  subst hl9
  subst hG9
  have hR9 : RoomGe rm_X11_trim rm_X11_trim := RoomGe.rf
  replace h := id_e h
  rw [em_X11_trim] at h
  refine v_iload_n hk dX11_trim_0 rfl ?_
  refine v_istore_n hk dX11_trim_1 rfl (by decide) [1, 2, 0] (lv' := [(0, .ref adx), (1, .int n), (2, .int n)]) rfl ?_
  obtain ⟨b_5, eb_5, h⟩ := bd_e (g := id) rfl h
  refine L_X11_trim_2 hk hR9 adx nx fx n b_5 (fun q_3 eq_3 => ?_) FU n eb_5
  · replace eq_3 := eq_3.symm
    subst eq_3
    refine v_aload_n hk dX11_trim_18 rfl ?_
    refine v_iconst (v := 0) hk dX11_trim_19 (by decide) ?_
    refine v_iload_n hk dX11_trim_20 rfl ?_
    obtain ⟨hi, h⟩ := ok_e (g := id) rfl h
    obtain ⟨fx_4, efx_4, h⟩ := lt_e (g := id) h
    refine v_iastV hk dX11_trim_21 0 rfl (ix_in hi) (ws' := [(adx, .inl (gI (kG K), nx, .inl fx_4))]) (by rw [efx_4]; rfl) ?_
    replace h : some fx_4 = some r := h
    replace h := Option.some.inj h
    subst h
    refine hrt (none) _ _ _ _ _ (⟨rfl, rfl⟩) (Nat.zero_le _) (Nat.zero_le _) (dX11_trim_22)
abbrev rm_X11_times : Room := { frames := 1, cells := 0, slots := 0, locals := 22 }
set_option maxHeartbeats 4000000 in
set_option maxRecDepth 100000 in
theorem L_X11_times_11 {K : Cx} {R9 : Room} (hk : Ok K cX11_times 10 RX11 w2_X11_times R9) (hR9 : RoomGe R9 rm_X11_times) (adx : Nat) (ady : Nat) (adt : Nat) (nx : Nat) (fx : Nat → Int32) (ny : Nat) (fy : Nat → Int32) (nt : Nat) (x3_1 : Int32) (b9 : (Int32 × (Nat → Int32))) (kk0 : ∀ q9 : (Int32 × (Nat → Int32)), b9 = q9 → V K 10 [(adx, .inl (gI (kG K), nx, .inl fx)), (ady, .inl (gI (kG K), ny, .inl fy)), (adt, .inl (gI (kG K), nt, .inl q9.2))] 0 0 28 [(0, .ref adx), (1, .ref ady), (2, .ref adt), (3, .int x3_1), (4, .int q9.1)] []) : ∀ (nn : Nat) (i4_2 : Int32) (ft_3 : Nat → Int32), lp (b_X11_times_11 nt x3_1) nn (i4_2, ft_3) = some b9 → V K 10 [(adx, .inl (gI (kG K), nx, .inl fx)), (ady, .inl (gI (kG K), ny, .inl fy)), (adt, .inl (gI (kG K), nt, .inl ft_3))] 0 0 11 [(0, .ref adx), (1, .ref ady), (2, .ref adt), (3, .int x3_1), (4, .int i4_2)] [] := by
  intro nn
  induction nn with
  | zero => intro i4_2 ft_3 h; exact absurd h (by simp [lp])
  | succ nn ih =>
    intro i4_2 ft_3 h
    replace h := lp_s h
    rw [eb_X11_times_11] at h
    refine v_iload hk dX11_times_11 rfl ?_
    refine v_iload_n hk dX11_times_13 rfl ?_
    refine v_icmp_gt (tgt := 28) hk dX11_times_14 (by decide) (fun hc => ?_) (fun hc => ?_)
    · replace h := it_t (g := (lpk (lp (b_X11_times_11 nt x3_1) nn))) h hc
      replace h : some (i4_2, ft_3) = some b9 := h
      replace h := Option.some.inj h
      subst h
      exact kk0 _ rfl
    · replace h := it_f (g := (lpk (lp (b_X11_times_11 nt x3_1) nn))) h hc
      refine v_aload_n hk dX11_times_17 rfl ?_
      refine v_iload hk dX11_times_18 rfl ?_
      refine v_iconst (v := 0) hk dX11_times_20 (by decide) ?_
      obtain ⟨hi, h⟩ := ok_e (g := (lpk (lp (b_X11_times_11 nt x3_1) nn))) rfl h
      obtain ⟨ft_4, eft_4, h⟩ := lt_e (g := (lpk (lp (b_X11_times_11 nt x3_1) nn))) h
      refine v_iastV hk dX11_times_21 2 rfl (ix_in hi) (ws' := [(adx, .inl (gI (kG K), nx, .inl fx)), (ady, .inl (gI (kG K), ny, .inl fy)), (adt, .inl (gI (kG K), nt, .inl ft_4))]) (by rw [eft_4]; rfl) ?_
      obtain ⟨x4_5, ex4_5, h⟩ := lt_e (g := (lpk (lp (b_X11_times_11 nt x3_1) nn))) h
      refine v_iinc (v := x4_5) hk dX11_times_22 rfl (by rw [ex4_5]; rfl) (by decide) [1, 2, 3, 4, 0] (lv' := [(0, .ref adx), (1, .ref ady), (2, .ref adt), (3, .int x3_1), (4, .int x4_5)]) rfl ?_
      refine v_goto (tgt := 11) hk dX11_times_25 (by decide) ?_
      exact ih x4_5 ft_4 h
set_option maxHeartbeats 4000000 in
set_option maxRecDepth 100000 in
theorem L_X11_times_45 {K : Cx} {R9 : Room} (hk : Ok K cX11_times 10 RX11 w2_X11_times R9) (hR9 : RoomGe R9 rm_X11_times) (adx : Nat) (ady : Nat) (adt : Nat) (nx : Nat) (fx : Nat → Int32) (ny : Nat) (fy : Nat → Int32) (nt : Nat) (x3_1 : Int32) (i4_7 : Int32) (b9 : (Int64 × Int32 × (Nat → Int32))) (kk0 : ∀ q9 : (Int64 × Int32 × (Nat → Int32)), b9 = q9 → V K 10 [(adx, .inl (gI (kG K), nx, .inl fx)), (ady, .inl (gI (kG K), ny, .inl fy)), (adt, .inl (gI (kG K), nt, .inl q9.2.2))] 0 0 117 [(0, .ref adx), (1, .ref ady), (2, .ref adt), (3, .int x3_1), (4, .int i4_7), (5, .long q9.1), (7, .int q9.2.1)] []) : ∀ (nn : Nat) (i5_9 : Int64) (i7_10 : Int32) (ft_11 : Nat → Int32), lp (b_X11_times_45 nx fx ny fy nt i4_7) nn (i5_9, i7_10, ft_11) = some b9 → V K 10 [(adx, .inl (gI (kG K), nx, .inl fx)), (ady, .inl (gI (kG K), ny, .inl fy)), (adt, .inl (gI (kG K), nt, .inl ft_11))] 0 0 45 [(0, .ref adx), (1, .ref ady), (2, .ref adt), (3, .int x3_1), (4, .int i4_7), (5, .long i5_9), (7, .int i7_10)] [] := by
  intro nn
  induction nn with
  | zero => intro i5_9 i7_10 ft_11 h; exact absurd h (by simp [lp])
  | succ nn ih =>
    intro i5_9 i7_10 ft_11 h
    replace h := lp_s h
    rw [eb_X11_times_45] at h
    refine v_iload hk dX11_times_45 rfl ?_
    refine v_aload_n hk dX11_times_47 rfl ?_
    refine v_iconst (v := 0) hk dX11_times_48 (by decide) ?_
    obtain ⟨hi, h⟩ := ok_e (g := (lpk (lp (b_X11_times_45 nx fx ny fy nt i4_7) nn))) rfl h
    refine v_ialdV hk dX11_times_49 1 rfl (ix_in hi) ?_
    refine v_icmp_gt (tgt := 117) hk dX11_times_50 (by decide) (fun hc => ?_) (fun hc => ?_)
    · replace h := it_t (g := (lpk (lp (b_X11_times_45 nx fx ny fy nt i4_7) nn))) h hc
      replace h : some (i5_9, i7_10, ft_11) = some b9 := h
      replace h := Option.some.inj h
      subst h
      exact kk0 _ rfl
    · replace h := it_f (g := (lpk (lp (b_X11_times_45 nx fx ny fy nt i4_7) nn))) h hc
      refine v_aload_n hk dX11_times_53 rfl ?_
      refine v_iload hk dX11_times_54 rfl ?_
      obtain ⟨hi, h⟩ := ok_e (g := (lpk (lp (b_X11_times_45 nx fx ny fy nt i4_7) nn))) rfl h
      refine v_ialdV hk dX11_times_56 0 rfl (ix_in hi) ?_
      refine v_i2l hk dX11_times_57 ?_
      refine v_ldc2 (v := 4294967295) hk dX11_times_58 (by decide +kernel) ?_
      refine v_land hk dX11_times_61 ?_
      refine v_aload_n hk dX11_times_62 rfl ?_
      refine v_iload hk dX11_times_63 rfl ?_
      obtain ⟨hi, h⟩ := ok_e (g := (lpk (lp (b_X11_times_45 nx fx ny fy nt i4_7) nn))) rfl h
      refine v_ialdV hk dX11_times_65 1 rfl (ix_in hi) ?_
      refine v_i2l hk dX11_times_66 ?_
      refine v_ldc2 (v := 4294967295) hk dX11_times_67 (by decide +kernel) ?_
      refine v_land hk dX11_times_70 ?_
      refine v_lmul hk dX11_times_71 ?_
      refine v_aload_n hk dX11_times_72 rfl ?_
      refine v_iload hk dX11_times_73 rfl ?_
      refine v_iload hk dX11_times_75 rfl ?_
      refine v_iadd hk dX11_times_77 ?_
      refine v_iconst (v := 1) hk dX11_times_78 (by decide) ?_
      refine v_isub hk dX11_times_79 ?_
      obtain ⟨hi, h⟩ := ok_e (g := (lpk (lp (b_X11_times_45 nx fx ny fy nt i4_7) nn))) rfl h
      refine v_ialdV hk dX11_times_80 2 rfl (ix_in hi) ?_
      refine v_i2l hk dX11_times_81 ?_
      refine v_ldc2 (v := 4294967295) hk dX11_times_82 (by decide +kernel) ?_
      refine v_land hk dX11_times_85 ?_
      refine v_ladd hk dX11_times_86 ?_
      refine v_lload hk dX11_times_87 rfl ?_
      refine v_ladd hk dX11_times_89 ?_
      obtain ⟨x8_12, ex8_12, h⟩ := lt_e (g := (lpk (lp (b_X11_times_45 nx fx ny fy nt i4_7) nn))) h
      refine v_topl ex8_12.symm ?_
      refine v_lstore hk dX11_times_90 (by decide) [1, 2, 3, 4, 5, 6, 7, 0] (lv' := [(0, .ref adx), (1, .ref ady), (2, .ref adt), (3, .int x3_1), (4, .int i4_7), (5, .long i5_9), (7, .int i7_10), (8, .long x8_12)]) rfl ?_
      refine v_aload_n hk dX11_times_92 rfl ?_
      refine v_iload hk dX11_times_93 rfl ?_
      refine v_iload hk dX11_times_95 rfl ?_
      refine v_iadd hk dX11_times_97 ?_
      refine v_iconst (v := 1) hk dX11_times_98 (by decide) ?_
      refine v_isub hk dX11_times_99 ?_
      refine v_lload hk dX11_times_100 rfl ?_
      refine v_l2i hk dX11_times_102 ?_
      obtain ⟨hi, h⟩ := ok_e (g := (lpk (lp (b_X11_times_45 nx fx ny fy nt i4_7) nn))) rfl h
      obtain ⟨ft_13, eft_13, h⟩ := lt_e (g := (lpk (lp (b_X11_times_45 nx fx ny fy nt i4_7) nn))) h
      refine v_iastV hk dX11_times_103 2 rfl (ix_in hi) (ws' := [(adx, .inl (gI (kG K), nx, .inl fx)), (ady, .inl (gI (kG K), ny, .inl fy)), (adt, .inl (gI (kG K), nt, .inl ft_13))]) (by rw [eft_13]; rfl) ?_
      refine v_lload hk dX11_times_104 rfl ?_
      refine v_bipush (v := 32) hk dX11_times_106 (by decide) ?_
      refine v_lushr hk dX11_times_108 ?_
      obtain ⟨x5_14, ex5_14, h⟩ := lt_e (g := (lpk (lp (b_X11_times_45 nx fx ny fy nt i4_7) nn))) h
      refine v_topl ex5_14.symm ?_
      refine v_lstore hk dX11_times_109 (by decide) [1, 2, 3, 4, 5, 0, 6, 7] (lv' := [(0, .ref adx), (1, .ref ady), (2, .ref adt), (3, .int x3_1), (4, .int i4_7), (5, .long x5_14), (7, .int i7_10), (8, .long x8_12)]) rfl ?_
      obtain ⟨x7_15, ex7_15, h⟩ := lt_e (g := (lpk (lp (b_X11_times_45 nx fx ny fy nt i4_7) nn))) h
      refine v_iinc (v := x7_15) hk dX11_times_111 rfl (by rw [ex7_15]; rfl) (by decide) [1, 2, 3, 4, 5, 6, 0, 7] (lv' := [(0, .ref adx), (1, .ref ady), (2, .ref adt), (3, .int x3_1), (4, .int i4_7), (5, .long x5_14), (7, .int x7_15), (8, .long x8_12)]) rfl ?_
      refine v_goto (tgt := 45) hk dX11_times_114 (by decide) ?_
      refine v_loc [0, 1, 2, 3, 4, 5, 6] (lv' := [(0, .ref adx), (1, .ref ady), (2, .ref adt), (3, .int x3_1), (4, .int i4_7), (5, .long x5_14), (7, .int x7_15)]) rfl ?_
      exact ih x5_14 x7_15 ft_13 h
set_option maxHeartbeats 4000000 in
set_option maxRecDepth 100000 in
theorem L_X11_times_31 {K : Cx} {R9 : Room} (hk : Ok K cX11_times 10 RX11 w2_X11_times R9) (hR9 : RoomGe R9 rm_X11_times) (adx : Nat) (ady : Nat) (adt : Nat) (nx : Nat) (fx : Nat → Int32) (ny : Nat) (fy : Nat → Int32) (nt : Nat) (x3_1 : Int32) (b9 : (Int32 × (Nat → Int32))) (kk0 : ∀ q9 : (Int32 × (Nat → Int32)), b9 = q9 → V K 10 [(adx, .inl (gI (kG K), nx, .inl fx)), (ady, .inl (gI (kG K), ny, .inl fy)), (adt, .inl (gI (kG K), nt, .inl q9.2))] 0 0 134 [(0, .ref adx), (1, .ref ady), (2, .ref adt), (3, .int x3_1), (4, .int q9.1)] []) : ∀ (nn : Nat) (i4_7 : Int32) (ft_8 : Nat → Int32), lp (b_X11_times_31 nx fx ny fy nt) nn (i4_7, ft_8) = some b9 → V K 10 [(adx, .inl (gI (kG K), nx, .inl fx)), (ady, .inl (gI (kG K), ny, .inl fy)), (adt, .inl (gI (kG K), nt, .inl ft_8))] 0 0 31 [(0, .ref adx), (1, .ref ady), (2, .ref adt), (3, .int x3_1), (4, .int i4_7)] [] := by
  intro nn
  induction nn with
  | zero => intro i4_7 ft_8 h; exact absurd h (by simp [lp])
  | succ nn ih =>
    intro i4_7 ft_8 h
    replace h := lp_s h
    rw [eb_X11_times_31] at h
    refine v_iload hk dX11_times_31 rfl ?_
    refine v_aload_n hk dX11_times_33 rfl ?_
    refine v_iconst (v := 0) hk dX11_times_34 (by decide) ?_
    obtain ⟨hi, h⟩ := ok_e (g := (lpk (lp (b_X11_times_31 nx fx ny fy nt) nn))) rfl h
    refine v_ialdV hk dX11_times_35 0 rfl (ix_in hi) ?_
    refine v_icmp_gt (tgt := 134) hk dX11_times_36 (by decide) (fun hc => ?_) (fun hc => ?_)
    · replace h := it_t (g := (lpk (lp (b_X11_times_31 nx fx ny fy nt) nn))) h hc
      replace h : some (i4_7, ft_8) = some b9 := h
      replace h := Option.some.inj h
      subst h
      exact kk0 _ rfl
    · replace h := it_f (g := (lpk (lp (b_X11_times_31 nx fx ny fy nt) nn))) h hc
      refine v_lconst (v := 0) hk dX11_times_39 (by decide) ?_
      refine v_lstore hk dX11_times_40 (by decide) [1, 2, 3, 4, 5, 0] (lv' := [(0, .ref adx), (1, .ref ady), (2, .ref adt), (3, .int x3_1), (4, .int i4_7), (5, .long 0)]) rfl ?_
      refine v_iconst (v := 1) hk dX11_times_42 (by decide) ?_
      refine v_istore hk dX11_times_43 (by decide) [1, 2, 3, 4, 5, 6, 0] (lv' := [(0, .ref adx), (1, .ref ady), (2, .ref adt), (3, .int x3_1), (4, .int i4_7), (5, .long 0), (7, .int 1)]) rfl ?_
      obtain ⟨b_19, eb_19, h⟩ := bd_e (g := (lpk (lp (b_X11_times_31 nx fx ny fy nt) nn))) rfl h
      refine L_X11_times_45 hk hR9 adx ady adt nx fx ny fy nt x3_1 i4_7 b_19 (fun q_16 eq_16 => ?_) FU 0 1 ft_8 eb_19
      · replace eq_16 := eq_16.symm
        subst eq_16
        refine v_aload_n hk dX11_times_117 rfl ?_
        refine v_iload hk dX11_times_118 rfl ?_
        refine v_aload_n hk dX11_times_120 rfl ?_
        refine v_iconst (v := 0) hk dX11_times_121 (by decide) ?_
        obtain ⟨hi, h⟩ := ok_e (g := (lpk (lp (b_X11_times_31 nx fx ny fy nt) nn))) rfl h
        refine v_ialdV hk dX11_times_122 1 rfl (ix_in hi) ?_
        refine v_iadd hk dX11_times_123 ?_
        refine v_lload hk dX11_times_124 rfl ?_
        refine v_l2i hk dX11_times_126 ?_
        obtain ⟨hi, h⟩ := ok_e (g := (lpk (lp (b_X11_times_31 nx fx ny fy nt) nn))) rfl h
        obtain ⟨ft_17, eft_17, h⟩ := lt_e (g := (lpk (lp (b_X11_times_31 nx fx ny fy nt) nn))) h
        refine v_iastV hk dX11_times_127 2 rfl (ix_in hi) (ws' := [(adx, .inl (gI (kG K), nx, .inl fx)), (ady, .inl (gI (kG K), ny, .inl fy)), (adt, .inl (gI (kG K), nt, .inl ft_17))]) (by rw [eft_17]; rfl) ?_
        obtain ⟨x4_18, ex4_18, h⟩ := lt_e (g := (lpk (lp (b_X11_times_31 nx fx ny fy nt) nn))) h
        refine v_iinc (v := x4_18) hk dX11_times_128 rfl (by rw [ex4_18]; rfl) (by decide) [1, 2, 3, 4, 0, 5, 6] (lv' := [(0, .ref adx), (1, .ref ady), (2, .ref adt), (3, .int x3_1), (4, .int x4_18), (5, .long q_16.1), (7, .int q_16.2.1)]) rfl ?_
        refine v_goto (tgt := 31) hk dX11_times_131 (by decide) ?_
        refine v_loc [0, 1, 2, 3, 4] (lv' := [(0, .ref adx), (1, .ref ady), (2, .ref adt), (3, .int x3_1), (4, .int x4_18)]) rfl ?_
        exact ih x4_18 ft_17 h
set_option maxHeartbeats 4000000 in
set_option maxRecDepth 100000 in
theorem c_X11_times (l : Launch) (G : GG) (adx : Nat) (ady : Nat) (adt : Nat) (nx : Nat) (fx : Nat → Int32) (ny : Nat) (fy : Nat → Int32) (nt : Nat) (ft : Nat → Int32) (r : (Nat → Int32)) (h : m_X11_times nx fx ny fy nt ft = some r) : Ctr l G yX11_times w2_X11_times rm_X11_times [.ref adx, .ref ady, .ref adt] [(adx, .inl (gI G, nx, .inl fx)), (ady, .inl (gI G, ny, .inl fy)), (adt, .inl (gI G, nt, .inl ft))] (fun v w => v = none ∧ w = [(adx, .inl (gI G, nx, .inl fx)), (ady, .inl (gI G, ny, .inl fy)), (adt, .inl (gI G, nt, .inl r))]) := by
  refine ctr_entry (cc := cX11_times) (maxL := 10) (ret := none) (lv0 := [(0, .ref adx), (1, .ref ady), (2, .ref adt)]) (by decide) rfl (Nat.le_of_ble_eq_true rfl) (rfl) ?_
  intro K hl9 hG9 hk hn9 hrt
  subst hl9
  subst hG9
  have hR9 : RoomGe rm_X11_times rm_X11_times := RoomGe.rf
  replace h := id_e h
  rw [em_X11_times] at h
  refine v_aload_n hk dX11_times_0 rfl ?_
  refine v_iconst (v := 0) hk dX11_times_1 (by decide) ?_
  obtain ⟨hi, h⟩ := ok_e (g := id) rfl h
  refine v_ialdV hk dX11_times_2 0 rfl (ix_in hi) ?_
  refine v_aload_n hk dX11_times_3 rfl ?_
  refine v_iconst (v := 0) hk dX11_times_4 (by decide) ?_
  obtain ⟨hi, h⟩ := ok_e (g := id) rfl h
  refine v_ialdV hk dX11_times_5 1 rfl (ix_in hi) ?_
  refine v_iadd hk dX11_times_6 ?_
  obtain ⟨x3_1, ex3_1, h⟩ := lt_e (g := id) h
  refine v_topi ex3_1.symm ?_
  refine v_istore_n hk dX11_times_7 rfl (by decide) [1, 2, 3, 0] (lv' := [(0, .ref adx), (1, .ref ady), (2, .ref adt), (3, .int x3_1)]) rfl ?_
  refine v_iconst (v := 1) hk dX11_times_8 (by decide) ?_
  refine v_istore hk dX11_times_9 (by decide) [1, 2, 3, 4, 0] (lv' := [(0, .ref adx), (1, .ref ady), (2, .ref adt), (3, .int x3_1), (4, .int 1)]) rfl ?_
  obtain ⟨b_23, eb_23, h⟩ := bd_e (g := id) rfl h
  refine L_X11_times_11 hk hR9 adx ady adt nx fx ny fy nt x3_1 b_23 (fun q_6 eq_6 => ?_) FU 1 ft eb_23
  · replace eq_6 := eq_6.symm
    subst eq_6
    refine v_iconst (v := 1) hk dX11_times_28 (by decide) ?_
    refine v_istore hk dX11_times_29 (by decide) [1, 2, 3, 4, 0] (lv' := [(0, .ref adx), (1, .ref ady), (2, .ref adt), (3, .int x3_1), (4, .int 1)]) rfl ?_
    obtain ⟨b_22, eb_22, h⟩ := bd_e (g := id) rfl h
    refine L_X11_times_31 hk hR9 adx ady adt nx fx ny fy nt x3_1 b_22 (fun q_20 eq_20 => ?_) FU 1 q_6.2 eb_22
    · replace eq_20 := eq_20.symm
      subst eq_20
      refine v_aload_n hk dX11_times_134 rfl ?_
      refine v_iload_n hk dX11_times_135 rfl ?_
      obtain ⟨r_21, er_21, h⟩ := bd_e (g := id) rfl h
      refine v_callS (n := 2) (st := []) hk dX11_times_136 (c_X11_trim (kl K) (kG K) adt nt q_20.2 x3_1 r_21 er_21) gd_X11_times_X11_trim rfl (by decide +kernel) (frok hR9 (Nat.le_of_ble_eq_true rfl) (Nat.le_of_ble_eq_true rfl)) (roomk hR9 (Nat.le_of_ble_eq_true rfl) (Nat.le_of_ble_eq_true rfl)) rfl rfl (Nat.le_of_ble_eq_true rfl) [2] [0, 1] (wr := [(adx, .inl (gI (kG K), nx, .inl fx)), (ady, .inl (gI (kG K), ny, .inl fy))]) rfl rfl (by decide) (by decide) (by decide) ?_
      intro v9 w9 hp9
      obtain ⟨rfl, rfl⟩ := hp9
      show V K 10 [(adx, .inl (gI (kG K), nx, .inl fx)), (ady, .inl (gI (kG K), ny, .inl fy)), (adt, .inl (gI (kG K), nt, .inl r_21))] 0 0 139 [(0, .ref adx), (1, .ref ady), (2, .ref adt), (3, .int x3_1), (4, .int q_20.1)] []
      replace h : some r_21 = some r := h
      replace h := Option.some.inj h
      subst h
      refine hrt (none) _ _ _ _ _ (⟨rfl, rfl⟩) (Nat.zero_le _) (Nat.zero_le _) (dX11_times_139)
abbrev rm_X11_plus : Room := { frames := 1, cells := 0, slots := 0, locals := 22 }
set_option maxHeartbeats 4000000 in
set_option maxRecDepth 100000 in
theorem L_X11_plus_24 {K : Cx} {R9 : Room} (hk : Ok K cX11_plus 6 RX11 w2_X11_plus R9) (hR9 : RoomGe R9 rm_X11_plus) (adx : Nat) (ady : Nat) (nx : Nat) (ny : Nat) (fy : Nat → Int32) (y_1 : Int32) (b9 : (Int64 × Int32 × (Nat → Int32))) (kk0 : ∀ q9 : (Int64 × Int32 × (Nat → Int32)), b9 = q9 → V K 6 [(adx, .inl (gI (kG K), nx, .inl q9.2.2)), (ady, .inl (gI (kG K), ny, .inl fy))] 0 0 93 [(0, .ref adx), (1, .ref ady), (2, .int y_1), (3, .long q9.1), (5, .int q9.2.1)] []) : ∀ (nn : Nat) (i3_2 : Int64) (i5_3 : Int32) (fx_4 : Nat → Int32), lp (b_X11_plus_24 nx ny fy y_1) nn (i3_2, i5_3, fx_4) = some b9 → V K 6 [(adx, .inl (gI (kG K), nx, .inl fx_4)), (ady, .inl (gI (kG K), ny, .inl fy))] 0 0 24 [(0, .ref adx), (1, .ref ady), (2, .int y_1), (3, .long i3_2), (5, .int i5_3)] [] := by
  intro nn
  induction nn with
  | zero => intro i3_2 i5_3 fx_4 h; exact absurd h (by simp [lp])
  | succ nn ih =>
    intro i3_2 i5_3 fx_4 h
    replace h := lp_s h
    rw [eb_X11_plus_24] at h
    refine v_iload hk dX11_plus_24 rfl ?_
    refine v_iload_n hk dX11_plus_26 rfl ?_
    refine v_icmp_gt (tgt := 93) hk dX11_plus_27 (by decide) (fun hc => ?_) (fun hc => ?_)
    · replace h := it_t (g := (lpk (lp (b_X11_plus_24 nx ny fy y_1) nn))) h hc
      replace h : some (i3_2, i5_3, fx_4) = some b9 := h
      replace h := Option.some.inj h
      subst h
      exact kk0 _ rfl
    · replace h := it_f (g := (lpk (lp (b_X11_plus_24 nx ny fy y_1) nn))) h hc
      refine v_lload_n hk dX11_plus_30 rfl ?_
      refine v_iload hk dX11_plus_31 rfl ?_
      refine v_aload_n hk dX11_plus_33 rfl ?_
      refine v_iconst (v := 0) hk dX11_plus_34 (by decide) ?_
      obtain ⟨hi, h⟩ := ok_e (g := (lpk (lp (b_X11_plus_24 nx ny fy y_1) nn))) rfl h
      refine v_ialdV hk dX11_plus_35 0 rfl (ix_in hi) ?_
      obtain ⟨y_6, ey_6, h⟩ := bd_e (g := (lpk (lp (b_X11_plus_24 nx ny fy y_1) nn))) rfl h
      have Jy_6 : V K 6 [(adx, .inl (gI (kG K), nx, .inl fx_4)), (ady, .inl (gI (kG K), ny, .inl fy))] 0 0 52 [(0, .ref adx), (1, .ref ady), (2, .int y_1), (3, .long i3_2), (5, .int i5_3)] [.long y_6, .long i3_2] := by
        refine v_iload hk dX11_plus_52 rfl ?_
        refine v_aload_n hk dX11_plus_54 rfl ?_
        refine v_iconst (v := 0) hk dX11_plus_55 (by decide) ?_
        obtain ⟨hi, h⟩ := ok_e (g := (lpk (lp (b_X11_plus_24 nx ny fy y_1) nn))) rfl h
        refine v_ialdV hk dX11_plus_56 1 rfl (ix_in hi) ?_
        obtain ⟨y_7, ey_7, h⟩ := bd_e (g := (lpk (lp (b_X11_plus_24 nx ny fy y_1) nn))) rfl h
        have Jy_7 : V K 6 [(adx, .inl (gI (kG K), nx, .inl fx_4)), (ady, .inl (gI (kG K), ny, .inl fy))] 0 0 73 [(0, .ref adx), (1, .ref ady), (2, .int y_1), (3, .long i3_2), (5, .int i5_3)] [.long y_7, .long y_6, .long i3_2] := by
          refine v_ladd hk dX11_plus_73 ?_
          refine v_ladd hk dX11_plus_74 ?_
          obtain ⟨x3_8, ex3_8, h⟩ := lt_e (g := (lpk (lp (b_X11_plus_24 nx ny fy y_1) nn))) h
          refine v_topl ex3_8.symm ?_
          refine v_lstore_n hk dX11_plus_75 rfl (by decide) [1, 2, 3, 0, 4] (lv' := [(0, .ref adx), (1, .ref ady), (2, .int y_1), (3, .long x3_8), (5, .int i5_3)]) rfl ?_
          refine v_aload_n hk dX11_plus_76 rfl ?_
          refine v_iload hk dX11_plus_77 rfl ?_
          refine v_lload_n hk dX11_plus_79 rfl ?_
          refine v_l2i hk dX11_plus_80 ?_
          obtain ⟨hi, h⟩ := ok_e (g := (lpk (lp (b_X11_plus_24 nx ny fy y_1) nn))) rfl h
          obtain ⟨fx_9, efx_9, h⟩ := lt_e (g := (lpk (lp (b_X11_plus_24 nx ny fy y_1) nn))) h
          refine v_iastV hk dX11_plus_81 0 rfl (ix_in hi) (ws' := [(adx, .inl (gI (kG K), nx, .inl fx_9)), (ady, .inl (gI (kG K), ny, .inl fy))]) (by rw [efx_9]; rfl) ?_
          refine v_lload_n hk dX11_plus_82 rfl ?_
          refine v_bipush (v := 32) hk dX11_plus_83 (by decide) ?_
          refine v_lushr hk dX11_plus_85 ?_
          obtain ⟨x3_10, ex3_10, h⟩ := lt_e (g := (lpk (lp (b_X11_plus_24 nx ny fy y_1) nn))) h
          refine v_topl ex3_10.symm ?_
          refine v_lstore_n hk dX11_plus_86 rfl (by decide) [1, 2, 3, 0, 4] (lv' := [(0, .ref adx), (1, .ref ady), (2, .int y_1), (3, .long x3_10), (5, .int i5_3)]) rfl ?_
          obtain ⟨x5_11, ex5_11, h⟩ := lt_e (g := (lpk (lp (b_X11_plus_24 nx ny fy y_1) nn))) h
          refine v_iinc (v := x5_11) hk dX11_plus_87 rfl (by rw [ex5_11]; rfl) (by decide) [1, 2, 3, 4, 0] (lv' := [(0, .ref adx), (1, .ref ady), (2, .int y_1), (3, .long x3_10), (5, .int x5_11)]) rfl ?_
          refine v_goto (tgt := 24) hk dX11_plus_90 (by decide) ?_
          exact ih x3_10 x5_11 fx_9 h
        clear h
        have h := id_e ey_7
        clear ey_7
        refine v_icmp_gt (tgt := 72) hk dX11_plus_57 (by decide) (fun hc => ?_) (fun hc => ?_)
        · replace h := it_t (g := id) h hc
          refine v_lconst (v := 0) hk dX11_plus_72 (by decide) ?_
          replace h : some (0 : Int64) = some y_7 := h
          replace h := Option.some.inj h
          subst h
          exact Jy_7
        · replace h := it_f (g := id) h hc
          refine v_aload_n hk dX11_plus_60 rfl ?_
          refine v_iload hk dX11_plus_61 rfl ?_
          obtain ⟨hi, h⟩ := ok_e (g := id) rfl h
          refine v_ialdV hk dX11_plus_63 1 rfl (ix_in hi) ?_
          refine v_i2l hk dX11_plus_64 ?_
          refine v_ldc2 (v := 4294967295) hk dX11_plus_65 (by decide +kernel) ?_
          refine v_land hk dX11_plus_68 ?_
          refine v_goto (tgt := 73) hk dX11_plus_69 (by decide) ?_
          replace h : some (((fy i5_3.toNatClampNeg).toInt64) &&& 4294967295 : Int64) = some y_7 := h
          replace h := Option.some.inj h
          subst h
          exact Jy_7
      clear h
      have h := id_e ey_6
      clear ey_6
      refine v_icmp_gt (tgt := 51) hk dX11_plus_36 (by decide) (fun hc => ?_) (fun hc => ?_)
      · replace h := it_t (g := id) h hc
        refine v_lconst (v := 0) hk dX11_plus_51 (by decide) ?_
        replace h : some (0 : Int64) = some y_6 := h
        replace h := Option.some.inj h
        subst h
        exact Jy_6
      · replace h := it_f (g := id) h hc
        refine v_aload_n hk dX11_plus_39 rfl ?_
        refine v_iload hk dX11_plus_40 rfl ?_
        obtain ⟨hi, h⟩ := ok_e (g := id) rfl h
        refine v_ialdV hk dX11_plus_42 0 rfl (ix_in hi) ?_
        refine v_i2l hk dX11_plus_43 ?_
        refine v_ldc2 (v := 4294967295) hk dX11_plus_44 (by decide +kernel) ?_
        refine v_land hk dX11_plus_47 ?_
        refine v_goto (tgt := 52) hk dX11_plus_48 (by decide) ?_
        replace h : some (((fx_4 i5_3.toNatClampNeg).toInt64) &&& 4294967295 : Int64) = some y_6 := h
        replace h := Option.some.inj h
        subst h
        exact Jy_6
set_option maxHeartbeats 4000000 in
set_option maxRecDepth 100000 in
theorem c_X11_plus (l : Launch) (G : GG) (adx : Nat) (ady : Nat) (nx : Nat) (fx : Nat → Int32) (ny : Nat) (fy : Nat → Int32) (r : (Nat → Int32)) (h : m_X11_plus nx fx ny fy = some r) : Ctr l G yX11_plus w2_X11_plus rm_X11_plus [.ref adx, .ref ady] [(adx, .inl (gI G, nx, .inl fx)), (ady, .inl (gI G, ny, .inl fy))] (fun v w => v = none ∧ w = [(adx, .inl (gI G, nx, .inl r)), (ady, .inl (gI G, ny, .inl fy))]) := by
  refine ctr_entry (cc := cX11_plus) (maxL := 6) (ret := none) (lv0 := [(0, .ref adx), (1, .ref ady)]) (by decide) rfl (Nat.le_of_ble_eq_true rfl) (rfl) ?_
  intro K hl9 hG9 hk hn9 hrt
  subst hl9
  subst hG9
  have hR9 : RoomGe rm_X11_plus rm_X11_plus := RoomGe.rf
  replace h := id_e h
  rw [em_X11_plus] at h
  refine v_aload_n hk dX11_plus_0 rfl ?_
  refine v_iconst (v := 0) hk dX11_plus_1 (by decide) ?_
  obtain ⟨hi, h⟩ := ok_e (g := id) rfl h
  refine v_ialdV hk dX11_plus_2 0 rfl (ix_in hi) ?_
  refine v_aload_n hk dX11_plus_3 rfl ?_
  refine v_iconst (v := 0) hk dX11_plus_4 (by decide) ?_
  obtain ⟨hi, h⟩ := ok_e (g := id) rfl h
  refine v_ialdV hk dX11_plus_5 1 rfl (ix_in hi) ?_
  obtain ⟨y_1, ey_1, h⟩ := bd_e (g := id) rfl h
  have Jy_1 : V K 6 [(adx, .inl (gI (kG K), nx, .inl fx)), (ady, .inl (gI (kG K), ny, .inl fy))] 0 0 18 [(0, .ref adx), (1, .ref ady)] [.int y_1] := by
    refine v_istore_n hk dX11_plus_18 rfl (by decide) [1, 2, 0] (lv' := [(0, .ref adx), (1, .ref ady), (2, .int y_1)]) rfl ?_
    refine v_lconst (v := 0) hk dX11_plus_19 (by decide) ?_
    refine v_lstore_n hk dX11_plus_20 rfl (by decide) [1, 2, 3, 0] (lv' := [(0, .ref adx), (1, .ref ady), (2, .int y_1), (3, .long 0)]) rfl ?_
    refine v_iconst (v := 1) hk dX11_plus_21 (by decide) ?_
    refine v_istore hk dX11_plus_22 (by decide) [1, 2, 3, 4, 0] (lv' := [(0, .ref adx), (1, .ref ady), (2, .int y_1), (3, .long 0), (5, .int 1)]) rfl ?_
    obtain ⟨b_15, eb_15, h⟩ := bd_e (g := id) rfl h
    refine L_X11_plus_24 hk hR9 adx ady nx ny fy y_1 b_15 (fun q_12 eq_12 => ?_) FU 0 1 fx eb_15
    · replace eq_12 := eq_12.symm
      subst eq_12
      refine v_aload_n hk dX11_plus_93 rfl ?_
      refine v_iload_n hk dX11_plus_94 rfl ?_
      refine v_iconst (v := 1) hk dX11_plus_95 (by decide) ?_
      refine v_iadd hk dX11_plus_96 ?_
      refine v_lload_n hk dX11_plus_97 rfl ?_
      refine v_l2i hk dX11_plus_98 ?_
      obtain ⟨hi, h⟩ := ok_e (g := id) rfl h
      obtain ⟨fx_13, efx_13, h⟩ := lt_e (g := id) h
      refine v_iastV hk dX11_plus_99 0 rfl (ix_in hi) (ws' := [(adx, .inl (gI (kG K), nx, .inl fx_13)), (ady, .inl (gI (kG K), ny, .inl fy))]) (by rw [efx_13]; rfl) ?_
      refine v_aload_n hk dX11_plus_100 rfl ?_
      refine v_iload_n hk dX11_plus_101 rfl ?_
      refine v_iconst (v := 1) hk dX11_plus_102 (by decide) ?_
      refine v_iadd hk dX11_plus_103 ?_
      obtain ⟨r_14, er_14, h⟩ := bd_e (g := id) rfl h
      refine v_callS (n := 2) (st := []) hk dX11_plus_104 (c_X11_trim (kl K) (kG K) adx nx fx_13 (y_1 + 1) r_14 er_14) gd_X11_plus_X11_trim rfl (by decide +kernel) (frok hR9 (Nat.le_of_ble_eq_true rfl) (Nat.le_of_ble_eq_true rfl)) (roomk hR9 (Nat.le_of_ble_eq_true rfl) (Nat.le_of_ble_eq_true rfl)) rfl rfl (Nat.le_of_ble_eq_true rfl) [0] [1] (wr := [(ady, .inl (gI (kG K), ny, .inl fy))]) rfl rfl (by decide) (by decide) (by decide) ?_
      intro v9 w9 hp9
      obtain ⟨rfl, rfl⟩ := hp9
      show V K 6 [(ady, .inl (gI (kG K), ny, .inl fy)), (adx, .inl (gI (kG K), nx, .inl r_14))] 0 0 107 [(0, .ref adx), (1, .ref ady), (2, .int y_1), (3, .long q_12.1), (5, .int q_12.2.1)] []
      replace h : some r_14 = some r := h
      replace h := Option.some.inj h
      subst h
      refine v_perm [1, 0] (ws' := [(adx, .inl (gI (kG K), nx, .inl r_14)), (ady, .inl (gI (kG K), ny, .inl fy))]) rfl rfl (by decide) ?_
      refine hrt (none) _ _ _ _ _ (⟨rfl, rfl⟩) (Nat.zero_le _) (Nat.zero_le _) (dX11_plus_107)
  clear h
  have h := id_e ey_1
  clear ey_1
  refine v_icmp_le (tgt := 15) hk dX11_plus_6 (by decide) (fun hc => ?_) (fun hc => ?_)
  · replace h := it_t (g := id) h hc
    refine v_aload_n hk dX11_plus_15 rfl ?_
    refine v_iconst (v := 0) hk dX11_plus_16 (by decide) ?_
    obtain ⟨hi, h⟩ := ok_e (g := id) rfl h
    refine v_ialdV hk dX11_plus_17 1 rfl (ix_in hi) ?_
    replace h : some (fy (0 : Int32).toNatClampNeg : Int32) = some y_1 := h
    replace h := Option.some.inj h
    subst h
    exact Jy_1
  · replace h := it_f (g := id) h hc
    refine v_aload_n hk dX11_plus_9 rfl ?_
    refine v_iconst (v := 0) hk dX11_plus_10 (by decide) ?_
    obtain ⟨hi, h⟩ := ok_e (g := id) rfl h
    refine v_ialdV hk dX11_plus_11 0 rfl (ix_in hi) ?_
    refine v_goto (tgt := 18) hk dX11_plus_12 (by decide) ?_
    replace h : some (fx (0 : Int32).toNatClampNeg : Int32) = some y_1 := h
    replace h := Option.some.inj h
    subst h
    exact Jy_1
abbrev rm_X11_less : Room := { frames := 1, cells := 0, slots := 0, locals := 22 }
set_option maxHeartbeats 4000000 in
set_option maxRecDepth 100000 in
theorem L_X11_less_5 {K : Cx} {R9 : Room} (hk : Ok K cX11_less 7 RX11 w2_X11_less R9) (hR9 : RoomGe R9 rm_X11_less) (adx : Nat) (ady : Nat) (nx : Nat) (ny : Nat) (fy : Nat → Int32) (b9 : (Int64 × Int32 × (Nat → Int32))) (kk0 : ∀ q9 : (Int64 × Int32 × (Nat → Int32)), b9 = q9 → V K 7 [(adx, .inl (gI (kG K), nx, .inl q9.2.2)), (ady, .inl (gI (kG K), ny, .inl fy))] 0 0 74 [(0, .ref adx), (1, .ref ady), (2, .long q9.1), (4, .int q9.2.1)] []) : ∀ (nn : Nat) (i2_1 : Int64) (i4_2 : Int32) (fx_3 : Nat → Int32), lp (b_X11_less_5 nx ny fy) nn (i2_1, i4_2, fx_3) = some b9 → V K 7 [(adx, .inl (gI (kG K), nx, .inl fx_3)), (ady, .inl (gI (kG K), ny, .inl fy))] 0 0 5 [(0, .ref adx), (1, .ref ady), (2, .long i2_1), (4, .int i4_2)] [] := by
  intro nn
  induction nn with
  | zero => intro i2_1 i4_2 fx_3 h; exact absurd h (by simp [lp])
  | succ nn ih =>
    intro i2_1 i4_2 fx_3 h
    replace h := lp_s h
    rw [eb_X11_less_5] at h
    refine v_iload hk dX11_less_5 rfl ?_
    refine v_aload_n hk dX11_less_7 rfl ?_
    refine v_iconst (v := 0) hk dX11_less_8 (by decide) ?_
    obtain ⟨hi, h⟩ := ok_e (g := (lpk (lp (b_X11_less_5 nx ny fy) nn))) rfl h
    refine v_ialdV hk dX11_less_9 0 rfl (ix_in hi) ?_
    refine v_icmp_gt (tgt := 74) hk dX11_less_10 (by decide) (fun hc => ?_) (fun hc => ?_)
    · replace h := it_t (g := (lpk (lp (b_X11_less_5 nx ny fy) nn))) h hc
      replace h : some (i2_1, i4_2, fx_3) = some b9 := h
      replace h := Option.some.inj h
      subst h
      exact kk0 _ rfl
    · replace h := it_f (g := (lpk (lp (b_X11_less_5 nx ny fy) nn))) h hc
      refine v_aload_n hk dX11_less_13 rfl ?_
      refine v_iload hk dX11_less_14 rfl ?_
      obtain ⟨hi, h⟩ := ok_e (g := (lpk (lp (b_X11_less_5 nx ny fy) nn))) rfl h
      refine v_ialdV hk dX11_less_16 0 rfl (ix_in hi) ?_
      refine v_i2l hk dX11_less_17 ?_
      refine v_ldc2 (v := 4294967295) hk dX11_less_18 (by decide +kernel) ?_
      refine v_land hk dX11_less_21 ?_
      refine v_iload hk dX11_less_22 rfl ?_
      refine v_aload_n hk dX11_less_24 rfl ?_
      refine v_iconst (v := 0) hk dX11_less_25 (by decide) ?_
      obtain ⟨hi, h⟩ := ok_e (g := (lpk (lp (b_X11_less_5 nx ny fy) nn))) rfl h
      refine v_ialdV hk dX11_less_26 1 rfl (ix_in hi) ?_
      obtain ⟨y_5, ey_5, h⟩ := bd_e (g := (lpk (lp (b_X11_less_5 nx ny fy) nn))) rfl h
      have Jy_5 : V K 7 [(adx, .inl (gI (kG K), nx, .inl fx_3)), (ady, .inl (gI (kG K), ny, .inl fy))] 0 0 43 [(0, .ref adx), (1, .ref ady), (2, .long i2_1), (4, .int i4_2)] [.long y_5, .long (((fx_3 i4_2.toNatClampNeg).toInt64) &&& 4294967295)] := by
        refine v_lsub hk dX11_less_43 ?_
        refine v_lload_n hk dX11_less_44 rfl ?_
        refine v_lsub hk dX11_less_45 ?_
        obtain ⟨x5_6, ex5_6, h⟩ := lt_e (g := (lpk (lp (b_X11_less_5 nx ny fy) nn))) h
        refine v_topl ex5_6.symm ?_
        refine v_lstore hk dX11_less_46 (by decide) [1, 2, 3, 4, 0] (lv' := [(0, .ref adx), (1, .ref ady), (2, .long i2_1), (4, .int i4_2), (5, .long x5_6)]) rfl ?_
        refine v_aload_n hk dX11_less_48 rfl ?_
        refine v_iload hk dX11_less_49 rfl ?_
        refine v_lload hk dX11_less_51 rfl ?_
        refine v_l2i hk dX11_less_53 ?_
        obtain ⟨hi, h⟩ := ok_e (g := (lpk (lp (b_X11_less_5 nx ny fy) nn))) rfl h
        obtain ⟨fx_7, efx_7, h⟩ := lt_e (g := (lpk (lp (b_X11_less_5 nx ny fy) nn))) h
        refine v_iastV hk dX11_less_54 0 rfl (ix_in hi) (ws' := [(adx, .inl (gI (kG K), nx, .inl fx_7)), (ady, .inl (gI (kG K), ny, .inl fy))]) (by rw [efx_7]; rfl) ?_
        refine v_lload hk dX11_less_55 rfl ?_
        refine v_lconst (v := 0) hk dX11_less_57 (by decide) ?_
        refine v_lcmp hk dX11_less_58 ?_
        obtain ⟨y_8, ey_8, h⟩ := bd_e (g := (lpk (lp (b_X11_less_5 nx ny fy) nn))) rfl h
        have Jy_8 : V K 7 [(adx, .inl (gI (kG K), nx, .inl fx_7)), (ady, .inl (gI (kG K), ny, .inl fy))] 0 0 67 [(0, .ref adx), (1, .ref ady), (2, .long i2_1), (4, .int i4_2), (5, .long x5_6)] [.long y_8] := by
          refine v_lstore_n hk dX11_less_67 rfl (by decide) [1, 2, 0, 3, 4] (lv' := [(0, .ref adx), (1, .ref ady), (2, .long y_8), (4, .int i4_2), (5, .long x5_6)]) rfl ?_
          obtain ⟨x4_9, ex4_9, h⟩ := lt_e (g := (lpk (lp (b_X11_less_5 nx ny fy) nn))) h
          refine v_iinc (v := x4_9) hk dX11_less_68 rfl (by rw [ex4_9]; rfl) (by decide) [1, 2, 3, 0, 4] (lv' := [(0, .ref adx), (1, .ref ady), (2, .long y_8), (4, .int x4_9), (5, .long x5_6)]) rfl ?_
          refine v_goto (tgt := 5) hk dX11_less_71 (by decide) ?_
          refine v_loc [0, 1, 2, 3] (lv' := [(0, .ref adx), (1, .ref ady), (2, .long y_8), (4, .int x4_9)]) rfl ?_
          exact ih y_8 x4_9 fx_7 h
        clear h
        have h := id_e ey_8
        clear ey_8
        refine v_if_ge (tgt := 66) hk dX11_less_59 (by decide) (fun hc => ?_) (fun hc => ?_)
        · replace h := it_t (g := id) h hc
          refine v_lconst (v := 0) hk dX11_less_66 (by decide) ?_
          replace h : some (0 : Int64) = some y_8 := h
          replace h := Option.some.inj h
          subst h
          exact Jy_8
        · replace h := it_f (g := id) h hc
          refine v_lconst (v := 1) hk dX11_less_62 (by decide) ?_
          refine v_goto (tgt := 67) hk dX11_less_63 (by decide) ?_
          replace h : some (1 : Int64) = some y_8 := h
          replace h := Option.some.inj h
          subst h
          exact Jy_8
      clear h
      have h := id_e ey_5
      clear ey_5
      refine v_icmp_gt (tgt := 42) hk dX11_less_27 (by decide) (fun hc => ?_) (fun hc => ?_)
      · replace h := it_t (g := id) h hc
        refine v_lconst (v := 0) hk dX11_less_42 (by decide) ?_
        replace h : some (0 : Int64) = some y_5 := h
        replace h := Option.some.inj h
        subst h
        exact Jy_5
      · replace h := it_f (g := id) h hc
        refine v_aload_n hk dX11_less_30 rfl ?_
        refine v_iload hk dX11_less_31 rfl ?_
        obtain ⟨hi, h⟩ := ok_e (g := id) rfl h
        refine v_ialdV hk dX11_less_33 1 rfl (ix_in hi) ?_
        refine v_i2l hk dX11_less_34 ?_
        refine v_ldc2 (v := 4294967295) hk dX11_less_35 (by decide +kernel) ?_
        refine v_land hk dX11_less_38 ?_
        refine v_goto (tgt := 43) hk dX11_less_39 (by decide) ?_
        replace h : some (((fy i4_2.toNatClampNeg).toInt64) &&& 4294967295 : Int64) = some y_5 := h
        replace h := Option.some.inj h
        subst h
        exact Jy_5
set_option maxHeartbeats 4000000 in
set_option maxRecDepth 100000 in
theorem c_X11_less (l : Launch) (G : GG) (adx : Nat) (ady : Nat) (nx : Nat) (fx : Nat → Int32) (ny : Nat) (fy : Nat → Int32) (r : (Nat → Int32)) (h : m_X11_less nx fx ny fy = some r) : Ctr l G yX11_less w2_X11_less rm_X11_less [.ref adx, .ref ady] [(adx, .inl (gI G, nx, .inl fx)), (ady, .inl (gI G, ny, .inl fy))] (fun v w => v = none ∧ w = [(adx, .inl (gI G, nx, .inl r)), (ady, .inl (gI G, ny, .inl fy))]) := by
  refine ctr_entry (cc := cX11_less) (maxL := 7) (ret := none) (lv0 := [(0, .ref adx), (1, .ref ady)]) (by decide) rfl (Nat.le_of_ble_eq_true rfl) (rfl) ?_
  intro K hl9 hG9 hk hn9 hrt
  subst hl9
  subst hG9
  have hR9 : RoomGe rm_X11_less rm_X11_less := RoomGe.rf
  replace h := id_e h
  rw [em_X11_less] at h
  refine v_lconst (v := 0) hk dX11_less_0 (by decide) ?_
  refine v_lstore_n hk dX11_less_1 rfl (by decide) [1, 2, 0] (lv' := [(0, .ref adx), (1, .ref ady), (2, .long 0)]) rfl ?_
  refine v_iconst (v := 1) hk dX11_less_2 (by decide) ?_
  refine v_istore hk dX11_less_3 (by decide) [1, 2, 3, 0] (lv' := [(0, .ref adx), (1, .ref ady), (2, .long 0), (4, .int 1)]) rfl ?_
  obtain ⟨b_12, eb_12, h⟩ := bd_e (g := id) rfl h
  refine L_X11_less_5 hk hR9 adx ady nx ny fy b_12 (fun q_10 eq_10 => ?_) FU 0 1 fx eb_12
  · replace eq_10 := eq_10.symm
    subst eq_10
    refine v_aload_n hk dX11_less_74 rfl ?_
    refine v_aload_n hk dX11_less_75 rfl ?_
    refine v_iconst (v := 0) hk dX11_less_76 (by decide) ?_
    obtain ⟨hi, h⟩ := ok_e (g := id) rfl h
    refine v_ialdV hk dX11_less_77 0 rfl (ix_in hi) ?_
    obtain ⟨r_11, er_11, h⟩ := bd_e (g := id) rfl h
    refine v_callS (n := 2) (st := []) hk dX11_less_78 (c_X11_trim (kl K) (kG K) adx nx q_10.2.2 (q_10.2.2 (0 : Int32).toNatClampNeg) r_11 er_11) gd_X11_less_X11_trim rfl (by decide +kernel) (frok hR9 (Nat.le_of_ble_eq_true rfl) (Nat.le_of_ble_eq_true rfl)) (roomk hR9 (Nat.le_of_ble_eq_true rfl) (Nat.le_of_ble_eq_true rfl)) rfl rfl (Nat.le_of_ble_eq_true rfl) [0] [1] (wr := [(ady, .inl (gI (kG K), ny, .inl fy))]) rfl rfl (by decide) (by decide) (by decide) ?_
    intro v9 w9 hp9
    obtain ⟨rfl, rfl⟩ := hp9
    show V K 7 [(ady, .inl (gI (kG K), ny, .inl fy)), (adx, .inl (gI (kG K), nx, .inl r_11))] 0 0 81 [(0, .ref adx), (1, .ref ady), (2, .long q_10.1), (4, .int q_10.2.1)] []
    replace h : some r_11 = some r := h
    replace h := Option.some.inj h
    subst h
    refine v_perm [1, 0] (ws' := [(adx, .inl (gI (kG K), nx, .inl r_11)), (ady, .inl (gI (kG K), ny, .inl fy))]) rfl rfl (by decide) ?_
    refine hrt (none) _ _ _ _ _ (⟨rfl, rfl⟩) (Nat.zero_le _) (Nat.zero_le _) (dX11_less_81)
abbrev rm_X11_halve : Room := { frames := 1, cells := 0, slots := 0, locals := 22 }
set_option maxHeartbeats 4000000 in
set_option maxRecDepth 100000 in
theorem L_X11_halve_2 {K : Cx} {R9 : Room} (hk : Ok K cX11_halve 2 RX11 w2_X11_halve R9) (hR9 : RoomGe R9 rm_X11_halve) (adx : Nat) (nx : Nat) (b9 : (Int32 × (Nat → Int32))) (kk0 : ∀ q9 : (Int32 × (Nat → Int32)), b9 = q9 → V K 2 [(adx, .inl (gI (kG K), nx, .inl q9.2))] 0 0 43 [(0, .ref adx), (1, .int q9.1)] []) : ∀ (nn : Nat) (i1_1 : Int32) (fx_2 : Nat → Int32), lp (b_X11_halve_2 nx) nn (i1_1, fx_2) = some b9 → V K 2 [(adx, .inl (gI (kG K), nx, .inl fx_2))] 0 0 2 [(0, .ref adx), (1, .int i1_1)] [] := by
  intro nn
  induction nn with
  | zero => intro i1_1 fx_2 h; exact absurd h (by simp [lp])
  | succ nn ih =>
    intro i1_1 fx_2 h
    replace h := lp_s h
    rw [eb_X11_halve_2] at h
    refine v_iload_n hk dX11_halve_2 rfl ?_
    refine v_aload_n hk dX11_halve_3 rfl ?_
    refine v_iconst (v := 0) hk dX11_halve_4 (by decide) ?_
    obtain ⟨hi, h⟩ := ok_e (g := (lpk (lp (b_X11_halve_2 nx) nn))) rfl h
    refine v_ialdV hk dX11_halve_5 0 rfl (ix_in hi) ?_
    refine v_icmp_gt (tgt := 43) hk dX11_halve_6 (by decide) (fun hc => ?_) (fun hc => ?_)
    · replace h := it_t (g := (lpk (lp (b_X11_halve_2 nx) nn))) h hc
      replace h : some (i1_1, fx_2) = some b9 := h
      replace h := Option.some.inj h
      subst h
      exact kk0 _ rfl
    · replace h := it_f (g := (lpk (lp (b_X11_halve_2 nx) nn))) h hc
      refine v_aload_n hk dX11_halve_9 rfl ?_
      refine v_iload_n hk dX11_halve_10 rfl ?_
      refine v_aload_n hk dX11_halve_11 rfl ?_
      refine v_iload_n hk dX11_halve_12 rfl ?_
      obtain ⟨hi, h⟩ := ok_e (g := (lpk (lp (b_X11_halve_2 nx) nn))) rfl h
      refine v_ialdV hk dX11_halve_13 0 rfl (ix_in hi) ?_
      refine v_iconst (v := 1) hk dX11_halve_14 (by decide) ?_
      refine v_iushr hk dX11_halve_15 ?_
      refine v_iload_n hk dX11_halve_16 rfl ?_
      refine v_aload_n hk dX11_halve_17 rfl ?_
      refine v_iconst (v := 0) hk dX11_halve_18 (by decide) ?_
      obtain ⟨hi, h⟩ := ok_e (g := (lpk (lp (b_X11_halve_2 nx) nn))) rfl h
      refine v_ialdV hk dX11_halve_19 0 rfl (ix_in hi) ?_
      obtain ⟨y_4, ey_4, h⟩ := bd_e (g := (lpk (lp (b_X11_halve_2 nx) nn))) rfl h
      have Jy_4 : V K 2 [(adx, .inl (gI (kG K), nx, .inl fx_2))] 0 0 35 [(0, .ref adx), (1, .int i1_1)] [.int y_4, .int (((fx_2 i1_1.toNatClampNeg).toUInt32 >>> ((1 : Int32).toUInt32 &&& Int32.toUInt32 31)).toInt32), .int i1_1, .ref adx] := by
        refine v_ior hk dX11_halve_35 ?_
        obtain ⟨hi, h⟩ := ok_e (g := (lpk (lp (b_X11_halve_2 nx) nn))) rfl h
        obtain ⟨fx_5, efx_5, h⟩ := lt_e (g := (lpk (lp (b_X11_halve_2 nx) nn))) h
        refine v_iastV hk dX11_halve_36 0 rfl (ix_in hi) (ws' := [(adx, .inl (gI (kG K), nx, .inl fx_5))]) (by rw [efx_5]; rfl) ?_
        obtain ⟨x1_6, ex1_6, h⟩ := lt_e (g := (lpk (lp (b_X11_halve_2 nx) nn))) h
        refine v_iinc (v := x1_6) hk dX11_halve_37 rfl (by rw [ex1_6]; rfl) (by decide) [1, 0] (lv' := [(0, .ref adx), (1, .int x1_6)]) rfl ?_
        refine v_goto (tgt := 2) hk dX11_halve_40 (by decide) ?_
        exact ih x1_6 fx_5 h
      clear h
      have h := id_e ey_4
      clear ey_4
      refine v_icmp_ge (tgt := 34) hk dX11_halve_20 (by decide) (fun hc => ?_) (fun hc => ?_)
      · replace h := it_t (g := id) h hc
        refine v_iconst (v := 0) hk dX11_halve_34 (by decide) ?_
        replace h : some (0 : Int32) = some y_4 := h
        replace h := Option.some.inj h
        subst h
        exact Jy_4
      · replace h := it_f (g := id) h hc
        refine v_aload_n hk dX11_halve_23 rfl ?_
        refine v_iload_n hk dX11_halve_24 rfl ?_
        refine v_iconst (v := 1) hk dX11_halve_25 (by decide) ?_
        refine v_iadd hk dX11_halve_26 ?_
        obtain ⟨hi, h⟩ := ok_e (g := id) rfl h
        refine v_ialdV hk dX11_halve_27 0 rfl (ix_in hi) ?_
        refine v_bipush (v := 31) hk dX11_halve_28 (by decide) ?_
        refine v_ishl hk dX11_halve_30 ?_
        refine v_goto (tgt := 35) hk dX11_halve_31 (by decide) ?_
        replace h : some ((fx_2 (i1_1 + 1).toNatClampNeg) <<< (31 &&& 31) : Int32) = some y_4 := h
        replace h := Option.some.inj h
        subst h
        exact Jy_4
set_option maxHeartbeats 4000000 in
set_option maxRecDepth 100000 in
theorem c_X11_halve (l : Launch) (G : GG) (adx : Nat) (nx : Nat) (fx : Nat → Int32) (r : (Nat → Int32)) (h : m_X11_halve nx fx = some r) : Ctr l G yX11_halve w2_X11_halve rm_X11_halve [.ref adx] [(adx, .inl (gI G, nx, .inl fx))] (fun v w => v = none ∧ w = [(adx, .inl (gI G, nx, .inl r))]) := by
  refine ctr_entry (cc := cX11_halve) (maxL := 2) (ret := none) (lv0 := [(0, .ref adx)]) (by decide) rfl (Nat.le_of_ble_eq_true rfl) (rfl) ?_
  intro K hl9 hG9 hk hn9 hrt
  subst hl9
  subst hG9
  have hR9 : RoomGe rm_X11_halve rm_X11_halve := RoomGe.rf
  replace h := id_e h
  rw [em_X11_halve] at h
  refine v_iconst (v := 1) hk dX11_halve_0 (by decide) ?_
  refine v_istore_n hk dX11_halve_1 rfl (by decide) [1, 0] (lv' := [(0, .ref adx), (1, .int 1)]) rfl ?_
  obtain ⟨b_9, eb_9, h⟩ := bd_e (g := id) rfl h
  refine L_X11_halve_2 hk hR9 adx nx b_9 (fun q_7 eq_7 => ?_) FU 1 fx eb_9
  · replace eq_7 := eq_7.symm
    subst eq_7
    refine v_aload_n hk dX11_halve_43 rfl ?_
    refine v_aload_n hk dX11_halve_44 rfl ?_
    refine v_iconst (v := 0) hk dX11_halve_45 (by decide) ?_
    obtain ⟨hi, h⟩ := ok_e (g := id) rfl h
    refine v_ialdV hk dX11_halve_46 0 rfl (ix_in hi) ?_
    obtain ⟨r_8, er_8, h⟩ := bd_e (g := id) rfl h
    refine v_callS (n := 2) (st := []) hk dX11_halve_47 (c_X11_trim (kl K) (kG K) adx nx q_7.2 (q_7.2 (0 : Int32).toNatClampNeg) r_8 er_8) gd_X11_halve_X11_trim rfl (by decide +kernel) (frok hR9 (Nat.le_of_ble_eq_true rfl) (Nat.le_of_ble_eq_true rfl)) (roomk hR9 (Nat.le_of_ble_eq_true rfl) (Nat.le_of_ble_eq_true rfl)) rfl rfl (Nat.le_of_ble_eq_true rfl) [0] [] (wr := []) rfl rfl (by decide) (by decide) (by decide) ?_
    intro v9 w9 hp9
    obtain ⟨rfl, rfl⟩ := hp9
    show V K 2 [(adx, .inl (gI (kG K), nx, .inl r_8))] 0 0 50 [(0, .ref adx), (1, .int q_7.1)] []
    replace h : some r_8 = some r := h
    replace h := Option.some.inj h
    subst h
    refine hrt (none) _ _ _ _ _ (⟨rfl, rfl⟩) (Nat.zero_le _) (Nat.zero_le _) (dX11_halve_50)
abbrev rm_X11_twice : Room := { frames := 1, cells := 0, slots := 0, locals := 22 }
set_option maxHeartbeats 4000000 in
set_option maxRecDepth 100000 in
theorem L_X11_twice_4 {K : Cx} {R9 : Room} (hk : Ok K cX11_twice 5 RX11 w2_X11_twice R9) (hR9 : RoomGe R9 rm_X11_twice) (adx : Nat) (nx : Nat) (bit : Int32) (b9 : (Int32 × Int32 × (Nat → Int32))) (kk0 : ∀ q9 : (Int32 × Int32 × (Nat → Int32)), b9 = q9 → V K 5 [(adx, .inl (gI (kG K), nx, .inl q9.2.2))] 0 0 38 [(0, .ref adx), (1, .int bit), (2, .int q9.1), (3, .int q9.2.1)] []) : ∀ (nn : Nat) (i2_1 : Int32) (i3_2 : Int32) (fx_3 : Nat → Int32), lp (b_X11_twice_4 nx) nn (i2_1, i3_2, fx_3) = some b9 → V K 5 [(adx, .inl (gI (kG K), nx, .inl fx_3))] 0 0 4 [(0, .ref adx), (1, .int bit), (2, .int i2_1), (3, .int i3_2)] [] := by
  intro nn
  induction nn with
  | zero => intro i2_1 i3_2 fx_3 h; exact absurd h (by simp [lp])
  | succ nn ih =>
    intro i2_1 i3_2 fx_3 h
    replace h := lp_s h
    rw [eb_X11_twice_4] at h
    refine v_iload_n hk dX11_twice_4 rfl ?_
    refine v_aload_n hk dX11_twice_5 rfl ?_
    refine v_iconst (v := 0) hk dX11_twice_6 (by decide) ?_
    obtain ⟨hi, h⟩ := ok_e (g := (lpk (lp (b_X11_twice_4 nx) nn))) rfl h
    refine v_ialdV hk dX11_twice_7 0 rfl (ix_in hi) ?_
    refine v_icmp_gt (tgt := 38) hk dX11_twice_8 (by decide) (fun hc => ?_) (fun hc => ?_)
    · replace h := it_t (g := (lpk (lp (b_X11_twice_4 nx) nn))) h hc
      replace h : some (i2_1, i3_2, fx_3) = some b9 := h
      replace h := Option.some.inj h
      subst h
      exact kk0 _ rfl
    · replace h := it_f (g := (lpk (lp (b_X11_twice_4 nx) nn))) h hc
      refine v_aload_n hk dX11_twice_11 rfl ?_
      refine v_iload_n hk dX11_twice_12 rfl ?_
      obtain ⟨hi, h⟩ := ok_e (g := (lpk (lp (b_X11_twice_4 nx) nn))) rfl h
      refine v_ialdV hk dX11_twice_13 0 rfl (ix_in hi) ?_
      refine v_bipush (v := 31) hk dX11_twice_14 (by decide) ?_
      refine v_iushr hk dX11_twice_16 ?_
      obtain ⟨x4_4, ex4_4, h⟩ := lt_e (g := (lpk (lp (b_X11_twice_4 nx) nn))) h
      refine v_topi ex4_4.symm ?_
      refine v_istore hk dX11_twice_17 (by decide) [1, 2, 3, 4, 0] (lv' := [(0, .ref adx), (1, .int bit), (2, .int i2_1), (3, .int i3_2), (4, .int x4_4)]) rfl ?_
      refine v_aload_n hk dX11_twice_19 rfl ?_
      refine v_iload_n hk dX11_twice_20 rfl ?_
      refine v_aload_n hk dX11_twice_21 rfl ?_
      refine v_iload_n hk dX11_twice_22 rfl ?_
      obtain ⟨hi, h⟩ := ok_e (g := (lpk (lp (b_X11_twice_4 nx) nn))) rfl h
      refine v_ialdV hk dX11_twice_23 0 rfl (ix_in hi) ?_
      refine v_iconst (v := 1) hk dX11_twice_24 (by decide) ?_
      refine v_ishl hk dX11_twice_25 ?_
      refine v_iload_n hk dX11_twice_26 rfl ?_
      refine v_ior hk dX11_twice_27 ?_
      obtain ⟨hi, h⟩ := ok_e (g := (lpk (lp (b_X11_twice_4 nx) nn))) rfl h
      obtain ⟨fx_5, efx_5, h⟩ := lt_e (g := (lpk (lp (b_X11_twice_4 nx) nn))) h
      refine v_iastV hk dX11_twice_28 0 rfl (ix_in hi) (ws' := [(adx, .inl (gI (kG K), nx, .inl fx_5))]) (by rw [efx_5]; rfl) ?_
      refine v_iload hk dX11_twice_29 rfl ?_
      refine v_istore_n hk dX11_twice_31 rfl (by decide) [1, 2, 0, 3, 4] (lv' := [(0, .ref adx), (1, .int bit), (2, .int x4_4), (3, .int i3_2), (4, .int x4_4)]) rfl ?_
      obtain ⟨x3_6, ex3_6, h⟩ := lt_e (g := (lpk (lp (b_X11_twice_4 nx) nn))) h
      refine v_iinc (v := x3_6) hk dX11_twice_32 rfl (by rw [ex3_6]; rfl) (by decide) [1, 2, 3, 0, 4] (lv' := [(0, .ref adx), (1, .int bit), (2, .int x4_4), (3, .int x3_6), (4, .int x4_4)]) rfl ?_
      refine v_goto (tgt := 4) hk dX11_twice_35 (by decide) ?_
      refine v_loc [0, 1, 2, 3] (lv' := [(0, .ref adx), (1, .int bit), (2, .int x4_4), (3, .int x3_6)]) rfl ?_
      exact ih x4_4 x3_6 fx_5 h
set_option maxHeartbeats 4000000 in
set_option maxRecDepth 100000 in
theorem c_X11_twice (l : Launch) (G : GG) (adx : Nat) (nx : Nat) (fx : Nat → Int32) (bit : Int32) (r : (Nat → Int32)) (h : m_X11_twice nx fx bit = some r) : Ctr l G yX11_twice w2_X11_twice rm_X11_twice [.ref adx, .int bit] [(adx, .inl (gI G, nx, .inl fx))] (fun v w => v = none ∧ w = [(adx, .inl (gI G, nx, .inl r))]) := by
  refine ctr_entry (cc := cX11_twice) (maxL := 5) (ret := none) (lv0 := [(0, .ref adx), (1, .int bit)]) (by decide) rfl (Nat.le_of_ble_eq_true rfl) (rfl) ?_
  intro K hl9 hG9 hk hn9 hrt
  subst hl9
  subst hG9
  have hR9 : RoomGe rm_X11_twice rm_X11_twice := RoomGe.rf
  replace h := id_e h
  rw [em_X11_twice] at h
  refine v_iload_n hk dX11_twice_0 rfl ?_
  refine v_istore_n hk dX11_twice_1 rfl (by decide) [1, 2, 0] (lv' := [(0, .ref adx), (1, .int bit), (2, .int bit)]) rfl ?_
  refine v_iconst (v := 1) hk dX11_twice_2 (by decide) ?_
  refine v_istore_n hk dX11_twice_3 rfl (by decide) [1, 2, 3, 0] (lv' := [(0, .ref adx), (1, .int bit), (2, .int bit), (3, .int 1)]) rfl ?_
  obtain ⟨b_10, eb_10, h⟩ := bd_e (g := id) rfl h
  refine L_X11_twice_4 hk hR9 adx nx bit b_10 (fun q_7 eq_7 => ?_) FU bit 1 fx eb_10
  · replace eq_7 := eq_7.symm
    subst eq_7
    refine v_aload_n hk dX11_twice_38 rfl ?_
    refine v_aload_n hk dX11_twice_39 rfl ?_
    refine v_iconst (v := 0) hk dX11_twice_40 (by decide) ?_
    obtain ⟨hi, h⟩ := ok_e (g := id) rfl h
    refine v_ialdV hk dX11_twice_41 0 rfl (ix_in hi) ?_
    refine v_iconst (v := 1) hk dX11_twice_42 (by decide) ?_
    refine v_iadd hk dX11_twice_43 ?_
    refine v_iload_n hk dX11_twice_44 rfl ?_
    obtain ⟨hi, h⟩ := ok_e (g := id) rfl h
    obtain ⟨fx_8, efx_8, h⟩ := lt_e (g := id) h
    refine v_iastV hk dX11_twice_45 0 rfl (ix_in hi) (ws' := [(adx, .inl (gI (kG K), nx, .inl fx_8))]) (by rw [efx_8]; rfl) ?_
    refine v_aload_n hk dX11_twice_46 rfl ?_
    refine v_aload_n hk dX11_twice_47 rfl ?_
    refine v_iconst (v := 0) hk dX11_twice_48 (by decide) ?_
    obtain ⟨hi, h⟩ := ok_e (g := id) rfl h
    refine v_ialdV hk dX11_twice_49 0 rfl (ix_in hi) ?_
    refine v_iconst (v := 1) hk dX11_twice_50 (by decide) ?_
    refine v_iadd hk dX11_twice_51 ?_
    obtain ⟨r_9, er_9, h⟩ := bd_e (g := id) rfl h
    refine v_callS (n := 2) (st := []) hk dX11_twice_52 (c_X11_trim (kl K) (kG K) adx nx fx_8 ((fx_8 (0 : Int32).toNatClampNeg) + 1) r_9 er_9) gd_X11_twice_X11_trim rfl (by decide +kernel) (frok hR9 (Nat.le_of_ble_eq_true rfl) (Nat.le_of_ble_eq_true rfl)) (roomk hR9 (Nat.le_of_ble_eq_true rfl) (Nat.le_of_ble_eq_true rfl)) rfl rfl (Nat.le_of_ble_eq_true rfl) [0] [] (wr := []) rfl rfl (by decide) (by decide) (by decide) ?_
    intro v9 w9 hp9
    obtain ⟨rfl, rfl⟩ := hp9
    show V K 5 [(adx, .inl (gI (kG K), nx, .inl r_9))] 0 0 55 [(0, .ref adx), (1, .int bit), (2, .int q_7.1), (3, .int q_7.2.1)] []
    replace h : some r_9 = some r := h
    replace h := Option.some.inj h
    subst h
    refine hrt (none) _ _ _ _ _ (⟨rfl, rfl⟩) (Nat.zero_le _) (Nat.zero_le _) (dX11_twice_55)
abbrev rm_X11_isEven : Room := { frames := 0, cells := 0, slots := 0, locals := 0 }
set_option maxHeartbeats 4000000 in
set_option maxRecDepth 100000 in
theorem c_X11_isEven (l : Launch) (G : GG) (adx : Nat) (nx : Nat) (fx : Nat → Int32) (r : Int32) (h : m_X11_isEven nx fx = some r) : Ctr l G yX11_isEven w2_X11_isEven rm_X11_isEven [.ref adx] [(adx, .inl (gI G, nx, .inl fx))] (fun v w => v = some (.int r) ∧ w = [(adx, .inl (gI G, nx, .inl fx))]) := by
  refine ctr_entry (cc := cX11_isEven) (maxL := 1) (ret := some .boolean) (lv0 := [(0, .ref adx)]) (by decide) rfl (Nat.le_of_ble_eq_true rfl) (rfl) ?_
  intro K hl9 hG9 hk hn9 hrt
  subst hl9
  subst hG9
  have hR9 : RoomGe rm_X11_isEven rm_X11_isEven := RoomGe.rf
  replace h := id_e h
  rw [em_X11_isEven] at h
  refine v_aload_n hk dX11_isEven_0 rfl ?_
  refine v_iconst (v := 1) hk dX11_isEven_1 (by decide) ?_
  obtain ⟨hi, h⟩ := ok_e (g := id) rfl h
  refine v_ialdV hk dX11_isEven_2 0 rfl (ix_in hi) ?_
  refine v_iconst (v := 1) hk dX11_isEven_3 (by decide) ?_
  refine v_iand hk dX11_isEven_4 ?_
  obtain ⟨z_1, ez_1, h⟩ := lt_e (g := id) h
  have Jz_1 : V K 1 [(adx, .inl (gI (kG K), nx, .inl fx))] 0 0 13 [(0, .ref adx)] (.int z_1 :: []) := by
    obtain ⟨hbz, h⟩ := ok_e (g := id) rfl h
    replace h : some z_1 = some r := h
    replace h := Option.some.inj h
    subst h
    refine hrt (some (.int z_1)) _ _ _ _ _ (⟨rfl, rfl⟩) (Nat.zero_le _) (Nat.zero_le _) (⟨dX11_isEven_13, nar_z _ (of_decide_eq_true hbz)⟩)
  refine v_if_ne (tgt := 12) hk dX11_isEven_5 (by decide) (fun hc => ?_) (fun hc => ?_)
  · rw [if_neg hc] at ez_1
    subst ez_1
    refine v_iconst (v := 0) hk dX11_isEven_12 (by decide) ?_
    exact Jz_1
  · rw [if_pos hc] at ez_1
    subst ez_1
    refine v_iconst (v := 1) hk dX11_isEven_8 (by decide) ?_
    refine v_goto (tgt := 13) hk dX11_isEven_9 (by decide) ?_
    exact Jz_1
abbrev rm_X11_grow : Room := { frames := 0, cells := 0, slots := 0, locals := 0 }
set_option maxHeartbeats 4000000 in
set_option maxRecDepth 100000 in
theorem L_X11_grow_10 {K : Cx} {R9 : Room} (hk : Ok K cX11_grow 7 RX11 w2_X11_grow R9) (hR9 : RoomGe R9 rm_X11_grow) (adx : Nat) (nx : Nat) (p : Int32) (by0 : Int32) (x5_1 : Int32) (b9 : (Int64 × Int32 × (Nat → Int32))) (kk0 : ∀ q9 : (Int64 × Int32 × (Nat → Int32)), b9 = q9 → V K 7 [(adx, .inl (gI (kG K), nx, .inl q9.2.2))] 0 0 53 [(0, .ref adx), (1, .int p), (2, .int by0), (3, .long q9.1), (5, .int x5_1), (6, .int q9.2.1)] []) : ∀ (nn : Nat) (i3_2 : Int64) (i6_3 : Int32) (fx_4 : Nat → Int32), lp (b_X11_grow_10 nx p by0 x5_1) nn (i3_2, i6_3, fx_4) = some b9 → V K 7 [(adx, .inl (gI (kG K), nx, .inl fx_4))] 0 0 10 [(0, .ref adx), (1, .int p), (2, .int by0), (3, .long i3_2), (5, .int x5_1), (6, .int i6_3)] [] := by
  intro nn
  induction nn with
  | zero => intro i3_2 i6_3 fx_4 h; exact absurd h (by simp [lp])
  | succ nn ih =>
    intro i3_2 i6_3 fx_4 h
    replace h := lp_s h
    rw [eb_X11_grow_10] at h
    refine v_iload hk dX11_grow_10 rfl ?_
    refine v_iload hk dX11_grow_12 rfl ?_
    refine v_icmp_gt (tgt := 53) hk dX11_grow_14 (by decide) (fun hc => ?_) (fun hc => ?_)
    · replace h := it_t (g := (lpk (lp (b_X11_grow_10 nx p by0 x5_1) nn))) h hc
      replace h : some (i3_2, i6_3, fx_4) = some b9 := h
      replace h := Option.some.inj h
      subst h
      exact kk0 _ rfl
    · replace h := it_f (g := (lpk (lp (b_X11_grow_10 nx p by0 x5_1) nn))) h hc
      refine v_lload_n hk dX11_grow_17 rfl ?_
      refine v_aload_n hk dX11_grow_18 rfl ?_
      refine v_iload_n hk dX11_grow_19 rfl ?_
      refine v_iload hk dX11_grow_20 rfl ?_
      refine v_iadd hk dX11_grow_22 ?_
      obtain ⟨hi, h⟩ := ok_e (g := (lpk (lp (b_X11_grow_10 nx p by0 x5_1) nn))) rfl h
      refine v_ialdV hk dX11_grow_23 0 rfl (ix_in hi) ?_
      refine v_i2l hk dX11_grow_24 ?_
      refine v_ldc2 (v := 4294967295) hk dX11_grow_25 (by decide +kernel) ?_
      refine v_land hk dX11_grow_28 ?_
      refine v_iload_n hk dX11_grow_29 rfl ?_
      refine v_i2l hk dX11_grow_30 ?_
      refine v_lmul hk dX11_grow_31 ?_
      refine v_ladd hk dX11_grow_32 ?_
      obtain ⟨x3_5, ex3_5, h⟩ := lt_e (g := (lpk (lp (b_X11_grow_10 nx p by0 x5_1) nn))) h
      refine v_topl ex3_5.symm ?_
      refine v_lstore_n hk dX11_grow_33 rfl (by decide) [1, 2, 3, 0, 4, 5] (lv' := [(0, .ref adx), (1, .int p), (2, .int by0), (3, .long x3_5), (5, .int x5_1), (6, .int i6_3)]) rfl ?_
      refine v_aload_n hk dX11_grow_34 rfl ?_
      refine v_iload_n hk dX11_grow_35 rfl ?_
      refine v_iload hk dX11_grow_36 rfl ?_
      refine v_iadd hk dX11_grow_38 ?_
      refine v_lload_n hk dX11_grow_39 rfl ?_
      refine v_l2i hk dX11_grow_40 ?_
      obtain ⟨hi, h⟩ := ok_e (g := (lpk (lp (b_X11_grow_10 nx p by0 x5_1) nn))) rfl h
      obtain ⟨fx_6, efx_6, h⟩ := lt_e (g := (lpk (lp (b_X11_grow_10 nx p by0 x5_1) nn))) h
      refine v_iastV hk dX11_grow_41 0 rfl (ix_in hi) (ws' := [(adx, .inl (gI (kG K), nx, .inl fx_6))]) (by rw [efx_6]; rfl) ?_
      refine v_lload_n hk dX11_grow_42 rfl ?_
      refine v_bipush (v := 32) hk dX11_grow_43 (by decide) ?_
      refine v_lushr hk dX11_grow_45 ?_
      obtain ⟨x3_7, ex3_7, h⟩ := lt_e (g := (lpk (lp (b_X11_grow_10 nx p by0 x5_1) nn))) h
      refine v_topl ex3_7.symm ?_
      refine v_lstore_n hk dX11_grow_46 rfl (by decide) [1, 2, 3, 0, 4, 5] (lv' := [(0, .ref adx), (1, .int p), (2, .int by0), (3, .long x3_7), (5, .int x5_1), (6, .int i6_3)]) rfl ?_
      obtain ⟨x6_8, ex6_8, h⟩ := lt_e (g := (lpk (lp (b_X11_grow_10 nx p by0 x5_1) nn))) h
      refine v_iinc (v := x6_8) hk dX11_grow_47 rfl (by rw [ex6_8]; rfl) (by decide) [1, 2, 3, 4, 5, 0] (lv' := [(0, .ref adx), (1, .int p), (2, .int by0), (3, .long x3_7), (5, .int x5_1), (6, .int x6_8)]) rfl ?_
      refine v_goto (tgt := 10) hk dX11_grow_50 (by decide) ?_
      exact ih x3_7 x6_8 fx_6 h
set_option maxHeartbeats 4000000 in
set_option maxRecDepth 100000 in
theorem c_X11_grow (l : Launch) (G : GG) (adx : Nat) (nx : Nat) (fx : Nat → Int32) (p : Int32) (by0 : Int32) (r : (Nat → Int32)) (h : m_X11_grow nx fx p by0 = some r) : Ctr l G yX11_grow w2_X11_grow rm_X11_grow [.ref adx, .int p, .int by0] [(adx, .inl (gI G, nx, .inl fx))] (fun v w => v = none ∧ w = [(adx, .inl (gI G, nx, .inl r))]) := by
  refine ctr_entry (cc := cX11_grow) (maxL := 7) (ret := none) (lv0 := [(0, .ref adx), (1, .int p), (2, .int by0)]) (by decide) rfl (Nat.le_of_ble_eq_true rfl) (rfl) ?_
  intro K hl9 hG9 hk hn9 hrt
  subst hl9
  subst hG9
  have hR9 : RoomGe rm_X11_grow rm_X11_grow := RoomGe.rf
  replace h := id_e h
  rw [em_X11_grow] at h
  refine v_lconst (v := 0) hk dX11_grow_0 (by decide) ?_
  refine v_lstore_n hk dX11_grow_1 rfl (by decide) [1, 2, 3, 0] (lv' := [(0, .ref adx), (1, .int p), (2, .int by0), (3, .long 0)]) rfl ?_
  refine v_aload_n hk dX11_grow_2 rfl ?_
  refine v_iload_n hk dX11_grow_3 rfl ?_
  obtain ⟨hi, h⟩ := ok_e (g := id) rfl h
  refine v_ialdV hk dX11_grow_4 0 rfl (ix_in hi) ?_
  obtain ⟨x5_1, ex5_1, h⟩ := lt_e (g := id) h
  refine v_topi ex5_1.symm ?_
  refine v_istore hk dX11_grow_5 (by decide) [1, 2, 3, 4, 0] (lv' := [(0, .ref adx), (1, .int p), (2, .int by0), (3, .long 0), (5, .int x5_1)]) rfl ?_
  refine v_iconst (v := 1) hk dX11_grow_7 (by decide) ?_
  refine v_istore hk dX11_grow_8 (by decide) [1, 2, 3, 4, 5, 0] (lv' := [(0, .ref adx), (1, .int p), (2, .int by0), (3, .long 0), (5, .int x5_1), (6, .int 1)]) rfl ?_
  obtain ⟨b_12, eb_12, h⟩ := bd_e (g := id) rfl h
  refine L_X11_grow_10 hk hR9 adx nx p by0 x5_1 b_12 (fun q_9 eq_9 => ?_) FU 0 1 fx eb_12
  · replace eq_9 := eq_9.symm
    subst eq_9
    refine v_lload_n hk dX11_grow_53 rfl ?_
    refine v_lconst (v := 0) hk dX11_grow_54 (by decide) ?_
    refine v_lcmp hk dX11_grow_55 ?_
    refine v_if_eq (tgt := 76) hk dX11_grow_56 (by decide) (fun hc => ?_) (fun hc => ?_)
    · replace h := it_t (g := id) h hc
      replace h : some q_9.2.2 = some r := h
      replace h := Option.some.inj h
      subst h
      refine hrt (none) _ _ _ _ _ (⟨rfl, rfl⟩) (Nat.zero_le _) (Nat.zero_le _) (dX11_grow_76)
    · replace h := it_f (g := id) h hc
      refine v_aload_n hk dX11_grow_59 rfl ?_
      refine v_iload_n hk dX11_grow_60 rfl ?_
      refine v_iload hk dX11_grow_61 rfl ?_
      refine v_iconst (v := 1) hk dX11_grow_63 (by decide) ?_
      refine v_iadd hk dX11_grow_64 ?_
      obtain ⟨hi, h⟩ := ok_e (g := id) rfl h
      obtain ⟨fx_10, efx_10, h⟩ := lt_e (g := id) h
      refine v_iastV hk dX11_grow_65 0 rfl (ix_in hi) (ws' := [(adx, .inl (gI (kG K), nx, .inl fx_10))]) (by rw [efx_10]; rfl) ?_
      refine v_aload_n hk dX11_grow_66 rfl ?_
      refine v_iload_n hk dX11_grow_67 rfl ?_
      refine v_iload hk dX11_grow_68 rfl ?_
      refine v_iadd hk dX11_grow_70 ?_
      refine v_iconst (v := 1) hk dX11_grow_71 (by decide) ?_
      refine v_iadd hk dX11_grow_72 ?_
      refine v_lload_n hk dX11_grow_73 rfl ?_
      refine v_l2i hk dX11_grow_74 ?_
      obtain ⟨hi, h⟩ := ok_e (g := id) rfl h
      obtain ⟨fx_11, efx_11, h⟩ := lt_e (g := id) h
      refine v_iastV hk dX11_grow_75 0 rfl (ix_in hi) (ws' := [(adx, .inl (gI (kG K), nx, .inl fx_11))]) (by rw [efx_11]; rfl) ?_
      replace h : some fx_11 = some r := h
      replace h := Option.some.inj h
      subst h
      refine hrt (none) _ _ _ _ _ (⟨rfl, rfl⟩) (Nat.zero_le _) (Nat.zero_le _) (dX11_grow_76)
abbrev rm_X11_place : Room := { frames := 0, cells := 0, slots := 0, locals := 0 }
set_option maxHeartbeats 4000000 in
set_option maxRecDepth 100000 in
theorem c_X11_place (l : Launch) (G : GG) (nm : Int32) (se : Int32) (r : Int32) (h : m_X11_place nm se = some r) : Ctr l G yX11_place w2_X11_place rm_X11_place [.int nm, .int se] [] (fun v w => v = some (.int r) ∧ w = []) := by
  refine ctr_entry (cc := cX11_place) (maxL := 2) (ret := some .int) (lv0 := [(0, .int nm), (1, .int se)]) (by decide) rfl (Nat.le_of_ble_eq_true rfl) (rfl) ?_
  intro K hl9 hG9 hk hn9 hrt
  subst hl9
  subst hG9
  have hR9 : RoomGe rm_X11_place rm_X11_place := RoomGe.rf
  replace h := id_e h
  rw [em_X11_place] at h
  refine v_bipush (v := 32) hk dX11_place_0 (by decide) ?_
  refine v_iload_n hk dX11_place_2 rfl ?_
  refine v_imul hk dX11_place_3 ?_
  refine v_iload_n hk dX11_place_4 rfl ?_
  refine v_iadd hk dX11_place_5 ?_
  refine v_bipush (v := 8) hk dX11_place_6 (by decide) ?_
  refine v_imul hk dX11_place_8 ?_
  replace h : some (((32 * nm) + se) * 8) = some r := h
  replace h := Option.some.inj h
  subst h
  refine hrt (some (.int (((32 * nm) + se) * 8))) _ _ _ _ _ (⟨rfl, rfl⟩) (Nat.zero_le _) (Nat.zero_le _) (dX11_place_9)
abbrev rm_X11_store : Room := { frames := 0, cells := 0, slots := 0, locals := 0 }
set_option maxHeartbeats 4000000 in
set_option maxRecDepth 100000 in
theorem L_X11_store_2 {K : Cx} {R9 : Room} (hk : Ok K cX11_store 4 RX11 w2_X11_store R9) (hR9 : RoomGe R9 rm_X11_store) (adx : Nat) (ady : Nat) (nx : Nat) (fx : Nat → Int32) (ny : Nat) (p : Int32) (b9 : (Int32 × (Nat → Int32))) (kk0 : ∀ q9 : (Int32 × (Nat → Int32)), b9 = q9 → V K 4 [(adx, .inl (gI (kG K), nx, .inl fx)), (ady, .inl (gI (kG K), ny, .inl q9.2))] 0 0 23 [(0, .ref adx), (1, .ref ady), (2, .int p), (3, .int q9.1)] []) : ∀ (nn : Nat) (i3_1 : Int32) (fy_2 : Nat → Int32), lp (b_X11_store_2 nx fx ny p) nn (i3_1, fy_2) = some b9 → V K 4 [(adx, .inl (gI (kG K), nx, .inl fx)), (ady, .inl (gI (kG K), ny, .inl fy_2))] 0 0 2 [(0, .ref adx), (1, .ref ady), (2, .int p), (3, .int i3_1)] [] := by
  intro nn
  induction nn with
  | zero => intro i3_1 fy_2 h; exact absurd h (by simp [lp])
  | succ nn ih =>
    intro i3_1 fy_2 h
    replace h := lp_s h
    rw [eb_X11_store_2] at h
    refine v_iload_n hk dX11_store_2 rfl ?_
    refine v_aload_n hk dX11_store_3 rfl ?_
    refine v_iconst (v := 0) hk dX11_store_4 (by decide) ?_
    obtain ⟨hi, h⟩ := ok_e (g := (lpk (lp (b_X11_store_2 nx fx ny p) nn))) rfl h
    refine v_ialdV hk dX11_store_5 0 rfl (ix_in hi) ?_
    refine v_icmp_gt (tgt := 23) hk dX11_store_6 (by decide) (fun hc => ?_) (fun hc => ?_)
    · replace h := it_t (g := (lpk (lp (b_X11_store_2 nx fx ny p) nn))) h hc
      replace h : some (i3_1, fy_2) = some b9 := h
      replace h := Option.some.inj h
      subst h
      exact kk0 _ rfl
    · replace h := it_f (g := (lpk (lp (b_X11_store_2 nx fx ny p) nn))) h hc
      refine v_aload_n hk dX11_store_9 rfl ?_
      refine v_iload_n hk dX11_store_10 rfl ?_
      refine v_iload_n hk dX11_store_11 rfl ?_
      refine v_iadd hk dX11_store_12 ?_
      refine v_aload_n hk dX11_store_13 rfl ?_
      refine v_iload_n hk dX11_store_14 rfl ?_
      obtain ⟨hi, h⟩ := ok_e (g := (lpk (lp (b_X11_store_2 nx fx ny p) nn))) rfl h
      refine v_ialdV hk dX11_store_15 0 rfl (ix_in hi) ?_
      obtain ⟨hi, h⟩ := ok_e (g := (lpk (lp (b_X11_store_2 nx fx ny p) nn))) rfl h
      obtain ⟨fy_3, efy_3, h⟩ := lt_e (g := (lpk (lp (b_X11_store_2 nx fx ny p) nn))) h
      refine v_iastV hk dX11_store_16 1 rfl (ix_in hi) (ws' := [(adx, .inl (gI (kG K), nx, .inl fx)), (ady, .inl (gI (kG K), ny, .inl fy_3))]) (by rw [efy_3]; rfl) ?_
      obtain ⟨x3_4, ex3_4, h⟩ := lt_e (g := (lpk (lp (b_X11_store_2 nx fx ny p) nn))) h
      refine v_iinc (v := x3_4) hk dX11_store_17 rfl (by rw [ex3_4]; rfl) (by decide) [1, 2, 3, 0] (lv' := [(0, .ref adx), (1, .ref ady), (2, .int p), (3, .int x3_4)]) rfl ?_
      refine v_goto (tgt := 2) hk dX11_store_20 (by decide) ?_
      exact ih x3_4 fy_3 h
set_option maxHeartbeats 4000000 in
set_option maxRecDepth 100000 in
theorem c_X11_store (l : Launch) (G : GG) (adx : Nat) (ady : Nat) (nx : Nat) (fx : Nat → Int32) (ny : Nat) (fy : Nat → Int32) (p : Int32) (r : (Nat → Int32)) (h : m_X11_store nx fx ny fy p = some r) : Ctr l G yX11_store w2_X11_store rm_X11_store [.ref adx, .ref ady, .int p] [(adx, .inl (gI G, nx, .inl fx)), (ady, .inl (gI G, ny, .inl fy))] (fun v w => v = none ∧ w = [(adx, .inl (gI G, nx, .inl fx)), (ady, .inl (gI G, ny, .inl r))]) := by
  refine ctr_entry (cc := cX11_store) (maxL := 4) (ret := none) (lv0 := [(0, .ref adx), (1, .ref ady), (2, .int p)]) (by decide) rfl (Nat.le_of_ble_eq_true rfl) (rfl) ?_
  intro K hl9 hG9 hk hn9 hrt
  subst hl9
  subst hG9
  have hR9 : RoomGe rm_X11_store rm_X11_store := RoomGe.rf
  replace h := id_e h
  rw [em_X11_store] at h
  refine v_iconst (v := 0) hk dX11_store_0 (by decide) ?_
  refine v_istore_n hk dX11_store_1 rfl (by decide) [1, 2, 3, 0] (lv' := [(0, .ref adx), (1, .ref ady), (2, .int p), (3, .int 0)]) rfl ?_
  obtain ⟨b_6, eb_6, h⟩ := bd_e (g := id) rfl h
  refine L_X11_store_2 hk hR9 adx ady nx fx ny p b_6 (fun q_5 eq_5 => ?_) FU 0 fy eb_6
  · replace eq_5 := eq_5.symm
    subst eq_5
    replace h : some q_5.2 = some r := h
    replace h := Option.some.inj h
    subst h
    refine hrt (none) _ _ _ _ _ (⟨rfl, rfl⟩) (Nat.zero_le _) (Nat.zero_le _) (dX11_store_23)
abbrev rm_X11_load : Room := { frames := 0, cells := 0, slots := 0, locals := 0 }
set_option maxHeartbeats 4000000 in
set_option maxRecDepth 100000 in
theorem L_X11_load_2 {K : Cx} {R9 : Room} (hk : Ok K cX11_load 4 RX11 w2_X11_load R9) (hR9 : RoomGe R9 rm_X11_load) (adx : Nat) (ady : Nat) (nx : Nat) (fx : Nat → Int32) (ny : Nat) (p : Int32) (b9 : (Int32 × (Nat → Int32))) (kk0 : ∀ q9 : (Int32 × (Nat → Int32)), b9 = q9 → V K 4 [(adx, .inl (gI (kG K), nx, .inl fx)), (ady, .inl (gI (kG K), ny, .inl q9.2))] 0 0 23 [(0, .ref adx), (1, .int p), (2, .ref ady), (3, .int q9.1)] []) : ∀ (nn : Nat) (i3_1 : Int32) (fy_2 : Nat → Int32), lp (b_X11_load_2 nx fx ny p) nn (i3_1, fy_2) = some b9 → V K 4 [(adx, .inl (gI (kG K), nx, .inl fx)), (ady, .inl (gI (kG K), ny, .inl fy_2))] 0 0 2 [(0, .ref adx), (1, .int p), (2, .ref ady), (3, .int i3_1)] [] := by
  intro nn
  induction nn with
  | zero => intro i3_1 fy_2 h; exact absurd h (by simp [lp])
  | succ nn ih =>
    intro i3_1 fy_2 h
    replace h := lp_s h
    rw [eb_X11_load_2] at h
    refine v_iload_n hk dX11_load_2 rfl ?_
    refine v_aload_n hk dX11_load_3 rfl ?_
    refine v_iload_n hk dX11_load_4 rfl ?_
    obtain ⟨hi, h⟩ := ok_e (g := (lpk (lp (b_X11_load_2 nx fx ny p) nn))) rfl h
    refine v_ialdV hk dX11_load_5 0 rfl (ix_in hi) ?_
    refine v_icmp_gt (tgt := 23) hk dX11_load_6 (by decide) (fun hc => ?_) (fun hc => ?_)
    · replace h := it_t (g := (lpk (lp (b_X11_load_2 nx fx ny p) nn))) h hc
      replace h : some (i3_1, fy_2) = some b9 := h
      replace h := Option.some.inj h
      subst h
      exact kk0 _ rfl
    · replace h := it_f (g := (lpk (lp (b_X11_load_2 nx fx ny p) nn))) h hc
      refine v_aload_n hk dX11_load_9 rfl ?_
      refine v_iload_n hk dX11_load_10 rfl ?_
      refine v_aload_n hk dX11_load_11 rfl ?_
      refine v_iload_n hk dX11_load_12 rfl ?_
      refine v_iload_n hk dX11_load_13 rfl ?_
      refine v_iadd hk dX11_load_14 ?_
      obtain ⟨hi, h⟩ := ok_e (g := (lpk (lp (b_X11_load_2 nx fx ny p) nn))) rfl h
      refine v_ialdV hk dX11_load_15 0 rfl (ix_in hi) ?_
      obtain ⟨hi, h⟩ := ok_e (g := (lpk (lp (b_X11_load_2 nx fx ny p) nn))) rfl h
      obtain ⟨fy_3, efy_3, h⟩ := lt_e (g := (lpk (lp (b_X11_load_2 nx fx ny p) nn))) h
      refine v_iastV hk dX11_load_16 1 rfl (ix_in hi) (ws' := [(adx, .inl (gI (kG K), nx, .inl fx)), (ady, .inl (gI (kG K), ny, .inl fy_3))]) (by rw [efy_3]; rfl) ?_
      obtain ⟨x3_4, ex3_4, h⟩ := lt_e (g := (lpk (lp (b_X11_load_2 nx fx ny p) nn))) h
      refine v_iinc (v := x3_4) hk dX11_load_17 rfl (by rw [ex3_4]; rfl) (by decide) [1, 2, 3, 0] (lv' := [(0, .ref adx), (1, .int p), (2, .ref ady), (3, .int x3_4)]) rfl ?_
      refine v_goto (tgt := 2) hk dX11_load_20 (by decide) ?_
      exact ih x3_4 fy_3 h
set_option maxHeartbeats 4000000 in
set_option maxRecDepth 100000 in
theorem c_X11_load (l : Launch) (G : GG) (adx : Nat) (ady : Nat) (nx : Nat) (fx : Nat → Int32) (ny : Nat) (fy : Nat → Int32) (p : Int32) (r : (Nat → Int32)) (h : m_X11_load nx fx ny fy p = some r) : Ctr l G yX11_load w2_X11_load rm_X11_load [.ref adx, .int p, .ref ady] [(adx, .inl (gI G, nx, .inl fx)), (ady, .inl (gI G, ny, .inl fy))] (fun v w => v = none ∧ w = [(adx, .inl (gI G, nx, .inl fx)), (ady, .inl (gI G, ny, .inl r))]) := by
  refine ctr_entry (cc := cX11_load) (maxL := 4) (ret := none) (lv0 := [(0, .ref adx), (1, .int p), (2, .ref ady)]) (by decide) rfl (Nat.le_of_ble_eq_true rfl) (rfl) ?_
  intro K hl9 hG9 hk hn9 hrt
  subst hl9
  subst hG9
  have hR9 : RoomGe rm_X11_load rm_X11_load := RoomGe.rf
  replace h := id_e h
  rw [em_X11_load] at h
  refine v_iconst (v := 0) hk dX11_load_0 (by decide) ?_
  refine v_istore_n hk dX11_load_1 rfl (by decide) [1, 2, 3, 0] (lv' := [(0, .ref adx), (1, .int p), (2, .ref ady), (3, .int 0)]) rfl ?_
  obtain ⟨b_6, eb_6, h⟩ := bd_e (g := id) rfl h
  refine L_X11_load_2 hk hR9 adx ady nx fx ny p b_6 (fun q_5 eq_5 => ?_) FU 0 fy eb_6
  · replace eq_5 := eq_5.symm
    subst eq_5
    replace h : some q_5.2 = some r := h
    replace h := Option.some.inj h
    subst h
    refine hrt (none) _ _ _ _ _ (⟨rfl, rfl⟩) (Nat.zero_le _) (Nat.zero_le _) (dX11_load_23)
abbrev rm_X11_bits : Room := { frames := 0, cells := 0, slots := 0, locals := 0 }
set_option maxHeartbeats 4000000 in
set_option maxRecDepth 100000 in
theorem L_X11_bits_4 {K : Cx} {R9 : Room} (hk : Ok K cX11_bits 3 RX11 w2_X11_bits R9) (hR9 : RoomGe R9 rm_X11_bits) (v : Int32) (b9 : (Int32 × Int32)) (kk0 : ∀ q9 : (Int32 × Int32), b9 = q9 → V K 3 [] 0 0 23 [(0, .int v), (1, .int q9.1), (2, .int q9.2)] []) : ∀ (nn : Nat) (i1_1 : Int32) (i2_2 : Int32), lp (b_X11_bits_4 v) nn (i1_1, i2_2) = some b9 → V K 3 [] 0 0 4 [(0, .int v), (1, .int i1_1), (2, .int i2_2)] [] := by
  intro nn
  induction nn with
  | zero => intro i1_1 i2_2 h; exact absurd h (by simp [lp])
  | succ nn ih =>
    intro i1_1 i2_2 h
    replace h := lp_s h
    rw [eb_X11_bits_4] at h
    refine v_iload_n hk dX11_bits_4 rfl ?_
    refine v_iconst (v := 5) hk dX11_bits_5 (by decide) ?_
    refine v_icmp_ge (tgt := 23) hk dX11_bits_6 (by decide) (fun hc => ?_) (fun hc => ?_)
    · replace h := it_t (g := (lpk (lp (b_X11_bits_4 v) nn))) h hc
      replace h : some (i1_1, i2_2) = some b9 := h
      replace h := Option.some.inj h
      subst h
      exact kk0 _ rfl
    · replace h := it_f (g := (lpk (lp (b_X11_bits_4 v) nn))) h hc
      refine v_iload_n hk dX11_bits_9 rfl ?_
      refine v_iload_n hk dX11_bits_10 rfl ?_
      refine v_iload_n hk dX11_bits_11 rfl ?_
      refine v_ishr hk dX11_bits_12 ?_
      refine v_iconst (v := 1) hk dX11_bits_13 (by decide) ?_
      refine v_iand hk dX11_bits_14 ?_
      refine v_iadd hk dX11_bits_15 ?_
      obtain ⟨x1_3, ex1_3, h⟩ := lt_e (g := (lpk (lp (b_X11_bits_4 v) nn))) h
      refine v_topi ex1_3.symm ?_
      refine v_istore_n hk dX11_bits_16 rfl (by decide) [1, 0, 2] (lv' := [(0, .int v), (1, .int x1_3), (2, .int i2_2)]) rfl ?_
      obtain ⟨x2_4, ex2_4, h⟩ := lt_e (g := (lpk (lp (b_X11_bits_4 v) nn))) h
      refine v_iinc (v := x2_4) hk dX11_bits_17 rfl (by rw [ex2_4]; rfl) (by decide) [1, 2, 0] (lv' := [(0, .int v), (1, .int x1_3), (2, .int x2_4)]) rfl ?_
      refine v_goto (tgt := 4) hk dX11_bits_20 (by decide) ?_
      exact ih x1_3 x2_4 h
set_option maxHeartbeats 4000000 in
set_option maxRecDepth 100000 in
theorem c_X11_bits (l : Launch) (G : GG) (v : Int32) (r : Int32) (h : m_X11_bits v = some r) : Ctr l G yX11_bits w2_X11_bits rm_X11_bits [.int v] [] (fun v w => v = some (.int r) ∧ w = []) := by
  refine ctr_entry (cc := cX11_bits) (maxL := 3) (ret := some .int) (lv0 := [(0, .int v)]) (by decide) rfl (Nat.le_of_ble_eq_true rfl) (rfl) ?_
  intro K hl9 hG9 hk hn9 hrt
  subst hl9
  subst hG9
  have hR9 : RoomGe rm_X11_bits rm_X11_bits := RoomGe.rf
  replace h := id_e h
  rw [em_X11_bits] at h
  refine v_iconst (v := 0) hk dX11_bits_0 (by decide) ?_
  refine v_istore_n hk dX11_bits_1 rfl (by decide) [1, 0] (lv' := [(0, .int v), (1, .int 0)]) rfl ?_
  refine v_iconst (v := 0) hk dX11_bits_2 (by decide) ?_
  refine v_istore_n hk dX11_bits_3 rfl (by decide) [1, 2, 0] (lv' := [(0, .int v), (1, .int 0), (2, .int 0)]) rfl ?_
  obtain ⟨b_6, eb_6, h⟩ := bd_e (g := id) rfl h
  refine L_X11_bits_4 hk hR9 v b_6 (fun q_5 eq_5 => ?_) FU 0 0 eb_6
  · replace eq_5 := eq_5.symm
    subst eq_5
    refine v_iload_n hk dX11_bits_23 rfl ?_
    replace h : some q_5.1 = some r := h
    replace h := Option.some.inj h
    subst h
    refine hrt (some (.int q_5.1)) _ _ _ _ _ (⟨rfl, rfl⟩) (Nat.zero_le _) (Nat.zero_le _) (dX11_bits_24)
abbrev rm_X11_parentsOf : Room := { frames := 0, cells := 0, slots := 0, locals := 0 }
set_option maxHeartbeats 4000000 in
set_option maxRecDepth 100000 in
theorem L_X11_parentsOf_4 {K : Cx} {R9 : Room} (hk : Ok K cX11_parentsOf 4 RX11 w2_X11_parentsOf R9) (hR9 : RoomGe R9 rm_X11_parentsOf) (gr : Int32) (nm : Int32) (b9 : (Int32 × Int32)) (kk0 : ∀ q9 : (Int32 × Int32), b9 = q9 → V K 4 [] 0 0 29 [(0, .int gr), (1, .int nm), (2, .int q9.1), (3, .int q9.2)] []) : ∀ (nn : Nat) (i2_1 : Int32) (i3_2 : Int32), lp (b_X11_parentsOf_4 gr nm) nn (i2_1, i3_2) = some b9 → V K 4 [] 0 0 4 [(0, .int gr), (1, .int nm), (2, .int i2_1), (3, .int i3_2)] [] := by
  intro nn
  induction nn with
  | zero => intro i2_1 i3_2 h; exact absurd h (by simp [lp])
  | succ nn ih =>
    intro i2_1 i3_2 h
    replace h := lp_s h
    rw [eb_X11_parentsOf_4] at h
    refine v_iload_n hk dX11_parentsOf_4 rfl ?_
    refine v_iconst (v := 5) hk dX11_parentsOf_5 (by decide) ?_
    refine v_icmp_ge (tgt := 29) hk dX11_parentsOf_6 (by decide) (fun hc => ?_) (fun hc => ?_)
    · replace h := it_t (g := (lpk (lp (b_X11_parentsOf_4 gr nm) nn))) h hc
      replace h : some (i2_1, i3_2) = some b9 := h
      replace h := Option.some.inj h
      subst h
      exact kk0 _ rfl
    · replace h := it_f (g := (lpk (lp (b_X11_parentsOf_4 gr nm) nn))) h hc
      refine v_iload_n hk dX11_parentsOf_9 rfl ?_
      refine v_iload_n hk dX11_parentsOf_10 rfl ?_
      refine v_iconst (v := 5) hk dX11_parentsOf_11 (by decide) ?_
      refine v_iload_n hk dX11_parentsOf_12 rfl ?_
      refine v_imul hk dX11_parentsOf_13 ?_
      refine v_iload_n hk dX11_parentsOf_14 rfl ?_
      refine v_iadd hk dX11_parentsOf_15 ?_
      refine v_ishr hk dX11_parentsOf_16 ?_
      refine v_iconst (v := 1) hk dX11_parentsOf_17 (by decide) ?_
      refine v_iand hk dX11_parentsOf_18 ?_
      refine v_iload_n hk dX11_parentsOf_19 rfl ?_
      refine v_ishl hk dX11_parentsOf_20 ?_
      refine v_ior hk dX11_parentsOf_21 ?_
      obtain ⟨x2_3, ex2_3, h⟩ := lt_e (g := (lpk (lp (b_X11_parentsOf_4 gr nm) nn))) h
      refine v_topi ex2_3.symm ?_
      refine v_istore_n hk dX11_parentsOf_22 rfl (by decide) [1, 2, 0, 3] (lv' := [(0, .int gr), (1, .int nm), (2, .int x2_3), (3, .int i3_2)]) rfl ?_
      obtain ⟨x3_4, ex3_4, h⟩ := lt_e (g := (lpk (lp (b_X11_parentsOf_4 gr nm) nn))) h
      refine v_iinc (v := x3_4) hk dX11_parentsOf_23 rfl (by rw [ex3_4]; rfl) (by decide) [1, 2, 3, 0] (lv' := [(0, .int gr), (1, .int nm), (2, .int x2_3), (3, .int x3_4)]) rfl ?_
      refine v_goto (tgt := 4) hk dX11_parentsOf_26 (by decide) ?_
      exact ih x2_3 x3_4 h
set_option maxHeartbeats 4000000 in
set_option maxRecDepth 100000 in
theorem c_X11_parentsOf (l : Launch) (G : GG) (gr : Int32) (nm : Int32) (r : Int32) (h : m_X11_parentsOf gr nm = some r) : Ctr l G yX11_parentsOf w2_X11_parentsOf rm_X11_parentsOf [.int gr, .int nm] [] (fun v w => v = some (.int r) ∧ w = []) := by
  refine ctr_entry (cc := cX11_parentsOf) (maxL := 4) (ret := some .int) (lv0 := [(0, .int gr), (1, .int nm)]) (by decide) rfl (Nat.le_of_ble_eq_true rfl) (rfl) ?_
  intro K hl9 hG9 hk hn9 hrt
  subst hl9
  subst hG9
  have hR9 : RoomGe rm_X11_parentsOf rm_X11_parentsOf := RoomGe.rf
  replace h := id_e h
  rw [em_X11_parentsOf] at h
  refine v_iconst (v := 0) hk dX11_parentsOf_0 (by decide) ?_
  refine v_istore_n hk dX11_parentsOf_1 rfl (by decide) [1, 2, 0] (lv' := [(0, .int gr), (1, .int nm), (2, .int 0)]) rfl ?_
  refine v_iconst (v := 0) hk dX11_parentsOf_2 (by decide) ?_
  refine v_istore_n hk dX11_parentsOf_3 rfl (by decide) [1, 2, 3, 0] (lv' := [(0, .int gr), (1, .int nm), (2, .int 0), (3, .int 0)]) rfl ?_
  obtain ⟨b_6, eb_6, h⟩ := bd_e (g := id) rfl h
  refine L_X11_parentsOf_4 hk hR9 gr nm b_6 (fun q_5 eq_5 => ?_) FU 0 0 eb_6
  · replace eq_5 := eq_5.symm
    subst eq_5
    refine v_iload_n hk dX11_parentsOf_29 rfl ?_
    replace h : some q_5.1 = some r := h
    replace h := Option.some.inj h
    subst h
    refine hrt (some (.int q_5.1)) _ _ _ _ _ (⟨rfl, rfl⟩) (Nat.zero_le _) (Nat.zero_le _) (dX11_parentsOf_30)
abbrev rm_X11_has : Room := { frames := 0, cells := 0, slots := 0, locals := 0 }
set_option maxHeartbeats 4000000 in
set_option maxRecDepth 100000 in
theorem c_X11_has (l : Launch) (G : GG) (gr : Int32) (p : Int32) (c : Int32) (r : Int32) (h : m_X11_has gr p c = some r) : Ctr l G yX11_has w2_X11_has rm_X11_has [.int gr, .int p, .int c] [] (fun v w => v = some (.int r) ∧ w = []) := by
  refine ctr_entry (cc := cX11_has) (maxL := 3) (ret := some .boolean) (lv0 := [(0, .int gr), (1, .int p), (2, .int c)]) (by decide) rfl (Nat.le_of_ble_eq_true rfl) (rfl) ?_
  intro K hl9 hG9 hk hn9 hrt
  subst hl9
  subst hG9
  have hR9 : RoomGe rm_X11_has rm_X11_has := RoomGe.rf
  replace h := id_e h
  rw [em_X11_has] at h
  refine v_iload_n hk dX11_has_0 rfl ?_
  refine v_iconst (v := 5) hk dX11_has_1 (by decide) ?_
  refine v_iload_n hk dX11_has_2 rfl ?_
  refine v_imul hk dX11_has_3 ?_
  refine v_iload_n hk dX11_has_4 rfl ?_
  refine v_iadd hk dX11_has_5 ?_
  refine v_ishr hk dX11_has_6 ?_
  refine v_iconst (v := 1) hk dX11_has_7 (by decide) ?_
  refine v_iand hk dX11_has_8 ?_
  refine v_iconst (v := 1) hk dX11_has_9 (by decide) ?_
  obtain ⟨z_1, ez_1, h⟩ := lt_e (g := id) h
  have Jz_1 : V K 3 [] 0 0 18 [(0, .int gr), (1, .int p), (2, .int c)] (.int z_1 :: []) := by
    obtain ⟨hbz, h⟩ := ok_e (g := id) rfl h
    replace h : some z_1 = some r := h
    replace h := Option.some.inj h
    subst h
    refine hrt (some (.int z_1)) _ _ _ _ _ (⟨rfl, rfl⟩) (Nat.zero_le _) (Nat.zero_le _) (⟨dX11_has_18, nar_z _ (of_decide_eq_true hbz)⟩)
  refine v_icmp_ne (tgt := 17) hk dX11_has_10 (by decide) (fun hc => ?_) (fun hc => ?_)
  · rw [if_neg hc] at ez_1
    subst ez_1
    refine v_iconst (v := 0) hk dX11_has_17 (by decide) ?_
    exact Jz_1
  · rw [if_pos hc] at ez_1
    subst ez_1
    refine v_iconst (v := 1) hk dX11_has_13 (by decide) ?_
    refine v_goto (tgt := 18) hk dX11_has_14 (by decide) ?_
    exact Jz_1
abbrev rm_X11_touch : Room := { frames := 1, cells := 0, slots := 0, locals := 22 }
set_option maxHeartbeats 4000000 in
set_option maxRecDepth 100000 in
theorem c_X11_touch (l : Launch) (G : GG) (gr : Int32) (p : Int32) (c : Int32) (r : Int32) (h : m_X11_touch gr p c = some r) : Ctr l G yX11_touch w2_X11_touch rm_X11_touch [.int gr, .int p, .int c] [] (fun v w => v = some (.int r) ∧ w = []) := by
  refine ctr_entry (cc := cX11_touch) (maxL := 3) (ret := some .boolean) (lv0 := [(0, .int gr), (1, .int p), (2, .int c)]) (by decide) rfl (Nat.le_of_ble_eq_true rfl) (rfl) ?_
  intro K hl9 hG9 hk hn9 hrt
  subst hl9
  subst hG9
  have hR9 : RoomGe rm_X11_touch rm_X11_touch := RoomGe.rf
  replace h := id_e h
  rw [em_X11_touch] at h
  refine v_iload_n hk dX11_touch_0 rfl ?_
  refine v_iload_n hk dX11_touch_1 rfl ?_
  refine v_iload_n hk dX11_touch_2 rfl ?_
  obtain ⟨r_1, er_1, h⟩ := bd_e (g := id) rfl h
  refine v_callS (n := 3) (st := []) hk dX11_touch_3 (c_X11_has (kl K) (kG K) gr p c r_1 er_1) gd_X11_touch_X11_has rfl (by decide +kernel) (frok hR9 (Nat.le_of_ble_eq_true rfl) (Nat.le_of_ble_eq_true rfl)) (roomk hR9 (Nat.le_of_ble_eq_true rfl) (Nat.le_of_ble_eq_true rfl)) rfl rfl (Nat.le_of_ble_eq_true rfl) [] [] (wr := []) rfl rfl (by decide) (by decide) (by decide) ?_
  intro v9 w9 hp9
  obtain ⟨rfl, rfl⟩ := hp9
  show V K 3 [] 0 0 6 [(0, .int gr), (1, .int p), (2, .int c)] [.int r_1]
  refine v_if_ne (tgt := 18) hk dX11_touch_6 (by decide) (fun hc => ?_) (fun hc => ?_)
  · replace h := it_f (g := id) h hc
    refine v_iconst (v := 1) hk dX11_touch_18 (by decide) ?_
    refine v_goto (tgt := 23) hk dX11_touch_19 (by decide) ?_
    replace h : some 1 = some r := h
    replace h := Option.some.inj h
    subst h
    refine hrt (some (.int 1)) _ _ _ _ _ (⟨rfl, rfl⟩) (Nat.zero_le _) (Nat.zero_le _) (⟨dX11_touch_23, rfl⟩)
  · replace h := it_t (g := id) h hc
    refine v_iload_n hk dX11_touch_9 rfl ?_
    refine v_iload_n hk dX11_touch_10 rfl ?_
    refine v_iload_n hk dX11_touch_11 rfl ?_
    obtain ⟨r_2, er_2, h⟩ := bd_e (g := id) rfl h
    refine v_callS (n := 3) (st := []) hk dX11_touch_12 (c_X11_has (kl K) (kG K) gr c p r_2 er_2) gd_X11_touch_X11_has rfl (by decide +kernel) (frok hR9 (Nat.le_of_ble_eq_true rfl) (Nat.le_of_ble_eq_true rfl)) (roomk hR9 (Nat.le_of_ble_eq_true rfl) (Nat.le_of_ble_eq_true rfl)) rfl rfl (Nat.le_of_ble_eq_true rfl) [] [] (wr := []) rfl rfl (by decide) (by decide) (by decide) ?_
    intro v9 w9 hp9
    obtain ⟨rfl, rfl⟩ := hp9
    show V K 3 [] 0 0 15 [(0, .int gr), (1, .int p), (2, .int c)] [.int r_2]
    obtain ⟨z_3, ez_3, h⟩ := lt_e (g := id) h
    have Jz_3 : V K 3 [] 0 0 23 [(0, .int gr), (1, .int p), (2, .int c)] (.int z_3 :: []) := by
      obtain ⟨hbz, h⟩ := ok_e (g := id) rfl h
      replace h : some z_3 = some r := h
      replace h := Option.some.inj h
      subst h
      refine hrt (some (.int z_3)) _ _ _ _ _ (⟨rfl, rfl⟩) (Nat.zero_le _) (Nat.zero_le _) (⟨dX11_touch_23, nar_z _ (of_decide_eq_true hbz)⟩)
    refine v_if_eq (tgt := 22) hk dX11_touch_15 (by decide) (fun hc => ?_) (fun hc => ?_)
    · rw [if_pos hc] at ez_3
      subst ez_3
      refine v_iconst (v := 0) hk dX11_touch_22 (by decide) ?_
      exact Jz_3
    · rw [if_neg hc] at ez_3
      subst ez_3
      refine v_iconst (v := 1) hk dX11_touch_18 (by decide) ?_
      refine v_goto (tgt := 23) hk dX11_touch_19 (by decide) ?_
      exact Jz_3
abbrev rm_X11_isAlike : Room := { frames := 2, cells := 0, slots := 0, locals := 44 }
set_option maxHeartbeats 4000000 in
set_option maxRecDepth 100000 in
theorem L_X11_isAlike_50 {K : Cx} {R9 : Room} (hk : Ok K cX11_isAlike 6 RX11 w2_X11_isAlike R9) (hR9 : RoomGe R9 rm_X11_isAlike) (gr : Int32) (ot : Int32) (i3_2 : Int32) (i4_5 : Int32) (b9 : (Int32 × Int32)) (kk0 : ∀ q9 : (Int32 × Int32), b9 = q9 → V K 6 [] 0 0 137 [(0, .int gr), (1, .int ot), (2, .int q9.1), (3, .int i3_2), (4, .int i4_5), (5, .int q9.2)] []) : ∀ (nn : Nat) (i2_6 : Int32) (i5_7 : Int32), lp (b_X11_isAlike_50 gr ot i3_2 i4_5) nn (i2_6, i5_7) = some b9 → V K 6 [] 0 0 50 [(0, .int gr), (1, .int ot), (2, .int i2_6), (3, .int i3_2), (4, .int i4_5), (5, .int i5_7)] [] := by
  intro nn
  induction nn with
  | zero => intro i2_6 i5_7 h; exact absurd h (by simp [lp])
  | succ nn ih =>
    intro i2_6 i5_7 h
    replace h := lp_s h
    rw [eb_X11_isAlike_50] at h
    refine v_iload hk dX11_isAlike_50 rfl ?_
    refine v_iconst (v := 5) hk dX11_isAlike_52 (by decide) ?_
    refine v_icmp_ge (tgt := 137) hk dX11_isAlike_53 (by decide) (fun hc => ?_) (fun hc => ?_)
    · replace h := it_t (g := (lpk (lp (b_X11_isAlike_50 gr ot i3_2 i4_5) nn))) h hc
      replace h : some (i2_6, i5_7) = some b9 := h
      replace h := Option.some.inj h
      subst h
      exact kk0 _ rfl
    · replace h := it_f (g := (lpk (lp (b_X11_isAlike_50 gr ot i3_2 i4_5) nn))) h hc
      refine v_iload_n hk dX11_isAlike_56 rfl ?_
      refine v_iload_n hk dX11_isAlike_57 rfl ?_
      refine v_iload hk dX11_isAlike_58 rfl ?_
      obtain ⟨r_8, er_8, h⟩ := bd_e (g := (lpk (lp (b_X11_isAlike_50 gr ot i3_2 i4_5) nn))) rfl h
      refine v_callS (n := 3) (st := []) hk dX11_isAlike_60 (c_X11_touch (kl K) (kG K) gr i3_2 i4_5 r_8 er_8) gd_X11_isAlike_X11_touch rfl (by decide +kernel) (frok hR9 (Nat.le_of_ble_eq_true rfl) (Nat.le_of_ble_eq_true rfl)) (roomk hR9 (Nat.le_of_ble_eq_true rfl) (Nat.le_of_ble_eq_true rfl)) rfl rfl (Nat.le_of_ble_eq_true rfl) [] [] (wr := []) rfl rfl (by decide) (by decide) (by decide) ?_
      intro v9 w9 hp9
      obtain ⟨rfl, rfl⟩ := hp9
      show V K 6 [] 0 0 63 [(0, .int gr), (1, .int ot), (2, .int i2_6), (3, .int i3_2), (4, .int i4_5), (5, .int i5_7)] [.int r_8]
      refine v_if_ne (tgt := 137) hk dX11_isAlike_63 (by decide) (fun hc => ?_) (fun hc => ?_)
      · replace h := it_f (g := (lpk (lp (b_X11_isAlike_50 gr ot i3_2 i4_5) nn))) h hc
        replace h : some (i2_6, i5_7) = some b9 := h
        replace h := Option.some.inj h
        subst h
        exact kk0 _ rfl
      · replace h := it_t (g := (lpk (lp (b_X11_isAlike_50 gr ot i3_2 i4_5) nn))) h hc
        refine v_iload_n hk dX11_isAlike_66 rfl ?_
        refine v_if_eq (tgt := 129) hk dX11_isAlike_67 (by decide) (fun hc => ?_) (fun hc => ?_)
        · replace h := it_t (g := (lpk (lp (b_X11_isAlike_50 gr ot i3_2 i4_5) nn))) h hc
          refine v_iconst (v := 0) hk dX11_isAlike_129 (by decide) ?_
          refine v_istore_n hk dX11_isAlike_130 rfl (by decide) [1, 2, 0, 3, 4, 5] (lv' := [(0, .int gr), (1, .int ot), (2, .int 0), (3, .int i3_2), (4, .int i4_5), (5, .int i5_7)]) rfl ?_
          obtain ⟨x5_9, ex5_9, h⟩ := lt_e (g := (lpk (lp (b_X11_isAlike_50 gr ot i3_2 i4_5) nn))) h
          refine v_iinc (v := x5_9) hk dX11_isAlike_131 rfl (by rw [ex5_9]; rfl) (by decide) [1, 2, 3, 4, 5, 0] (lv' := [(0, .int gr), (1, .int ot), (2, .int 0), (3, .int i3_2), (4, .int i4_5), (5, .int x5_9)]) rfl ?_
          refine v_goto (tgt := 50) hk dX11_isAlike_134 (by decide) ?_
          exact ih 0 x5_9 h
        · replace h := it_f (g := (lpk (lp (b_X11_isAlike_50 gr ot i3_2 i4_5) nn))) h hc
          refine v_iload_n hk dX11_isAlike_70 rfl ?_
          refine v_iload_n hk dX11_isAlike_71 rfl ?_
          refine v_iload hk dX11_isAlike_72 rfl ?_
          obtain ⟨r_10, er_10, h⟩ := bd_e (g := (lpk (lp (b_X11_isAlike_50 gr ot i3_2 i4_5) nn))) rfl h
          refine v_callS (n := 3) (st := []) hk dX11_isAlike_74 (c_X11_has (kl K) (kG K) gr i3_2 i5_7 r_10 er_10) gd_X11_isAlike_X11_has rfl (by decide +kernel) (frok hR9 (Nat.le_of_ble_eq_true rfl) (Nat.le_of_ble_eq_true rfl)) (roomk hR9 (Nat.le_of_ble_eq_true rfl) (Nat.le_of_ble_eq_true rfl)) rfl rfl (Nat.le_of_ble_eq_true rfl) [] [] (wr := []) rfl rfl (by decide) (by decide) (by decide) ?_
          intro v9 w9 hp9
          obtain ⟨rfl, rfl⟩ := hp9
          show V K 6 [] 0 0 77 [(0, .int gr), (1, .int ot), (2, .int i2_6), (3, .int i3_2), (4, .int i4_5), (5, .int i5_7)] [.int r_10]
          refine v_if_eq (tgt := 95) hk dX11_isAlike_77 (by decide) (fun hc => ?_) (fun hc => ?_)
          · replace h := it_t (g := (lpk (lp (b_X11_isAlike_50 gr ot i3_2 i4_5) nn))) h hc
            refine v_iconst (v := 0) hk dX11_isAlike_95 (by decide) ?_
            refine v_iload_n hk dX11_isAlike_96 rfl ?_
            refine v_iload_n hk dX11_isAlike_97 rfl ?_
            refine v_iload hk dX11_isAlike_98 rfl ?_
            obtain ⟨r_11, er_11, h⟩ := bd_e (g := (lpk (lp (b_X11_isAlike_50 gr ot i3_2 i4_5) nn))) rfl h
            refine v_callS (n := 3) (st := [.int 0]) hk dX11_isAlike_100 (c_X11_has (kl K) (kG K) ot i3_2 i5_7 r_11 er_11) gd_X11_isAlike_X11_has rfl (by decide +kernel) (frok hR9 (Nat.le_of_ble_eq_true rfl) (Nat.le_of_ble_eq_true rfl)) (roomk hR9 (Nat.le_of_ble_eq_true rfl) (Nat.le_of_ble_eq_true rfl)) rfl rfl (Nat.le_of_ble_eq_true rfl) [] [] (wr := []) rfl rfl (by decide) (by decide) (by decide) ?_
            intro v9 w9 hp9
            obtain ⟨rfl, rfl⟩ := hp9
            show V K 6 [] 0 0 103 [(0, .int gr), (1, .int ot), (2, .int i2_6), (3, .int i3_2), (4, .int i4_5), (5, .int i5_7)] [.int r_11, .int 0]
            refine v_if_eq (tgt := 121) hk dX11_isAlike_103 (by decide) (fun hc => ?_) (fun hc => ?_)
            · replace h := it_t (g := (lpk (lp (b_X11_isAlike_50 gr ot i3_2 i4_5) nn))) h hc
              refine v_iconst (v := 0) hk dX11_isAlike_121 (by decide) ?_
              refine v_icmp_ne (tgt := 129) hk dX11_isAlike_122 (by decide) (fun hc => absurd hc (by decide)) (fun _ => ?_)
              refine v_iconst (v := 1) hk dX11_isAlike_125 (by decide) ?_
              refine v_goto (tgt := 130) hk dX11_isAlike_126 (by decide) ?_
              refine v_istore_n hk dX11_isAlike_130 rfl (by decide) [1, 2, 0, 3, 4, 5] (lv' := [(0, .int gr), (1, .int ot), (2, .int 1), (3, .int i3_2), (4, .int i4_5), (5, .int i5_7)]) rfl ?_
              obtain ⟨x5_12, ex5_12, h⟩ := lt_e (g := (lpk (lp (b_X11_isAlike_50 gr ot i3_2 i4_5) nn))) h
              refine v_iinc (v := x5_12) hk dX11_isAlike_131 rfl (by rw [ex5_12]; rfl) (by decide) [1, 2, 3, 4, 5, 0] (lv' := [(0, .int gr), (1, .int ot), (2, .int 1), (3, .int i3_2), (4, .int i4_5), (5, .int x5_12)]) rfl ?_
              refine v_goto (tgt := 50) hk dX11_isAlike_134 (by decide) ?_
              exact ih 1 x5_12 h
            · replace h := it_f (g := (lpk (lp (b_X11_isAlike_50 gr ot i3_2 i4_5) nn))) h hc
              refine v_iload_n hk dX11_isAlike_106 rfl ?_
              refine v_iload hk dX11_isAlike_107 rfl ?_
              refine v_iload hk dX11_isAlike_109 rfl ?_
              obtain ⟨r_13, er_13, h⟩ := bd_e (g := (lpk (lp (b_X11_isAlike_50 gr ot i3_2 i4_5) nn))) rfl h
              refine v_callS (n := 3) (st := [.int 0]) hk dX11_isAlike_111 (c_X11_has (kl K) (kG K) ot i4_5 i5_7 r_13 er_13) gd_X11_isAlike_X11_has rfl (by decide +kernel) (frok hR9 (Nat.le_of_ble_eq_true rfl) (Nat.le_of_ble_eq_true rfl)) (roomk hR9 (Nat.le_of_ble_eq_true rfl) (Nat.le_of_ble_eq_true rfl)) rfl rfl (Nat.le_of_ble_eq_true rfl) [] [] (wr := []) rfl rfl (by decide) (by decide) (by decide) ?_
              intro v9 w9 hp9
              obtain ⟨rfl, rfl⟩ := hp9
              show V K 6 [] 0 0 114 [(0, .int gr), (1, .int ot), (2, .int i2_6), (3, .int i3_2), (4, .int i4_5), (5, .int i5_7)] [.int r_13, .int 0]
              obtain ⟨z_14, ez_14, h⟩ := lt_e (g := (lpk (lp (b_X11_isAlike_50 gr ot i3_2 i4_5) nn))) h
              have Jz_14 : V K 6 [] 0 0 122 [(0, .int gr), (1, .int ot), (2, .int i2_6), (3, .int i3_2), (4, .int i4_5), (5, .int i5_7)] (.int z_14 :: [.int 0]) := by
                obtain ⟨z_15, ez_15, h⟩ := lt_e (g := (lpk (lp (b_X11_isAlike_50 gr ot i3_2 i4_5) nn))) h
                have Jz_15 : V K 6 [] 0 0 130 [(0, .int gr), (1, .int ot), (2, .int i2_6), (3, .int i3_2), (4, .int i4_5), (5, .int i5_7)] (.int z_15 :: []) := by
                  refine v_istore_n hk dX11_isAlike_130 rfl (by decide) [1, 2, 0, 3, 4, 5] (lv' := [(0, .int gr), (1, .int ot), (2, .int z_15), (3, .int i3_2), (4, .int i4_5), (5, .int i5_7)]) rfl ?_
                  obtain ⟨x5_16, ex5_16, h⟩ := lt_e (g := (lpk (lp (b_X11_isAlike_50 gr ot i3_2 i4_5) nn))) h
                  refine v_iinc (v := x5_16) hk dX11_isAlike_131 rfl (by rw [ex5_16]; rfl) (by decide) [1, 2, 3, 4, 5, 0] (lv' := [(0, .int gr), (1, .int ot), (2, .int z_15), (3, .int i3_2), (4, .int i4_5), (5, .int x5_16)]) rfl ?_
                  refine v_goto (tgt := 50) hk dX11_isAlike_134 (by decide) ?_
                  exact ih z_15 x5_16 h
                refine v_icmp_ne (tgt := 129) hk dX11_isAlike_122 (by decide) (fun hc => ?_) (fun hc => ?_)
                · rw [if_neg hc] at ez_15
                  subst ez_15
                  refine v_iconst (v := 0) hk dX11_isAlike_129 (by decide) ?_
                  exact Jz_15
                · rw [if_pos hc] at ez_15
                  subst ez_15
                  refine v_iconst (v := 1) hk dX11_isAlike_125 (by decide) ?_
                  refine v_goto (tgt := 130) hk dX11_isAlike_126 (by decide) ?_
                  exact Jz_15
              refine v_if_eq (tgt := 121) hk dX11_isAlike_114 (by decide) (fun hc => ?_) (fun hc => ?_)
              · rw [if_pos hc] at ez_14
                subst ez_14
                refine v_iconst (v := 0) hk dX11_isAlike_121 (by decide) ?_
                exact Jz_14
              · rw [if_neg hc] at ez_14
                subst ez_14
                refine v_iconst (v := 1) hk dX11_isAlike_117 (by decide) ?_
                refine v_goto (tgt := 122) hk dX11_isAlike_118 (by decide) ?_
                exact Jz_14
          · replace h := it_f (g := (lpk (lp (b_X11_isAlike_50 gr ot i3_2 i4_5) nn))) h hc
            refine v_iload_n hk dX11_isAlike_80 rfl ?_
            refine v_iload hk dX11_isAlike_81 rfl ?_
            refine v_iload hk dX11_isAlike_83 rfl ?_
            obtain ⟨r_17, er_17, h⟩ := bd_e (g := (lpk (lp (b_X11_isAlike_50 gr ot i3_2 i4_5) nn))) rfl h
            refine v_callS (n := 3) (st := []) hk dX11_isAlike_85 (c_X11_has (kl K) (kG K) gr i4_5 i5_7 r_17 er_17) gd_X11_isAlike_X11_has rfl (by decide +kernel) (frok hR9 (Nat.le_of_ble_eq_true rfl) (Nat.le_of_ble_eq_true rfl)) (roomk hR9 (Nat.le_of_ble_eq_true rfl) (Nat.le_of_ble_eq_true rfl)) rfl rfl (Nat.le_of_ble_eq_true rfl) [] [] (wr := []) rfl rfl (by decide) (by decide) (by decide) ?_
            intro v9 w9 hp9
            obtain ⟨rfl, rfl⟩ := hp9
            show V K 6 [] 0 0 88 [(0, .int gr), (1, .int ot), (2, .int i2_6), (3, .int i3_2), (4, .int i4_5), (5, .int i5_7)] [.int r_17]
            obtain ⟨z_18, ez_18, h⟩ := lt_e (g := (lpk (lp (b_X11_isAlike_50 gr ot i3_2 i4_5) nn))) h
            have Jz_18 : V K 6 [] 0 0 96 [(0, .int gr), (1, .int ot), (2, .int i2_6), (3, .int i3_2), (4, .int i4_5), (5, .int i5_7)] (.int z_18 :: []) := by
              refine v_iload_n hk dX11_isAlike_96 rfl ?_
              refine v_iload_n hk dX11_isAlike_97 rfl ?_
              refine v_iload hk dX11_isAlike_98 rfl ?_
              obtain ⟨r_19, er_19, h⟩ := bd_e (g := (lpk (lp (b_X11_isAlike_50 gr ot i3_2 i4_5) nn))) rfl h
              refine v_callS (n := 3) (st := [.int z_18]) hk dX11_isAlike_100 (c_X11_has (kl K) (kG K) ot i3_2 i5_7 r_19 er_19) gd_X11_isAlike_X11_has rfl (by decide +kernel) (frok hR9 (Nat.le_of_ble_eq_true rfl) (Nat.le_of_ble_eq_true rfl)) (roomk hR9 (Nat.le_of_ble_eq_true rfl) (Nat.le_of_ble_eq_true rfl)) rfl rfl (Nat.le_of_ble_eq_true rfl) [] [] (wr := []) rfl rfl (by decide) (by decide) (by decide) ?_
              intro v9 w9 hp9
              obtain ⟨rfl, rfl⟩ := hp9
              show V K 6 [] 0 0 103 [(0, .int gr), (1, .int ot), (2, .int i2_6), (3, .int i3_2), (4, .int i4_5), (5, .int i5_7)] [.int r_19, .int z_18]
              refine v_if_eq (tgt := 121) hk dX11_isAlike_103 (by decide) (fun hc => ?_) (fun hc => ?_)
              · replace h := it_t (g := (lpk (lp (b_X11_isAlike_50 gr ot i3_2 i4_5) nn))) h hc
                refine v_iconst (v := 0) hk dX11_isAlike_121 (by decide) ?_
                obtain ⟨z_20, ez_20, h⟩ := lt_e (g := (lpk (lp (b_X11_isAlike_50 gr ot i3_2 i4_5) nn))) h
                have Jz_20 : V K 6 [] 0 0 130 [(0, .int gr), (1, .int ot), (2, .int i2_6), (3, .int i3_2), (4, .int i4_5), (5, .int i5_7)] (.int z_20 :: []) := by
                  refine v_istore_n hk dX11_isAlike_130 rfl (by decide) [1, 2, 0, 3, 4, 5] (lv' := [(0, .int gr), (1, .int ot), (2, .int z_20), (3, .int i3_2), (4, .int i4_5), (5, .int i5_7)]) rfl ?_
                  obtain ⟨x5_21, ex5_21, h⟩ := lt_e (g := (lpk (lp (b_X11_isAlike_50 gr ot i3_2 i4_5) nn))) h
                  refine v_iinc (v := x5_21) hk dX11_isAlike_131 rfl (by rw [ex5_21]; rfl) (by decide) [1, 2, 3, 4, 5, 0] (lv' := [(0, .int gr), (1, .int ot), (2, .int z_20), (3, .int i3_2), (4, .int i4_5), (5, .int x5_21)]) rfl ?_
                  refine v_goto (tgt := 50) hk dX11_isAlike_134 (by decide) ?_
                  exact ih z_20 x5_21 h
                refine v_icmp_ne (tgt := 129) hk dX11_isAlike_122 (by decide) (fun hc => ?_) (fun hc => ?_)
                · rw [if_neg hc] at ez_20
                  subst ez_20
                  refine v_iconst (v := 0) hk dX11_isAlike_129 (by decide) ?_
                  exact Jz_20
                · rw [if_pos hc] at ez_20
                  subst ez_20
                  refine v_iconst (v := 1) hk dX11_isAlike_125 (by decide) ?_
                  refine v_goto (tgt := 130) hk dX11_isAlike_126 (by decide) ?_
                  exact Jz_20
              · replace h := it_f (g := (lpk (lp (b_X11_isAlike_50 gr ot i3_2 i4_5) nn))) h hc
                refine v_iload_n hk dX11_isAlike_106 rfl ?_
                refine v_iload hk dX11_isAlike_107 rfl ?_
                refine v_iload hk dX11_isAlike_109 rfl ?_
                obtain ⟨r_22, er_22, h⟩ := bd_e (g := (lpk (lp (b_X11_isAlike_50 gr ot i3_2 i4_5) nn))) rfl h
                refine v_callS (n := 3) (st := [.int z_18]) hk dX11_isAlike_111 (c_X11_has (kl K) (kG K) ot i4_5 i5_7 r_22 er_22) gd_X11_isAlike_X11_has rfl (by decide +kernel) (frok hR9 (Nat.le_of_ble_eq_true rfl) (Nat.le_of_ble_eq_true rfl)) (roomk hR9 (Nat.le_of_ble_eq_true rfl) (Nat.le_of_ble_eq_true rfl)) rfl rfl (Nat.le_of_ble_eq_true rfl) [] [] (wr := []) rfl rfl (by decide) (by decide) (by decide) ?_
                intro v9 w9 hp9
                obtain ⟨rfl, rfl⟩ := hp9
                show V K 6 [] 0 0 114 [(0, .int gr), (1, .int ot), (2, .int i2_6), (3, .int i3_2), (4, .int i4_5), (5, .int i5_7)] [.int r_22, .int z_18]
                obtain ⟨z_23, ez_23, h⟩ := lt_e (g := (lpk (lp (b_X11_isAlike_50 gr ot i3_2 i4_5) nn))) h
                have Jz_23 : V K 6 [] 0 0 122 [(0, .int gr), (1, .int ot), (2, .int i2_6), (3, .int i3_2), (4, .int i4_5), (5, .int i5_7)] (.int z_23 :: [.int z_18]) := by
                  obtain ⟨z_24, ez_24, h⟩ := lt_e (g := (lpk (lp (b_X11_isAlike_50 gr ot i3_2 i4_5) nn))) h
                  have Jz_24 : V K 6 [] 0 0 130 [(0, .int gr), (1, .int ot), (2, .int i2_6), (3, .int i3_2), (4, .int i4_5), (5, .int i5_7)] (.int z_24 :: []) := by
                    refine v_istore_n hk dX11_isAlike_130 rfl (by decide) [1, 2, 0, 3, 4, 5] (lv' := [(0, .int gr), (1, .int ot), (2, .int z_24), (3, .int i3_2), (4, .int i4_5), (5, .int i5_7)]) rfl ?_
                    obtain ⟨x5_25, ex5_25, h⟩ := lt_e (g := (lpk (lp (b_X11_isAlike_50 gr ot i3_2 i4_5) nn))) h
                    refine v_iinc (v := x5_25) hk dX11_isAlike_131 rfl (by rw [ex5_25]; rfl) (by decide) [1, 2, 3, 4, 5, 0] (lv' := [(0, .int gr), (1, .int ot), (2, .int z_24), (3, .int i3_2), (4, .int i4_5), (5, .int x5_25)]) rfl ?_
                    refine v_goto (tgt := 50) hk dX11_isAlike_134 (by decide) ?_
                    exact ih z_24 x5_25 h
                  refine v_icmp_ne (tgt := 129) hk dX11_isAlike_122 (by decide) (fun hc => ?_) (fun hc => ?_)
                  · rw [if_neg hc] at ez_24
                    subst ez_24
                    refine v_iconst (v := 0) hk dX11_isAlike_129 (by decide) ?_
                    exact Jz_24
                  · rw [if_pos hc] at ez_24
                    subst ez_24
                    refine v_iconst (v := 1) hk dX11_isAlike_125 (by decide) ?_
                    refine v_goto (tgt := 130) hk dX11_isAlike_126 (by decide) ?_
                    exact Jz_24
                refine v_if_eq (tgt := 121) hk dX11_isAlike_114 (by decide) (fun hc => ?_) (fun hc => ?_)
                · rw [if_pos hc] at ez_23
                  subst ez_23
                  refine v_iconst (v := 0) hk dX11_isAlike_121 (by decide) ?_
                  exact Jz_23
                · rw [if_neg hc] at ez_23
                  subst ez_23
                  refine v_iconst (v := 1) hk dX11_isAlike_117 (by decide) ?_
                  refine v_goto (tgt := 122) hk dX11_isAlike_118 (by decide) ?_
                  exact Jz_23
            refine v_if_eq (tgt := 95) hk dX11_isAlike_88 (by decide) (fun hc => ?_) (fun hc => ?_)
            · rw [if_pos hc] at ez_18
              subst ez_18
              refine v_iconst (v := 0) hk dX11_isAlike_95 (by decide) ?_
              exact Jz_18
            · rw [if_neg hc] at ez_18
              subst ez_18
              refine v_iconst (v := 1) hk dX11_isAlike_91 (by decide) ?_
              refine v_goto (tgt := 96) hk dX11_isAlike_92 (by decide) ?_
              exact Jz_18
set_option maxHeartbeats 4000000 in
set_option maxRecDepth 100000 in
theorem L_X11_isAlike_14 {K : Cx} {R9 : Room} (hk : Ok K cX11_isAlike 6 RX11 w2_X11_isAlike R9) (hR9 : RoomGe R9 rm_X11_isAlike) (gr : Int32) (ot : Int32) (i3_2 : Int32) (b9 : (Int32 × Int32)) (kk0 : ∀ q9 : (Int32 × Int32), b9 = q9 → V K 6 [] 0 0 143 [(0, .int gr), (1, .int ot), (2, .int q9.1), (3, .int i3_2), (4, .int q9.2)] []) : ∀ (nn : Nat) (i2_4 : Int32) (i4_5 : Int32), lp (b_X11_isAlike_14 gr ot i3_2) nn (i2_4, i4_5) = some b9 → V K 6 [] 0 0 14 [(0, .int gr), (1, .int ot), (2, .int i2_4), (3, .int i3_2), (4, .int i4_5)] [] := by
  intro nn
  induction nn with
  | zero => intro i2_4 i4_5 h; exact absurd h (by simp [lp])
  | succ nn ih =>
    intro i2_4 i4_5 h
    replace h := lp_s h
    rw [eb_X11_isAlike_14] at h
    refine v_iload hk dX11_isAlike_14 rfl ?_
    refine v_iconst (v := 5) hk dX11_isAlike_16 (by decide) ?_
    refine v_icmp_ge (tgt := 143) hk dX11_isAlike_17 (by decide) (fun hc => ?_) (fun hc => ?_)
    · replace h := it_t (g := (lpk (lp (b_X11_isAlike_14 gr ot i3_2) nn))) h hc
      replace h : some (i2_4, i4_5) = some b9 := h
      replace h := Option.some.inj h
      subst h
      exact kk0 _ rfl
    · replace h := it_f (g := (lpk (lp (b_X11_isAlike_14 gr ot i3_2) nn))) h hc
      refine v_iload_n hk dX11_isAlike_20 rfl ?_
      refine v_if_eq (tgt := 45) hk dX11_isAlike_21 (by decide) (fun hc => ?_) (fun hc => ?_)
      · replace h := it_t (g := (lpk (lp (b_X11_isAlike_14 gr ot i3_2) nn))) h hc
        refine v_iconst (v := 0) hk dX11_isAlike_45 (by decide) ?_
        refine v_istore_n hk dX11_isAlike_46 rfl (by decide) [1, 2, 0, 3, 4] (lv' := [(0, .int gr), (1, .int ot), (2, .int 0), (3, .int i3_2), (4, .int i4_5)]) rfl ?_
        refine v_iconst (v := 0) hk dX11_isAlike_47 (by decide) ?_
        refine v_istore hk dX11_isAlike_48 (by decide) [1, 2, 3, 4, 5, 0] (lv' := [(0, .int gr), (1, .int ot), (2, .int 0), (3, .int i3_2), (4, .int i4_5), (5, .int 0)]) rfl ?_
        obtain ⟨b_28, eb_28, h⟩ := bd_e (g := (lpk (lp (b_X11_isAlike_14 gr ot i3_2) nn))) rfl h
        refine L_X11_isAlike_50 hk hR9 gr ot i3_2 i4_5 b_28 (fun q_26 eq_26 => ?_) FU 0 0 eb_28
        · replace eq_26 := eq_26.symm
          subst eq_26
          obtain ⟨x4_27, ex4_27, h⟩ := lt_e (g := (lpk (lp (b_X11_isAlike_14 gr ot i3_2) nn))) h
          refine v_iinc (v := x4_27) hk dX11_isAlike_137 rfl (by rw [ex4_27]; rfl) (by decide) [1, 2, 3, 4, 0, 5] (lv' := [(0, .int gr), (1, .int ot), (2, .int q_26.1), (3, .int i3_2), (4, .int x4_27), (5, .int q_26.2)]) rfl ?_
          refine v_goto (tgt := 14) hk dX11_isAlike_140 (by decide) ?_
          refine v_loc [0, 1, 2, 3, 4] (lv' := [(0, .int gr), (1, .int ot), (2, .int q_26.1), (3, .int i3_2), (4, .int x4_27)]) rfl ?_
          exact ih q_26.1 x4_27 h
      · replace h := it_f (g := (lpk (lp (b_X11_isAlike_14 gr ot i3_2) nn))) h hc
        refine v_iload_n hk dX11_isAlike_24 rfl ?_
        refine v_iload_n hk dX11_isAlike_25 rfl ?_
        refine v_iload hk dX11_isAlike_26 rfl ?_
        obtain ⟨r_29, er_29, h⟩ := bd_e (g := (lpk (lp (b_X11_isAlike_14 gr ot i3_2) nn))) rfl h
        refine v_callS (n := 3) (st := []) hk dX11_isAlike_28 (c_X11_touch (kl K) (kG K) gr i3_2 i4_5 r_29 er_29) gd_X11_isAlike_X11_touch rfl (by decide +kernel) (frok hR9 (Nat.le_of_ble_eq_true rfl) (Nat.le_of_ble_eq_true rfl)) (roomk hR9 (Nat.le_of_ble_eq_true rfl) (Nat.le_of_ble_eq_true rfl)) rfl rfl (Nat.le_of_ble_eq_true rfl) [] [] (wr := []) rfl rfl (by decide) (by decide) (by decide) ?_
        intro v9 w9 hp9
        obtain ⟨rfl, rfl⟩ := hp9
        show V K 6 [] 0 0 31 [(0, .int gr), (1, .int ot), (2, .int i2_4), (3, .int i3_2), (4, .int i4_5)] [.int r_29]
        refine v_iload_n hk dX11_isAlike_31 rfl ?_
        refine v_iload_n hk dX11_isAlike_32 rfl ?_
        refine v_iload hk dX11_isAlike_33 rfl ?_
        obtain ⟨r_30, er_30, h⟩ := bd_e (g := (lpk (lp (b_X11_isAlike_14 gr ot i3_2) nn))) rfl h
        refine v_callS (n := 3) (st := [.int r_29]) hk dX11_isAlike_35 (c_X11_touch (kl K) (kG K) ot i3_2 i4_5 r_30 er_30) gd_X11_isAlike_X11_touch rfl (by decide +kernel) (frok hR9 (Nat.le_of_ble_eq_true rfl) (Nat.le_of_ble_eq_true rfl)) (roomk hR9 (Nat.le_of_ble_eq_true rfl) (Nat.le_of_ble_eq_true rfl)) rfl rfl (Nat.le_of_ble_eq_true rfl) [] [] (wr := []) rfl rfl (by decide) (by decide) (by decide) ?_
        intro v9 w9 hp9
        obtain ⟨rfl, rfl⟩ := hp9
        show V K 6 [] 0 0 38 [(0, .int gr), (1, .int ot), (2, .int i2_4), (3, .int i3_2), (4, .int i4_5)] [.int r_30, .int r_29]
        obtain ⟨z_31, ez_31, h⟩ := lt_e (g := (lpk (lp (b_X11_isAlike_14 gr ot i3_2) nn))) h
        have Jz_31 : V K 6 [] 0 0 46 [(0, .int gr), (1, .int ot), (2, .int i2_4), (3, .int i3_2), (4, .int i4_5)] (.int z_31 :: []) := by
          refine v_istore_n hk dX11_isAlike_46 rfl (by decide) [1, 2, 0, 3, 4] (lv' := [(0, .int gr), (1, .int ot), (2, .int z_31), (3, .int i3_2), (4, .int i4_5)]) rfl ?_
          refine v_iconst (v := 0) hk dX11_isAlike_47 (by decide) ?_
          refine v_istore hk dX11_isAlike_48 (by decide) [1, 2, 3, 4, 5, 0] (lv' := [(0, .int gr), (1, .int ot), (2, .int z_31), (3, .int i3_2), (4, .int i4_5), (5, .int 0)]) rfl ?_
          obtain ⟨b_34, eb_34, h⟩ := bd_e (g := (lpk (lp (b_X11_isAlike_14 gr ot i3_2) nn))) rfl h
          refine L_X11_isAlike_50 hk hR9 gr ot i3_2 i4_5 b_34 (fun q_32 eq_32 => ?_) FU z_31 0 eb_34
          · replace eq_32 := eq_32.symm
            subst eq_32
            obtain ⟨x4_33, ex4_33, h⟩ := lt_e (g := (lpk (lp (b_X11_isAlike_14 gr ot i3_2) nn))) h
            refine v_iinc (v := x4_33) hk dX11_isAlike_137 rfl (by rw [ex4_33]; rfl) (by decide) [1, 2, 3, 4, 0, 5] (lv' := [(0, .int gr), (1, .int ot), (2, .int q_32.1), (3, .int i3_2), (4, .int x4_33), (5, .int q_32.2)]) rfl ?_
            refine v_goto (tgt := 14) hk dX11_isAlike_140 (by decide) ?_
            refine v_loc [0, 1, 2, 3, 4] (lv' := [(0, .int gr), (1, .int ot), (2, .int q_32.1), (3, .int i3_2), (4, .int x4_33)]) rfl ?_
            exact ih q_32.1 x4_33 h
        refine v_icmp_ne (tgt := 45) hk dX11_isAlike_38 (by decide) (fun hc => ?_) (fun hc => ?_)
        · rw [if_neg hc] at ez_31
          subst ez_31
          refine v_iconst (v := 0) hk dX11_isAlike_45 (by decide) ?_
          exact Jz_31
        · rw [if_pos hc] at ez_31
          subst ez_31
          refine v_iconst (v := 1) hk dX11_isAlike_41 (by decide) ?_
          refine v_goto (tgt := 46) hk dX11_isAlike_42 (by decide) ?_
          exact Jz_31
set_option maxHeartbeats 4000000 in
set_option maxRecDepth 100000 in
theorem L_X11_isAlike_4 {K : Cx} {R9 : Room} (hk : Ok K cX11_isAlike 6 RX11 w2_X11_isAlike R9) (hR9 : RoomGe R9 rm_X11_isAlike) (gr : Int32) (ot : Int32) (b9 : (Int32 × Int32)) (kk0 : ∀ q9 : (Int32 × Int32), b9 = q9 → V K 6 [] 0 0 149 [(0, .int gr), (1, .int ot), (2, .int q9.1), (3, .int q9.2)] []) : ∀ (nn : Nat) (i2_1 : Int32) (i3_2 : Int32), lp (b_X11_isAlike_4 gr ot) nn (i2_1, i3_2) = some b9 → V K 6 [] 0 0 4 [(0, .int gr), (1, .int ot), (2, .int i2_1), (3, .int i3_2)] [] := by
  intro nn
  induction nn with
  | zero => intro i2_1 i3_2 h; exact absurd h (by simp [lp])
  | succ nn ih =>
    intro i2_1 i3_2 h
    replace h := lp_s h
    rw [eb_X11_isAlike_4] at h
    refine v_iload_n hk dX11_isAlike_4 rfl ?_
    refine v_iconst (v := 5) hk dX11_isAlike_5 (by decide) ?_
    refine v_icmp_ge (tgt := 149) hk dX11_isAlike_6 (by decide) (fun hc => ?_) (fun hc => ?_)
    · replace h := it_t (g := (lpk (lp (b_X11_isAlike_4 gr ot) nn))) h hc
      replace h : some (i2_1, i3_2) = some b9 := h
      replace h := Option.some.inj h
      subst h
      exact kk0 _ rfl
    · replace h := it_f (g := (lpk (lp (b_X11_isAlike_4 gr ot) nn))) h hc
      refine v_iload_n hk dX11_isAlike_9 rfl ?_
      refine v_iconst (v := 1) hk dX11_isAlike_10 (by decide) ?_
      refine v_iadd hk dX11_isAlike_11 ?_
      obtain ⟨x4_3, ex4_3, h⟩ := lt_e (g := (lpk (lp (b_X11_isAlike_4 gr ot) nn))) h
      refine v_topi ex4_3.symm ?_
      refine v_istore hk dX11_isAlike_12 (by decide) [1, 2, 3, 4, 0] (lv' := [(0, .int gr), (1, .int ot), (2, .int i2_1), (3, .int i3_2), (4, .int x4_3)]) rfl ?_
      obtain ⟨b_37, eb_37, h⟩ := bd_e (g := (lpk (lp (b_X11_isAlike_4 gr ot) nn))) rfl h
      refine L_X11_isAlike_14 hk hR9 gr ot i3_2 b_37 (fun q_35 eq_35 => ?_) FU i2_1 x4_3 eb_37
      · replace eq_35 := eq_35.symm
        subst eq_35
        obtain ⟨x3_36, ex3_36, h⟩ := lt_e (g := (lpk (lp (b_X11_isAlike_4 gr ot) nn))) h
        refine v_iinc (v := x3_36) hk dX11_isAlike_143 rfl (by rw [ex3_36]; rfl) (by decide) [1, 2, 3, 0, 4] (lv' := [(0, .int gr), (1, .int ot), (2, .int q_35.1), (3, .int x3_36), (4, .int q_35.2)]) rfl ?_
        refine v_goto (tgt := 4) hk dX11_isAlike_146 (by decide) ?_
        refine v_loc [0, 1, 2, 3] (lv' := [(0, .int gr), (1, .int ot), (2, .int q_35.1), (3, .int x3_36)]) rfl ?_
        exact ih q_35.1 x3_36 h
set_option maxHeartbeats 4000000 in
set_option maxRecDepth 100000 in
theorem c_X11_isAlike (l : Launch) (G : GG) (gr : Int32) (ot : Int32) (r : Int32) (h : m_X11_isAlike gr ot = some r) : Ctr l G yX11_isAlike w2_X11_isAlike rm_X11_isAlike [.int gr, .int ot] [] (fun v w => v = some (.int r) ∧ w = []) := by
  refine ctr_entry (cc := cX11_isAlike) (maxL := 6) (ret := some .boolean) (lv0 := [(0, .int gr), (1, .int ot)]) (by decide) rfl (Nat.le_of_ble_eq_true rfl) (rfl) ?_
  intro K hl9 hG9 hk hn9 hrt
  subst hl9
  subst hG9
  have hR9 : RoomGe rm_X11_isAlike rm_X11_isAlike := RoomGe.rf
  replace h := id_e h
  rw [em_X11_isAlike] at h
  refine v_iconst (v := 1) hk dX11_isAlike_0 (by decide) ?_
  refine v_istore_n hk dX11_isAlike_1 rfl (by decide) [1, 2, 0] (lv' := [(0, .int gr), (1, .int ot), (2, .int 1)]) rfl ?_
  refine v_iconst (v := 0) hk dX11_isAlike_2 (by decide) ?_
  refine v_istore_n hk dX11_isAlike_3 rfl (by decide) [1, 2, 3, 0] (lv' := [(0, .int gr), (1, .int ot), (2, .int 1), (3, .int 0)]) rfl ?_
  obtain ⟨b_39, eb_39, h⟩ := bd_e (g := id) rfl h
  refine L_X11_isAlike_4 hk hR9 gr ot b_39 (fun q_38 eq_38 => ?_) FU 1 0 eb_39
  · replace eq_38 := eq_38.symm
    subst eq_38
    refine v_iload_n hk dX11_isAlike_149 rfl ?_
    obtain ⟨hbz, h⟩ := ok_e (g := id) rfl h
    replace h : some q_38.1 = some r := h
    replace h := Option.some.inj h
    subst h
    refine hrt (some (.int q_38.1)) _ _ _ _ _ (⟨rfl, rfl⟩) (Nat.zero_le _) (Nat.zero_le _) (⟨dX11_isAlike_150, nar_z _ (of_decide_eq_true hbz)⟩)
abbrev rm_X11_isPart : Room := { frames := 0, cells := 0, slots := 0, locals := 0 }
set_option maxHeartbeats 4000000 in
set_option maxRecDepth 100000 in
theorem c_X11_isPart (l : Launch) (G : GG) (part : Int32) (r : Int32) (h : m_X11_isPart part = some r) : Ctr l G yX11_isPart w2_X11_isPart rm_X11_isPart [.int part] [] (fun v w => v = some (.int r) ∧ w = []) := by
  refine ctr_entry (cc := cX11_isPart) (maxL := 1) (ret := some .boolean) (lv0 := [(0, .int part)]) (by decide) rfl (Nat.le_of_ble_eq_true rfl) (rfl) ?_
  intro K hl9 hG9 hk hn9 hrt
  subst hl9
  subst hG9
  have hR9 : RoomGe rm_X11_isPart rm_X11_isPart := RoomGe.rf
  replace h := id_e h
  rw [em_X11_isPart] at h
  refine v_iload_n hk dX11_isPart_0 rfl ?_
  obtain ⟨y_1, ey_1, h⟩ := bd_e (g := id) rfl h
  have Jy_1 : V K 1 [] 0 0 14 [(0, .int part)] [.int y_1] := by
    obtain ⟨hbz, h⟩ := ok_e (g := id) rfl h
    replace h : some y_1 = some r := h
    replace h := Option.some.inj h
    subst h
    refine hrt (some (.int y_1)) _ _ _ _ _ (⟨rfl, rfl⟩) (Nat.zero_le _) (Nat.zero_le _) (⟨dX11_isPart_14, nar_z _ (of_decide_eq_true hbz)⟩)
  clear h
  have h := id_e ey_1
  clear ey_1
  refine v_if_eq (tgt := 9) hk dX11_isPart_1 (by decide) (fun hc => ?_) (fun hc => ?_)
  · replace h := it_t (g := id) h hc
    refine v_iconst (v := 1) hk dX11_isPart_9 (by decide) ?_
    refine v_goto (tgt := 14) hk dX11_isPart_10 (by decide) ?_
    replace h : some (1 : Int32) = some y_1 := h
    replace h := Option.some.inj h
    subst h
    exact Jy_1
  · replace h := it_f (g := id) h hc
    refine v_iload_n hk dX11_isPart_4 rfl ?_
    refine v_iconst (v := 1) hk dX11_isPart_5 (by decide) ?_
    obtain ⟨z_2, ez_2, h⟩ := lt_e (g := id) h
    have Jz_2 : V K 1 [] 0 0 14 [(0, .int part)] (.int z_2 :: []) := by
      replace h : some (z_2 : Int32) = some y_1 := h
      replace h := Option.some.inj h
      subst h
      exact Jy_1
    refine v_icmp_ne (tgt := 13) hk dX11_isPart_6 (by decide) (fun hc => ?_) (fun hc => ?_)
    · rw [if_neg hc] at ez_2
      subst ez_2
      refine v_iconst (v := 0) hk dX11_isPart_13 (by decide) ?_
      exact Jz_2
    · rw [if_pos hc] at ez_2
      subst ez_2
      refine v_iconst (v := 1) hk dX11_isPart_9 (by decide) ?_
      refine v_goto (tgt := 14) hk dX11_isPart_10 (by decide) ?_
      exact Jz_2
abbrev rm_X11_arcs : Room := { frames := 0, cells := 0, slots := 0, locals := 0 }
set_option maxHeartbeats 4000000 in
set_option maxRecDepth 100000 in
theorem L_X11_arcs_4 {K : Cx} {R9 : Room} (hk : Ok K cX11_arcs 4 RX11 w2_X11_arcs R9) (hR9 : RoomGe R9 rm_X11_arcs) (nm : Int32) (se : Int32) (b9 : (Int32 × Int32)) (kk0 : ∀ q9 : (Int32 × Int32), b9 = q9 → V K 4 [] 0 0 29 [(0, .int nm), (1, .int se), (2, .int q9.1), (3, .int q9.2)] []) : ∀ (nn : Nat) (i2_1 : Int32) (i3_2 : Int32), lp (b_X11_arcs_4 nm se) nn (i2_1, i3_2) = some b9 → V K 4 [] 0 0 4 [(0, .int nm), (1, .int se), (2, .int i2_1), (3, .int i3_2)] [] := by
  intro nn
  induction nn with
  | zero => intro i2_1 i3_2 h; exact absurd h (by simp [lp])
  | succ nn ih =>
    intro i2_1 i3_2 h
    replace h := lp_s h
    rw [eb_X11_arcs_4] at h
    refine v_iload_n hk dX11_arcs_4 rfl ?_
    refine v_iconst (v := 5) hk dX11_arcs_5 (by decide) ?_
    refine v_icmp_ge (tgt := 29) hk dX11_arcs_6 (by decide) (fun hc => ?_) (fun hc => ?_)
    · replace h := it_t (g := (lpk (lp (b_X11_arcs_4 nm se) nn))) h hc
      replace h : some (i2_1, i3_2) = some b9 := h
      replace h := Option.some.inj h
      subst h
      exact kk0 _ rfl
    · replace h := it_f (g := (lpk (lp (b_X11_arcs_4 nm se) nn))) h hc
      refine v_iload_n hk dX11_arcs_9 rfl ?_
      refine v_iload_n hk dX11_arcs_10 rfl ?_
      refine v_iload_n hk dX11_arcs_11 rfl ?_
      refine v_ishr hk dX11_arcs_12 ?_
      refine v_iconst (v := 1) hk dX11_arcs_13 (by decide) ?_
      refine v_iand hk dX11_arcs_14 ?_
      refine v_iconst (v := 5) hk dX11_arcs_15 (by decide) ?_
      refine v_iload_n hk dX11_arcs_16 rfl ?_
      refine v_imul hk dX11_arcs_17 ?_
      refine v_iload_n hk dX11_arcs_18 rfl ?_
      refine v_iadd hk dX11_arcs_19 ?_
      refine v_ishl hk dX11_arcs_20 ?_
      refine v_ior hk dX11_arcs_21 ?_
      obtain ⟨x2_3, ex2_3, h⟩ := lt_e (g := (lpk (lp (b_X11_arcs_4 nm se) nn))) h
      refine v_topi ex2_3.symm ?_
      refine v_istore_n hk dX11_arcs_22 rfl (by decide) [1, 2, 0, 3] (lv' := [(0, .int nm), (1, .int se), (2, .int x2_3), (3, .int i3_2)]) rfl ?_
      obtain ⟨x3_4, ex3_4, h⟩ := lt_e (g := (lpk (lp (b_X11_arcs_4 nm se) nn))) h
      refine v_iinc (v := x3_4) hk dX11_arcs_23 rfl (by rw [ex3_4]; rfl) (by decide) [1, 2, 3, 0] (lv' := [(0, .int nm), (1, .int se), (2, .int x2_3), (3, .int x3_4)]) rfl ?_
      refine v_goto (tgt := 4) hk dX11_arcs_26 (by decide) ?_
      exact ih x2_3 x3_4 h
set_option maxHeartbeats 4000000 in
set_option maxRecDepth 100000 in
theorem c_X11_arcs (l : Launch) (G : GG) (nm : Int32) (se : Int32) (r : Int32) (h : m_X11_arcs nm se = some r) : Ctr l G yX11_arcs w2_X11_arcs rm_X11_arcs [.int nm, .int se] [] (fun v w => v = some (.int r) ∧ w = []) := by
  refine ctr_entry (cc := cX11_arcs) (maxL := 4) (ret := some .int) (lv0 := [(0, .int nm), (1, .int se)]) (by decide) rfl (Nat.le_of_ble_eq_true rfl) (rfl) ?_
  intro K hl9 hG9 hk hn9 hrt
  subst hl9
  subst hG9
  have hR9 : RoomGe rm_X11_arcs rm_X11_arcs := RoomGe.rf
  replace h := id_e h
  rw [em_X11_arcs] at h
  refine v_iconst (v := 0) hk dX11_arcs_0 (by decide) ?_
  refine v_istore_n hk dX11_arcs_1 rfl (by decide) [1, 2, 0] (lv' := [(0, .int nm), (1, .int se), (2, .int 0)]) rfl ?_
  refine v_iconst (v := 0) hk dX11_arcs_2 (by decide) ?_
  refine v_istore_n hk dX11_arcs_3 rfl (by decide) [1, 2, 3, 0] (lv' := [(0, .int nm), (1, .int se), (2, .int 0), (3, .int 0)]) rfl ?_
  obtain ⟨b_6, eb_6, h⟩ := bd_e (g := id) rfl h
  refine L_X11_arcs_4 hk hR9 nm se b_6 (fun q_5 eq_5 => ?_) FU 0 0 eb_6
  · replace eq_5 := eq_5.symm
    subst eq_5
    refine v_iload_n hk dX11_arcs_29 rfl ?_
    replace h : some q_5.1 = some r := h
    replace h := Option.some.inj h
    subst h
    refine hrt (some (.int q_5.1)) _ _ _ _ _ (⟨rfl, rfl⟩) (Nat.zero_le _) (Nat.zero_le _) (dX11_arcs_30)
abbrev rm_X11_lesser : Room := { frames := 0, cells := 0, slots := 0, locals := 0 }
set_option maxHeartbeats 4000000 in
set_option maxRecDepth 100000 in
theorem c_X11_lesser (l : Launch) (G : GG) (x : Int32) (y : Int32) (r : Int32) (h : m_X11_lesser x y = some r) : Ctr l G yX11_lesser w2_X11_lesser rm_X11_lesser [.int x, .int y] [] (fun v w => v = some (.int r) ∧ w = []) := by
  refine ctr_entry (cc := cX11_lesser) (maxL := 2) (ret := some .int) (lv0 := [(0, .int x), (1, .int y)]) (by decide) rfl (Nat.le_of_ble_eq_true rfl) (rfl) ?_
  intro K hl9 hG9 hk hn9 hrt
  subst hl9
  subst hG9
  have hR9 : RoomGe rm_X11_lesser rm_X11_lesser := RoomGe.rf
  replace h := id_e h
  rw [em_X11_lesser] at h
  refine v_iload_n hk dX11_lesser_0 rfl ?_
  refine v_iload_n hk dX11_lesser_1 rfl ?_
  obtain ⟨y_1, ey_1, h⟩ := bd_e (g := id) rfl h
  have Jy_1 : V K 2 [] 0 0 10 [(0, .int x), (1, .int y)] [.int y_1] := by
    replace h : some y_1 = some r := h
    replace h := Option.some.inj h
    subst h
    refine hrt (some (.int y_1)) _ _ _ _ _ (⟨rfl, rfl⟩) (Nat.zero_le _) (Nat.zero_le _) (dX11_lesser_10)
  clear h
  have h := id_e ey_1
  clear ey_1
  refine v_icmp_ge (tgt := 9) hk dX11_lesser_2 (by decide) (fun hc => ?_) (fun hc => ?_)
  · replace h := it_t (g := id) h hc
    refine v_iload_n hk dX11_lesser_9 rfl ?_
    replace h : some (y : Int32) = some y_1 := h
    replace h := Option.some.inj h
    subst h
    exact Jy_1
  · replace h := it_f (g := id) h hc
    refine v_iload_n hk dX11_lesser_5 rfl ?_
    refine v_goto (tgt := 10) hk dX11_lesser_6 (by decide) ?_
    replace h : some (x : Int32) = some y_1 := h
    replace h := Option.some.inj h
    subst h
    exact Jy_1
abbrev rm_X11_choose : Room := { frames := 0, cells := 0, slots := 0, locals := 0 }
set_option maxHeartbeats 4000000 in
set_option maxRecDepth 100000 in
theorem L_X11_choose_5 {K : Cx} {R9 : Room} (hk : Ok K cX11_choose 5 RX11 w2_X11_choose R9) (hR9 : RoomGe R9 rm_X11_choose) (n : Int32) (k : Int32) (b9 : (Int64 × Int32)) (kk0 : ∀ q9 : (Int64 × Int32), b9 = q9 → V K 5 [] 0 0 31 [(0, .int n), (1, .int k), (2, .long q9.1), (4, .int q9.2)] []) : ∀ (nn : Nat) (i2_1 : Int64) (i4_2 : Int32), lp (b_X11_choose_5 n k) nn (i2_1, i4_2) = some b9 → V K 5 [] 0 0 5 [(0, .int n), (1, .int k), (2, .long i2_1), (4, .int i4_2)] [] := by
  intro nn
  induction nn with
  | zero => intro i2_1 i4_2 h; exact absurd h (by simp [lp])
  | succ nn ih =>
    intro i2_1 i4_2 h
    replace h := lp_s h
    rw [eb_X11_choose_5] at h
    refine v_iload hk dX11_choose_5 rfl ?_
    refine v_iload_n hk dX11_choose_7 rfl ?_
    refine v_icmp_gt (tgt := 31) hk dX11_choose_8 (by decide) (fun hc => ?_) (fun hc => ?_)
    · replace h := it_t (g := (lpk (lp (b_X11_choose_5 n k) nn))) h hc
      replace h : some (i2_1, i4_2) = some b9 := h
      replace h := Option.some.inj h
      subst h
      exact kk0 _ rfl
    · replace h := it_f (g := (lpk (lp (b_X11_choose_5 n k) nn))) h hc
      refine v_lload_n hk dX11_choose_11 rfl ?_
      refine v_iload_n hk dX11_choose_12 rfl ?_
      refine v_iload_n hk dX11_choose_13 rfl ?_
      refine v_isub hk dX11_choose_14 ?_
      refine v_iload hk dX11_choose_15 rfl ?_
      refine v_iadd hk dX11_choose_17 ?_
      refine v_i2l hk dX11_choose_18 ?_
      refine v_lmul hk dX11_choose_19 ?_
      refine v_iload hk dX11_choose_20 rfl ?_
      refine v_i2l hk dX11_choose_22 ?_
      obtain ⟨hz, h⟩ := nz_e (g := (lpk (lp (b_X11_choose_5 n k) nn))) rfl h
      refine v_ldiv hk dX11_choose_23 hz ?_
      obtain ⟨x2_3, ex2_3, h⟩ := lt_e (g := (lpk (lp (b_X11_choose_5 n k) nn))) h
      refine v_topl ex2_3.symm ?_
      refine v_lstore_n hk dX11_choose_24 rfl (by decide) [1, 2, 0, 3] (lv' := [(0, .int n), (1, .int k), (2, .long x2_3), (4, .int i4_2)]) rfl ?_
      obtain ⟨x4_4, ex4_4, h⟩ := lt_e (g := (lpk (lp (b_X11_choose_5 n k) nn))) h
      refine v_iinc (v := x4_4) hk dX11_choose_25 rfl (by rw [ex4_4]; rfl) (by decide) [1, 2, 3, 0] (lv' := [(0, .int n), (1, .int k), (2, .long x2_3), (4, .int x4_4)]) rfl ?_
      refine v_goto (tgt := 5) hk dX11_choose_28 (by decide) ?_
      exact ih x2_3 x4_4 h
set_option maxHeartbeats 4000000 in
set_option maxRecDepth 100000 in
theorem c_X11_choose (l : Launch) (G : GG) (n : Int32) (k : Int32) (r : Int64) (h : m_X11_choose n k = some r) : Ctr l G yX11_choose w2_X11_choose rm_X11_choose [.int n, .int k] [] (fun v w => v = some (.long r) ∧ w = []) := by
  refine ctr_entry (cc := cX11_choose) (maxL := 5) (ret := some .long) (lv0 := [(0, .int n), (1, .int k)]) (by decide) rfl (Nat.le_of_ble_eq_true rfl) (rfl) ?_
  intro K hl9 hG9 hk hn9 hrt
  subst hl9
  subst hG9
  have hR9 : RoomGe rm_X11_choose rm_X11_choose := RoomGe.rf
  replace h := id_e h
  rw [em_X11_choose] at h
  refine v_lconst (v := 1) hk dX11_choose_0 (by decide) ?_
  refine v_lstore_n hk dX11_choose_1 rfl (by decide) [1, 2, 0] (lv' := [(0, .int n), (1, .int k), (2, .long 1)]) rfl ?_
  refine v_iconst (v := 1) hk dX11_choose_2 (by decide) ?_
  refine v_istore hk dX11_choose_3 (by decide) [1, 2, 3, 0] (lv' := [(0, .int n), (1, .int k), (2, .long 1), (4, .int 1)]) rfl ?_
  obtain ⟨b_6, eb_6, h⟩ := bd_e (g := id) rfl h
  refine L_X11_choose_5 hk hR9 n k b_6 (fun q_5 eq_5 => ?_) FU 1 1 eb_6
  · replace eq_5 := eq_5.symm
    subst eq_5
    refine v_lload_n hk dX11_choose_31 rfl ?_
    replace h : some q_5.1 = some r := h
    replace h := Option.some.inj h
    subst h
    refine hrt (some (.long q_5.1)) _ _ _ _ _ (⟨rfl, rfl⟩) (Nat.zero_le _) (Nat.zero_le _) (dX11_choose_32)
abbrev rm_X11_ways : Room := { frames := 1, cells := 0, slots := 0, locals := 24 }
set_option maxHeartbeats 4000000 in
set_option maxRecDepth 100000 in
theorem c_X11_ways (l : Launch) (G : GG) (x : Int32) (y : Int32) (z : Int32) (r : Int64) (h : m_X11_ways x y z = some r) : Ctr l G yX11_ways w2_X11_ways rm_X11_ways [.int x, .int y, .int z] [] (fun v w => v = some (.long r) ∧ w = []) := by
  refine ctr_entry (cc := cX11_ways) (maxL := 3) (ret := some .long) (lv0 := [(0, .int x), (1, .int y), (2, .int z)]) (by decide) rfl (Nat.le_of_ble_eq_true rfl) (rfl) ?_
  intro K hl9 hG9 hk hn9 hrt
  subst hl9
  subst hG9
  have hR9 : RoomGe rm_X11_ways rm_X11_ways := RoomGe.rf
  replace h := id_e h
  rw [em_X11_ways] at h
  refine v_iload_n hk dX11_ways_0 rfl ?_
  refine v_iload_n hk dX11_ways_1 rfl ?_
  refine v_iadd hk dX11_ways_2 ?_
  refine v_iload_n hk dX11_ways_3 rfl ?_
  refine v_iadd hk dX11_ways_4 ?_
  refine v_iload_n hk dX11_ways_5 rfl ?_
  obtain ⟨r_1, er_1, h⟩ := bd_e (g := id) rfl h
  refine v_callS (n := 2) (st := []) hk dX11_ways_6 (c_X11_choose (kl K) (kG K) ((x + y) + z) x r_1 er_1) gd_X11_ways_X11_choose rfl (by decide +kernel) (frok hR9 (Nat.le_of_ble_eq_true rfl) (Nat.le_of_ble_eq_true rfl)) (roomk hR9 (Nat.le_of_ble_eq_true rfl) (Nat.le_of_ble_eq_true rfl)) rfl rfl (Nat.le_of_ble_eq_true rfl) [] [] (wr := []) rfl rfl (by decide) (by decide) (by decide) ?_
  intro v9 w9 hp9
  obtain ⟨rfl, rfl⟩ := hp9
  show V K 3 [] 0 0 9 [(0, .int x), (1, .int y), (2, .int z)] [.long r_1]
  refine v_iload_n hk dX11_ways_9 rfl ?_
  refine v_iload_n hk dX11_ways_10 rfl ?_
  refine v_iadd hk dX11_ways_11 ?_
  refine v_iload_n hk dX11_ways_12 rfl ?_
  obtain ⟨r_2, er_2, h⟩ := bd_e (g := id) rfl h
  refine v_callS (n := 2) (st := [.long r_1]) hk dX11_ways_13 (c_X11_choose (kl K) (kG K) (y + z) y r_2 er_2) gd_X11_ways_X11_choose rfl (by decide +kernel) (frok hR9 (Nat.le_of_ble_eq_true rfl) (Nat.le_of_ble_eq_true rfl)) (roomk hR9 (Nat.le_of_ble_eq_true rfl) (Nat.le_of_ble_eq_true rfl)) rfl rfl (Nat.le_of_ble_eq_true rfl) [] [] (wr := []) rfl rfl (by decide) (by decide) (by decide) ?_
  intro v9 w9 hp9
  obtain ⟨rfl, rfl⟩ := hp9
  show V K 3 [] 0 0 16 [(0, .int x), (1, .int y), (2, .int z)] [.long r_2, .long r_1]
  refine v_lmul hk dX11_ways_16 ?_
  replace h : some (r_1 * r_2) = some r := h
  replace h := Option.some.inj h
  subst h
  refine hrt (some (.long (r_1 * r_2))) _ _ _ _ _ (⟨rfl, rfl⟩) (Nat.zero_le _) (Nat.zero_le _) (dX11_ways_17)
