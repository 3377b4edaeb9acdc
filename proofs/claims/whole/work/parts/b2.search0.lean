/-! Search: what reads no FIT; weigh as a word -/
def okW (N : Nat) (x : Int32) : Bool := decide (u3 x < 2 ^ 25 ∧ ∀ c, c < N → parN (u3 x) c 5 / 2 ^ c % 2 = 0)
noncomputable def wgh (cell : Nat → Nat → Nat) (vals : Nat → Nat) (N R w : Nat) (x y : Int32) : Option Int32 := if okW N x = true then if okW N y = true then some (sgG cell vals N R w (u3 x) (u3 y)) else none else none
theorem c_wgh (l : Launch) (G : GG) (A : Nat → Nat) (ms : Int32) {N R w : Nat} {vals : Nat → Nat} {cell : Nat → Nat → Nat} {fsv fsc : Nat → Int32} {x y r : Int32} (hCS : CS N R w vals cell fsv fsc) (h : wgh cell vals N R w x y = some r) :
    CtrB l G (FBk G A cell vals N R w) yX2_weigh w2_X2_weigh rm_X2_weigh [.ref (A 0), .int x, .int y] (csh G A N R w ms fsv fsc) (fun v w1 => v = some (.int r) ∧ w1 = csh G A N R w ms fsv fsc) := by
  unfold wgh at h
  by_cases h1 : okW N x = true
  · rw [if_pos h1] at h
    by_cases h2 : okW N y = true
    · rw [if_pos h2] at h
      have e := Option.some.inj h
      subst e
      obtain ⟨a1, a2⟩ := of_decide_eq_true h1
      obtain ⟨b1, b2⟩ := of_decide_eq_true h2
      have k := cb_weigh l G A ms hCS a1 b1 a2 b2
      rw [nI_u3, nI_u3] at k
      exact k
    · rw [if_neg h2] at h; cases h
  · rw [if_neg h1] at h; cases h
noncomputable def m_X6_kept (nbo : Nat) (fbo : Nat → Int32) (se : Int32) : Option Int32 := (if se ≤ 0 then some (0 : Int32) else (if (nI nbo) ≤ se then some (0 : Int32) else if ix se nbo = true then some (fbo se.toNatClampNeg : Int32) else none).bind (fun y_2 : Int32 => some (y_2 : Int32))).bind (fun y_1 : Int32 => some y_1)
theorem em_X6_kept (nbo : Nat) (fbo : Nat → Int32) (se : Int32) : m_X6_kept nbo fbo se = (if se ≤ 0 then some (0 : Int32) else (if (nI nbo) ≤ se then some (0 : Int32) else if ix se nbo = true then some (fbo se.toNatClampNeg : Int32) else none).bind (fun y_2 : Int32 => some (y_2 : Int32))).bind (fun y_1 : Int32 => some y_1) := rfl
noncomputable def m_X6_keep (nbo : Nat) (fbo : Nat → Int32) (se : Int32) (gr : Int32) : Option ((Nat → Int32)) := if se ≤ 0 then some fbo else if (nI nbo) ≤ se then some fbo else if ix se nbo = true then lt ((upd fbo se.toNatClampNeg gr) : Nat → Int32) (fun fbo_1 : Nat → Int32 => some fbo_1) else none
theorem em_X6_keep (nbo : Nat) (fbo : Nat → Int32) (se : Int32) (gr : Int32) : m_X6_keep nbo fbo se gr = if se ≤ 0 then some fbo else if (nI nbo) ≤ se then some fbo else if ix se nbo = true then lt ((upd fbo se.toNatClampNeg gr) : Nat → Int32) (fun fbo_1 : Nat → Int32 => some fbo_1) else none := rfl
noncomputable def m_X6_isOpen (nm : Int32) (rw : Int32) (sg : Int32) (ms : Int32) (gr : Int32) : Option Int32 := (m_X0_areBounded gr ms).bind (fun r_1 : Int32 => if r_1 = 0 then some 0 else (m_X0_haveNoRound gr nm).bind (fun r_2 : Int32 => lt (if r_2 = 0 then 0 else 1 : Int32) (fun z_3 : Int32 => if bz z_3 = true then some z_3 else none)))
theorem em_X6_isOpen (nm : Int32) (rw : Int32) (sg : Int32) (ms : Int32) (gr : Int32) : m_X6_isOpen nm rw sg ms gr = (m_X0_areBounded gr ms).bind (fun r_1 : Int32 => if r_1 = 0 then some 0 else (m_X0_haveNoRound gr nm).bind (fun r_2 : Int32 => lt (if r_2 = 0 then 0 else 1 : Int32) (fun z_3 : Int32 => if bz z_3 = true then some z_3 else none))) := rfl
abbrev rm_X6_kept : Room := { frames := 0, cells := 0, slots := 0, locals := 0 }
set_option maxHeartbeats 4000000 in
set_option maxRecDepth 100000 in
theorem c_X6_kept (l : Launch) (G : GG) (ady : Nat) (adbo : Nat) (ads : Nat) (adx : Nat) (nbo : Nat) (fbo : Nat → Int32) (se : Int32) (r : Int32) (h : m_X6_kept nbo fbo se = some r) : Ctr l G yX6_kept w2_X6_kept rm_X6_kept [.ref ady, .int se] [(ady, .inr (5, [.ref ads, .ref adx, .ref adbo])), (adbo, .inl (gI G, nbo, .inl fbo))] (fun v w => v = some (.int r) ∧ w = [(ady, .inr (5, [.ref ads, .ref adx, .ref adbo])), (adbo, .inl (gI G, nbo, .inl fbo))]) := by
  refine ctr_entry (cc := cX6_kept) (maxL := 2) (ret := some .int) (lv0 := [(0, .ref ady), (1, .int se)]) (by decide) rfl (Nat.le_of_ble_eq_true rfl) (rfl) ?_
  intro K hl9 hG9 hk hn9 hrt
  subst hl9
  subst hG9
  have hR9 : RoomGe rm_X6_kept rm_X6_kept := RoomGe.rf
  replace h := id_e h
  rw [em_X6_kept] at h
  refine v_iload_n hk dX6_kept_0 rfl ?_
  obtain ⟨y_1, ey_1, h⟩ := bd_e (g := id) rfl h
  have Jy_1 : V K 2 [(ady, .inr (5, [.ref ads, .ref adx, .ref adbo])), (adbo, .inl (gI (kG K), nbo, .inl fbo))] 0 0 23 [(0, .ref ady), (1, .int se)] [.int y_1] := by
    replace h : some y_1 = some r := h
    replace h := Option.some.inj h
    subst h
    refine hrt (some (.int y_1)) _ _ _ _ _ (⟨rfl, rfl⟩) (Nat.zero_le _) (Nat.zero_le _) (dX6_kept_23)
  clear h
  have h := id_e ey_1
  clear ey_1
  refine v_if_le (tgt := 22) hk dX6_kept_1 (by decide) (fun hc => ?_) (fun hc => ?_)
  · replace h := it_t (g := id) h hc
    refine v_iconst (v := 0) hk dX6_kept_22 (by decide) ?_
    replace h : some (0 : Int32) = some y_1 := h
    replace h := Option.some.inj h
    subst h
    exact Jy_1
  · replace h := it_f (g := id) h hc
    refine v_iload_n hk dX6_kept_4 rfl ?_
    refine v_aload_n hk dX6_kept_5 rfl ?_
    refine v_get (C := RX6) (T := TX6) (N := 3) (ci := 5) (v := .ref adbo) hk dX6_kept_6 w2i_X6_kept_X60 0 rfl rfl 2 (by decide) (by decide +kernel) rfl rfl ?_
    refine v_alenI hk dX6_kept_9 1 rfl rfl ?_
    obtain ⟨y_2, ey_2, h⟩ := bd_e (g := id) rfl h
    have Jy_2 : V K 2 [(ady, .inr (5, [.ref ads, .ref adx, .ref adbo])), (adbo, .inl (gI (kG K), nbo, .inl fbo))] 0 0 23 [(0, .ref ady), (1, .int se)] [.int y_2] := by
      replace h : some (y_2 : Int32) = some y_1 := h
      replace h := Option.some.inj h
      subst h
      exact Jy_1
    clear h
    have h := id_e ey_2
    clear ey_2
    refine v_icmp_ge (tgt := 22) hk dX6_kept_10 (by decide) (fun hc => ?_) (fun hc => ?_)
    · replace h := it_t (g := id) h hc
      refine v_iconst (v := 0) hk dX6_kept_22 (by decide) ?_
      replace h : some (0 : Int32) = some y_2 := h
      replace h := Option.some.inj h
      subst h
      exact Jy_2
    · replace h := it_f (g := id) h hc
      refine v_aload_n hk dX6_kept_13 rfl ?_
      refine v_get (C := RX6) (T := TX6) (N := 3) (ci := 5) (v := .ref adbo) hk dX6_kept_14 w2i_X6_kept_X60 0 rfl rfl 2 (by decide) (by decide +kernel) rfl rfl ?_
      refine v_iload_n hk dX6_kept_17 rfl ?_
      obtain ⟨hi, h⟩ := ok_e (g := id) rfl h
      refine v_ialdV hk dX6_kept_18 1 rfl (ix_in hi) ?_
      refine v_goto (tgt := 23) hk dX6_kept_19 (by decide) ?_
      replace h : some (fbo se.toNatClampNeg : Int32) = some y_2 := h
      replace h := Option.some.inj h
      subst h
      exact Jy_2
abbrev rm_X6_keep : Room := { frames := 0, cells := 0, slots := 0, locals := 0 }
set_option maxHeartbeats 4000000 in
set_option maxRecDepth 100000 in
theorem c_X6_keep (l : Launch) (G : GG) (ady : Nat) (adbo : Nat) (ads : Nat) (adx : Nat) (nbo : Nat) (fbo : Nat → Int32) (se : Int32) (gr : Int32) (r : (Nat → Int32)) (h : m_X6_keep nbo fbo se gr = some r) : Ctr l G yX6_keep w2_X6_keep rm_X6_keep [.ref ady, .int se, .int gr] [(ady, .inr (5, [.ref ads, .ref adx, .ref adbo])), (adbo, .inl (gI G, nbo, .inl fbo))] (fun v w => v = none ∧ w = [(ady, .inr (5, [.ref ads, .ref adx, .ref adbo])), (adbo, .inl (gI G, nbo, .inl r))]) := by
  refine ctr_entry (cc := cX6_keep) (maxL := 3) (ret := none) (lv0 := [(0, .ref ady), (1, .int se), (2, .int gr)]) (by decide) rfl (Nat.le_of_ble_eq_true rfl) (rfl) ?_
  intro K hl9 hG9 hk hn9 hrt
  subst hl9
  subst hG9
  have hR9 : RoomGe rm_X6_keep rm_X6_keep := RoomGe.rf
  replace h := id_e h
  rw [em_X6_keep] at h
  refine v_iload_n hk dX6_keep_0 rfl ?_
  refine v_if_le (tgt := 20) hk dX6_keep_1 (by decide) (fun hc => ?_) (fun hc => ?_)
  · replace h := it_t (g := id) h hc
    replace h : some fbo = some r := h
    replace h := Option.some.inj h
    subst h
    refine hrt (none) _ _ _ _ _ (⟨rfl, rfl⟩) (Nat.zero_le _) (Nat.zero_le _) (dX6_keep_20)
  · replace h := it_f (g := id) h hc
    refine v_iload_n hk dX6_keep_4 rfl ?_
    refine v_aload_n hk dX6_keep_5 rfl ?_
    refine v_get (C := RX6) (T := TX6) (N := 3) (ci := 5) (v := .ref adbo) hk dX6_keep_6 w2i_X6_keep_X60 0 rfl rfl 2 (by decide) (by decide +kernel) rfl rfl ?_
    refine v_alenI hk dX6_keep_9 1 rfl rfl ?_
    refine v_icmp_ge (tgt := 20) hk dX6_keep_10 (by decide) (fun hc => ?_) (fun hc => ?_)
    · replace h := it_t (g := id) h hc
      replace h : some fbo = some r := h
      replace h := Option.some.inj h
      subst h
      refine hrt (none) _ _ _ _ _ (⟨rfl, rfl⟩) (Nat.zero_le _) (Nat.zero_le _) (dX6_keep_20)
    · replace h := it_f (g := id) h hc
      refine v_aload_n hk dX6_keep_13 rfl ?_
      refine v_get (C := RX6) (T := TX6) (N := 3) (ci := 5) (v := .ref adbo) hk dX6_keep_14 w2i_X6_keep_X60 0 rfl rfl 2 (by decide) (by decide +kernel) rfl rfl ?_
      refine v_iload_n hk dX6_keep_17 rfl ?_
      refine v_iload_n hk dX6_keep_18 rfl ?_
      obtain ⟨hi, h⟩ := ok_e (g := id) rfl h
      obtain ⟨fbo_1, efbo_1, h⟩ := lt_e (g := id) h
      refine v_iastV hk dX6_keep_19 1 rfl (ix_in hi) (ws' := [(ady, .inr (5, [.ref ads, .ref adx, .ref adbo])), (adbo, .inl (gI (kG K), nbo, .inl fbo_1))]) (by rw [efbo_1]; rfl) ?_
      replace h : some fbo_1 = some r := h
      replace h := Option.some.inj h
      subst h
      refine hrt (none) _ _ _ _ _ (⟨rfl, rfl⟩) (Nat.zero_le _) (Nat.zero_le _) (dX6_keep_20)
abbrev rm_X6_isOpen : Room := { frames := 3, cells := 0, slots := 0, locals := 70 }
set_option maxHeartbeats 4000000 in
set_option maxRecDepth 100000 in
theorem c_X6_isOpen (l : Launch) (G : GG) (ady : Nat) (ads : Nat) (adx : Nat) (adbo : Nat) (adsv : Nat) (adsc : Nat) (nm : Int32) (rw : Int32) (sg : Int32) (ms : Int32) (gr : Int32) (r : Int32) (h : m_X6_isOpen nm rw sg ms gr = some r) : Ctr l G yX6_isOpen w2_X6_isOpen rm_X6_isOpen [.ref ady, .int gr] [(ady, .inr (5, [.ref ads, .ref adx, .ref adbo])), (ads, .inr (7, [.int nm, .int rw, .int sg, .int ms, .ref adsv, .ref adsc]))] (fun v w => v = some (.int r) ∧ w = [(ady, .inr (5, [.ref ads, .ref adx, .ref adbo])), (ads, .inr (7, [.int nm, .int rw, .int sg, .int ms, .ref adsv, .ref adsc]))]) := by
  refine ctr_entry (cc := cX6_isOpen) (maxL := 2) (ret := some .boolean) (lv0 := [(0, .ref ady), (1, .int gr)]) (by decide) rfl (Nat.le_of_ble_eq_true rfl) (rfl) ?_
  intro K hl9 hG9 hk hn9 hrt
  subst hl9
  subst hG9
  have hR9 : RoomGe rm_X6_isOpen rm_X6_isOpen := RoomGe.rf
  replace h := id_e h
  rw [em_X6_isOpen] at h
  refine v_iload_n hk dX6_isOpen_0 rfl ?_
  refine v_aload_n hk dX6_isOpen_1 rfl ?_
  refine v_get (C := RX6) (T := TX6) (N := 3) (ci := 5) (v := .ref ads) hk dX6_isOpen_2 w2i_X6_isOpen_X60 0 rfl rfl 0 (by decide) (by decide +kernel) rfl rfl ?_
  refine v_get (C := RX8) (T := TX8) (N := 6) (ci := 7) (v := .int ms) hk dX6_isOpen_5 w2i_X6_isOpen_X80 1 rfl rfl 3 (by decide) (by decide +kernel) rfl rfl ?_
  obtain ⟨r_1, er_1, h⟩ := bd_e (g := id) rfl h
  refine v_callS (n := 2) (st := []) hk dX6_isOpen_8 (c_X0_areBounded (kl K) (kG K) gr ms r_1 er_1) gd_X6_isOpen_X0_areBounded rfl (by decide +kernel) (frok hR9 (Nat.le_of_ble_eq_true rfl) (Nat.le_of_ble_eq_true rfl)) (roomk hR9 (Nat.le_of_ble_eq_true rfl) (Nat.le_of_ble_eq_true rfl)) rfl rfl (Nat.le_of_ble_eq_true rfl) [] [0, 1] (wr := [(ady, .inr (5, [.ref ads, .ref adx, .ref adbo])), (ads, .inr (7, [.int nm, .int rw, .int sg, .int ms, .ref adsv, .ref adsc]))]) rfl rfl (by decide) (by decide) (by decide) ?_
  intro v9 w9 hp9
  obtain ⟨rfl, rfl⟩ := hp9
  show V K 2 [(ady, .inr (5, [.ref ads, .ref adx, .ref adbo])), (ads, .inr (7, [.int nm, .int rw, .int sg, .int ms, .ref adsv, .ref adsc]))] 0 0 11 [(0, .ref ady), (1, .int gr)] [.int r_1]
  refine v_if_eq (tgt := 32) hk dX6_isOpen_11 (by decide) (fun hc => ?_) (fun hc => ?_)
  · replace h := it_t (g := id) h hc
    refine v_iconst (v := 0) hk dX6_isOpen_32 (by decide) ?_
    replace h : some 0 = some r := h
    replace h := Option.some.inj h
    subst h
    refine hrt (some (.int 0)) _ _ _ _ _ (⟨rfl, rfl⟩) (Nat.zero_le _) (Nat.zero_le _) (⟨dX6_isOpen_33, rfl⟩)
  · replace h := it_f (g := id) h hc
    refine v_iload_n hk dX6_isOpen_14 rfl ?_
    refine v_aload_n hk dX6_isOpen_15 rfl ?_
    refine v_get (C := RX6) (T := TX6) (N := 3) (ci := 5) (v := .ref ads) hk dX6_isOpen_16 w2i_X6_isOpen_X60 0 rfl rfl 0 (by decide) (by decide +kernel) rfl rfl ?_
    refine v_get (C := RX8) (T := TX8) (N := 6) (ci := 7) (v := .int nm) hk dX6_isOpen_19 w2i_X6_isOpen_X80 1 rfl rfl 0 (by decide) (by decide +kernel) rfl rfl ?_
    obtain ⟨r_2, er_2, h⟩ := bd_e (g := id) rfl h
    refine v_callS (n := 2) (st := []) hk dX6_isOpen_22 (c_X0_haveNoRound (kl K) (kG K) gr nm r_2 er_2) gd_X6_isOpen_X0_haveNoRound rfl (by decide +kernel) (frok hR9 (Nat.le_of_ble_eq_true rfl) (Nat.le_of_ble_eq_true rfl)) (roomk hR9 (Nat.le_of_ble_eq_true rfl) (Nat.le_of_ble_eq_true rfl)) rfl rfl (Nat.le_of_ble_eq_true rfl) [] [0, 1] (wr := [(ady, .inr (5, [.ref ads, .ref adx, .ref adbo])), (ads, .inr (7, [.int nm, .int rw, .int sg, .int ms, .ref adsv, .ref adsc]))]) rfl rfl (by decide) (by decide) (by decide) ?_
    intro v9 w9 hp9
    obtain ⟨rfl, rfl⟩ := hp9
    show V K 2 [(ady, .inr (5, [.ref ads, .ref adx, .ref adbo])), (ads, .inr (7, [.int nm, .int rw, .int sg, .int ms, .ref adsv, .ref adsc]))] 0 0 25 [(0, .ref ady), (1, .int gr)] [.int r_2]
    obtain ⟨z_3, ez_3, h⟩ := lt_e (g := id) h
    have Jz_3 : V K 2 [(ady, .inr (5, [.ref ads, .ref adx, .ref adbo])), (ads, .inr (7, [.int nm, .int rw, .int sg, .int ms, .ref adsv, .ref adsc]))] 0 0 33 [(0, .ref ady), (1, .int gr)] (.int z_3 :: []) := by
      obtain ⟨hbz, h⟩ := ok_e (g := id) rfl h
      replace h : some z_3 = some r := h
      replace h := Option.some.inj h
      subst h
      refine hrt (some (.int z_3)) _ _ _ _ _ (⟨rfl, rfl⟩) (Nat.zero_le _) (Nat.zero_le _) (⟨dX6_isOpen_33, nar_z _ (of_decide_eq_true hbz)⟩)
    refine v_if_eq (tgt := 32) hk dX6_isOpen_25 (by decide) (fun hc => ?_) (fun hc => ?_)
    · rw [if_pos hc] at ez_3
      subst ez_3
      refine v_iconst (v := 0) hk dX6_isOpen_32 (by decide) ?_
      exact Jz_3
    · rw [if_neg hc] at ez_3
      subst ez_3
      refine v_iconst (v := 1) hk dX6_isOpen_28 (by decide) ?_
      refine v_goto (tgt := 33) hk dX6_isOpen_29 (by decide) ?_
      exact Jz_3
