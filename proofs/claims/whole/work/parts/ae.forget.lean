/-! Fits.forget -/
abbrev rm_X2_forget : Room := { frames := 0, cells := 0, slots := 0, locals := 0 }
set_option maxRecDepth 100000 in
theorem c_X2_forget (l : Launch) (G : GG) (A : Nat → Nat) (wg rdw : Int32) {h : Nat → Option Nat} {M : List En} (hM : MO M h) : Ctr l G yX2_forget w2_X2_forget rm_X2_forget [.ref (A 0)] ([((A 0), .inr (1, [.ref (A 14), .ref (A 1), .ref (A 3), .ref (A 4), .ref (A 5), .int wg, .ref (A 10), .ref (A 12)])), ((A 5), .inr (2, [.ref (A 6), .ref (A 8), .int rdw])), ((A 3), .inl (gF G, 160, .inr (.inr (.inr (.inr h)))))] ++ M.flatMap (ec G)) (fun v w => v = none ∧ ∃ M1, w = [((A 0), .inr (1, [.ref (A 14), .ref (A 1), .ref (A 3), .ref (A 4), .ref (A 5), .int wg, .ref (A 10), .ref (A 12)])), ((A 5), .inr (2, [.ref (A 6), .ref (A 8), .int 0])), ((A 3), .inl (gF G, 160, .inr (.inr (.inr (.inr h)))))] ++ M1.flatMap (ec G) ∧ MO M1 h ∧ (∀ e ∈ M1, e.2.2.1 = 0) ∧ M1.length = M.length) := by
  refine ctr_entry (cc := cX2_forget) (maxL := 2) (ret := none) (lv0 := [(0, .ref (A 0))]) (by decide) rfl (Nat.le_of_ble_eq_true rfl) rfl ?_
  intro K hl9 hG9 hk hn9 hrt
  subst hl9
  subst hG9
  have LP : ∀ (k i : Nat), i + k = 160 → ∀ (M1 : List En), MO M1 h → (∀ e ∈ M1, e.1 < i → e.2.2.1 = 0) → M1.length = M.length → V K 2 ([((A 0), .inr (1, [.ref (A 14), .ref (A 1), .ref (A 3), .ref (A 4), .ref (A 5), .int wg, .ref (A 10), .ref (A 12)])), ((A 5), .inr (2, [.ref (A 6), .ref (A 8), .int 0])), ((A 3), .inl (gF (kG K), 160, .inr (.inr (.inr (.inr h)))))] ++ M1.flatMap (ec (kG K))) 0 0 10 [(0, .ref (A 0)), (1, .int (nI i))] [] := by
    intro k
    induction k with
    | zero =>
      intro i hi M1 hM1 hz hlen
      have hi : i = 160 := hi
      subst hi
      refine v_iload_n hk dX2_forget_10 rfl ?_
      refine v_aload_n hk dX2_forget_11 rfl ?_
      refine v_get (C := RX2) (T := TX2) (N := 8) (ci := 1) (v := .ref (A 3)) hk dX2_forget_12 w2i_X2_forget_X20 0 rfl rfl 2 (by decide) (by decide +kernel) rfl rfl ?_
      refine v_alenF hk dX2_forget_15 2 rfl rfl ?_
      refine v_icmp_ge (tgt := 44) hk dX2_forget_16 (by decide) (fun _ => ?_) (fun hc => absurd (Int32.le_refl _) hc)
      exact hrt none _ _ _ _ _ ⟨rfl, M1, rfl, hM1, fun e he => hz e he (hM1.1 e he).2, hlen⟩ (Nat.zero_le _) (Nat.zero_le _) dX2_forget_44
    | succ k ih =>
      intro i hi M1 hM1 hz hlen
      refine v_iload_n hk dX2_forget_10 rfl ?_
      refine v_aload_n hk dX2_forget_11 rfl ?_
      refine v_get (C := RX2) (T := TX2) (N := 8) (ci := 1) (v := .ref (A 3)) hk dX2_forget_12 w2i_X2_forget_X20 0 rfl rfl 2 (by decide) (by decide +kernel) rfl rfl ?_
      refine v_alenF hk dX2_forget_15 2 rfl rfl ?_
      refine v_icmp_ge (tgt := 44) hk dX2_forget_16 (by decide) (fun hc => absurd hc (fun z => by have := (nle (by omega) (by omega)).mp z; omega)) (fun _ => ?_)
      refine v_aload_n hk dX2_forget_19 rfl ?_
      refine v_get (C := RX2) (T := TX2) (N := 8) (ci := 1) (v := .ref (A 3)) hk dX2_forget_20 w2i_X2_forget_X20 0 rfl rfl 2 (by decide) (by decide +kernel) rfl rfl ?_
      refine v_iload_n hk dX2_forget_23 rfl ?_
      cases hh : h i with
      | none =>
        refine v_aaldF (v := .null) hk dX2_forget_24 2 rfl (ix_in (ixn (by omega) (by omega))) (by rw [nI_clamp (by omega), hh]; rfl) ?_
        refine v_ifnullN (tgt := 38) hk dX2_forget_25 (by decide) ?_
        refine v_iinc (v := nI i + 1) hk dX2_forget_38 rfl rfl (by decide) [1, 0] (lv' := [(0, .ref (A 0)), (1, .int (nI i + 1))]) rfl ?_
        refine v_goto (tgt := 10) hk dX2_forget_41 (by decide) ?_
        rw [nI_1]
        exact ih (i + 1) (by omega) M1 hM1 (fun e he hlt => by
          by_cases q : e.1 = i
          · have := (hM1.1 e he).1
            rw [q, hh] at this
            cases this
          · exact hz e he (by omega)) hlen
      | some f9 =>
        refine v_aaldF (v := .ref f9) hk dX2_forget_24 2 rfl (ix_in (ixn (by omega) (by omega))) (by rw [nI_clamp (by omega), hh]; rfl) ?_
        refine v_ifnull hk dX2_forget_25 ?_
        refine v_aload_n hk dX2_forget_28 rfl ?_
        refine v_get (C := RX2) (T := TX2) (N := 8) (ci := 1) (v := .ref (A 3)) hk dX2_forget_29 w2i_X2_forget_X20 0 rfl rfl 2 (by decide) (by decide +kernel) rfl rfl ?_
        refine v_iload_n hk dX2_forget_32 rfl ?_
        refine v_aaldF (v := .ref f9) hk dX2_forget_33 2 rfl (ix_in (ixn (by omega) (by omega))) (by rw [nI_clamp (by omega), hh]; rfl) ?_
        obtain ⟨e, he, a1, a2⟩ := hM1.2.1 _ _ hh
        obtain ⟨s1, t1, rfl⟩ := List.append_of_mem he
        obtain ⟨i0, ⟨aF, aA, aAw, aB, aBw⟩, rd, ⟨ua, fa⟩, ub, fb⟩ := e
        have a1 : i0 = i := a1
        have a2 : aF = f9 := a2
        subst a1
        subst a2
        refine v_lperm (ws' := [((A 0), .inr (1, [.ref (A 14), .ref (A 1), .ref (A 3), .ref (A 4), .ref (A 5), .int wg, .ref (A 10), .ref (A 12)])), ((A 5), .inr (2, [.ref (A 6), .ref (A 8), .int 0])), ((A 3), .inl (gF (kG K), 160, .inr (.inr (.inr (.inr h))))), (aF, .inr (2, [.ref aA, .ref aB, .int rd])), (aA, .inr (0, [.ref aAw, .int ua])), (aAw, .inl (gJ (kG K), 6, .inr (.inl fa))), (aB, .inr (0, [.ref aBw, .int ub])), (aBw, .inl (gJ (kG K), 6, .inr (.inl fb)))] ++ (s1 ++ t1).flatMap (ec (kG K))) pm_ent ?_
        refine v_iconst (v := 0) hk dX2_forget_34 (by decide) ?_
        refine v_put (C := RX3) (T := TX3) (N := 3) (ci := 2) (v := .int 0) (ty := .boolean) hk dX2_forget_35 w2i_X2_forget_X30 tyX3 tyX3_ok nmX3 3 rfl rfl 2 (by decide) (by decide +kernel) rfl rfl (by decide +kernel) rfl rfl (Nat.le_of_ble_eq_true rfl) (ws' := [((A 0), .inr (1, [.ref (A 14), .ref (A 1), .ref (A 3), .ref (A 4), .ref (A 5), .int wg, .ref (A 10), .ref (A 12)])), ((A 5), .inr (2, [.ref (A 6), .ref (A 8), .int 0])), ((A 3), .inl (gF (kG K), 160, .inr (.inr (.inr (.inr h))))), (aF, .inr (2, [.ref aA, .ref aB, .int 0])), (aA, .inr (0, [.ref aAw, .int ua])), (aAw, .inl (gJ (kG K), 6, .inr (.inl fa))), (aB, .inr (0, [.ref aBw, .int ub])), (aBw, .inl (gJ (kG K), 6, .inr (.inl fb)))] ++ (s1 ++ t1).flatMap (ec (kG K))) rfl ?_
        refine v_iinc (v := nI i0 + 1) hk dX2_forget_38 rfl rfl (by decide) [1, 0] (lv' := [(0, .ref (A 0)), (1, .int (nI i0 + 1))]) rfl ?_
        refine v_goto (tgt := 10) hk dX2_forget_41 (by decide) ?_
        have hpm : List.Perm (α := Nat × va_E) ([((A 0), .inr (1, [.ref (A 14), .ref (A 1), .ref (A 3), .ref (A 4), .ref (A 5), .int wg, .ref (A 10), .ref (A 12)])), ((A 5), .inr (2, [.ref (A 6), .ref (A 8), .int 0])), ((A 3), .inl (gF (kG K), 160, .inr (.inr (.inr (.inr h)))))] ++ (s1 ++ ((i0, (aF, aA, aAw, aB, aBw), 0, (ua, fa), ub, fb) : En) :: t1).flatMap (ec (kG K))) ([((A 0), .inr (1, [.ref (A 14), .ref (A 1), .ref (A 3), .ref (A 4), .ref (A 5), .int wg, .ref (A 10), .ref (A 12)])), ((A 5), .inr (2, [.ref (A 6), .ref (A 8), .int 0])), ((A 3), .inl (gF (kG K), 160, .inr (.inr (.inr (.inr h))))), (aF, .inr (2, [.ref aA, .ref aB, .int 0])), (aA, .inr (0, [.ref aAw, .int ua])), (aAw, .inl (gJ (kG K), 6, .inr (.inl fa))), (aB, .inr (0, [.ref aBw, .int ub])), (aBw, .inl (gJ (kG K), 6, .inr (.inl fb)))] ++ (s1 ++ t1).flatMap (ec (kG K))) := pm_ent
        refine v_lperm hpm.symm ?_
        rw [nI_1]
        refine ih (i0 + 1) (by omega) _ (hM1.put rfl rfl) (fun e he2 hlt => ?_) (by rw [← hlen, List.length_append, List.length_append, List.length_cons, List.length_cons])
        rcases List.mem_append.mp he2 with q | q
        · have hn := hM1.2.2
          rw [List.map_append, List.map_cons] at hn
          have hne : e.1 ≠ i0 := fun z => (List.nodup_append.mp hn).2.2 e.1 (List.mem_map_of_mem q) e.1 (by rw [z]; exact List.mem_cons_self) rfl
          exact hz e (List.mem_append_left _ q) (by omega)
        · rcases List.mem_cons.mp q with q | q
          · subst q; rfl
          · have hn := hM1.2.2
            rw [List.map_append, List.map_cons] at hn
            have hne : e.1 ≠ i0 := fun z => (List.nodup_cons.mp (List.nodup_append.mp hn).2.1).1 (by have := List.mem_map_of_mem (f := fun e : En => e.1) q; rw [show e.1 = i0 from z] at this; exact this)
            exact hz e (List.mem_append_right _ (List.mem_cons_of_mem _ q)) (by omega)
  show V K 2 ([((A 0), .inr (1, [.ref (A 14), .ref (A 1), .ref (A 3), .ref (A 4), .ref (A 5), .int wg, .ref (A 10), .ref (A 12)])), ((A 5), .inr (2, [.ref (A 6), .ref (A 8), .int rdw])), ((A 3), .inl (gF (kG K), 160, .inr (.inr (.inr (.inr h)))))] ++ M.flatMap (ec (kG K))) 0 0 0 [(0, .ref (A 0))] []
  refine v_aload_n hk dX2_forget_0 rfl ?_
  refine v_get (C := RX2) (T := TX2) (N := 8) (ci := 1) (v := .ref (A 5)) hk dX2_forget_1 w2i_X2_forget_X20 0 rfl rfl 4 (by decide) (by decide +kernel) rfl rfl ?_
  refine v_iconst (v := 0) hk dX2_forget_4 (by decide) ?_
  refine v_put (C := RX3) (T := TX3) (N := 3) (ci := 2) (v := .int 0) (ty := .boolean) hk dX2_forget_5 w2i_X2_forget_X30 tyX3 tyX3_ok nmX3 1 rfl rfl 2 (by decide) (by decide +kernel) rfl rfl (by decide +kernel) rfl rfl (Nat.le_of_ble_eq_true rfl) (ws' := [((A 0), .inr (1, [.ref (A 14), .ref (A 1), .ref (A 3), .ref (A 4), .ref (A 5), .int wg, .ref (A 10), .ref (A 12)])), ((A 5), .inr (2, [.ref (A 6), .ref (A 8), .int 0])), ((A 3), .inl (gF (kG K), 160, .inr (.inr (.inr (.inr h)))))] ++ M.flatMap (ec (kG K))) rfl ?_
  refine v_iconst (v := 0) hk dX2_forget_8 (by decide) ?_
  refine v_istore_n hk dX2_forget_9 rfl (by decide) [1, 0] (lv' := [(0, .ref (A 0)), (1, .int 0)]) rfl ?_
  exact LP 160 0 (by omega) M hM (fun e he h0 => absurd h0 (Nat.not_lt_zero _)) rfl
