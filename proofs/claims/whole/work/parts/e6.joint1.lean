/-! every method of both: the same answer, and the worlds agree again -/
theorem CG.mono {kc ks9 : Nat} {l : Launch} {G : GG} {y : MethodName} {wsy : List Cond} {av : List Value} {ws : va_W} {post post2 : Option Value → va_W → Prop} (h : CG kc ks9 l G y wsy av ws post) (hpost : ∀ v w1, post v w1 → post2 v w1) : CG kc ks9 l G y wsy av ws post2 :=
  CG.conv (wr := []) (List.Perm.refl _) h (fun v w1 hp => ⟨w1, List.Perm.refl _, hpost v w1 hp⟩)
theorem pm_mix {L wr wc X S : va_W} (h : L.Perm (wr ++ wc)) : (L ++ (X ++ S)).Perm ((wr ++ S) ++ (wc ++ X)) := by
  refine (h.append_right _).trans ?_
  rw [List.append_assoc, List.append_assoc]
  refine List.Perm.append_left wr ?_
  rw [← List.append_assoc]
  exact List.perm_append_comm
abbrev c4 (G : GG) (A : Nat → Nat) (vs : Value) (i1 i2 i3 i4 : Int32) (fsv fsc : Nat → Int32) : va_W := [((A 17), .inr (9, [.ref (A 14), .ref (A 1), .ref (A 0), .ref (A 18), .ref (A 20), vs])), ((A 14), .inr (7, [.int i1, .int i2, .int i3, .int i4, .ref (A 15), .ref (A 16)])), ((A 15), .inl (gI G, 5, .inl fsv)), ((A 16), .inl (gI G, 16, .inl fsc))]
abbrev c6 (G : GG) (A : Nat → Nat) (fbo ftc ftf fts : Nat → Int32) : va_W := [((A 18), .inr (5, [.ref (A 14), .ref (A 0), .ref (A 19)])), ((A 19), .inl (gI G, 32, .inl fbo)), ((A 20), .inr (8, [.ref (A 14), .ref (A 21), .ref (A 22), .ref (A 23)])), ((A 21), .inl (gI G, 9, .inl ftc)), ((A 22), .inl (gI G, 3, .inl ftf)), ((A 23), .inl (gI G, 3, .inl fts))]
section J1
variable {l : Launch} {G : GG} {A : Nat → Nat} {o : Nat} {B : Nat → Nat} {cell : Nat → Nat → Nat} {vals : Nat → Nat} {N R w ms : Nat} {wx wy : va_W}
theorem pm_46 {vs : Value} {i1 i2 i3 i4 : Int32} {fsv fsc fbo ftc ftf fts : Nat → Int32} : (cL G A vs i1 i2 i3 i4 fsv fsc fbo ftc ftf fts).Perm (c6 G A fbo ftc ftf fts ++ c4 G A vs i1 i2 i3 i4 fsv fsc) := pm_pl [4, 5, 6, 7, 8, 9] [0, 1, 2, 3] 10 rfl (by decide +kernel) rfl rfl
theorem kx {vs : Value} {i1 i2 i3 i4 : Int32} {fsv fsc fbo ftc ftf fts : Nat → Int32} {X : va_W} {y : MethodName} {wsy : List Cond} {rm : Room} {av : List Value} {post post2 : Option Value → va_W → Prop} (hb : rm.frames ≤ 10 ∧ rm.locals ≤ 400 ∧ rm.cells ≤ 820 ∧ rm.slots ≤ 10400) (h : Ctr l G y wsy rm av (c4 G A vs i1 i2 i3 i4 fsv fsc ++ X) post)
    (hpost : ∀ v w1, post v w1 → ∃ vs' j1 j2 j3 j4 fsv' fsc' X', w1 = c4 G A vs' j1 j2 j3 j4 fsv' fsc' ++ X' ∧ post2 v (cL G A vs' j1 j2 j3 j4 fsv' fsc' fbo ftc ftf fts ++ X')) : CG 820 10400 l G y wsy av (cL G A vs i1 i2 i3 i4 fsv fsc fbo ftc ftf fts ++ X) post2 := by
  refine ⟨rm, hb.1, hb.2.1, by have := hb.2.2.1; omega, by have := hb.2.2.2; omega, Or.inl ⟨hb.2.2.1, hb.2.2.2, ctr_conv (wr := c6 G A fbo ftc ftf fts) (pm_front pm_46) h ?_⟩⟩
  intro v w1 hp
  obtain ⟨vs', j1, j2, j3, j4, fsv', fsc', X', rfl, h2⟩ := hpost v w1 hp
  exact ⟨_, (pm_front pm_46).symm, h2⟩
theorem QS0 {a b c : Int32} {v : Nat → Nat} (h : Q0 a b c v) : QS cell vals N R w ms a b c v := Or.inl h
theorem jn_clear (hC : CW G A cell vals N R w ms wx) (hR : RW G o B cell vals N R w ms wy) : JN l G A o B yX10_clear w2_X10_clear yX11_clear w2_X11_clear [] isI wx wy := by
  obtain ⟨n, vs, fsv, fsc, fbo, ftc, ftf, fts, wxF, wxS, hS, hms, hF, hSh, rfl⟩ := hC
  obtain ⟨i5, i6, F, hM, hK, hT, rfl⟩ := hR
  obtain ⟨fk', e, hz⟩ := p_clear (i1 := nI N) (i2 := nI R) (i3 := nI w) (i4 := nI ms) (i5 := i5) (i6 := i6) (F 11)
  refine ⟨.int (nI R), cell, vals, 0, 0, 1, 4, ⟨_, rfl⟩, kx ⟨by decide, by decide, by decide, by decide⟩ (k_clear l G A hF hSh) ?_, CG.mono (rf_clear _ e) ?_⟩
  · rintro v w1 ⟨rfl, wxF', wxS', rfl, hZ, hS'⟩
    exact ⟨_, _, _, _, _, _, _, _, rfl, rfl, n, vs, fsv, fsc, fbo, ftc, ftf, fts, wxF', wxS', CS_0, by omega, hZ.k _ _ _ _ _, hS'.to (fun _ _ _ _ => QS0), rfl⟩
  · rintro v u ⟨rfl, rfl⟩
    exact ⟨rfl, _, _, _, MS_0, MK_z (by omega) hz, TOLD_0, rfl⟩
theorem jn_name (hC : CW G A cell vals N R w ms wx) (hR : RW G o B cell vals N R w ms wy) (x : Int32) : JN l G A o B yX10_name w2_X10_name yX11_name w2_X11_name [.int x] isI wx wy := by
  obtain ⟨n, vs, fsv, fsc, fbo, ftc, ftf, fts, wxF, wxS, hS, hms, hF, hSh, rfl⟩ := hC
  obtain ⟨i5, i6, F, hM, hK, hT, rfl⟩ := hR
  rcases p_name (i4 := nI ms) (i5 := i5) (i6 := i6) hS hM (F 11) x with ⟨r, e1, e2⟩ | ⟨hx, hR0, hN5, f1, fk', fv', e1, e2, hz, hC2, hM2⟩
  · refine ⟨.int r, cell, vals, N, R, w, ms, ⟨_, rfl⟩, CG.mono (kf_name x r e1) ?_, CG.mono (rf_name x _ e2) ?_⟩
    · rintro v u ⟨rfl, rfl⟩
      exact ⟨rfl, n, vs, fsv, fsc, fbo, ftc, ftf, fts, wxF, wxS, hS, hms, hF, hSh, rfl⟩
    · rintro v u ⟨rfl, rfl⟩
      exact ⟨rfl, _, _, _, hM, hK, hT, rfl⟩
  · refine ⟨.int (nI N), cell, vlN vals N x, N + 1, R, w, ms, ⟨_, rfl⟩, kx ⟨by decide, by decide, by decide, by decide⟩ (k_name l G A hF hSh hx hR0 hN5 e1) ?_, CG.mono (rf_name x _ e2) ?_⟩
    · rintro v w1 ⟨rfl, wxF', wxS', rfl, hZ, hS'⟩
      exact ⟨_, _, _, _, _, _, _, _, rfl, rfl, n, vs, f1, fsc, fbo, ftc, ftf, fts, wxF', wxS', hC2, hms, hZ.k _ _ _ _ _, hS'.to (fun _ _ _ _ => QS0), rfl⟩
    · rintro v u ⟨rfl, rfl⟩
      exact ⟨rfl, _, _, _, hM2, MK_z hM2.1 hz, TOLD_0, rfl⟩
theorem jn_row (hC : CW G A cell vals N R w ms wx) (hR : RW G o B cell vals N R w ms wy) (p0 p1 p2 p3 p4 : Int32) : JN l G A o B yX10_row w2_X10_row yX11_row w2_X11_row [.int p0, .int p1, .int p2, .int p3, .int p4] isI wx wy := by
  obtain ⟨n, vs, fsv, fsc, fbo, ftc, ftf, fts, wxF, wxS, hS, hms, hF, hSh, rfl⟩ := hC
  obtain ⟨i5, i6, F, hM, hK, hT, rfl⟩ := hR
  rcases p_row (i4 := nI ms) (i5 := i5) (i6 := i6) hS hM (F 11) p0 p1 p2 p3 p4 with ⟨r, e1, e2⟩ | ⟨g0, g1, g2, g3, g4, hN0, hR16, k0, k1, k2, k3, k4, f1, fk', fc', c0, c1, c2, c3, c4, e1, e2, hz, hC2, hM2⟩
  · refine ⟨.int r, cell, vals, N, R, w, ms, ⟨_, rfl⟩, CG.mono (kf_row p0 p1 p2 p3 p4 r e1) ?_, CG.mono (rf_row p0 p1 p2 p3 p4 _ e2) ?_⟩
    · rintro v u ⟨rfl, rfl⟩
      exact ⟨rfl, n, vs, fsv, fsc, fbo, ftc, ftf, fts, wxF, wxS, hS, hms, hF, hSh, rfl⟩
    · rintro v u ⟨rfl, rfl⟩
      exact ⟨rfl, _, _, _, hM, hK, hT, rfl⟩
  · refine ⟨.int (nI R), rwA cell R (rwP p0 p1 p2 p3 p4), vals, N, R + 1, w, ms, ⟨_, rfl⟩, kx ⟨by decide, by decide, by decide, by decide⟩ (k_row l G A hF hSh g0 g1 g2 g3 g4 hN0 hS.1 hR16 c0 c1 c2 c3 c4 e1) ?_, CG.mono (rf_row p0 p1 p2 p3 p4 _ e2) ?_⟩
    · rintro v w1 ⟨rfl, wxF', wxS', rfl, hZ, hS'⟩
      exact ⟨_, _, _, _, _, _, _, _, rfl, rfl, n, vs, fsv, f1, fbo, ftc, ftf, fts, wxF', wxS', hC2, hms, hZ.k _ _ _ _ _, hS'.to (fun _ _ _ _ => QS0), rfl⟩
    · rintro v u ⟨rfl, rfl⟩
      exact ⟨rfl, _, _, _, hM2, MK_z hM2.1 hz, TOLD_0, rfl⟩
theorem jn_drop (hC : CW G A cell vals N R w ms wx) (hR : RW G o B cell vals N R w ms wy) (x : Int32) : JN l G A o B yX10_drop w2_X10_drop yX11_drop w2_X11_drop [.int x] isI wx wy := by
  obtain ⟨n, vs, fsv, fsc, fbo, ftc, ftf, fts, wxF, wxS, hS, hms, hF, hSh, rfl⟩ := hC
  obtain ⟨i5, i6, F, hM, hK, hT, rfl⟩ := hR
  rcases p_drop (i4 := nI ms) (i5 := i5) (i6 := i6) hS hM (F 11) x with ⟨e1, e2⟩ | ⟨hr, hR0, f1, fk', fc', e1, e2, hz, hC2, hM2⟩
  · refine ⟨.int (-1), cell, vals, N, R, w, ms, ⟨_, rfl⟩, CG.mono (kf_drop x _ e1) ?_, CG.mono (rf_drop x _ e2) ?_⟩
    · rintro v u ⟨rfl, rfl⟩
      exact ⟨rfl, n, vs, fsv, fsc, fbo, ftc, ftf, fts, wxF, wxS, hS, hms, hF, hSh, rfl⟩
    · rintro v u ⟨rfl, rfl⟩
      exact ⟨rfl, _, _, _, hM, hK, hT, rfl⟩
  · refine ⟨.int (nI (R - 1)), rwD cell (u3 x), vals, N, R - 1, w, ms, ⟨_, rfl⟩, kx ⟨by decide, by decide, by decide, by decide⟩ (k_drop l G A hF hSh hr e1) ?_, CG.mono (rf_drop x _ e2) ?_⟩
    · rintro v w1 ⟨rfl, wxF', wxS', rfl, hZ, hS'⟩
      exact ⟨_, _, _, _, _, _, _, _, rfl, rfl, n, vs, fsv, f1, fbo, ftc, ftf, fts, wxF', wxS', hC2, hms, hZ.k _ _ _ _ _, hS'.to (fun _ _ _ _ => QS0), rfl⟩
    · rintro v u ⟨rfl, rfl⟩
      exact ⟨rfl, _, _, _, hM2, MK_z hM2.1 hz, TOLD_0, rfl⟩
theorem jn_set (hC : CW G A cell vals N R w ms wx) (hR : RW G o B cell vals N R w ms wy) (x y : Int32) : JN l G A o B yX10_set w2_X10_set yX11_set w2_X11_set [.int x, .int y] isI wx wy := by
  obtain ⟨n, vs, fsv, fsc, fbo, ftc, ftf, fts, wxF, wxS, hS, hms, hF, hSh, rfl⟩ := hC
  obtain ⟨i5, i6, F, hM, hK, hT, rfl⟩ := hR
  rcases p_set (i4 := nI ms) (i5 := i5) (i6 := i6) hS hM (F 11) x y with ⟨e1, e2⟩ | ⟨fk', hz, ⟨rfl, h1, h9, e2, hy, hC2, hM2⟩ | ⟨rfl, h0, h4, e2, hy, hy4⟩⟩
  · refine ⟨.int (-1), cell, vals, N, R, w, ms, ⟨_, rfl⟩, CG.mono (kf_set x y _ e1) ?_, CG.mono (rf_set x y _ e2) ?_⟩
    · rintro v u ⟨rfl, rfl⟩
      exact ⟨rfl, n, vs, fsv, fsc, fbo, ftc, ftf, fts, wxF, wxS, hS, hms, hF, hSh, rfl⟩
    · rintro v u ⟨rfl, rfl⟩
      exact ⟨rfl, _, _, _, hM, hK, hT, rfl⟩
  · generalize u3 y = k at *
    subst hy
    refine ⟨.int (nI w), cell, vals, N, R, k, ms, ⟨_, rfl⟩, kx ⟨by decide, by decide, by decide, by decide⟩ (k_set0 l G A hF hSh h1 h9) ?_, CG.mono (rf_set 0 (nI k) _ e2) ?_⟩
    · rintro v w1 ⟨rfl, wxF', wxS', rfl, hZ, hS'⟩
      exact ⟨_, _, _, _, _, _, _, _, rfl, rfl, n, vs, fsv, fsc, fbo, ftc, ftf, fts, wxF', wxS', hC2, hms, hZ.k _ _ _ _ _, hS'.to (fun _ _ _ _ => QS0), rfl⟩
    · rintro v u ⟨rfl, rfl⟩
      exact ⟨rfl, _, _, sF F [(11, fk')], hM2, MK_z hM2.1 hz, TOLD_0, rfl⟩
  · generalize u3 y = k at *
    subst hy
    refine ⟨.int (nI ms), cell, vals, N, R, w, k, ⟨_, rfl⟩, kx ⟨by decide, by decide, by decide, by decide⟩ (k_set1 l G A hF hSh h0 h4) ?_, CG.mono (rf_set 1 (nI k) _ e2) ?_⟩
    · rintro v w1 ⟨rfl, wxS', rfl, hS'⟩
      exact ⟨_, _, _, _, _, _, _, _, rfl, rfl, n, vs, fsv, fsc, fbo, ftc, ftf, fts, wxF, wxS', hS, hy4, hF, hS'.to (fun _ _ _ _ => QS0), rfl⟩
    · rintro v u ⟨rfl, rfl⟩
      exact ⟨rfl, _, _, sF F [(11, fk')], hM, MK_z hM.1 hz, TOLD_0, rfl⟩
theorem jn_value (hC : CW G A cell vals N R w ms wx) (hR : RW G o B cell vals N R w ms wy) (x y : Int32) : JN l G A o B yX10_value w2_X10_value yX11_value w2_X11_value [.int x, .int y] isI wx wy := by
  obtain ⟨n, vs, fsv, fsc, fbo, ftc, ftf, fts, wxF, wxS, hS, hms, hF, hSh, rfl⟩ := hC
  obtain ⟨i5, i6, F, hM, hK, hT, rfl⟩ := hR
  obtain ⟨r, e1, e2⟩ := p_value (j3 := nI w) (j4 := nI ms) (i3 := nI w) (i4 := nI ms) (i5 := i5) (i6 := i6) hS hM x y
  refine ⟨.int r, cell, vals, N, R, w, ms, ⟨_, rfl⟩, CG.mono (kf_value x y r e1) ?_, CG.mono (rf_value x y r e2) ?_⟩
  · rintro v u ⟨rfl, rfl⟩
    exact ⟨rfl, n, vs, fsv, fsc, fbo, ftc, ftf, fts, wxF, wxS, hS, hms, hF, hSh, rfl⟩
  · rintro v u ⟨rfl, rfl⟩
    exact ⟨rfl, _, _, _, hM, hK, hT, rfl⟩
theorem jn_about (hC : CW G A cell vals N R w ms wx) (hR : RW G o B cell vals N R w ms wy) (x : Int32) : JN l G A o B yX10_about w2_X10_about yX11_about w2_X11_about [.int x] isI wx wy := by
  obtain ⟨n, vs, fsv, fsc, fbo, ftc, ftf, fts, wxF, wxS, hS, hms, hF, hSh, rfl⟩ := hC
  obtain ⟨i5, i6, F, hM, hK, hT, rfl⟩ := hR
  obtain ⟨r, e1, e2⟩ := p_about (i4 := nI ms) (i5 := i5) (i6 := i6) hS hM x
  refine ⟨.int r, cell, vals, N, R, w, ms, ⟨_, rfl⟩, CG.mono (kf_about x r e1) ?_, CG.mono (rf_about x r e2) ?_⟩
  · rintro v u ⟨rfl, rfl⟩
    exact ⟨rfl, n, vs, fsv, fsc, fbo, ftc, ftf, fts, wxF, wxS, hS, hms, hF, hSh, rfl⟩
  · rintro v u ⟨rfl, rfl⟩
    exact ⟨rfl, _, _, _, hM, hK, hT, rfl⟩
theorem jn_isGraph (hC : CW G A cell vals N R w ms wx) (hR : RW G o B cell vals N R w ms wy) (x : Int32) : JN l G A o B yX10_isGraph w2_X10_isGraph yX11_isGraph w2_X11_isGraph [.int x] isI wx wy := by
  obtain ⟨n, vs, fsv, fsc, fbo, ftc, ftf, fts, wxF, wxS, hS, hms, hF, hSh, rfl⟩ := hC
  obtain ⟨i5, i6, F, hM, hK, hT, rfl⟩ := hR
  obtain ⟨r, e1, e2⟩ := p_isGraph (j2 := nI R) (j3 := nI w) (j4 := nI ms) (i2 := nI R) (i3 := nI w) (i4 := nI ms) (i5 := i5) (i6 := i6) hS.1 x
  refine ⟨.int r, cell, vals, N, R, w, ms, ⟨_, rfl⟩, CG.mono (kf_isGraph x r e1) ?_, CG.mono (rf_isGraph x r e2) ?_⟩
  · rintro v u ⟨rfl, rfl⟩
    exact ⟨rfl, n, vs, fsv, fsc, fbo, ftc, ftf, fts, wxF, wxS, hS, hms, hF, hSh, rfl⟩
  · rintro v u ⟨rfl, rfl⟩
    exact ⟨rfl, _, _, _, hM, hK, hT, rfl⟩
theorem jn_order (hC : CW G A cell vals N R w ms wx) (hR : RW G o B cell vals N R w ms wy) (x y : Int32) : JN l G A o B yX10_order w2_X10_order yX11_order w2_X11_order [.int x, .int y] isI wx wy := by
  obtain ⟨n, vs, fsv, fsc, fbo, ftc, ftf, fts, wxF, wxS, hS, hms, hF, hSh, rfl⟩ := hC
  obtain ⟨i5, i6, F, hM, hK, hT, rfl⟩ := hR
  obtain ⟨r, e1, e2⟩ := p_order (j2 := nI R) (j3 := nI w) (j4 := nI ms) (i2 := nI R) (i3 := nI w) (i4 := nI ms) (i5 := i5) (i6 := i6) hS.1 x y
  refine ⟨.int r, cell, vals, N, R, w, ms, ⟨_, rfl⟩, CG.mono (kf_order x y r e1) ?_, CG.mono (rf_order x y r e2) ?_⟩
  · rintro v u ⟨rfl, rfl⟩
    exact ⟨rfl, n, vs, fsv, fsc, fbo, ftc, ftf, fts, wxF, wxS, hS, hms, hF, hSh, rfl⟩
  · rintro v u ⟨rfl, rfl⟩
    exact ⟨rfl, _, _, _, hM, hK, hT, rfl⟩
theorem jn_alike (hC : CW G A cell vals N R w ms wx) (hR : RW G o B cell vals N R w ms wy) (x y : Int32) : JN l G A o B yX10_alike w2_X10_alike yX11_alike w2_X11_alike [.int x, .int y] isI wx wy := by
  obtain ⟨n, vs, fsv, fsc, fbo, ftc, ftf, fts, wxF, wxS, hS, hms, hF, hSh, rfl⟩ := hC
  obtain ⟨i5, i6, F, hM, hK, hT, rfl⟩ := hR
  obtain ⟨r, e1, e2⟩ := p_alike (i2 := nI R) (i3 := nI w) (i4 := nI ms) (j2 := nI R) (j3 := nI w) (j4 := nI ms) (j5 := i5) (j6 := i6) hS.1 x y
  refine ⟨.int r, cell, vals, N, R, w, ms, ⟨_, rfl⟩, CG.mono (kf_alike x y r e1) ?_, CG.mono (rf_alike x y r e2) ?_⟩
  · rintro v u ⟨rfl, rfl⟩
    exact ⟨rfl, n, vs, fsv, fsc, fbo, ftc, ftf, fts, wxF, wxS, hS, hms, hF, hSh, rfl⟩
  · rintro v u ⟨rfl, rfl⟩
    exact ⟨rfl, _, _, _, hM, hK, hT, rfl⟩
theorem jn_test (hC : CW G A cell vals N R w ms wx) (hR : RW G o B cell vals N R w ms wy) (p0 p1 p2 x part : Int32) : JN l G A o B yX10_test w2_X10_test yX11_test w2_X11_test [.int p0, .int p1, .int p2, .int x, .int part] isL wx wy := by
  obtain ⟨n, vs, fsv, fsc, fbo, ftc, ftf, fts, wxF, wxS, hS, hms, hF, hSh, rfl⟩ := hC
  obtain ⟨i5, i6, F, hM, hK, hT, rfl⟩ := hR
  obtain ⟨r, g1, g2, g3, l1, l2, l3, e1, e2⟩ := p_test (ms := nI ms) (i4 := nI ms) (i5 := i5) (i6 := i6) hS hM p0 p1 p2 x part ftc ftf fts (F 36) (F 37) (F 38)
  refine ⟨.long r, cell, vals, N, R, w, ms, ⟨_, rfl⟩, CG.mono (kf_test p0 p1 p2 x part _ e1) ?_, CG.mono (rf_test p0 p1 p2 x part _ e2) ?_⟩
  · rintro v u ⟨rfl, rfl⟩
    exact ⟨rfl, n, vs, fsv, fsc, fbo, g1, g2, g3, wxF, wxS, hS, hms, hF, hSh, rfl⟩
  · rintro v u ⟨rfl, rfl⟩
    exact ⟨rfl, _, _, sF F [(36, l1), (37, l2), (38, l3)], hM, hK, hT, rfl⟩
end J1
