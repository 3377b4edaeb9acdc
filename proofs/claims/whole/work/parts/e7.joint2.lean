/-! size, word, shares, kin, compare, parents, best, climb of both -/
section J2
variable {l : Launch} {G : GG} {A : Nat → Nat} {o : Nat} {B : Nat → Nat} {cell : Nat → Nat → Nat} {vals : Nat → Nat} {N R w ms : Nat} {wx wy : va_W}
theorem RWi {i5 i6 : Int32} {F : Nat → Nat → Int32} (e : wy = rW G o B (nI N) (nI R) (nI w) (nI ms) i5 i6 F) (hM : MS N R w vals cell (F 1) (F 3)) (hK : MK cell vals N R w (F 11) (F 12) (F 13)) (hT : TOLD cell vals N R w ms i5 i6 (F 9) (F 10)) : RW G o B cell vals N R w ms wy := ⟨i5, i6, F, hM, hK, hT, e⟩
theorem jn_size (hC : CW G A cell vals N R w ms wx) (hR : RW G o B cell vals N R w ms wy) (x part : Int32) : JN l G A o B yX10_size w2_X10_size yX11_size w2_X11_size [.int x, .int part] isI wx wy := by
  obtain ⟨n, vs, fsv, fsc, fbo, ftc, ftf, fts, wxF, wxS, hS, hms, hF, hSh, rfl⟩ := hC
  obtain ⟨i5, i6, F, hM, hK, hT, rfl⟩ := hR
  obtain ⟨q, e2, hq, hK2, hT2⟩ := t_size (fsmall := F 14) (flarge := F 15) (fone := F 6) (ftwo := F 7) (frest := F 8) (ff := F 16) (fm := F 17) hM hK hT x part
  refine ⟨.int q.1, cell, vals, N, R, w, ms, ⟨_, rfl⟩, ?_, CG.mono (rf_size x part q e2) ?_⟩
  · rw [hq, szA]
    by_cases hx : isG N x = true
    · have hgr : m_X10_isGraph (nI N) (nI R) (nI w) (nI ms) x = some 1 := by rw [isGraph10 hS.1, if_pos hx]
      by_cases hp : part = 0 ∨ part = 1
      · have hpt : m_X10_isPart part = some 1 := by rw [(isPart_e part).2, if_pos hp]
        rw [if_pos ⟨hx, hp⟩]
        refine kx ⟨by decide, by decide, by decide, by decide⟩ (k_size (Q := QS cell vals N R w ms) l G A hS hF hx hgr hpt) ?_
        rintro v w1 ⟨c, fz, wxF', hB, rfl, rfl, hF'⟩
        refine ⟨_, _, _, _, _, _, _, _, rfl, ?_, n, vs, fsv, fsc, fbo, ftc, ftf, fts, wxF', wxS, hS, hms, hF', hSh, rfl⟩
        rw [BR_wl hB]
      · rw [if_neg (fun z => hp z.2)]
        refine CG.mono (kf_size x part (-1) ?_) ?_
        · rw [em_X10_size, hgr, Option.bind_some, if_neg (show ¬ (1 : Int32) = 0 by decide), (isPart_e part).2, if_neg hp]; rfl
        · rintro v u ⟨rfl, rfl⟩
          exact ⟨rfl, n, vs, fsv, fsc, fbo, ftc, ftf, fts, wxF, wxS, hS, hms, hF, hSh, rfl⟩
    · rw [if_neg (fun z => hx z.1)]
      refine CG.mono (kf_size x part (-1) ?_) ?_
      · rw [em_X10_size, isGraph10 hS.1, if_neg hx]; rfl
      · rintro v u ⟨rfl, rfl⟩
        exact ⟨rfl, n, vs, fsv, fsc, fbo, ftc, ftf, fts, wxF, wxS, hS, hms, hF, hSh, rfl⟩
  · rintro v u ⟨rfl, rfl⟩
    exact ⟨rfl, RWi rfl hM hK2 hT2⟩
theorem jn_word (hC : CW G A cell vals N R w ms wx) (hR : RW G o B cell vals N R w ms wy) (x part i : Int32) : JN l G A o B yX10_word w2_X10_word yX11_word w2_X11_word [.int x, .int part, .int i] isL wx wy := by
  obtain ⟨n, vs, fsv, fsc, fbo, ftc, ftf, fts, wxF, wxS, hS, hms, hF, hSh, rfl⟩ := hC
  obtain ⟨i5, i6, F, hM, hK, hT, rfl⟩ := hR
  obtain ⟨q, e2, hq, hK2, hT2⟩ := t_word (fsmall := F 14) (flarge := F 15) (fone := F 6) (ftwo := F 7) (frest := F 8) (ff := F 16) (fm := F 17) hM hK hT x part i
  refine ⟨.long q.1, cell, vals, N, R, w, ms, ⟨_, rfl⟩, ?_, CG.mono (rf_word x part i q e2) ?_⟩
  · rw [hq, wdA]
    by_cases hx : isG N x = true
    · have hgr : m_X10_isGraph (nI N) (nI R) (nI w) (nI ms) x = some 1 := by rw [isGraph10 hS.1, if_pos hx]
      by_cases hp : part = 0 ∨ part = 1
      · have hpt : m_X10_isPart part = some 1 := by rw [(isPart_e part).2, if_pos hp]
        rw [if_pos ⟨hx, hp⟩]
        refine kx ⟨by decide, by decide, by decide, by decide⟩ (k_word (Q := QS cell vals N R w ms) l G A hS hF hx hgr hpt) ?_
        rintro v w1 ⟨c, fz, wxF', hB, rfl, rfl, hF'⟩
        refine ⟨_, _, _, _, _, _, _, _, rfl, ?_, n, vs, fsv, fsc, fbo, ftc, ftf, fts, wxF', wxS, hS, hms, hF', hSh, rfl⟩
        rw [BR_wl hB]
      · rw [if_neg (fun z => hp z.2)]
        refine CG.mono (kf_word x part i (-1) ?_) ?_
        · rw [em_X10_word, hgr, Option.bind_some, if_neg (show ¬ (1 : Int32) = 0 by decide), (isPart_e part).2, if_neg hp]; rfl
        · rintro v u ⟨rfl, rfl⟩
          exact ⟨rfl, n, vs, fsv, fsc, fbo, ftc, ftf, fts, wxF, wxS, hS, hms, hF, hSh, rfl⟩
    · rw [if_neg (fun z => hx z.1)]
      refine CG.mono (kf_word x part i (-1) ?_) ?_
      · rw [em_X10_word, isGraph10 hS.1, if_neg hx]; rfl
      · rintro v u ⟨rfl, rfl⟩
        exact ⟨rfl, n, vs, fsv, fsc, fbo, ftc, ftf, fts, wxF, wxS, hS, hms, hF, hSh, rfl⟩
  · rintro v u ⟨rfl, rfl⟩
    exact ⟨rfl, RWi rfl hM hK2 hT2⟩
theorem of_xy {fsv fsc : Nat → Int32} (hS : CS N R w vals cell fsv fsc) (hN4 : N ≤ 4) (hms : ms ≤ 4) {x y : Int32} (hx : u3 x < N) (hy : u3 y < N) (hxy : x ≠ y) : OFOK (QS cell vals N R w ms) N R w (nI ms) fsv fsc x y (shTg cell vals N R w ms (u3 x) (u3 y)) (shLg cell vals N R w ms (u3 x) (u3 y)) := by
  have h := of_ok hS hN4 hms hx hy (fun z => hxy (by rw [← nI_u3 x, ← nI_u3 y, z]))
  rw [nI_u3, nI_u3] at h
  exact h
theorem jn_shareSize (hC : CW G A cell vals N R w ms wx) (hR : RW G o B cell vals N R w ms wy) (x y part : Int32) : JN l G A o B yX10_shareSize w2_X10_shareSize yX11_shareSize w2_X11_shareSize [.int x, .int y, .int part] isI wx wy := by
  obtain ⟨n, vs, fsv, fsc, fbo, ftc, ftf, fts, wxF, wxS, hS, hms, hF, hSh, rfl⟩ := hC
  obtain ⟨i5, i6, F, hM, hK, hT, rfl⟩ := hR
  obtain ⟨q, e2, hq, hK2, hT2⟩ := t_shareSize (fsmall := F 14) (flarge := F 15) (fone := F 6) (ftwo := F 7) (frest := F 8) (ff := F 16) (fm := F 17) (fterms := F 30) (fterm := F 32) (fsum := F 35) (fsums := F 29) (fwholes := F 31) (fmore := F 33) (ffewer := F 34) hM hK hT hms x y part
  refine ⟨.int q.1, cell, vals, N, R, w, ms, ⟨_, rfl⟩, ?_, CG.mono (rf_shareSize x y part q e2) ?_⟩
  · have hN := hS.1
    rw [hq, ssA]
    by_cases hpr : u3 x < N ∧ u3 y < N ∧ x ≠ y
    · have hpair : m_X10_isPair (nI N) (nI R) (nI w) (nI ms) x y = some 1 := isPairT hN hpr
      by_cases hp : part = 0 ∨ part = 1
      · have hpt : m_X10_isPart part = some 1 := by rw [(isPart_e part).2, if_pos hp]
        rw [if_pos ⟨hpr, hp⟩]
        by_cases h5 : N = 5
        · rw [if_pos h5]
          refine CG.mono (kf_shareSize x y part (-2) ?_) ?_
          · rw [em_X10_shareSize, hpair, Option.bind_some, if_neg (show ¬ (1 : Int32) = 0 by decide), hpt, Option.bind_some, if_neg (show ¬ (1 : Int32) = 0 by decide), if_neg (fun z => by have := (nle (b := 4) (by omega) (by omega)).mp z; omega)]
          · rintro v u ⟨rfl, rfl⟩
            exact ⟨rfl, n, vs, fsv, fsc, fbo, ftc, ftf, fts, wxF, wxS, hS, hms, hF, hSh, rfl⟩
        · rw [if_neg h5]
          refine kx ⟨by decide, by decide, by decide, by decide⟩ (k_shareSize l G A hF hSh (fun _ _ _ => Or.inl rfl) (of_xy hS (by omega) hms hpr.1 hpr.2.1 hpr.2.2) (by omega) hpair hpt) ?_
          rintro v w1 ⟨rfl, vs', wxF', wxS', rfl, hF', hS'⟩
          exact ⟨_, _, _, _, _, _, _, _, rfl, rfl, n, vs', fsv, fsc, fbo, ftc, ftf, fts, wxF', wxS', hS, hms, hF', hS', rfl⟩
      · rw [if_neg (fun z => hp z.2)]
        refine CG.mono (kf_shareSize x y part (-1) ?_) ?_
        · rw [em_X10_shareSize, hpair, Option.bind_some, if_neg (show ¬ (1 : Int32) = 0 by decide), (isPart_e part).2, if_neg hp]; rfl
        · rintro v u ⟨rfl, rfl⟩
          exact ⟨rfl, n, vs, fsv, fsc, fbo, ftc, ftf, fts, wxF, wxS, hS, hms, hF, hSh, rfl⟩
    · rw [if_neg (fun z => hpr z.1)]
      refine CG.mono (kf_shareSize x y part (-1) ?_) ?_
      · rw [em_X10_shareSize, isPairF hN hpr]; rfl
      · rintro v u ⟨rfl, rfl⟩
        exact ⟨rfl, n, vs, fsv, fsc, fbo, ftc, ftf, fts, wxF, wxS, hS, hms, hF, hSh, rfl⟩
  · rintro v u ⟨rfl, rfl⟩
    exact ⟨rfl, RWi rfl hM hK2 hT2⟩
theorem jn_shareWord (hC : CW G A cell vals N R w ms wx) (hR : RW G o B cell vals N R w ms wy) (x y part i : Int32) : JN l G A o B yX10_shareWord w2_X10_shareWord yX11_shareWord w2_X11_shareWord [.int x, .int y, .int part, .int i] isL wx wy := by
  obtain ⟨n, vs, fsv, fsc, fbo, ftc, ftf, fts, wxF, wxS, hS, hms, hF, hSh, rfl⟩ := hC
  obtain ⟨i5, i6, F, hM, hK, hT, rfl⟩ := hR
  obtain ⟨q, e2, hq, hK2, hT2⟩ := t_shareWord (fsmall := F 14) (flarge := F 15) (fone := F 6) (ftwo := F 7) (frest := F 8) (ff := F 16) (fm := F 17) (fterms := F 30) (fterm := F 32) (fsum := F 35) (fsums := F 29) (fwholes := F 31) (fmore := F 33) (ffewer := F 34) hM hK hT hms x y part i
  refine ⟨.long q.1, cell, vals, N, R, w, ms, ⟨_, rfl⟩, ?_, CG.mono (rf_shareWord x y part i q e2) ?_⟩
  · have hN := hS.1
    rw [hq, swA]
    by_cases hpr : u3 x < N ∧ u3 y < N ∧ x ≠ y
    · have hpair : m_X10_isPair (nI N) (nI R) (nI w) (nI ms) x y = some 1 := isPairT hN hpr
      by_cases hp : part = 0 ∨ part = 1
      · have hpt : m_X10_isPart part = some 1 := by rw [(isPart_e part).2, if_pos hp]
        rw [if_pos ⟨hpr, hp⟩]
        by_cases h5 : N = 5
        · rw [if_pos h5]
          refine CG.mono (kf_shareWord x y part i (-2) ?_) ?_
          · rw [em_X10_shareWord, hpair, Option.bind_some, if_neg (show ¬ (1 : Int32) = 0 by decide), hpt, Option.bind_some, if_neg (show ¬ (1 : Int32) = 0 by decide), if_neg (fun z => by have := (nle (b := 4) (by omega) (by omega)).mp z; omega)]
          · rintro v u ⟨rfl, rfl⟩
            exact ⟨rfl, n, vs, fsv, fsc, fbo, ftc, ftf, fts, wxF, wxS, hS, hms, hF, hSh, rfl⟩
        · rw [if_neg h5]
          refine kx ⟨by decide, by decide, by decide, by decide⟩ (k_shareWord l G A hF hSh (fun _ _ _ => Or.inl rfl) (of_xy hS (by omega) hms hpr.1 hpr.2.1 hpr.2.2) (by omega) hpair hpt) ?_
          rintro v w1 ⟨rfl, vs', wxF', wxS', rfl, hF', hS'⟩
          exact ⟨_, _, _, _, _, _, _, _, rfl, rfl, n, vs', fsv, fsc, fbo, ftc, ftf, fts, wxF', wxS', hS, hms, hF', hS', rfl⟩
      · rw [if_neg (fun z => hp z.2)]
        refine CG.mono (kf_shareWord x y part i (-1) ?_) ?_
        · rw [em_X10_shareWord, hpair, Option.bind_some, if_neg (show ¬ (1 : Int32) = 0 by decide), (isPart_e part).2, if_neg hp]; rfl
        · rintro v u ⟨rfl, rfl⟩
          exact ⟨rfl, n, vs, fsv, fsc, fbo, ftc, ftf, fts, wxF, wxS, hS, hms, hF, hSh, rfl⟩
    · rw [if_neg (fun z => hpr z.1)]
      refine CG.mono (kf_shareWord x y part i (-1) ?_) ?_
      · rw [em_X10_shareWord, isPairF hN hpr]; rfl
      · rintro v u ⟨rfl, rfl⟩
        exact ⟨rfl, n, vs, fsv, fsc, fbo, ftc, ftf, fts, wxF, wxS, hS, hms, hF, hSh, rfl⟩
  · rintro v u ⟨rfl, rfl⟩
    exact ⟨rfl, RWi rfl hM hK2 hT2⟩
theorem jn_kin (hC : CW G A cell vals N R w ms wx) (hR : RW G o B cell vals N R w ms wy) (x y : Int32) : JN l G A o B yX10_kin w2_X10_kin yX11_kin w2_X11_kin [.int x, .int y] isI wx wy := by
  obtain ⟨n, vs, fsv, fsc, fbo, ftc, ftf, fts, wxF, wxS, hS, hms, hF, hSh, rfl⟩ := hC
  obtain ⟨i5, i6, F, hM, hK, hT, rfl⟩ := hR
  by_cases hok : isG N x = true ∧ ¬ y < 0 ∧ y ≤ 3
  · obtain ⟨hx, h0, h3⟩ := hok
    have hgr : m_X10_isGraph (nI N) (nI R) (nI w) (nI ms) x = some 1 := by rw [isGraph10 hS.1, if_pos hx]
    obtain ⟨r0, r1, r2, r3, f', s', e1, e2⟩ := p_kin (j2 := nI R) (j3 := nI w) (j4 := nI ms) (j5 := i5) (j6 := i6) hS.1 hx h0 h3 (F 27) (F 28)
    refine ⟨.int (if y = 0 then r0 else if y = 1 then r1 else if y = 2 then r2 else r3), cell, vals, N, R, w, ms, ⟨_, rfl⟩, ⟨rm_X10_kinA, by decide, by decide, by decide, by decide, Or.inl ⟨by decide, by decide, ctr_conv (wr := [((A 15), .inl (gI G, 5, .inl fsv)), ((A 16), .inl (gI G, 16, .inl fsc)), ((A 18), .inr (5, [.ref (A 14), .ref (A 0), .ref (A 19)])), ((A 19), .inl (gI G, 32, .inl fbo)), ((A 20), .inr (8, [.ref (A 14), .ref (A 21), .ref (A 22), .ref (A 23)])), ((A 21), .inl (gI G, 9, .inl ftc)), ((A 22), .inl (gI G, 3, .inl ftf)), ((A 23), .inl (gI G, 3, .inl fts))] ++ (wxF ++ wxS)) (pm_tail (pm_pl [2, 3, 4, 5, 6, 7, 8, 9] [0, 1] 10 rfl (by decide +kernel) rfl rfl)) (k_kin l G A (vs := vs) hgr h0 h3 e1) ?_⟩⟩, CG.mono (rf_kin x y _ e2) ?_⟩
    · rintro v w1 ⟨rfl, rfl⟩
      exact ⟨_, pm_back.trans (List.Perm.append_right _ (perm_ixn [8, 9, 0, 1, 2, 3, 4, 5, 6, 7] 10 rfl (by decide +kernel) rfl)), rfl, n, vs, fsv, fsc, fbo, ftc, ftf, fts, wxF, wxS, hS, hms, hF, hSh, rfl⟩
    · rintro v u ⟨rfl, rfl⟩
      exact ⟨rfl, _, _, sF F [(27, f'), (28, s')], hM, hK, hT, rfl⟩
  · have e1 : m_X10_kin (nI N) (nI R) (nI w) (nI ms) x y = some (-1) := by
      rw [em_X10_kin, isGraph10 hS.1]
      by_cases hx : isG N x = true
      · rw [if_pos hx, Option.bind_some, if_neg (show ¬ (1 : Int32) = 0 by decide)]
        by_cases h0 : y < 0
        · rw [if_pos h0]
        · rw [if_neg h0, if_neg (fun z => hok ⟨hx, h0, z⟩)]
      · rw [if_neg hx]; rfl
    have e2 : m_X11_kin (nI N) (nI R) (nI w) (nI ms) i5 i6 (F 27) (F 28) x y = some (-1, F 27, F 28) := by
      rw [em_X11_kin, t_isGraph hS.1]
      by_cases hx : isG N x = true
      · rw [if_pos hx, Option.bind_some, if_neg (show ¬ (1 : Int32) = 0 by decide)]
        by_cases h0 : y < 0
        · rw [if_pos h0]
        · rw [if_neg h0, if_neg (fun z => hok ⟨hx, h0, z⟩)]
      · rw [if_neg hx]; rfl
    refine ⟨.int (-1), cell, vals, N, R, w, ms, ⟨_, rfl⟩, CG.mono (kf_kin x y _ e1) ?_, CG.mono (rf_kin x y _ e2) ?_⟩
    · rintro v u ⟨rfl, rfl⟩
      exact ⟨rfl, n, vs, fsv, fsc, fbo, ftc, ftf, fts, wxF, wxS, hS, hms, hF, hSh, rfl⟩
    · rintro v u ⟨rfl, rfl⟩
      exact ⟨rfl, _, _, _, hM, hK, hT, rfl⟩
/-- a contract with the block of FITS, over all cells -/
theorem kbl {n : Nat} {vs : Value} {i4 : Int32} {fsv fsc fbo fbo' ftc ftf fts : Nat → Int32} {wxF wxS wr wc wc' : va_W} {y : MethodName} {wsy : List Cond} {rm : Room} {av : List Value} {r : Option Value} {post2 : Option Value → va_W → Prop} (hb : rm.frames ≤ 10 ∧ rm.locals ≤ 400 ∧ rm.cells ≤ 5000 ∧ rm.slots ≤ 16000) (hF : FBk G A cell vals N R w wxF n) (h : CtrB l G (FBk G A cell vals N R w) y wsy rm av wc (fun v w9 => v = r ∧ w9 = wc'))
    (h1 : (cL G A vs (nI N) (nI R) (nI w) i4 fsv fsc fbo ftc ftf fts).Perm (wr ++ wc)) (h2 : (cL G A vs (nI N) (nI R) (nI w) i4 fsv fsc fbo' ftc ftf fts).Perm (wr ++ wc')) (hpost : ∀ wxF' n', FBk G A cell vals N R w wxF' n' → post2 r (cL G A vs (nI N) (nI R) (nI w) i4 fsv fsc fbo' ftc ftf fts ++ (wxF' ++ wxS))) : CG 820 10400 l G y wsy av (cL G A vs (nI N) (nI R) (nI w) i4 fsv fsc fbo ftc ftf fts ++ (wxF ++ wxS)) post2 := by
  refine ⟨rm, hb.1, hb.2.1, hb.2.2.1, hb.2.2.2, Or.inr (ctrU_conv (pm_mix h1) (h wxF n hF) ?_)⟩
  rintro v w1 dc ds ⟨w2, wxF', n', ⟨rfl, rfl⟩, rfl, hF', hn, hdc, hds⟩
  have hle := FBk.le wxF' n' hF'
  exact ⟨_, (pm_mix h2).symm, hpost wxF' n' hF', by omega, by omega⟩
theorem jn_compare (hC : CW G A cell vals N R w ms wx) (hR : RW G o B cell vals N R w ms wy) (x y : Int32) : JN l G A o B yX10_compare w2_X10_compare yX11_compare w2_X11_compare [.int x, .int y] isI wx wy := by
  obtain ⟨n, vs, fsv, fsc, fbo, ftc, ftf, fts, wxF, wxS, hS, hms, hF, hSh, rfl⟩ := hC
  obtain ⟨i5, i6, F, hM, hK, hT, rfl⟩ := hR
  obtain ⟨r, t', e1, e2, hK2⟩ := p_compare (ms := ms) (i4 := nI ms) (i5 := i5) (i6 := i6) hS hM (F 11, F 12, F 13, F 14, F 15, F 6, F 7, F 8, F 16, F 17, F 18, F 19, F 20, F 21, F 22, F 23) hK x y
  refine ⟨.int r, cell, vals, N, R, w, ms, ⟨_, rfl⟩, kbl (wr := c6 G A fbo ftc ftf fts) ⟨by decide, by decide, by decide, by decide⟩ hF (c_X10_compare l G A hS (A 17) vs (A 18) (A 20) x y r e1) pm_46 pm_46 ?_, CG.mono (rf_compare x y _ e2) ?_⟩
  · intro wxF' n' hF'
    exact ⟨rfl, n', vs, fsv, fsc, fbo, ftc, ftf, fts, wxF', wxS, hS, hms, hF', hSh, rfl⟩
  · rintro v u ⟨rfl, rfl⟩
    exact ⟨rfl, RWi rfl hM hK2 hT⟩
theorem jn_parents (hC : CW G A cell vals N R w ms wx) (hR : RW G o B cell vals N R w ms wy) (x y : Int32) : JN l G A o B yX10_parents w2_X10_parents yX11_parents w2_X11_parents [.int x, .int y] isI wx wy := by
  obtain ⟨n, vs, fsv, fsc, fbo, ftc, ftf, fts, wxF, wxS, hS, hms, hF, hSh, rfl⟩ := hC
  obtain ⟨i5, i6, F, hM, hK, hT, rfl⟩ := hR
  obtain ⟨r, q, e1, e2, rfl, hK2⟩ := p_parents (i5 := i5) (i6 := i6) (fsmall := F 14) (flarge := F 15) (fone := F 6) (ftwo := F 7) (frest := F 8) (tA := F 18) (lA := F 19) (tB := F 20) (lB := F 21) (lf := F 22) (rt := F 23) hS hM hK hms x y
  have pm : (cL G A vs (nI N) (nI R) (nI w) (nI ms) fsv fsc fbo ftc ftf fts).Perm ([((A 19), .inl (gI G, 32, .inl fbo)), ((A 20), .inr (8, [.ref (A 14), .ref (A 21), .ref (A 22), .ref (A 23)])), ((A 21), .inl (gI G, 9, .inl ftc)), ((A 22), .inl (gI G, 3, .inl ftf)), ((A 23), .inl (gI G, 3, .inl fts))] ++ [((A 17), .inr (9, [.ref (A 14), .ref (A 1), .ref (A 0), .ref (A 18), .ref (A 20), vs])), ((A 18), .inr (5, [.ref (A 14), .ref (A 0), .ref (A 19)])), ((A 14), .inr (7, [.int (nI N), .int (nI R), .int (nI w), .int (nI ms), .ref (A 15), .ref (A 16)])), ((A 15), .inl (gI G, 5, .inl fsv)), ((A 16), .inl (gI G, 16, .inl fsc))]) := pm_pl [5, 6, 7, 8, 9] [0, 4, 1, 2, 3] 10 rfl (by decide +kernel) rfl rfl
  refine ⟨.int q.1, cell, vals, N, R, w, ms, ⟨_, rfl⟩, kbl ⟨by decide, by decide, by decide, by decide⟩ hF (c_X10_parents l G A hS (A 17) vs (A 18) (A 20) (A 19) x y q.1 e1) pm pm ?_, CG.mono (rf_parents x y q e2) ?_⟩
  · intro wxF' n' hF'
    exact ⟨rfl, n', vs, fsv, fsc, fbo, ftc, ftf, fts, wxF', wxS, hS, hms, hF', hSh, rfl⟩
  · rintro v u ⟨rfl, rfl⟩
    exact ⟨rfl, RWi rfl hM hK2 hT⟩
theorem jn_climb (hC : CW G A cell vals N R w ms wx) (hR : RW G o B cell vals N R w ms wy) (x y : Int32) : JN l G A o B yX10_climb w2_X10_climb yX11_climb w2_X11_climb [.int x, .int y] isI wx wy := by
  obtain ⟨n, vs, fsv, fsc, fbo, ftc, ftf, fts, wxF, wxS, hS, hms, hF, hSh, rfl⟩ := hC
  obtain ⟨i5, i6, F, hM, hK, hT, rfl⟩ := hR
  obtain ⟨r, t', e1, e2, hK2⟩ := p_climb (i5 := i5) (i6 := i6) hS hM hms (F 11, F 12, F 13, F 14, F 15, F 6, F 7, F 8, F 16, F 17, F 18, F 19, F 20, F 21, F 22, F 23) hK x y
  have pm : (cL G A vs (nI N) (nI R) (nI w) (nI ms) fsv fsc fbo ftc ftf fts).Perm ([((A 19), .inl (gI G, 32, .inl fbo)), ((A 20), .inr (8, [.ref (A 14), .ref (A 21), .ref (A 22), .ref (A 23)])), ((A 21), .inl (gI G, 9, .inl ftc)), ((A 22), .inl (gI G, 3, .inl ftf)), ((A 23), .inl (gI G, 3, .inl fts))] ++ [((A 17), .inr (9, [.ref (A 14), .ref (A 1), .ref (A 0), .ref (A 18), .ref (A 20), vs])), ((A 18), .inr (5, [.ref (A 14), .ref (A 0), .ref (A 19)])), ((A 14), .inr (7, [.int (nI N), .int (nI R), .int (nI w), .int (nI ms), .ref (A 15), .ref (A 16)])), ((A 15), .inl (gI G, 5, .inl fsv)), ((A 16), .inl (gI G, 16, .inl fsc))]) := pm_pl [5, 6, 7, 8, 9] [0, 4, 1, 2, 3] 10 rfl (by decide +kernel) rfl rfl
  refine ⟨.int r, cell, vals, N, R, w, ms, ⟨_, rfl⟩, kbl ⟨by decide, by decide, by decide, by decide⟩ hF (c_X10_climb l G A hS (A 17) vs (A 18) (A 20) (A 19) x y r e1) pm pm ?_, CG.mono (rf_climb x y _ e2) ?_⟩
  · intro wxF' n' hF'
    exact ⟨rfl, n', vs, fsv, fsc, fbo, ftc, ftf, fts, wxF', wxS, hS, hms, hF', hSh, rfl⟩
  · rintro v u ⟨rfl, rfl⟩
    exact ⟨rfl, RWi rfl hM hK2 hT⟩
theorem jn_best (hC : CW G A cell vals N R w ms wx) (hR : RW G o B cell vals N R w ms wy) : JN l G A o B yX10_best w2_X10_best yX11_best w2_X11_best [] isI wx wy := by
  obtain ⟨n, vs, fsv, fsc, fbo, ftc, ftf, fts, wxF, wxS, hS, hms, hF, hSh, rfl⟩ := hC
  obtain ⟨i5, i6, F, hM, hK, hT, rfl⟩ := hR
  obtain ⟨f', e0⟩ := c_best hS hms (f := fbo)
  obtain ⟨q, e2, hq, hK2⟩ := t_best (i5 := i5) (i6 := i6) (fsmall := F 14) (flarge := F 15) (fone := F 6) (ftwo := F 7) (frest := F 8) (ff := F 16) (fm := F 17) (tA := F 18) (lA := F 19) (tB := F 20) (lB := F 21) (lf := F 22) (rt := F 23) hM hK hms (f := F 26)
  have e1 : m_X10_best cell vals N R w (nI ms) 32 fbo = some (q.1, f') := by
    rw [em_X10_best, e0, Option.bind_some, hq]
  have pm : ∀ ff, (cL G A vs (nI N) (nI R) (nI w) (nI ms) fsv fsc ff ftc ftf fts).Perm ([((A 20), .inr (8, [.ref (A 14), .ref (A 21), .ref (A 22), .ref (A 23)])), ((A 21), .inl (gI G, 9, .inl ftc)), ((A 22), .inl (gI G, 3, .inl ftf)), ((A 23), .inl (gI G, 3, .inl fts))] ++ [((A 17), .inr (9, [.ref (A 14), .ref (A 1), .ref (A 0), .ref (A 18), .ref (A 20), vs])), ((A 18), .inr (5, [.ref (A 14), .ref (A 0), .ref (A 19)])), ((A 14), .inr (7, [.int (nI N), .int (nI R), .int (nI w), .int (nI ms), .ref (A 15), .ref (A 16)])), ((A 15), .inl (gI G, 5, .inl fsv)), ((A 16), .inl (gI G, 16, .inl fsc)), ((A 19), .inl (gI G, 32, .inl ff))]) := fun ff => pm_pl [6, 7, 8, 9] [0, 4, 1, 2, 3, 5] 10 rfl (by decide +kernel) rfl rfl
  refine ⟨.int q.1, cell, vals, N, R, w, ms, ⟨_, rfl⟩, kbl ⟨by decide, by decide, by decide, by decide⟩ hF (c_X10_best l G A hS (A 17) vs (A 18) (A 19) (A 20) 32 fbo (q.1, f') e1) (pm fbo) (pm f') ?_, CG.mono (rf_best q e2) ?_⟩
  · intro wxF' n' hF'
    exact ⟨rfl, n', vs, fsv, fsc, f', ftc, ftf, fts, wxF', wxS, hS, hms, hF', hSh, rfl⟩
  · rintro v u ⟨rfl, rfl⟩
    exact ⟨rfl, RWi rfl hM hK2 hT⟩
end J2
