/-! the best graph: the reference -/
def inF (oo : Nat) (f : Nat → Nat) (c : Nat) : Nat := if oo / 2 ^ c % 2 = 1 then f c else 1
def ouF (oo : Nat) (f : Nat → Nat) (c : Nat) : Nat := if oo / 2 ^ c % 2 = 1 then 1 else f c
theorem prF_io (oo : Nat) (f : Nat → Nat) : ∀ n, prF f n = prF (inF oo f) n * prF (ouF oo f) n := by
  intro n
  induction n with
  | zero => rfl
  | succ n ih =>
    unfold prF
    rw [ih]
    unfold inF ouF
    by_cases hb : oo / 2 ^ n % 2 = 1
    · rw [if_pos hb, if_pos hb]; ac_rfl
    · rw [if_neg hb, if_neg hb]; ac_rfl
theorem prF_cg {f g : Nat → Nat} : ∀ n, (∀ k, k < n → f k = g k) → prF f n = prF g n := by
  intro n
  induction n with
  | zero => intro _; rfl
  | succ n ih => intro h; unfold prF; rw [ih (fun k hk => h k (by omega)), h n (by omega)]
section BR
variable {N R w ms : Nat} {vals : Nat → Nat} {cell : Nat → Nat → Nat} {fvalues fcells fsv fsc : Nat → Int32} {i4 i5 i6 : Int32} {fk ftops flows fsmall flarge fone ftwo frest ff fm tA lA tB lB lf rt fx fy : Nat → Int32} {g oo : Nat}
def giT (cell : Nat → Nat → Nat) (vals : Nat → Nat) (N R w oo g n : Nat) : Nat := prF (inF oo (fun c => fitT cell vals N R w c (parN g c 5))) n
def giL (cell : Nat → Nat → Nat) (vals : Nat → Nat) (N R w oo g n : Nat) : Nat := prF (inF oo (fun c => fitL cell vals N R w c (parN g c 5))) n
theorem gi_cap (h : MS N R w vals cell fvalues fcells) (hs : ∀ c, c < N → parN g c 5 / 2 ^ c % 2 = 0) : ∀ n, n ≤ N → (0 < giT cell vals N R w oo g n ∧ giT cell vals N R w oo g n < BB ^ (6 * n + 1)) ∧ 0 < giL cell vals N R w oo g n ∧ giL cell vals N R w oo g n < BB ^ (6 * n + 1) := by
  intro n hn
  refine ⟨prF_cap (fun c hc => ?_) n hn, prF_cap (fun c hc => ?_) n hn⟩
  · unfold inF
    split
    · exact (fit_pos h hc (hs c hc)).1
    · exact ⟨by decide, by decide⟩
  · unfold inF
    split
    · exact (fit_pos h hc (hs c hc)).2
    · exact ⟨by decide, by decide⟩
theorem t_fitIn (h : MS N R w vals cell fvalues fcells) (hk : MK cell vals N R w fk ftops flows) (hg : g < 2 ^ 30) (hs : ∀ c, c < N → parN g c 5 / 2 ^ c % 2 = 0) (ho : oo < 32) :
    ∃ q n1 n2, m_X11_fitIn (nI N) (nI R) (nI w) i4 i5 i6 fvalues fcells fk ftops flows fsmall flarge fone ftwo frest ff fm 320 fx 320 fy (nI oo) (nI g) = some q ∧ MK cell vals N R w q.1 q.2.1 q.2.2.1 ∧ MR q.2.2.2.2.2.2.2.2.2.2.1 n1 (giT cell vals N R w oo g N) ∧ MR q.2.2.2.2.2.2.2.2.2.2.2 n2 (giL cell vals N R w oo g N) ∧ n1 ≤ 31 ∧ n2 ≤ 31 := by
  have hN := h.1
  obtain ⟨x0, ex0, hx0, -⟩ := t_put (nx := 320) (fx := fx) (v := 1) (by omega) (by omega) (by omega)
  obtain ⟨y0, ey0, hy0, -⟩ := t_put (nx := 320) (fx := fy) (v := 1) (by omega) (by omega) (by omega)
  have L := lp_cnt (body := b_X11_fitIn_14 (nI N) (nI R) (nI w) i4 i5 i6 fvalues fcells 320 320 (nI oo) (nI g)) (fun c s => MK cell vals N R w s.1 s.2.1 s.2.2.1 ∧ ∃ n1 n2, MR s.2.2.2.2.2.2.2.2.2.2.1 n1 (giT cell vals N R w oo g c) ∧ MR s.2.2.2.2.2.2.2.2.2.2.2 n2 (giL cell vals N R w oo g c)) (n0 := 0) (n1 := N) (Nat.zero_le _) (by omega) ?_ ?_ (s0 := (fk, ftops, flows, fsmall, flarge, fone, ftwo, frest, ff, fm, x0, y0)) ⟨hk, 1, 1, hx0, hy0⟩
  · obtain ⟨q, e, h1, n1, n2, h2, h3⟩ := L
    have hcap := gi_cap (oo := oo) h hs N (Nat.le_refl N)
    have c1 := MR_len h2 hcap.1.2
    have c2 := MR_len h3 hcap.2.2
    rw [em_X11_fitIn, show (1 : Int32) = nI 1 from rfl, ex0]
    simp only [Option.bind_some]
    rw [ey0]
    simp only [Option.bind_some]
    rw [show (0 : Int32) = nI 0 from rfl, e]
    exact ⟨_, n1, n2, rfl, h1, h2, h3, by omega, by omega⟩
  · rintro ⟨kn, tp, lw, sm, lg, on, tw, rs, fc, mm, x, y⟩ -
    rw [eb_X11_fitIn_14, if_pos ((nle (by omega) (by omega)).mpr (Nat.le_refl _))]
  · rintro c ⟨kn, tp, lw, sm, lg, on, tw, rs, fc, mm, x, y⟩ - hc ⟨hK, n1, n2, hM1, hM2⟩
    dsimp only at hK hM1 hM2
    rw [eb_X11_fitIn_14, if_neg (fun z => by have := (nle (by omega) (by omega)).mp z; omega)]
    by_cases hb : oo / 2 ^ c % 2 = 1
    · rw [if_pos ((bit1 (by omega) (by omega)).mpr hb), t_parentsOf hg (by omega)]
      simp only [Option.bind_some]
      have hse := parN_lt g c 5
      obtain ⟨q, eq, hq1, hqK, m1, m2, hF1, hF2, hm1, hm2⟩ := t_family (i4 := i4) (i5 := i5) (i6 := i6) (fsmall := sm) (flarge := lg) (fone := on) (ftwo := tw) (frest := rs) h hK (show parN g c 5 < 32 from hse) (show c < N by omega) (hs c (by omega))
      have hcap := gi_cap (oo := oo) h hs c (by omega)
      have k1 := MR_len hM1 hcap.1.2
      have k2 := MR_len hM2 hcap.2.2
      rw [eq]
      simp only [Option.bind_some]
      rw [hq1]
      obtain ⟨a1, v1, ea1, hA1, hv1⟩ := t_multiply (i1 := nI N) (i2 := nI R) (i3 := nI w) (i4 := i4) (i5 := i5) (i6 := i6) (ff := fc) (fm := mm) (ny := 1280) hM1 hF1 (by omega) (by omega) (by omega)
      obtain ⟨a2, v2, ea2, hA2, hv2⟩ := t_multiply (i1 := nI N) (i2 := nI R) (i3 := nI w) (i4 := i4) (i5 := i5) (i6 := i6) (ff := a1.1) (fm := a1.2.1) (ny := 1280) hM2 hF2 (by omega) (by omega) (by omega)
      rw [ea1]
      simp only [Option.bind_some]
      rw [ea2]
      simp only [Option.bind_some, lt]
      rw [nI_1]
      refine ⟨_, rfl, hqK, v1, v2, ?_, ?_⟩
      · have e1 : giT cell vals N R w oo g (c + 1) = giT cell vals N R w oo g c * fitT cell vals N R w c (parN g c 5) := by
          show prF (inF oo (fun c => fitT cell vals N R w c (parN g c 5))) c * inF oo (fun c => fitT cell vals N R w c (parN g c 5)) c = _
          rw [show inF oo (fun c => fitT cell vals N R w c (parN g c 5)) c = fitT cell vals N R w c (parN g c 5) from if_pos hb]
          rfl
        rw [e1]; exact hA1
      · have e1 : giL cell vals N R w oo g (c + 1) = giL cell vals N R w oo g c * fitL cell vals N R w c (parN g c 5) := by
          show prF (inF oo (fun c => fitL cell vals N R w c (parN g c 5))) c * inF oo (fun c => fitL cell vals N R w c (parN g c 5)) c = _
          rw [show inF oo (fun c => fitL cell vals N R w c (parN g c 5)) c = fitL cell vals N R w c (parN g c 5) from if_pos hb]
          rfl
        rw [e1]; exact hA2
    · rw [if_neg (fun z => hb ((bit1 (by omega) (by omega)).mp z)), lt, nI_1]
      refine ⟨_, rfl, hK, n1, n2, ?_, ?_⟩
      · have e1 : giT cell vals N R w oo g (c + 1) = giT cell vals N R w oo g c := by
          show prF (inF oo (fun c => fitT cell vals N R w c (parN g c 5))) c * inF oo (fun c => fitT cell vals N R w c (parN g c 5)) c = _
          rw [show inF oo (fun c => fitT cell vals N R w c (parN g c 5)) c = 1 from if_neg hb, Nat.mul_one]
          rfl
        rw [e1]; exact hM1
      · have e1 : giL cell vals N R w oo g (c + 1) = giL cell vals N R w oo g c := by
          show prF (inF oo (fun c => fitL cell vals N R w c (parN g c 5))) c * inF oo (fun c => fitL cell vals N R w c (parN g c 5)) c = _
          rw [show inF oo (fun c => fitL cell vals N R w c (parN g c 5)) c = 1 from if_neg hb, Nat.mul_one]
          rfl
        rw [e1]; exact hM2
/-- of two graphs of a set's names: compared in the set, or as a whole -/
theorem gi_cmp (h : MS N R w vals cell fvalues fcells) {x y : Nat} (hx : PG oo x) (hy : PG oo y) : ∃ K, 0 < K ∧ gTo cell vals N R w x * gLo cell vals N R w y = K * (giT cell vals N R w oo x N * giL cell vals N R w oo y N) ∧ gTo cell vals N R w y * gLo cell vals N R w x = K * (giT cell vals N R w oo y N * giL cell vals N R w oo x N) := by
  have hN := h.1
  have o1 : ∀ (f : Nat → Nat → Nat) (x : Nat), PG oo x → prF (ouF oo (fun c => f c (parN x c 5))) N = prF (ouF oo (fun c => f c 0)) N := by
    intro f x hx
    refine prF_cg N fun c hc => ?_
    unfold ouF
    split
    · rfl
    · rename_i hb
      show f c (parN x c 5) = f c 0
      rw [((hx.2 c (by omega)).2.1 (by omega))]
  have pz : ∀ c, c < N → 0 / 2 ^ c % 2 = 0 := fun c _ => by rw [Nat.zero_div]
  have pT : 0 < prF (ouF oo (fun c => fitT cell vals N R w c 0)) N := (prF_cap (fun c hc => by
    unfold ouF
    split
    · exact ⟨by decide, by decide⟩
    · exact (fit_pos (se := 0) h hc (pz c hc)).1) N (Nat.le_refl N)).1
  have pL : 0 < prF (ouF oo (fun c => fitL cell vals N R w c 0)) N := (prF_cap (fun c hc => by
    unfold ouF
    split
    · exact ⟨by decide, by decide⟩
    · exact (fit_pos (se := 0) h hc (pz c hc)).2) N (Nat.le_refl N)).1
  refine ⟨prF (ouF oo (fun c => fitT cell vals N R w c 0)) N * prF (ouF oo (fun c => fitL cell vals N R w c 0)) N, Nat.mul_pos pT pL, ?_, ?_⟩
  · show prF (fun c => fitT cell vals N R w c (parN x c 5)) N * prF (fun c => fitL cell vals N R w c (parN y c 5)) N = _
    rw [prF_io oo (fun c => fitT cell vals N R w c (parN x c 5)), prF_io oo (fun c => fitL cell vals N R w c (parN y c 5)), o1 (fun c s => fitT cell vals N R w c s) x hx, o1 (fun c s => fitL cell vals N R w c s) y hy]
    unfold giT giL
    ac_rfl
  · show prF (fun c => fitT cell vals N R w c (parN y c 5)) N * prF (fun c => fitL cell vals N R w c (parN x c 5)) N = _
    rw [prF_io oo (fun c => fitT cell vals N R w c (parN y c 5)), prF_io oo (fun c => fitL cell vals N R w c (parN x c 5)), o1 (fun c s => fitT cell vals N R w c s) y hy, o1 (fun c s => fitL cell vals N R w c s) x hx]
    unfold giT giL
    ac_rfl
theorem t_signIn (h : MS N R w vals cell fvalues fcells) (hk : MK cell vals N R w fk ftops flows) {x y : Nat} (hx : PG oo x) (hy : PG oo y) (ho : oo < 32) :
    ∃ q, m_X11_signIn (nI N) (nI R) (nI w) i4 i5 i6 fvalues fcells fk ftops flows fsmall flarge fone ftwo frest ff fm tA lA tB lB lf rt (nI oo) (nI x) (nI y) = some q ∧ MK cell vals N R w q.2.1 q.2.2.1 q.2.2.2.1 ∧
      (q.1 = 0 ↔ gTo cell vals N R w x * gLo cell vals N R w y = gTo cell vals N R w y * gLo cell vals N R w x) ∧ (0 < q.1 ↔ gTo cell vals N R w y * gLo cell vals N R w x < gTo cell vals N R w x * gLo cell vals N R w y) := by
  have hN := h.1
  have hsx : ∀ c, c < N → parN x c 5 / 2 ^ c % 2 = 0 := fun c hc => (hx.2 c (by omega)).2.2
  have hsy : ∀ c, c < N → parN y c 5 / 2 ^ c % 2 = 0 := fun c hc => (hy.2 c (by omega)).2.2
  obtain ⟨r1, a1, b1, e1, hK1, hA, hB, ca, cb⟩ := t_fitIn (i4 := i4) (i5 := i5) (i6 := i6) (fsmall := fsmall) (flarge := flarge) (fone := fone) (ftwo := ftwo) (frest := frest) (ff := ff) (fm := fm) (fx := tA) (fy := lA) (g := x) h hk (by have := hx.1; omega) hsx ho
  obtain ⟨r2, a2, b2, e2, hK2, hC, hD, cc, cd⟩ := t_fitIn (i4 := i4) (i5 := i5) (i6 := i6) (fsmall := r1.2.2.2.1) (flarge := r1.2.2.2.2.1) (fone := r1.2.2.2.2.2.1) (ftwo := r1.2.2.2.2.2.2.1) (frest := r1.2.2.2.2.2.2.2.1) (ff := r1.2.2.2.2.2.2.2.2.1) (fm := r1.2.2.2.2.2.2.2.2.2.1) (fx := tB) (fy := lB) (g := y) h hK1 (by have := hy.1; omega) hsy ho
  obtain ⟨r3, e3, s1, s2, s3⟩ := t_sign (i1 := nI N) (i2 := nI R) (i3 := nI w) (i4 := i4) (i5 := i5) (i6 := i6) (lf := lf) (rt := rt) hA hB hC hD (by omega) (by omega)
  obtain ⟨K, hKp, g1, g2⟩ := gi_cmp h hx hy
  rw [em_X11_signIn, e1]
  simp only [Option.bind_some]
  rw [e2]
  simp only [Option.bind_some]
  rw [e3]
  simp only [Option.bind_some]
  refine ⟨_, rfl, hK2, ?_, ?_⟩
  · rw [s2, g1, g2]
    exact ⟨fun z => by rw [z], fun z => Nat.eq_of_mul_eq_mul_left hKp z⟩
  · rw [s3, g1, g2]
    exact ⟨fun z => Nat.mul_lt_mul_of_pos_left z hKp, fun z => Nat.lt_of_mul_lt_mul_left z⟩
theorem tb_arcs : ∀ s, s < 32 → ∀ c, c < 5 → lp (b_X11_arcs_4 (nI c) (nI s)) 9 (0, 0) = some (nI (frA s c 5), 5) := by decide +kernel
theorem t_arcsN {s c : Nat} (hs : s < 32) (hc : c < 5) : m_X11_arcs (nI c) (nI s) = some (nI (frA s c 5)) := by
  rw [em_X11_arcs, lp_fu 9 (tb_arcs s hs c hc) (by omega)]
  rfl
theorem t_row (h : MS N R w vals cell fvalues fcells) (hK : MK cell vals N R w fk ftops flows) (hms : ms ≤ 4) {oo : Nat} (ho : oo < 2 ^ N) {f : Nat → Int32} {tab : Nat → Nat} (hf : ∀ k, k < oo → f k = nI (tab k)) (ht : ∀ k, k < oo → PG k (tab k)) :
    ∃ q, lp (b_X11_best_23 (nI N) (nI R) (nI w) (nI ms) i5 i6 fvalues fcells (nI oo) f) FU (-1, 0, fk, ftops, flows, fsmall, flarge, fone, ftwo, frest, ff, fm, tA, lA, tB, lB, lf, rt) = some q ∧ q.1 = oI (bgR cell vals N R w ms tab oo N) ∧ MK cell vals N R w q.2.2.1 q.2.2.2.1 q.2.2.2.2.1 := by
  have hN := h.1
  have h32 := two_N N (by omega)
  have L := lp_cg (body := b_X11_best_23 (nI N) (nI R) (nI w) (nI ms) i5 i6 fvalues fcells (nI oo) f) (fun (s : Int32 × (Nat → Int32) × (Nat → Int32) × (Nat → Int32) × (Nat → Int32) × (Nat → Int32) × (Nat → Int32) × (Nat → Int32) × (Nat → Int32) × (Nat → Int32) × (Nat → Int32) × (Nat → Int32) × (Nat → Int32) × (Nat → Int32) × (Nat → Int32) × (Nat → Int32) × (Nat → Int32)) (k : Int32) => (s.1, k, s.2)) (fun n s => s.1 = oI (bgR cell vals N R w ms tab oo n) ∧ MK cell vals N R w s.2.1 s.2.2.1 s.2.2.2.1) (n0 := 0) (n1 := N) (Nat.zero_le _) (by omega) ?_ ?_ (s0 := (-1, fk, ftops, flows, fsmall, flarge, fone, ftwo, frest, ff, fm, tA, lA, tB, lB, lf, rt)) ⟨rfl, hK⟩
  · obtain ⟨s1, e, h1, h2⟩ := L
    exact ⟨_, e, h1, h2⟩
  · rintro s -
    rw [eb_X11_best_23, if_pos ((nle (by omega) (by omega)).mpr (Nat.le_refl _))]
  · rintro n ⟨s0, a1, a2, a3, a4, a5, a6, a7, a8, a9, a10, a11, a12, a13, a14, a15, a16⟩ - hn ⟨h1, hKs⟩
    dsimp only at h1 hKs ⊢
    subst h1
    have nx : bgR cell vals N R w ms tab oo (n + 1) = if oo / 2 ^ n % 2 = 1 then some (pkB (gTo cell vals N R w) (gLo cell vals N R w) (cdG cell vals N R w ms tab oo n) (bgR cell vals N R w ms tab oo n)) else bgR cell vals N R w ms tab oo n := rfl
    rw [eb_X11_best_23, if_neg (fun z => by have := (nle (by omega) (by omega)).mp z; omega)]
    by_cases hb : oo / 2 ^ n % 2 = 1
    · obtain ⟨d1, d2⟩ := tb_dl1 oo (by omega) n (by omega) hb
      have hc := cdG_PG (cell := cell) (vals := vals) (N := N) (R := R) (w := w) (ms := ms) (tab := tab) (show oo < 32 by omega) (by omega) hb (ht _ d2)
      obtain ⟨b1, b2, -, -⟩ := bpN_in (cell := cell) (vals := vals) (N := N) (R := R) (w := w) (ms := ms) (c := n) (oo := oo - 2 ^ n) (oo - 2 ^ n + 1)
      obtain ⟨r, er, hr1, hr2⟩ := t_bestP (i5 := i5) (i6 := i6) (fsmall := a4) (flarge := a5) (fone := a6) (ftwo := a7) (frest := a8) (tA := a11) (lA := a12) (tB := a13) (lB := a14) (lf := a15) (rt := a16) h hKs hms hn (show oo - 2 ^ n < 32 by omega) d1
      rw [if_pos ((bit1 (by omega) (by omega)).mpr hb)]
      simp only [lt]
      rw [tb_del5 oo (by omega) n (by omega) hb, if_pos (ixn (by omega) (by omega)), er]
      simp only [Option.bind_some]
      rw [hr1, t_arcsN (by omega) (by omega)]
      simp only [Option.bind_some]
      rw [cl (by omega), hf _ d2, nI_lor]
      cases hbr : bgR cell vals N R w ms tab oo n with
      | none =>
        rw [if_neg (show ¬ (0 : Int32) ≤ oI none by decide), nI_1]
        exact ⟨(_, _), rfl, by rw [nx, if_pos hb, hbr]; rfl, hr2⟩
      | some y =>
        have hy := bgR_PG (cell := cell) (vals := vals) (R := R) (w := w) (ms := ms) hN (show oo < 32 by omega) ht n (by omega) y hbr
        obtain ⟨q, e, K, s2, s3⟩ := t_signIn (i4 := nI ms) (i5 := i5) (i6 := i6) (fsmall := r.2.2.2.2.1) (flarge := r.2.2.2.2.2.1) (fone := r.2.2.2.2.2.2.1) (ftwo := r.2.2.2.2.2.2.2.1) (frest := r.2.2.2.2.2.2.2.2.1) (ff := a9) (fm := a10) (tA := r.2.2.2.2.2.2.2.2.2.1) (lA := r.2.2.2.2.2.2.2.2.2.2.1) (tB := r.2.2.2.2.2.2.2.2.2.2.2.1) (lB := r.2.2.2.2.2.2.2.2.2.2.2.2.1) (lf := r.2.2.2.2.2.2.2.2.2.2.2.2.2.1) (rt := r.2.2.2.2.2.2.2.2.2.2.2.2.2.2) h hr2 hc hy (by omega)
        unfold cdG at e
        rw [if_pos (show (0 : Int32) ≤ oI (some y) from nI_pos' (by have := hy.1; omega)), show oI (some y) = nI y from rfl, e]
        simp only [Option.bind_some]
        have hch := chs hc.1 hy.1 (T1 := gTo cell vals N R w (cdG cell vals N R w ms tab oo n) * gLo cell vals N R w y) (T2 := gTo cell vals N R w y * gLo cell vals N R w (cdG cell vals N R w ms tab oo n)) s3 s2
        unfold cdG at hch
        rw [hch]
        simp only [Option.bind_some]
        rw [nI_1]
        exact ⟨(_, _), rfl, by rw [nx, if_pos hb, hbr]; rfl, K⟩
    · rw [if_neg (fun z => hb ((bit1 (by omega) (by omega)).mp z)), lt, nI_1]
      exact ⟨(_, _), rfl, by rw [nx, if_neg hb]; rfl, hKs⟩
theorem t_best (h : MS N R w vals cell fvalues fcells) (hK : MK cell vals N R w fk ftops flows) (hms : ms ≤ 4) {f : Nat → Int32} :
    ∃ q, m_X11_best (nI N) (nI R) (nI w) (nI ms) i5 i6 fvalues fcells fk ftops flows fsmall flarge fone ftwo frest ff fm f tA lA tB lB lf rt = some q ∧ q.1 = nI (tbS cell vals N R w ms (2 ^ N) (2 ^ N - 1)) ∧ MK cell vals N R w q.2.1 q.2.2.1 q.2.2.2.1 := by
  have hN := h.1
  have h32 := two_N N (by omega)
  have h1N : 1 ≤ 2 ^ N := Nat.pow_pos (by decide)
  have L := lp_cnt (body := b_X11_best_9 (nI N) (nI R) (nI w) (nI ms) i5 i6 fvalues fcells) (fun n s => MK cell vals N R w s.1 s.2.1 s.2.2.1 ∧ ∀ k, k < n → s.2.2.2.2.2.2.2.2.2.2.1 k = nI (tbS cell vals N R w ms n k)) (n0 := 1) (n1 := 2 ^ N) h1N (by omega) ?_ ?_ (s0 := (fk, ftops, flows, fsmall, flarge, fone, ftwo, frest, ff, fm, upd f 0 0, tA, lA, tB, lB, lf, rt)) ⟨hK, fun k hk => by
    rw [show k = 0 by omega]
    show upd f 0 0 0 = nI (tbS cell vals N R w ms 1 0)
    rw [show tbS cell vals N R w ms 1 0 = (bgR cell vals N R w ms (tbS cell vals N R w ms 0) 0 N).getD 0 from rfl, bgR_0]
    exact pk_us⟩
  · obtain ⟨s1, e, h1, h2⟩ := L
    rw [em_X11_best, if_pos (ix_0 (by omega) (by omega)), c0]
    simp only [lt]
    rw [show (1 : Int32) = nI 1 from rfl, e]
    simp only [Option.bind_some]
    rw [show nI 1 = (1 : Int32) from rfl, tb_all N (by omega), if_pos (ixn (by omega) (by omega)), cl (by omega)]
    exact ⟨_, rfl, h2 (2 ^ N - 1) (by omega), h1⟩
  · rintro ⟨a1, a2, a3, a4, a5, a6, a7, a8, a9, a10, a11, a12, a13, a14, a15, a16, a17⟩ -
    rw [eb_X11_best_9, tb_pow N (by omega), if_pos ((nle (by omega) (by omega)).mpr (Nat.le_refl _))]
  · rintro n ⟨a1, a2, a3, a4, a5, a6, a7, a8, a9, a10, a11, a12, a13, a14, a15, a16, a17⟩ hn1 hn ⟨h1, h2⟩
    dsimp only at h1 h2
    obtain ⟨q, eq, q1, q2⟩ := t_row (i5 := i5) (i6 := i6) (fsmall := a4) (flarge := a5) (fone := a6) (ftwo := a7) (frest := a8) (ff := a9) (fm := a10) (tA := a12) (lA := a13) (tB := a14) (lB := a15) (lf := a16) (rt := a17) h h1 hms hn h2 (tbS_PG hN n (by omega))
    obtain ⟨m, hm, hb⟩ := tb_some N (by omega) n hn (by omega)
    obtain ⟨x, hx⟩ := bgR_some (cell := cell) (vals := vals) (N := N) (R := R) (w := w) (ms := ms) (tab := tbS cell vals N R w ms n) N m hm hb
    rw [eb_X11_best_9, tb_pow N (by omega), if_neg (fun z => by have := (nle (by omega) (by omega)).mp z; omega), eq]
    simp only [Option.bind_some]
    rw [if_pos (ixn (by omega) (by omega)), cl (by omega), q1, hx]
    simp only [lt]
    rw [nI_1]
    refine ⟨_, rfl, q2, fun k hk => ?_⟩
    show upd a11 n (nI x) k = nI (if k = n then (bgR cell vals N R w ms (tbS cell vals N R w ms n) n N).getD 0 else tbS cell vals N R w ms n k)
    by_cases e : k = n
    · rw [if_pos e, hx, e]; exact pk_us
    · rw [if_neg e]; exact (pk_un e).trans (h2 k (by omega))
end BR
