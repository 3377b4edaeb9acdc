/-! the reference's shares: total, tellShare -/
theorem prE_cut {t : Nat → Nat → Nat} {X E n : Nat} (hE : E < 2 ^ n) : ∀ m, n ≤ m → prE t X E m = prE t X E n := by
  intro m
  induction m with
  | zero => intro h; rw [show n = 0 by omega]
  | succ m ih =>
    intro h
    by_cases e : n = m + 1
    · rw [e]
    · show prE t X E m * (if E / 2 ^ m % 2 = 1 then ssum (t m) (subL X) else 1) = prE t X E n
      have h1 : E < 2 ^ m := Nat.lt_of_lt_of_le hE (Nat.pow_le_pow_right (by decide) (by omega))
      rw [Nat.div_eq_of_lt h1, if_neg (by decide), Nat.mul_one]
      exact ih (by omega)
theorem le197 : 543 * (BB ^ 49) ^ 4 < BB ^ 197 := by decide +kernel
theorem le198 : 16 * (543 * (BB ^ 49) ^ 4) < BB ^ 197 := by decide +kernel
theorem tb_diff : ∀ s, s < 16 → ∀ E, E < 16 → E &&& s = E → nI s &&& (nI E ^^^ (-1)) = nI (s - E) ∧ E ≤ s := by decide +kernel
theorem ev_ge {t : Nat → Nat → Nat} {s m : Nat} : ∀ {L : List Nat}, m ∈ L → mq t s m ≤ ev t s L := by
  intro L
  induction L with
  | nil => intro h; cases h
  | cons x L ih =>
    intro h
    unfold ev
    rcases List.mem_cons.mp h with rfl | h
    · exact Nat.le_add_right _ _
    · exact Nat.le_trans (ih h) (Nat.le_add_left _ _)
theorem tb_0in : ∀ s, s < 16 → 0 ∈ dagL s := by decide +kernel
theorem gT4_pos {t : Nat → Nat → Nat} {N : Nat} (hN : N ≤ 4) (h : ∀ c, c < N → 0 < t c 0) : 0 < gT4 t (2 ^ N - 1) := by
  have h16 : 2 ^ N ≤ 2 ^ 4 := Nat.pow_le_pow_right (by decide) hN
  refine Nat.lt_of_lt_of_le ?_ (ev_ge (tb_0in (2 ^ N - 1) (by omega)))
  have r : ∀ (c : Prop) [Decidable c] (x : Nat), (c → 0 < x) → 0 < (if c then x else 1) := fun c _ x hx => by split; exact hx (by assumption); exact Nat.one_pos
  have tb : ∀ N, N < 5 → ∀ c, c < 4 → (2 ^ N - 1) / 2 ^ c % 2 = 1 → c < N := by decide
  unfold mq
  exact Nat.mul_pos (Nat.mul_pos (Nat.mul_pos (r _ _ (fun z => h 0 (tb N (by omega) 0 (by omega) (by rw [Nat.pow_zero, Nat.div_one]; exact z)))) (r _ _ (fun z => h 1 (tb N (by omega) 1 (by omega) z)))) (r _ _ (fun z => h 2 (tb N (by omega) 2 (by omega) z)))) (r _ _ (fun z => h 3 (tb N (by omega) 3 (by omega) z)))
section RT
variable {N R w ms tt : Nat} {vals : Nat → Nat} {cell : Nat → Nat → Nat} {fvalues fcells : Nat → Int32} {i4 i5 i6 fr : Int32} {fk ftops flows fsmall flarge fone ftwo frest ff fm fterms fterm fsum fsums fwholes fmore ffewer fx fy : Nat → Int32}
abbrev T13 : Type := (Nat → Int32) × (Nat → Int32) × (Nat → Int32) × (Nat → Int32) × (Nat → Int32) × (Nat → Int32) × (Nat → Int32) × (Nat → Int32) × (Nat → Int32) × (Nat → Int32) × (Nat → Int32) × (Nat → Int32) × (Nat → Int32) × (Nat → Int32)
def HW (t : Nat → Nat → Nat) (f : Nat → Int32) (o : Nat) : Prop := ∃ n, n ≤ 197 ∧ MR (sh f (o * 320)) n (gT4 t o)
theorem pr197 (h : MS N R w vals cell fvalues fcells) (hN4 : N ≤ 4) {s E n : Nat} (hs : s < 16) (hE : E < 16) (hc : Nat.beq (E &&& s) E = true) (hn : n ≤ 4) : gT4 (tR cell vals N R w ms fr tt) (s - E) * prE (tR cell vals N R w ms fr tt) (s - E) E n ≤ 543 * (BB ^ 49) ^ 4 :=
  Nat.le_trans (pr_le (a := BB ^ 48) (b := BB ^ 49) (tR_le h hN4) (Nat.le_of_lt le49) (Nat.pow_pos (by decide)) hs hE hc n hn) (Nat.mul_le_mul_left _ (pw_le (Nat.pow_pos (by decide)) _))
theorem t_term (h : MS N R w vals cell fvalues fcells) (hN4 : N ≤ 4) {q : T13} (hS : ∀ a o, a < N → o < 2 ^ N → HS cell vals N R w ms fr tt q.2.2.2.2.2.2.2.2.2.2.2.2.2 a o) {s E : Nat} (hs : s < 2 ^ N) (hE : E < 2 ^ N) (hc : E &&& s = E) {n0 : Nat} (hM : MR fx n0 (gT4 (tR cell vals N R w ms fr tt) (s - E))) :
    ∃ z, lp (b_X11_total_99 (nI N) (nI R) (nI w) i4 i5 i6 q (nI E) (nI (s - E))) FU (0, ff, fm, fx) = some z ∧ ∃ n, n ≤ 197 ∧ MR z.2.2.2 n (enF (tR cell vals N R w ms fr tt) s E) := by
  have h16 : 2 ^ N ≤ 2 ^ 4 := Nat.pow_le_pow_right (by decide) hN4
  have hcb : Nat.beq (E &&& s) E = true := by rw [hc]; exact Nat.beq_refl E
  have L := lp_cnt (body := b_X11_total_99 (nI N) (nI R) (nI w) i4 i5 i6 q (nI E) (nI (s - E))) (fun k z => ∃ n, MR z.2.2 n (gT4 (tR cell vals N R w ms fr tt) (s - E) * prE (tR cell vals N R w ms fr tt) (s - E) E k)) (n0 := 0) (n1 := N) (Nat.zero_le _) (by omega) ?_ ?_ (s0 := (ff, fm, fx)) ⟨n0, by unfold prE; rw [Nat.mul_one]; exact hM⟩
  · obtain ⟨s1, e1, n1, hM1⟩ := L
    refine ⟨_, e1, n1, MR_len hM1 (Nat.lt_of_le_of_lt (pr197 h hN4 (by omega) (by omega) hcb hN4) le197), ?_⟩
    unfold enF
    rw [prE_cut hE 4 hN4]
    exact hM1
  · rintro ⟨a1, a2, a3⟩ -
    rw [eb_X11_total_99, if_pos ((nle (by omega) (by omega)).mpr (Nat.le_refl _))]
  · rintro k ⟨a1, a2, a3⟩ - hk ⟨n, hMa⟩
    dsimp only at hMa
    rw [eb_X11_total_99, if_neg (fun z => by have := (nle (by omega) (by omega)).mp z; omega)]
    by_cases hb : E / 2 ^ k % 2 = 1
    · rw [if_pos ((bit1 (by omega) (by omega)).mpr hb)]
      obtain ⟨m, hm, hMm⟩ := hS k (s - E) hk (by omega)
      have c1 := MR_len hMa (Nat.lt_of_le_of_lt (pr197 h hN4 (by omega) (by omega) hcb (by omega)) le197)
      obtain ⟨r, n2, e2, hM2, -⟩ := t_multiply (i1 := nI N) (i2 := nI R) (i3 := nI w) (i4 := i4) (i5 := i5) (i6 := i6) (ff := a1) (fm := a2) (ny := 5120) hMa hMm (by omega) (by omega) (by omega)
      rw [ep80, e2]
      simp only [Option.bind_some, lt]
      rw [nI_1]
      refine ⟨_, rfl, n2, ?_⟩
      unfold prE
      rw [if_pos hb, ← Nat.mul_assoc]
      exact hM2
    · rw [if_neg (fun z => hb ((bit1 (by omega) (by omega)).mp z))]
      rw [lt, nI_1]
      refine ⟨_, rfl, n, ?_⟩
      unfold prE
      rw [if_neg hb, Nat.mul_one]
      exact hMa
theorem en197 (h : MS N R w vals cell fvalues fcells) (hN4 : N ≤ 4) {s : Nat} (hs : s < 16) {p : Nat → Bool} (hp : ∀ k, p k = true → Nat.beq (k &&& s) k = true) {n : Nat} (hn : n ≤ 16) : acF p (enF (tR cell vals N R w ms fr tt) s) n < BB ^ 197 := by
  have e : acF p (enF (tR cell vals N R w ms fr tt) s) n = acF p (fun k => if k < 16 ∧ Nat.beq (k &&& s) k = true then enF (tR cell vals N R w ms fr tt) s k else 0) n := acF_congr n fun k hk hpk => by rw [if_pos ⟨by omega, hp k hpk⟩]
  rw [e]
  refine Nat.lt_of_le_of_lt (Nat.le_trans (acF_le (M := 543 * (BB ^ 49) ^ 4) (fun k => ?_) n) (Nat.mul_le_mul_right _ hn)) le198
  split
  · rename_i z
    exact pr197 h hN4 hs z.1 z.2 (by omega)
  · exact Nat.zero_le _
theorem t_ends (h : MS N R w vals cell fvalues fcells) (hN4 : N ≤ 4) {q : T13} (hS : ∀ a o, a < N → o < 2 ^ N → HS cell vals N R w ms fr tt q.2.2.2.2.2.2.2.2.2.2.2.2.2 a o) {s : Nat} (hs : s < 2 ^ N) (hs0 : 0 < s) (hW : ∀ o, o < s → HW (tR cell vals N R w ms fr tt) fwholes o) {g1 g2 : Nat → Int32} (h1 : MR g1 0 0) (h2 : MR g2 0 0) :
    ∃ z, lp (b_X11_total_53 (nI N) (nI R) (nI w) i4 i5 i6 q (nI s) fwholes) FU (1, ff, fm, fterm, g1, g2) = some z ∧ ∃ n1 n2, n1 ≤ 197 ∧ n2 ≤ 197 ∧ MR z.2.2.2.2.1 n1 (acF (odP s) (enF (tR cell vals N R w ms fr tt) s) (s + 1)) ∧ MR z.2.2.2.2.2 n2 (acF (evP s) (enF (tR cell vals N R w ms fr tt) s) (s + 1)) := by
  have h16 : 2 ^ N ≤ 2 ^ 4 := Nat.pow_le_pow_right (by decide) hN4
  have bo : ∀ n, n ≤ 16 → acF (odP s) (enF (tR cell vals N R w ms fr tt) s) n < BB ^ 197 := fun n hn => en197 h hN4 (by omega) (fun k hk => by unfold odP at hk; simp only [Bool.and_eq_true] at hk; exact hk.1) hn
  have be : ∀ n, n ≤ 16 → acF (evP s) (enF (tR cell vals N R w ms fr tt) s) n < BB ^ 197 := fun n hn => en197 h hN4 (by omega) (fun k hk => by unfold evP at hk; simp only [Bool.and_eq_true] at hk; exact hk.1) hn
  have L := lp_cnt (body := b_X11_total_53 (nI N) (nI R) (nI w) i4 i5 i6 q (nI s) fwholes) (fun k z => ∃ n1 n2, MR z.2.2.2.1 n1 (acF (odP s) (enF (tR cell vals N R w ms fr tt) s) k) ∧ MR z.2.2.2.2 n2 (acF (evP s) (enF (tR cell vals N R w ms fr tt) s) k)) (n0 := 1) (n1 := s + 1) (by omega) (by omega) ?_ ?_ (s0 := (ff, fm, fterm, g1, g2)) ⟨0, 0, by
      have : odP s 0 = false := by unfold odP; simp
      rw [show (1 : Nat) = 0 + 1 from rfl, acF_f this]; exact h1, by
      have : evP s 0 = false := by unfold evP; simp
      rw [show (1 : Nat) = 0 + 1 from rfl, acF_f this]; exact h2⟩
  · obtain ⟨s1, e1, n1, n2, hM1, hM2⟩ := L
    exact ⟨_, e1, n1, n2, MR_len hM1 (bo _ (by omega)), MR_len hM2 (be _ (by omega)), hM1, hM2⟩
  · rintro ⟨a1, a2, a3, a4, a5⟩ -
    rw [eb_X11_total_53, if_pos ((nlt (by omega) (by omega)).mpr (by omega))]
  · rintro k ⟨a1, a2, a3, a4, a5⟩ hk1 hk ⟨n1, n2, hMa, hMb⟩
    dsimp only at hMa hMb
    rw [eb_X11_total_53, if_neg (fun z => by have := (nlt (by omega) (by omega)).mp z; omega)]
    by_cases hsub : k &&& s = k
    · obtain ⟨d1, d2⟩ := tb_diff s (by omega) k (by omega) hsub
      have hbq : Nat.beq (k &&& s) k = true := by rw [hsub]; exact Nat.beq_refl k
      have hk0 : Nat.beq k 0 = false := by
        cases hq : Nat.beq k 0 with
        | true => have := Nat.eq_of_beq_eq_true hq; omega
        | false => rfl
      rw [if_pos ((tb_sub k (by omega) s (by omega)).mpr hsub), lt, d1, ep320]
      obtain ⟨m, hm, hMm⟩ := hW (s - k) (by omega)
      obtain ⟨f3, e3, l3, -⟩ := t_load (nx := 5120) (fx := fwholes) (ny := 320) (fy := a3) (n := m) (p := (s - k) * 320) (sh0 hMm) (by omega) (by omega) (by omega) (by omega)
      have hM3 : MR f3 m (gT4 (tR cell vals N R w ms fr tt) (s - k)) := MR_congr hMm (fun j hj => l3 j hj)
      obtain ⟨z, ez, n4, hn4, hM4⟩ := t_term (i4 := i4) (i5 := i5) (i6 := i6) (ff := a1) (fm := a2) h hN4 hS hs (by omega) hsub hM3
      have c1 := MR_len hMa (bo _ (by omega))
      have c2 := MR_len hMb (be _ (by omega))
      have hpl := pop5_le k
      rw [e3]
      simp only [Option.bind_some]
      rw [ez]
      simp only [Option.bind_some]
      rw [t_bits (by omega)]
      simp only [Option.bind_some]
      rw [show (2 : Int32) = nI 2 from rfl, nI_rem (by omega) (by omega) (by omega)]
      have hpe : k % 2 + k / 2 % 2 + k / 4 % 2 + k / 8 % 2 = pop5 k := by unfold pop5; omega
      by_cases ho : pop5 k % 2 = 1
      · rw [if_pos (by rw [ho]; rfl)]
        obtain ⟨f5, n5, e5, -, hM5, -⟩ := t_plus (nx := 320) (ny := 320) hMa hM4 _ rfl (by omega) (by omega) (by omega) (by omega)
        rw [e5]
        simp only [Option.bind_some, lt]
        rw [nI_1]
        refine ⟨_, rfl, n5, n2, ?_, ?_⟩
        · have : odP s k = true := by unfold odP; rw [hbq, hk0, hpe, ho]; rfl
          rw [acF_t this]
          exact hM5
        · have : evP s k = false := by unfold evP; rw [hbq, hk0, hpe, ho]; rfl
          rw [acF_f this]
          exact hMb
      · have ho0 : pop5 k % 2 = 0 := by omega
        rw [if_neg (by rw [ho0]; decide)]
        obtain ⟨f5, n5, e5, -, hM5, -⟩ := t_plus (nx := 320) (ny := 320) hMb hM4 _ rfl (by omega) (by omega) (by omega) (by omega)
        rw [e5]
        simp only [Option.bind_some, lt]
        rw [nI_1]
        refine ⟨_, rfl, n1, n5, ?_, ?_⟩
        · have : odP s k = false := by unfold odP; rw [hbq, hk0, hpe, ho0]; rfl
          rw [acF_f this]
          exact hMa
        · have : evP s k = true := by unfold evP; rw [hbq, hk0, hpe, ho0]; rfl
          rw [acF_t this]
          exact hM5
    · rw [if_neg (fun z => hsub ((tb_sub k (by omega) s (by omega)).mp z))]
      have hbq : Nat.beq (k &&& s) k = false := by
        cases hq : Nat.beq (k &&& s) k with
        | true => exact absurd (Nat.eq_of_beq_eq_true hq) hsub
        | false => rfl
      rw [lt, nI_1]
      refine ⟨_, rfl, n1, n2, ?_, ?_⟩
      · have : odP s k = false := by unfold odP; rw [hbq]; rfl
        rw [acF_f this]
        exact hMa
      · have : evP s k = false := by unfold evP; rw [hbq]; rfl
        rw [acF_f this]
        exact hMb
theorem HW_keep {t : Nat → Nat → Nat} {f g : Nat → Int32} {o x : Nat} (h : HW t f o) (hx : o ≠ x) (hg : ∀ j, j < x * 320 ∨ x * 320 + 319 < j → g j = f j) : HW t g o := by
  obtain ⟨n, hn, hM⟩ := h
  refine ⟨n, hn, MR_congr hM (fun k hk => hg _ ?_)⟩
  rcases Nat.lt_or_gt_of_ne hx with z | z <;> omega
theorem t_total_in (h : MS N R w vals cell fvalues fcells) (hN4 : N ≤ 4) {q : T13} (hS : ∀ a o, a < N → o < 2 ^ N → HS cell vals N R w ms fr tt q.2.2.2.2.2.2.2.2.2.2.2.2.2 a o) (hW : HW (tR cell vals N R w ms fr tt) fwholes 0) :
    ∃ z, lp (b_X11_total_23 (nI N) (nI R) (nI w) i4 i5 i6 q) FU (1, fwholes, fmore, ffewer, ff, fm, fterm) = some z ∧ ∀ o, o < 2 ^ N → HW (tR cell vals N R w ms fr tt) z.2.1 o := by
  have h16 : 2 ^ N ≤ 2 ^ 4 := Nat.pow_le_pow_right (by decide) hN4
  have h1N : 1 ≤ 2 ^ N := Nat.pow_pos (by decide)
  have L := lp_cnt (body := b_X11_total_23 (nI N) (nI R) (nI w) i4 i5 i6 q) (fun k z => ∀ o, o < k → HW (tR cell vals N R w ms fr tt) z.1 o) (n0 := 1) (n1 := 2 ^ N) h1N (by omega) ?_ ?_ (s0 := (fwholes, fmore, ffewer, ff, fm, fterm)) (fun o ho => by rw [show o = 0 by omega]; exact hW)
  · obtain ⟨s1, e1, hI⟩ := L
    exact ⟨_, e1, hI⟩
  · rintro ⟨a1, a2, a3, a4, a5, a6⟩ -
    rw [eb_X11_total_23, tb_pow N (by omega), if_pos ((nle (by omega) (by omega)).mpr (Nat.le_refl _))]
  · rintro k ⟨a1, a2, a3, a4, a5, a6⟩ hk1 hk hA
    dsimp only at hA
    rw [eb_X11_total_23, tb_pow N (by omega), if_neg (fun z => by have := (nle (by omega) (by omega)).mp z; omega)]
    obtain ⟨f2, e2, hM2, -⟩ := t_put (nx := 320) (fx := a2) (v := 0) (by omega) (by omega) (by omega)
    obtain ⟨f3, e3, hM3, -⟩ := t_put (nx := 320) (fx := a3) (v := 0) (by omega) (by omega) (by omega)
    rw [if_pos rfl] at hM2 hM3
    obtain ⟨z, ez, n4, n5, hn4, hn5, hM4, hM5⟩ := t_ends (i4 := i4) (i5 := i5) (i6 := i6) (ff := a4) (fm := a5) (fterm := a6) h hN4 hS hk (by omega) hA hM2 hM3
    have hin := inex (t := tR cell vals N R w ms fr tt) (s := k) (by omega) (by omega)
    obtain ⟨f6, n6, e6, hn6, hM6, -⟩ := t_less (nx := 320) (ny := 320) hM4 hM5 (by omega) (by omega) (by omega) (by omega) (by omega)
    rw [hin, Nat.add_sub_cancel] at hM6
    obtain ⟨q7, e7, l7, o7⟩ := t_sto (nx := 320) (fx := f6) (ny := 5120) (fy := a1) (n := n6) (p := k * 320) hM6.1 (by omega) (by omega) (by omega) (by omega)
    have hout : ∀ j, j < k * 320 ∨ k * 320 + 319 < j → q7.2 j = a1 j := fun j hj => o7 j (by omega)
    rw [show (0 : Int32) = nI 0 from rfl, e2]
    simp only [Option.bind_some]
    rw [e3]
    simp only [Option.bind_some]
    rw [ez]
    simp only [Option.bind_some]
    rw [e6]
    simp only [Option.bind_some]
    rw [sto_197, ep320, show nI 0 = (0 : Int32) from rfl, e7]
    simp only [Option.bind_some, lt]
    rw [nI_1]
    refine ⟨_, rfl, fun o ho => ?_⟩
    by_cases hok : o = k
    · subst hok
      exact ⟨n6, by omega, MR_congr hM6 (fun j hj => l7 j hj)⟩
    · exact HW_keep (hA o (by omega)) hok hout
theorem t_total (h : MS N R w vals cell fvalues fcells) (hk : MK cell vals N R w fk ftops flows) (hN4 : N ≤ 4) (hms : ms ≤ 4) (hfr : fr < 0 ∨ u3 fr < 5) (htt : tt < 5) :
    ∃ q n, m_X11_total (nI N) (nI R) (nI w) (nI ms) i5 i6 fvalues fcells fk ftops flows fsmall flarge fone ftwo frest ff fm fterms fterm fsum fsums fwholes fmore ffewer 320 fx fr (nI tt) = some q ∧ MK cell vals N R w q.1 q.2.1 q.2.2.1 ∧ n ≤ 197 ∧ MR q.2.2.2.2.2.2.2.2.2.2.2.2.2.2.2.2.2 n (gT4 (tR cell vals N R w ms fr tt) (2 ^ N - 1)) := by
  have h16 : 2 ^ N ≤ 2 ^ 4 := Nat.pow_le_pow_right (by decide) hN4
  have h1N : 1 ≤ 2 ^ N := Nat.pow_pos (by decide)
  obtain ⟨q, eq, hKq, hS⟩ := t_sumUp (i5 := i5) (i6 := i6) (fsmall := fsmall) (flarge := flarge) (fone := fone) (ftwo := ftwo) (frest := frest) (ff := ff) (fm := fm) (fterms := fterms) (fterm := fterm) (fsum := fsum) (fsums := fsums) h hk hN4 hms hfr htt
  obtain ⟨z, ez, hz⟩ := t_total_in (i4 := nI ms) (i5 := i5) (i6 := i6) (fwholes := upd (upd fwholes 0 1) 1 1) (fmore := fmore) (ffewer := ffewer) (ff := q.2.2.2.2.2.2.2.2.1) (fm := q.2.2.2.2.2.2.2.2.2.1) (fterm := q.2.2.2.2.2.2.2.2.2.2.2.1) h hN4 hS ⟨1, by omega, by rw [gT4_0]; exact MR_one (p := 0)⟩
  obtain ⟨m, hm, hMm⟩ := hz (2 ^ N - 1) (by omega)
  obtain ⟨f3, e3, l3, -⟩ := t_load (nx := 5120) (fx := z.2.1) (ny := 320) (fy := fx) (n := m) (p := (2 ^ N - 1) * 320) (sh0 hMm) (by omega) (by omega) (by omega) (by omega)
  have hM3 : MR f3 m (gT4 (tR cell vals N R w ms fr tt) (2 ^ N - 1)) := MR_congr hMm (fun j hj => l3 j hj)
  rw [em_X11_total, eq]
  simp only [Option.bind_some]
  rw [if_pos (ix_0 (by omega) (by omega))]
  simp only [lt]
  rw [if_pos (ix_1 (by omega) (by omega)), c0, c1]
  rw [ez]
  simp only [Option.bind_some]
  rw [tb_all N (by omega), ep320, e3]
  refine ⟨_, m, rfl, hKq, hm, hM3⟩
theorem t_least0 {i1 i2 i3 : Int32} {fone ftwo frest fa fb : Nat → Int32} {b Y : Nat} (hX : MR fa 0 0) (hY0 : 0 < Y) :
    ∃ q n1 n2, m_X11_least i1 i2 i3 i4 i5 i6 fone ftwo frest fa fb = some q ∧ MR q.2.2.2.1 n1 (0 / Nat.gcd 0 Y) ∧ n1 ≤ 0 ∧ MR q.2.2.2.2 n2 (Y / Nat.gcd 0 Y) ∧ n2 ≤ 1 := by
  obtain ⟨f, e, hM, -⟩ := t_put (nx := 320) (fx := fb) (v := 1) (by omega) (by omega) (by omega)
  rw [em_X11_least, if_pos (ix_0 (by omega) (by omega)), c0, hX.1, if_pos (show nI 0 = (0 : Int32) from rfl), show (1 : Int32) = nI 1 from rfl, e]
  refine ⟨_, 0, 1, rfl, ?_, Nat.le_refl _, ?_, Nat.le_refl _⟩
  · rw [Nat.zero_div]; exact hX
  · rw [Nat.gcd_zero_left, Nat.div_self hY0]; exact hM
/-- the reference's share, above and below -/
def shT (cell : Nat → Nat → Nat) (vals : Nat → Nat) (N R w ms ff tt : Nat) : Nat := gT4 (tR cell vals N R w ms (nI ff) tt) (2 ^ N - 1)
def shL (cell : Nat → Nat → Nat) (vals : Nat → Nat) (N R w ms tt : Nat) : Nat := gT4 (tR cell vals N R w ms (-1) tt) (2 ^ N - 1)
theorem shL_pos (h : MS N R w vals cell fvalues fcells) (hN4 : N ≤ 4) : 0 < shL cell vals N R w ms tt := by
  refine gT4_pos hN4 (fun c hc => ?_)
  have hb : 0 / 2 ^ c % 2 = 0 := by rw [Nat.zero_div]
  unfold tR
  rw [if_pos ⟨⟨hc, Nat.pow_pos (by decide)⟩, hb, Nat.zero_le _, by unfold okT; simp⟩]
  exact (rt_len h hN4 hc (Nat.pow_pos (by decide)) hb (Nat.le_refl _)).2
theorem t_tellShare (h : MS N R w vals cell fvalues fcells) (hk : MK cell vals N R w fk ftops flows) (hN4 : N ≤ 4) (hms : ms ≤ 4) {a : Nat} (ha : a < 5) (htt : tt < 5) (hne : ¬ i6 = nI (5 * a + tt)) :
    ∃ q n1 n2, m_X11_tellShare (nI N) (nI R) (nI w) (nI ms) i5 i6 fvalues fcells fk ftops flows fsmall flarge fone ftwo frest ff fm fterms fterm fsum fsums fwholes fmore ffewer fx fy (nI a) (nI tt) = some q ∧ q.1 = -1 ∧ q.2.1 = nI (5 * a + tt) ∧ MK cell vals N R w q.2.2.1 q.2.2.2.1 q.2.2.2.2.1 ∧ n1 ≤ 197 ∧ n2 ≤ 197 ∧
      MR q.2.2.2.2.2.2.2.2.2.2.2.2.2.2.2.2.2.2.2.1 n1 (shT cell vals N R w ms a tt / Nat.gcd (shT cell vals N R w ms a tt) (shL cell vals N R w ms tt)) ∧ MR q.2.2.2.2.2.2.2.2.2.2.2.2.2.2.2.2.2.2.2.2 n2 (shL cell vals N R w ms tt / Nat.gcd (shT cell vals N R w ms a tt) (shL cell vals N R w ms tt)) := by
  obtain ⟨r1, m1, e1, hK1, hm1, hM1⟩ := t_total (i5 := i5) (i6 := i6) (fsmall := fsmall) (flarge := flarge) (fone := fone) (ftwo := ftwo) (frest := frest) (ff := ff) (fm := fm) (fterms := fterms) (fterm := fterm) (fsum := fsum) (fsums := fsums) (fwholes := fwholes) (fmore := fmore) (ffewer := ffewer) (fx := fx) (fr := nI a) (tt := tt) h hk hN4 hms (Or.inr (by rw [u3n (by omega)]; exact ha)) htt
  obtain ⟨r2, m2, e2, hK2, hm2, hM2⟩ := t_total (i5 := i5) (i6 := i6) (fsmall := r1.2.2.2.1) (flarge := r1.2.2.2.2.1) (fone := r1.2.2.2.2.2.1) (ftwo := r1.2.2.2.2.2.2.1) (frest := r1.2.2.2.2.2.2.2.1) (ff := r1.2.2.2.2.2.2.2.2.1) (fm := r1.2.2.2.2.2.2.2.2.2.1) (fterms := r1.2.2.2.2.2.2.2.2.2.2.1) (fterm := r1.2.2.2.2.2.2.2.2.2.2.2.1) (fsum := r1.2.2.2.2.2.2.2.2.2.2.2.2.1) (fsums := r1.2.2.2.2.2.2.2.2.2.2.2.2.2.1) (fwholes := r1.2.2.2.2.2.2.2.2.2.2.2.2.2.2.1) (fmore := r1.2.2.2.2.2.2.2.2.2.2.2.2.2.2.2.1) (ffewer := r1.2.2.2.2.2.2.2.2.2.2.2.2.2.2.2.2.1) (fx := fy) (fr := -1) (tt := tt) h hK1 hN4 hms (Or.inl (by decide)) htt
  have hpos : 0 < shL cell vals N R w ms tt := shL_pos h hN4
  have e5 : (5 : Int32) * nI a + nI tt = nI (5 * a + tt) := five a tt
  have fin : ∃ q n1 n2, m_X11_least (nI N) (nI R) (nI w) (nI ms) i5 i6 r2.2.2.2.2.2.1 r2.2.2.2.2.2.2.1 r2.2.2.2.2.2.2.2.1 r1.2.2.2.2.2.2.2.2.2.2.2.2.2.2.2.2.2 r2.2.2.2.2.2.2.2.2.2.2.2.2.2.2.2.2.2 = some q ∧ n1 ≤ 197 ∧ n2 ≤ 197 ∧ MR q.2.2.2.1 n1 (shT cell vals N R w ms a tt / Nat.gcd (shT cell vals N R w ms a tt) (shL cell vals N R w ms tt)) ∧ MR q.2.2.2.2 n2 (shL cell vals N R w ms tt / Nat.gcd (shT cell vals N R w ms a tt) (shL cell vals N R w ms tt)) := by
    rcases Nat.eq_zero_or_pos (shT cell vals N R w ms a tt) with hz | hp
    · have hz2 : gT4 (tR cell vals N R w ms (nI a) tt) (2 ^ N - 1) = 0 := hz
      rw [hz2] at hM1
      have h0 : m1 = 0 := by
        rcases Nat.eq_zero_or_pos m1 with q | q
        · exact q
        · have := (MR_pos hM1).mp q; omega
      rw [h0] at hM1
      obtain ⟨q, n1, n2, e, a1, a2, a3, a4⟩ := t_least0 (i1 := nI N) (i2 := nI R) (i3 := nI w) (i4 := nI ms) (i5 := i5) (i6 := i6) (fone := r2.2.2.2.2.2.1) (ftwo := r2.2.2.2.2.2.2.1) (frest := r2.2.2.2.2.2.2.2.1) (fb := r2.2.2.2.2.2.2.2.2.2.2.2.2.2.2.2.2.2) (b := 0) hM1 hpos
      rw [hz]
      exact ⟨q, n1, n2, e, by omega, by omega, a1, a3⟩
    · obtain ⟨q, n1, n2, e, a1, a2, a3, a4⟩ := t_least (i1 := nI N) (i2 := nI R) (i3 := nI w) (i4 := nI ms) (i5 := i5) (i6 := i6) (fone := r2.2.2.2.2.2.1) (ftwo := r2.2.2.2.2.2.2.1) (frest := r2.2.2.2.2.2.2.2.1) hM1 hM2 hp hpos (by omega) (by omega)
      exact ⟨q, n1, n2, e, by omega, by omega, a1, a3⟩
  obtain ⟨r3, n1, n2, e3, hn1, hn2, hA, hB⟩ := fin
  rw [em_X11_tellShare, e5, if_neg hne, e1]
  simp only [Option.bind_some]
  rw [e2]
  simp only [Option.bind_some]
  rw [e3]
  refine ⟨_, n1, n2, rfl, rfl, rfl, hK2, hn1, hn2, hA, hB⟩
end RT
