/-! the reference's shares: sumUp, total -/
theorem acF_t {p : Nat → Bool} {f : Nat → Nat} {n : Nat} (h : p n = true) : acF p f (n + 1) = acF p f n + f n := by
  show acF p f n + (match p n with | true => f n | false => 0) = _
  rw [h]
theorem acF_f {p : Nat → Bool} {f : Nat → Nat} {n : Nat} (h : p n = false) : acF p f (n + 1) = acF p f n := by
  show acF p f n + (match p n with | true => f n | false => 0) = _
  rw [h]
  rfl
theorem sh0 {f : Nat → Int32} {p n v : Nat} (h : MR (sh f p) n v) : f p = nI n := by
  have := h.1
  unfold sh at this
  rw [Nat.add_zero] at this
  exact this
theorem acF_le {p : Nat → Bool} {f : Nat → Nat} {M : Nat} (h : ∀ k, f k ≤ M) : ∀ n, acF p f n ≤ n * M := by
  intro n
  induction n with
  | zero => exact Nat.zero_le _
  | succ n ih =>
    unfold acF
    rw [Nat.add_mul, Nat.one_mul]
    cases p n with
    | true => exact Nat.add_le_add ih (h n)
    | false => exact Nat.add_le_add ih (Nat.zero_le _)
theorem ssum_app (f : Nat → Nat) (L M : List Nat) : ssum f (L ++ M) = ssum f L + ssum f M := by
  induction L with
  | nil => simp [ssum]
  | cons x L ih => show f x + ssum f (L ++ M) = (f x + ssum f L) + ssum f M; rw [ih, Nat.add_assoc]
theorem ssum_ac {q : Nat → Bool} {f : Nat → Nat} : ∀ n, ssum f ((List.range n).filter q) = acF q f n := by
  intro n
  induction n with
  | zero => rfl
  | succ n ih =>
    rw [List.range_succ, List.filter_append, ssum_app, ih]
    cases hq : q n with
    | true => rw [List.filter_cons_of_pos hq, acF_t hq]; rfl
    | false => rw [List.filter_cons_of_neg (by rw [hq]; decide), acF_f hq]; rfl
theorem acF_cut {p : Nat → Bool} {f : Nat → Nat} {m : Nat} : ∀ n, m ≤ n → (∀ k, m ≤ k → k < n → p k = false) → acF p f n = acF p f m := by
  intro n
  induction n with
  | zero => intro h _; rw [show m = 0 by omega]
  | succ n ih =>
    intro h hp
    by_cases e : m = n + 1
    · rw [e]
    · rw [acF_f (hp n (by omega) (by omega)), ih (by omega) (fun k a b => hp k a (by omega))]
theorem sub_ac {f : Nat → Nat} {X : Nat} (hX : X < 16) : ssum f (subL X) = acF (fun s => Nat.beq (s &&& X) s) f (X + 1) := by
  unfold subL
  rw [ssum_ac]
  refine acF_cut 16 (by omega) (fun k h1 h2 => ?_)
  cases hb : Nat.beq (k &&& X) k with
  | true =>
    have h3 := Nat.eq_of_beq_eq_true hb
    have h4 : k &&& X ≤ X := Nat.and_le_right
    omega
  | false => rfl
def okT (fr : Int32) (tt c s : Nat) : Bool := !(Nat.beq c tt) || (decide (fr < 0) || Nat.beq (s / 2 ^ u3 fr % 2) 1)
def tR (cell : Nat → Nat → Nat) (vals : Nat → Nat) (N R w ms : Nat) (fr : Int32) (tt c s : Nat) : Nat := if (c < N ∧ s < 2 ^ N) ∧ s / 2 ^ c % 2 = 0 ∧ pop5 s ≤ ms ∧ okT fr tt c s = true then rtF cell vals N R w c s else 0
theorem t_sto {nx : Nat} {fx : Nat → Int32} {ny : Nat} {fy : Nat → Int32} {n p : Nat} (h0 : fx 0 = nI n) (hn : n < nx) (hy : p + n < ny) (hx : nx ≤ 50000) (hy2 : ny ≤ 50000) : ∃ q, lp (b_X11_store_2 nx fx ny (nI p)) FU (0, fy) = some q ∧ (∀ k, k ≤ n → q.2 (p + k) = fx k) ∧ ∀ j, j < p ∨ p + n < j → q.2 j = fy j := by
  obtain ⟨f', e, h1, h2⟩ := t_store (fy := fy) h0 hn hy hx hy2
  rw [em_X11_store] at e
  obtain ⟨q, e1, e2⟩ := Option.bind_eq_some_iff.mp e
  cases e2
  exact ⟨q, e1, h1, h2⟩
theorem sto_169 (a b : Int32) (q : Int32 × (Nat → Int32) × (Nat → Int32)) : b_X11_sumUp_169 a b q = b_X11_store_2 320 q.2.2 5120 (((16 * a) + b) * 80) := rfl
theorem sto_197 (a : Int32) (r : Nat → Int32) : b_X11_total_197 a r = b_X11_store_2 320 r 5120 (a * 320) := rfl
theorem ep80 (c s : Nat) : ((16 : Int32) * nI c + nI s) * 80 = nI ((16 * c + s) * 80) := by rw [show (16 : Int32) = nI 16 from rfl, show (80 : Int32) = nI 80 from rfl, nI_mulm, nI_add, nI_mulm]
theorem ep320 (s : Nat) : nI s * 320 = nI (s * 320) := by rw [show (320 : Int32) = nI 320 from rfl, nI_mulm]
section RS
variable {N R w ms tt : Nat} {vals : Nat → Nat} {cell : Nat → Nat → Nat} {fvalues fcells : Nat → Int32} {i4 i5 i6 fr : Int32} {fk ftops flows fsmall flarge fone ftwo frest ff fm fterms fterm fsum fsums fwholes fmore ffewer fx : Nat → Int32} {c s : Nat}
theorem tR_le (h : MS N R w vals cell fvalues fcells) (hN4 : N ≤ 4) (c s : Nat) : tR cell vals N R w ms fr tt c s ≤ BB ^ 48 := by
  unfold tR
  split
  · rename_i z
    exact Nat.le_of_lt (rt_len h hN4 z.1.1 z.1.2 z.2.1 (Nat.le_refl _)).1
  · exact Nat.zero_le _
def HS (cell : Nat → Nat → Nat) (vals : Nat → Nat) (N R w ms : Nat) (fr : Int32) (tt : Nat) (f : Nat → Int32) (c o : Nat) : Prop := ∃ n, n ≤ 49 ∧ MR (sh f ((16 * c + o) * 80)) n (ssum (tR cell vals N R w ms fr tt c) (subL o))
def HT (cell : Nat → Nat → Nat) (vals : Nat → Nat) (N R w : Nat) (f : Nat → Int32) (c o : Nat) : Prop := ∃ n, n ≤ 48 ∧ MR (sh f ((16 * c + o) * 80)) n (rtF cell vals N R w c o)
theorem le49 : 16 * BB ^ 48 < BB ^ 49 := by decide
theorem ac49 (h : MS N R w vals cell fvalues fcells) (hN4 : N ≤ 4) {p : Nat → Bool} {k : Nat} (hk : k ≤ 16) : acF p (tR cell vals N R w ms fr tt c) k < BB ^ 49 :=
  Nat.lt_of_le_of_lt (Nat.le_trans (acF_le (tR_le h hN4 c) k) (Nat.mul_le_mul_right _ hk)) le49
theorem t_sum_in (h : MS N R w vals cell fvalues fcells) (hN4 : N ≤ 4) (hms : ms ≤ 4) (hfr : fr < 0 ∨ u3 fr < 5) (htt : tt < 5) (hc : c < N) {o : Nat} (ho : o < 2 ^ N) {q : Int32 × (Nat → Int32) × (Nat → Int32) × (Nat → Int32) × (Nat → Int32) × (Nat → Int32) × (Nat → Int32) × (Nat → Int32) × (Nat → Int32) × (Nat → Int32) × (Nat → Int32) × (Nat → Int32) × (Nat → Int32)} (hT : ∀ s, s < 2 ^ N → s / 2 ^ c % 2 = 0 → HT cell vals N R w q.2.2.2.2.2.2.2.2.2.2.2.1 c s) {f1 f2 : Nat → Int32} (h0 : MR f2 0 0) :
    ∃ z, lp (b_X11_sumUp_71 (nI ms) fr (nI tt) (nI c) q (nI o)) FU (0, f1, f2) = some z ∧ ∃ n, n ≤ 49 ∧ MR z.2.2 n (ssum (tR cell vals N R w ms fr tt c) (subL o)) := by
  have h2N := two_N N (by omega)
  have h16 : 2 ^ N ≤ 16 := by
    have : 2 ^ N ≤ 2 ^ 4 := Nat.pow_le_pow_right (by decide) hN4
    omega
  have L := lp_cnt (body := b_X11_sumUp_71 (nI ms) fr (nI tt) (nI c) q (nI o)) (fun k z => ∃ n, MR z.2 n (acF (fun s => Nat.beq (s &&& o) s) (tR cell vals N R w ms fr tt c) k)) (n0 := 0) (n1 := o + 1) (Nat.zero_le _) (by omega) ?_ ?_ (s0 := (f1, f2)) ⟨0, h0⟩
  · obtain ⟨s1, e1, n1, hM1⟩ := L
    refine ⟨_, e1, n1, MR_len hM1 (ac49 h hN4 (by omega)), ?_⟩
    rw [sub_ac (by omega)]
    exact hM1
  · rintro ⟨a1, a2⟩ -
    rw [eb_X11_sumUp_71, if_pos ((nlt (by omega) (by omega)).mpr (by omega))]
  · rintro k ⟨a1, a2⟩ - hk ⟨n, hMa⟩
    dsimp only at hMa
    rw [eb_X11_sumUp_71, if_neg (fun z => by have := (nlt (by omega) (by omega)).mp z; omega)]
    have skip : (tR cell vals N R w ms fr tt c k = 0 ∨ Nat.beq (k &&& o) k = false) → ∃ n, MR a2 n (acF (fun s => Nat.beq (s &&& o) s) (tR cell vals N R w ms fr tt c) (k + 1)) := by
      intro z
      refine ⟨n, ?_⟩
      cases hb : Nat.beq (k &&& o) k with
      | true =>
        rcases z with z | z
        · rw [acF_t (p := fun s => Nat.beq (s &&& o) s) hb, z, Nat.add_zero]; exact hMa
        · rw [hb] at z; cases z
      | false => rw [acF_f (p := fun s => Nat.beq (s &&& o) s) hb]; exact hMa
    by_cases hsub : k &&& o = k
    · rw [if_pos ((tb_sub k (by omega) o (by omega)).mpr hsub)]
      have hbq : Nat.beq (k &&& o) k = true := by rw [hsub]; exact Nat.beq_refl k
      by_cases hb : k / 2 ^ c % 2 = 0
      · rw [if_pos ((bit0 (by omega) (by omega)).mpr hb), t_bits (by omega)]
        simp only [Option.bind_some]
        have hpl := pop5_le k
        have go : okT fr tt c k = true → pop5 k ≤ ms → ∃ s', ((m_X11_load 5120 q.2.2.2.2.2.2.2.2.2.2.2.1 320 a1 (((16 * nI c) + nI k) * 80)).bind (fun r_46 : (Nat → Int32) => (m_X11_plus 320 a2 320 r_46).bind (fun r_47 : (Nat → Int32) => lt (nI k + 1 : Int32) (fun x5_48 : Int32 => some (Sum.inl (β := Int32 × (Nat → Int32) × (Nat → Int32)) (x5_48, r_46, r_47)))))) = some (.inl (nI (k + 1), s')) ∧ ∃ n, MR s'.2 n (acF (fun s => Nat.beq (s &&& o) s) (tR cell vals N R w ms fr tt c) (k + 1)) := by
          intro hok hms2
          obtain ⟨nt, hnt, hMt⟩ := hT k (by omega) hb
          obtain ⟨f3, e3, l3, -⟩ := t_load (nx := 5120) (fx := q.2.2.2.2.2.2.2.2.2.2.2.1) (ny := 320) (fy := a1) (n := nt) (p := (16 * c + k) * 80) (sh0 hMt) (by omega) (by omega) (by omega) (by omega)
          have hM3 : MR f3 nt (rtF cell vals N R w c k) := MR_congr hMt (fun j hj => l3 j hj)
          have cl1 := MR_len hMa (ac49 h hN4 (by omega))
          obtain ⟨f4, n4, e4, -, hM4, -⟩ := t_plus (nx := 320) (ny := 320) hMa hM3 _ rfl (by omega) (by omega) (by omega) (by omega)
          refine ⟨(f3, f4), by rw [ep80, e3]; simp only [Option.bind_some]; rw [e4]; simp only [Option.bind_some, lt]; rw [nI_1], n4, ?_⟩
          have : tR cell vals N R w ms fr tt c k = rtF cell vals N R w c k := if_pos ⟨⟨hc, by omega⟩, hb, hms2, hok⟩
          rw [acF_t (p := fun s => Nat.beq (s &&& o) s) hbq, this]
          exact hM4
        by_cases hp : ms < pop5 k
        · rw [if_pos ((nlt (by omega) (by omega)).mpr hp)]
          simp only [Option.bind_some, if_true]
          rw [lt, nI_1]
          refine ⟨_, rfl, skip (Or.inl (if_neg (fun z => by omega)))⟩
        · rw [if_neg (fun z => hp ((nlt (by omega) (by omega)).mp z))]
          by_cases hct : c = tt
          · rw [if_pos (by rw [hct])]
            by_cases hf : fr < 0
            · rw [if_pos hf]
              simp only [Option.bind_some, if_true, Bool.false_eq_true, if_false]
              exact go (by unfold okT; rw [decide_eq_true hf]; simp) (by omega)
            · rw [if_neg hf]
              have hf5 : u3 fr < 5 := hfr.resolve_left hf
              have ef : fr = nI (u3 fr) := (nI_u3 fr).symm
              by_cases hb2 : k / 2 ^ u3 fr % 2 = 1
              · rw [if_pos (by rw [ef]; exact (bit1 (by omega) (by omega)).mpr hb2)]
                simp only [Option.bind_some, if_true, Bool.false_eq_true, if_false]
                exact go (by unfold okT; rw [hb2]; simp) (by omega)
              · rw [if_neg (by rw [ef]; exact fun z => hb2 ((bit1 (by omega) (by omega)).mp z))]
                simp only [Option.bind_some, Bool.false_eq_true, if_false, if_true]
                rw [lt, nI_1]
                refine ⟨_, rfl, skip (Or.inl (if_neg (fun z => ?_)))⟩
                have z4 := z.2.2.2
                unfold okT at z4
                rw [hct, decide_eq_false hf] at z4
                simp only [Nat.beq_refl, Bool.not_true, Bool.false_or] at z4
                exact hb2 (Nat.eq_of_beq_eq_true z4)
          · rw [if_neg (fun z => hct ((neq (by omega) (by omega)).mp z))]
            simp only [Option.bind_some, if_true, Bool.false_eq_true, if_false]
            refine go ?_ (by omega)
            unfold okT
            cases hq : Nat.beq c tt with
            | true => exact absurd (Nat.eq_of_beq_eq_true hq) hct
            | false => rfl
      · rw [if_neg (fun z => hb ((bit0 (by omega) (by omega)).mp z))]
        rw [lt, nI_1]
        exact ⟨_, rfl, skip (Or.inl (if_neg (fun z => hb z.2.1)))⟩
    · rw [if_neg (fun z => hsub ((tb_sub k (by omega) o (by omega)).mp z))]
      rw [lt, nI_1]
      refine ⟨_, rfl, skip (Or.inr ?_)⟩
      cases hq : Nat.beq (k &&& o) k with
      | true => exact absurd (Nat.eq_of_beq_eq_true hq) hsub
      | false => rfl
theorem HS_keep {f g : Nat → Int32} {c o x : Nat} (h : HS cell vals N R w ms fr tt f c o) (hx : 16 * c + o ≠ x) (hg : ∀ j, j < x * 80 ∨ x * 80 + 79 < j → g j = f j) : HS cell vals N R w ms fr tt g c o := by
  obtain ⟨n, hn, hM⟩ := h
  refine ⟨n, hn, MR_congr hM (fun k hk => hg _ ?_)⟩
  rcases Nat.lt_or_gt_of_ne hx with z | z <;> omega
theorem HT_keep {f g : Nat → Int32} {c o x : Nat} (h : HT cell vals N R w f c o) (hx : 16 * c + o ≠ x) (hg : ∀ j, j < x * 80 ∨ x * 80 + 79 < j → g j = f j) : HT cell vals N R w g c o := by
  obtain ⟨n, hn, hM⟩ := h
  refine ⟨n, hn, MR_congr hM (fun k hk => hg _ ?_)⟩
  rcases Nat.lt_or_gt_of_ne hx with z | z <;> omega
theorem t_terms (h : MS N R w vals cell fvalues fcells) (hk : MK cell vals N R w fk ftops flows) (hN4 : N ≤ 4) (hc : c < N) :
    ∃ q, lp (b_X11_sumUp_13 (nI N) (nI R) (nI w) i4 i5 i6 fvalues fcells (nI c)) FU (0, fk, ftops, flows, fsmall, flarge, fone, ftwo, frest, ff, fm, fterms, fterm) = some q ∧ MK cell vals N R w q.2.1 q.2.2.1 q.2.2.2.1 ∧ ∀ s, s < 2 ^ N → s / 2 ^ c % 2 = 0 → HT cell vals N R w q.2.2.2.2.2.2.2.2.2.2.2.1 c s := by
  have hN := h.1
  have h2N := two_N N (by omega)
  have L := lp_cnt (body := b_X11_sumUp_13 (nI N) (nI R) (nI w) i4 i5 i6 fvalues fcells (nI c)) (fun k z => MK cell vals N R w z.1 z.2.1 z.2.2.1 ∧ ∀ s, s < k → s / 2 ^ c % 2 = 0 → HT cell vals N R w z.2.2.2.2.2.2.2.2.2.2.1 c s) (n0 := 0) (n1 := 2 ^ N) (Nat.zero_le _) (by omega) ?_ ?_ (s0 := (fk, ftops, flows, fsmall, flarge, fone, ftwo, frest, ff, fm, fterms, fterm)) ⟨hk, fun s hs => by omega⟩
  · obtain ⟨s1, e1, hI⟩ := L
    exact ⟨_, e1, hI.1, hI.2⟩
  · rintro ⟨a1, a2, a3, a4, a5, a6, a7, a8, a9, a10, a11, a12⟩ -
    rw [eb_X11_sumUp_13, tb_pow N (by omega), if_pos ((nle (by omega) (by omega)).mpr (Nat.le_refl _))]
  · rintro k ⟨a1, a2, a3, a4, a5, a6, a7, a8, a9, a10, a11, a12⟩ - hkN ⟨hKa, hTa⟩
    dsimp only at hKa hTa
    rw [eb_X11_sumUp_13, tb_pow N (by omega), if_neg (fun z => by have := (nle (by omega) (by omega)).mp z; omega)]
    by_cases hb : k / 2 ^ c % 2 = 0
    · rw [if_pos ((bit0 (by omega) (by omega)).mpr hb)]
      obtain ⟨r, n, e, hKr, hn, hMr, hout⟩ := t_whole (i4 := i4) (i5 := i5) (i6 := i6) (fsmall := a4) (flarge := a5) (fone := a6) (ftwo := a7) (frest := a8) (ff := a9) (fm := a10) (fterms := a11) (fterm := a12) h hKa hN4 hc hkN hb
      rw [e]
      simp only [Option.bind_some, lt]
      rw [nI_1]
      refine ⟨_, rfl, hKr, fun s hs hsb => ?_⟩
      by_cases hsk : s = k
      · subst hsk
        exact ⟨n, hn, hMr⟩
      · exact HT_keep (hTa s (by omega) hsb) (x := 16 * c + k) (by omega) hout
    · rw [if_neg (fun z => hb ((bit0 (by omega) (by omega)).mp z))]
      rw [lt, nI_1]
      refine ⟨_, rfl, hKa, fun s hs hsb => ?_⟩
      by_cases hsk : s = k
      · subst hsk; exact absurd hsb hb
      · exact hTa s (by omega) hsb
theorem t_sums (h : MS N R w vals cell fvalues fcells) (hN4 : N ≤ 4) (hms : ms ≤ 4) (hfr : fr < 0 ∨ u3 fr < 5) (htt : tt < 5) (hc : c < N) {q : Int32 × (Nat → Int32) × (Nat → Int32) × (Nat → Int32) × (Nat → Int32) × (Nat → Int32) × (Nat → Int32) × (Nat → Int32) × (Nat → Int32) × (Nat → Int32) × (Nat → Int32) × (Nat → Int32) × (Nat → Int32)} (hT : ∀ s, s < 2 ^ N → s / 2 ^ c % 2 = 0 → HT cell vals N R w q.2.2.2.2.2.2.2.2.2.2.2.1 c s) {f1 f2 f3 : Nat → Int32} (hS : ∀ a o, a < c → o < 2 ^ N → HS cell vals N R w ms fr tt f3 a o) :
    ∃ z, lp (b_X11_sumUp_49 (nI N) (nI ms) fr (nI tt) (nI c) q) FU (0, f1, f2, f3) = some z ∧ ∀ a o, a < c + 1 → o < 2 ^ N → HS cell vals N R w ms fr tt z.2.2.2 a o := by
  have h2N := two_N N (by omega)
  have h16 : 2 ^ N ≤ 16 := by
    have : 2 ^ N ≤ 2 ^ 4 := Nat.pow_le_pow_right (by decide) hN4
    omega
  have L := lp_cnt (body := b_X11_sumUp_49 (nI N) (nI ms) fr (nI tt) (nI c) q) (fun k z => (∀ a o, a < c → o < 2 ^ N → HS cell vals N R w ms fr tt z.2.2 a o) ∧ ∀ o, o < k → HS cell vals N R w ms fr tt z.2.2 c o) (n0 := 0) (n1 := 2 ^ N) (Nat.zero_le _) (by omega) ?_ ?_ (s0 := (f1, f2, f3)) ⟨hS, fun o ho => by omega⟩
  · obtain ⟨s1, e1, hI1, hI2⟩ := L
    refine ⟨_, e1, fun a o ha ho => ?_⟩
    by_cases hac : a = c
    · subst hac; exact hI2 o ho
    · exact hI1 a o (by omega) ho
  · rintro ⟨a1, a2, a3⟩ -
    rw [eb_X11_sumUp_49, tb_pow N (by omega), if_pos ((nle (by omega) (by omega)).mpr (Nat.le_refl _))]
  · rintro k ⟨a1, a2, a3⟩ - hkN ⟨hA, hB⟩
    dsimp only at hA hB
    rw [eb_X11_sumUp_49, tb_pow N (by omega), if_neg (fun z => by have := (nle (by omega) (by omega)).mp z; omega)]
    obtain ⟨f4, e4, hM4, -⟩ := t_put (nx := 320) (fx := a2) (v := 0) (by omega) (by omega) (by omega)
    rw [if_pos rfl] at hM4
    obtain ⟨z, ez, n5, hn5, hM5⟩ := t_sum_in (f1 := a1) h hN4 hms hfr htt hc hkN hT hM4
    obtain ⟨q6, e6, l6, o6⟩ := t_sto (nx := 320) (fx := z.2.2) (ny := 5120) (fy := a3) (n := n5) (p := (16 * c + k) * 80) hM5.1 (by omega) (by omega) (by omega) (by omega)
    have hout : ∀ j, j < (16 * c + k) * 80 ∨ (16 * c + k) * 80 + 79 < j → q6.2 j = a3 j := fun j hj => o6 j (by omega)
    rw [show (0 : Int32) = nI 0 from rfl, e4]
    simp only [Option.bind_some]
    rw [show nI 0 = (0 : Int32) from rfl, ez]
    simp only [Option.bind_some]
    rw [sto_169, ep80, e6]
    simp only [Option.bind_some, lt]
    rw [nI_1]
    refine ⟨_, rfl, fun a o ha ho => HS_keep (hA a o ha ho) (x := 16 * c + k) (by omega) hout, fun o ho => ?_⟩
    by_cases hok : o = k
    · subst hok
      exact ⟨n5, hn5, MR_congr hM5 (fun j hj => l6 j hj)⟩
    · exact HS_keep (hB o (by omega)) (x := 16 * c + k) (by omega) hout
theorem t_sumUp (h : MS N R w vals cell fvalues fcells) (hk : MK cell vals N R w fk ftops flows) (hN4 : N ≤ 4) (hms : ms ≤ 4) (hfr : fr < 0 ∨ u3 fr < 5) (htt : tt < 5) :
    ∃ q, m_X11_sumUp (nI N) (nI R) (nI w) (nI ms) i5 i6 fvalues fcells fk ftops flows fsmall flarge fone ftwo frest ff fm fterms fterm fsum fsums fr (nI tt) = some q ∧ MK cell vals N R w q.1 q.2.1 q.2.2.1 ∧ ∀ a o, a < N → o < 2 ^ N → HS cell vals N R w ms fr tt q.2.2.2.2.2.2.2.2.2.2.2.2.2 a o := by
  have L := lp_cnt (body := b_X11_sumUp_2 (nI N) (nI R) (nI w) (nI ms) i5 i6 fvalues fcells fr (nI tt)) (fun k z => MK cell vals N R w z.1 z.2.1 z.2.2.1 ∧ ∀ a o, a < k → o < 2 ^ N → HS cell vals N R w ms fr tt z.2.2.2.2.2.2.2.2.2.2.2.2.2 a o) (n0 := 0) (n1 := N) (Nat.zero_le _) (by omega) ?_ ?_ (s0 := (fk, ftops, flows, fsmall, flarge, fone, ftwo, frest, ff, fm, fterms, fterm, fsum, fsums)) ⟨hk, fun a o ha => by omega⟩
  · obtain ⟨s1, e1, hI1, hI2⟩ := L
    rw [em_X11_sumUp, show (0 : Int32) = nI 0 from rfl, e1]
    refine ⟨_, rfl, hI1, hI2⟩
  · rintro ⟨a1, a2, a3, a4, a5, a6, a7, a8, a9, a10, a11, a12, a13, a14⟩ -
    rw [eb_X11_sumUp_2, if_pos ((nle (by omega) (by omega)).mpr (Nat.le_refl _))]
  · rintro k ⟨a1, a2, a3, a4, a5, a6, a7, a8, a9, a10, a11, a12, a13, a14⟩ - hkN ⟨hA, hB⟩
    dsimp only at hA hB
    rw [eb_X11_sumUp_2, if_neg (fun z => by have := (nle (by omega) (by omega)).mp z; omega)]
    obtain ⟨q, eq, hKq, hTq⟩ := t_terms (i4 := nI ms) (i5 := i5) (i6 := i6) (fsmall := a4) (flarge := a5) (fone := a6) (ftwo := a7) (frest := a8) (ff := a9) (fm := a10) (fterms := a11) (fterm := a12) h hA hN4 hkN
    obtain ⟨z, ez, hz⟩ := t_sums (f1 := q.2.2.2.2.2.2.2.2.2.2.2.2) (f2 := a13) h hN4 hms hfr htt hkN hTq hB
    rw [eq]
    simp only [Option.bind_some]
    rw [ez]
    simp only [Option.bind_some, lt]
    rw [nI_1]
    exact ⟨_, rfl, hKq, hz⟩
end RS
