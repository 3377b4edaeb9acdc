/-! Shares: sums over graphs, keepArc, of -/
theorem T133 : 16 * (543 * (BB ^ 33) ^ 4) < BB ^ 133 := by decide +kernel
theorem pJ65 : ∀ s, s < 16 → pJ (65 + s) = true := by decide +kernel
theorem nw168 {j : Nat} (h : 65 ≤ j) : nwJ j = 168 := by unfold nwJ; rw [if_neg (by omega), if_neg (by omega)]
section SG2
variable {N ms : Nat} {sf st rw0 sg : Int32} {t : Nat → Nat → Nat}
theorem pr133 (ht : ∀ c u, t c u ≤ WM) {s E n : Nat} (hs : s < 16) (hE : E < 16) (hc : Nat.beq (E &&& s) E = true) (hn : n ≤ 4) : gT4 t (s - E) * prE t (s - E) E n ≤ 543 * (BB ^ 33) ^ 4 :=
  Nat.le_trans (pr_le (a := WM) (b := BB ^ 33) ht (Nat.le_of_lt W33) (Nat.pow_pos (by decide)) hs hE hc n hn) (Nat.mul_le_mul_left _ (pw_le (Nat.pow_pos (by decide)) _))
theorem lt133 {x : Nat} (h : x ≤ 543 * (BB ^ 33) ^ 4) : x < BB ^ 133 := Nat.lt_of_le_of_lt (Nat.le_trans h (Nat.le_mul_of_pos_left _ (by decide))) T133
theorem gT133 (ht : ∀ c u, t c u ≤ WM) {s : Nat} (hs : s < 16) : gT4 t s < BB ^ 133 := by
  have h := pr133 ht (s := s) (E := 0) (n := 0) hs (by omega) (by rw [Nat.zero_and]; rfl) (by omega)
  unfold prE at h
  rw [Nat.mul_one, Nat.sub_zero] at h
  exact lt133 h
theorem ss33 (ht : ∀ c u, t c u ≤ WM) {c s : Nat} : ssum (t c) (subL s) < BB ^ 33 := Nat.lt_of_le_of_lt (ssub_le (ht c)) W33
/-- nothing but the term and these sums changes -/
def FRs (p : Nat → Prop) (v v' : Nat → Nat) : Prop := ∀ j, j ≠ 81 → ¬ (65 ≤ j ∧ j < 81 ∧ p (j - 65)) → v' j = v j
theorem tb_bx : ∀ s, s < 16 → ∀ E, E < 16 → E &&& s = E → ∀ c, c < 4 → E / 2 ^ c % 2 = 1 → (s - E) / 2 ^ c % 2 = 0 := by decide +kernel
theorem t_multiplyOut (hN4 : N ≤ 4) (ht : ∀ c u, t c u ≤ WM) {s E : Nat} (hs : s < 2 ^ N) (hE : E < 2 ^ N) (hc : E &&& s = E) {v : Nat → Nat} (hW : WAL N t v) (hv : v (65 + (s - E)) = gT4 t (s - E)) :
    ∃ v', m_X7_multiplyOut sf st (nI N) rw0 sg (nI ms) v (nI (s - E)) (nI E) = some v' ∧ v' 81 = enF t s E ∧ ∀ j, j ≠ 81 → v' j = v j := by
  have h16 : 2 ^ N ≤ 2 ^ 4 := Nat.pow_le_pow_right (by decide) hN4
  have hle : s - E ≤ s := Nat.sub_le _ _
  have hcb : Nat.beq (E &&& s) E = true := by rw [hc]; exact Nat.beq_refl E
  have b0 := gT133 ht (s := s - E) (by omega)
  have e0 : fCop v 81 (65 + (s - E)) = some (uN v 81 (gT4 t (s - E))) := by
    rw [fCop_e rfl (pJ65 _ (by omega)) (by omega) (by rw [hv, nw168 (by omega)]; have := wlen_le b0; omega), hv]
  have L := lp_cnt (body := b_X7_multiplyOut_14 (nI N) (nI (s - E)) (nI E)) (fun k z => z 81 = gT4 t (s - E) * prE t (s - E) E k ∧ ∀ j, j ≠ 81 → z j = v j) (n0 := 0) (n1 := N) (Nat.zero_le _) (by omega) ?_ ?_ (s0 := uN v 81 (gT4 t (s - E))) ⟨by rw [uN_s]; unfold prE; rw [Nat.mul_one], fun j hj => uN_n hj⟩
  · obtain ⟨s1, e1, h1, h2⟩ := L
    rw [em_X7_multiplyOut, six_e (by omega)]
    simp only [Option.bind_some]
    rw [e0]
    simp only [Option.bind_some]
    rw [show (0 : Int32) = nI 0 from rfl, e1]
    refine ⟨_, rfl, ?_, h2⟩
    unfold enF
    rw [prE_cut hE 4 hN4]
    exact h1
  · intro z _
    rw [eb_X7_multiplyOut_14, if_pos ((nle (by omega) (by omega)).mpr (Nat.le_refl _))]
  · intro k z _ hk ⟨h1, h2⟩
    rw [eb_X7_multiplyOut_14, if_neg (fun z => by have := (nle (by omega) (by omega)).mp z; omega), isIn01 (by omega) (by omega)]
    simp only [Option.bind_some]
    by_cases hb : E / 2 ^ k % 2 = 1
    · have hx := tb_bx s (by omega) E (by omega) hc k (by omega) hb
      obtain ⟨w1, w2⟩ := (tb_wi k (by omega) (s - E) (by omega)).1 hx
      have hv2 : z (16 * k + (s - E)) = ssum (t k) (subL (s - E)) := by rw [h2 _ (by omega)]; exact hW k (s - E) hk (by omega) hx
      have c1 := wlen_le (show z 81 < BB ^ 133 by rw [h1]; exact lt133 (pr133 ht (by omega) (by omega) hcb (by omega)))
      have c2 := wlen_le (show z (16 * k + (s - E)) < BB ^ 33 by rw [hv2]; exact ss33 ht)
      rw [if_pos hb, if_neg (show ¬ (1 : Int32) = 0 by decide), wix_e (by omega) (by omega), w2]
      simp only [Option.bind_some]
      rw [fMul_e rfl w1 (by omega) (by rw [nw168 (by omega)]; omega)]
      simp only [Option.bind_some, lt]
      rw [nI_1]
      refine ⟨_, rfl, ?_, fun j hj => (uN_n hj).trans (h2 j hj)⟩
      rw [uN_s, h1, hv2]
      show _ = gT4 t (s - E) * (prE t (s - E) E k * (if E / 2 ^ k % 2 = 1 then ssum (t k) (subL (s - E)) else 1))
      rw [if_pos hb, Nat.mul_assoc]
    · rw [if_neg hb, if_pos rfl, lt, nI_1]
      refine ⟨_, rfl, ?_, h2⟩
      rw [h1]
      show _ = gT4 t (s - E) * (prE t (s - E) E k * (if E / 2 ^ k % 2 = 1 then ssum (t k) (subL (s - E)) else 1))
      rw [if_neg hb, Nat.mul_one]
theorem acF_mono {p : Nat → Bool} {f : Nat → Nat} {m : Nat} : ∀ n, m ≤ n → acF p f m ≤ acF p f n := by
  intro n
  induction n with
  | zero => intro h; rw [show m = 0 by omega]; exact Nat.le_refl _
  | succ n ih =>
    intro h
    by_cases e : m = n + 1
    · rw [e]; exact Nat.le_refl _
    · exact Nat.le_trans (ih (by omega)) (Nat.le_add_right _ _)
theorem ac133 (ht : ∀ c u, t c u ≤ WM) {s : Nat} (hs : s < 16) {p : Nat → Bool} (hp : ∀ k, p k = true → Nat.beq (k &&& s) k = true) {n : Nat} (hn : n ≤ 16) : acF p (enF t s) n < BB ^ 133 := by
  have e : acF p (enF t s) n = acF p (fun k => if k < 16 ∧ Nat.beq (k &&& s) k = true then enF t s k else 0) n := acF_congr n fun k hk hpk => by rw [if_pos ⟨by omega, hp k hpk⟩]
  rw [e]
  refine Nat.lt_of_le_of_lt (Nat.le_trans (acF_le (M := 543 * (BB ^ 33) ^ 4) (fun k => ?_) n) (Nat.mul_le_mul_right _ hn)) T133
  split
  · rename_i z
    exact pr133 ht hs z.1 z.2 (by omega)
  · exact Nat.zero_le _
theorem tb_par : ∀ k, k < 16 → (nI (pop5 k) &&& 1) = nI ((k % 2 + k / 2 % 2 + k / 4 % 2 + k / 8 % 2) % 2) := by decide +kernel
/-- one run through the ends, of one parity -/
theorem t_endsC (hN4 : N ≤ 4) (ht : ∀ c u, t c u ≤ WM) {s : Nat} (hs : s < 2 ^ N) (hs0 : 0 < s) {od : Nat} (hod : od ≤ 1) {v : Nat → Nat} (hW : WAL N t v) (hS : ∀ o, o < s → v (65 + o) = gT4 t o) {x0 : Nat} (hx : v (65 + s) = x0) (h1 : od = 1 → x0 = 0) (h0 : od = 0 → acF (evP s) (enF t s) (s + 1) ≤ x0 ∧ x0 < BB ^ 133) :
    ∃ z, lp (b_X7_sumGraphsOf_28 sf st (nI N) rw0 sg (nI ms) (nI s) (65 + s) (nI od)) FU (1, v) = some z ∧ z.2 (65 + s) = (if od = 1 then acF (odP s) (enF t s) (s + 1) else x0 - acF (evP s) (enF t s) (s + 1)) ∧ ∀ j, j ≠ 81 → j ≠ 65 + s → z.2 j = v j := by
  have h16 : 2 ^ N ≤ 2 ^ 4 := Nat.pow_le_pow_right (by decide) hN4
  have p0 : ∀ f : Nat → Nat, acF (odP s) f 1 = 0 := fun f => by rw [show (1 : Nat) = 0 + 1 from rfl, acF_f (by unfold odP; simp)]; rfl
  have p1 : ∀ f : Nat → Nat, acF (evP s) f 1 = 0 := fun f => by rw [show (1 : Nat) = 0 + 1 from rfl, acF_f (by unfold evP; simp)]; rfl
  have L := lp_cnt (body := b_X7_sumGraphsOf_28 sf st (nI N) rw0 sg (nI ms) (nI s) (65 + s) (nI od)) (fun k z => z (65 + s) = (if od = 1 then acF (odP s) (enF t s) k else x0 - acF (evP s) (enF t s) k) ∧ ∀ j, j ≠ 81 → j ≠ 65 + s → z j = v j) (n0 := 1) (n1 := s + 1) (by omega) (by omega) ?_ ?_ (s0 := v) ⟨by
      by_cases ho : od = 1
      · rw [if_pos ho, p0, hx, h1 ho]
      · rw [if_neg ho, p1, hx, Nat.sub_zero], fun j _ _ => rfl⟩
  · obtain ⟨s1, e1, h2, h3⟩ := L
    exact ⟨_, e1, h2, h3⟩
  · intro z _
    rw [eb_X7_sumGraphsOf_28, if_pos ((nlt (by omega) (by omega)).mpr (by omega))]
  · intro k z hk1 hk ⟨h2, h3⟩
    rw [eb_X7_sumGraphsOf_28, if_neg (fun z => by have := (nlt (by omega) (by omega)).mp z; omega)]
    by_cases hsub : k &&& s = k
    · have hbq : Nat.beq (k &&& s) k = true := by rw [hsub]; exact Nat.beq_refl k
      have hk0 : Nat.beq k 0 = false := by
        cases hq : Nat.beq k 0 with
        | true => have := Nat.eq_of_beq_eq_true hq; omega
        | false => rfl
      obtain ⟨d1, d2⟩ := tb_diff s (by omega) k (by omega) hsub
      rw [if_pos ((tb_sub k (by omega) s (by omega)).mpr hsub), t_bitCount k (by omega)]
      simp only [Option.bind_some]
      rw [tb_par k (by omega)]
      generalize hpe : (k % 2 + k / 2 % 2 + k / 4 % 2 + k / 8 % 2) % 2 = pk
      have hpk : pk ≤ 1 := by omega
      have oP : odP s k = Nat.beq pk 1 := by unfold odP; rw [hbq, hk0, hpe]; rfl
      have eP : evP s k = Nat.beq pk 0 := by unfold evP; rw [hbq, hk0, hpe]; rfl
      by_cases hpo : pk = od
      · rw [if_pos (by rw [hpo]), d1]
        have hWz : WAL N t z := fun c u hc hu hb => by rw [h3 _ (by omega) (by omega)]; exact hW c u hc hu hb
        obtain ⟨v', e4, h4, h5⟩ := t_multiplyOut (sf := sf) (st := st) (rw0 := rw0) (sg := sg) (ms := ms) hN4 ht hs (by omega) hsub hWz (by rw [h3 _ (by omega) (by omega)]; exact hS _ (by omega))
        rw [e4]
        simp only [Option.bind_some]
        have hen : enF t s k < BB ^ 133 := lt133 (pr133 ht (by omega) (by omega) hbq (by omega))
        have w81 := wlen_le (show v' 81 < BB ^ 133 by rw [h4]; exact hen)
        by_cases ho : od = 1
        · rw [if_pos (show nI od = (1 : Int32) by rw [ho]; rfl)]
          rw [if_pos ho] at h2
          have hb := ac133 ht (s := s) (by omega) (p := odP s) (fun k hk => by unfold odP at hk; simp only [Bool.and_eq_true] at hk; exact hk.1) (n := k) (by omega)
          have wS := wlen_le (show v' (65 + s) < BB ^ 133 by rw [h5 _ (by omega), h2]; exact hb)
          rw [fAdd_e (pJ65 s (by omega)) rfl (by omega) (by rw [nw168 (by omega)]; omega) (by rw [nw168 (by omega)]; omega)]
          simp only [Option.bind_some, lt]
          rw [nI_1]
          refine ⟨_, rfl, ?_, fun j hj1 hj2 => by rw [uN_n hj2, h5 j hj1]; exact h3 j hj1 hj2⟩
          rw [uN_s, h4, h5 _ (by omega), h2, if_pos ho, acF_t (by rw [oP, hpo, ho]; rfl)]
        · have ho0 : od = 0 := by omega
          obtain ⟨hle, hx2⟩ := h0 ho0
          rw [if_neg (show ¬ nI od = (1 : Int32) by rw [ho0]; decide)]
          rw [if_neg ho] at h2
          have hev : evP s k = true := by rw [eP, hpo, ho0]; rfl
          have hm := acF_mono (p := evP s) (f := enF t s) (m := k + 1) (s + 1) (by omega)
          rw [acF_t hev] at hm
          rw [fSub_e (pJ65 s (by omega)) rfl (by omega) (by rw [h4, h5 _ (by omega), h2]; omega)]
          simp only [Option.bind_some, lt]
          rw [nI_1]
          refine ⟨_, rfl, ?_, fun j hj1 hj2 => by rw [uN_n hj2, h5 j hj1]; exact h3 j hj1 hj2⟩
          rw [uN_s, h4, h5 _ (by omega), h2, if_neg ho, acF_t hev]
          omega
      · rw [if_neg (fun q => hpo ((neq (by omega) (by omega)).mp q)), lt, nI_1]
        refine ⟨_, rfl, ?_, h3⟩
        rw [h2]
        by_cases ho : od = 1
        · rw [if_pos ho, if_pos ho, acF_f (by rw [oP]; have : pk = 0 := by omega
                                              rw [this]; rfl)]
        · rw [if_neg ho, if_neg ho, acF_f (by rw [eP]; have : pk = 1 := by omega
                                              rw [this]; rfl)]
    · have hbq : Nat.beq (k &&& s) k = false := by
        cases hq : Nat.beq (k &&& s) k with
        | true => exact absurd (Nat.eq_of_beq_eq_true hq) hsub
        | false => rfl
      rw [if_neg (fun z => hsub ((tb_sub k (by omega) s (by omega)).mp z)), lt, nI_1]
      refine ⟨_, rfl, ?_, h3⟩
      rw [h2]
      by_cases ho : od = 1
      · rw [if_pos ho, if_pos ho, acF_f (by unfold odP; rw [hbq]; rfl)]
      · rw [if_neg ho, if_neg ho, acF_f (by unfold evP; rw [hbq]; rfl)]
theorem t_sumOf (hN4 : N ≤ 4) (ht : ∀ c u, t c u ≤ WM) {s : Nat} (hs : s < 2 ^ N) {v : Nat → Nat} (hW : WAL N t v) (hS : ∀ o, o < s → v (65 + o) = gT4 t o) :
    ∃ v', m_X7_sumGraphsOf sf st (nI N) rw0 sg (nI ms) v (nI s) = some v' ∧ v' (65 + s) = gT4 t s ∧ ∀ j, j ≠ 81 → j ≠ 65 + s → v' j = v j := by
  have h16 : 2 ^ N ≤ 2 ^ 4 := Nat.pow_le_pow_right (by decide) hN4
  rw [em_X7_sumGraphsOf, six_e (by omega)]
  simp only [Option.bind_some, lt]
  by_cases hs0 : s = 0
  · subst hs0
    rw [if_pos (show nI 0 = (0 : Int32) from rfl), show (1 : Int32) = nI 1 from rfl, fBec_e (pJ65 0 (by omega)) (by omega)]
    simp only [Option.bind_some]
    have stop : ∀ (od : Int32) (z : Nat → Nat), lp (b_X7_sumGraphsOf_28 sf st (nI N) rw0 sg (nI ms) (nI 0) (65 + 0) od) FU (1, z) = some (1, z) := by
      intro od z
      refine lp_fu 1 ?_ (by omega)
      rw [lp, eb_X7_sumGraphsOf_28, if_pos (by decide)]
      rfl
    have e2 : ∀ z, lp (b_X7_sumGraphsOf_21 sf st (nI N) rw0 sg (nI ms) (nI 0) (65 + 0)) FU (1, z) = some (-1, z) := by
      intro z
      refine lp_fu 3 ?_ (by omega)
      rw [lp, eb_X7_sumGraphsOf_21, if_neg (by decide), stop]
      simp only [Option.bind_some, lt, lpk]
      rw [lp, eb_X7_sumGraphsOf_21, if_neg (by decide), stop]
      simp only [Option.bind_some, lt, lpk]
      rw [lp, eb_X7_sumGraphsOf_21, if_pos (by decide)]
      rfl
    rw [show nI 1 = (1 : Int32) from rfl, e2]
    refine ⟨_, rfl, ?_, fun j _ hj => uN_n hj⟩
    show uN v (65 + 0) 1 (65 + 0) = gT4 t 0
    rw [uN_s, gT4_0]
  · rw [if_neg (show ¬ nI s = (0 : Int32) from fun z => hs0 ((neq (b := 0) (by omega) (by omega)).mp z)), show (0 : Int32) = nI 0 from rfl, fBec_e (pJ65 s (by omega)) (by omega)]
    simp only [Option.bind_some]
    have hin := inex (t := t) (s := s) (by omega) hs0
    have hW1 : WAL N t (uN v (65 + s) 0) := fun c u hc hu hb => by rw [uN_n (by omega)]; exact hW c u hc hu hb
    obtain ⟨z1, e1, a1, a2⟩ := t_endsC (sf := sf) (st := st) (rw0 := rw0) (sg := sg) (ms := ms) (od := 1) hN4 ht hs (by omega) (by omega) hW1 (fun o ho => by rw [uN_n (by omega)]; exact hS o ho) (x0 := 0) (uN_s _ _ _) (fun _ => rfl) (fun z => by omega)
    rw [if_pos rfl] at a1
    have hW2 : WAL N t z1.2 := fun c u hc hu hb => by rw [a2 _ (by omega) (by omega)]; exact hW1 c u hc hu hb
    have hb := ac133 ht (s := s) (by omega) (p := odP s) (fun k hk => by unfold odP at hk; simp only [Bool.and_eq_true] at hk; exact hk.1) (n := s + 1) (by omega)
    obtain ⟨z2, e2, b1, b2⟩ := t_endsC (sf := sf) (st := st) (rw0 := rw0) (sg := sg) (ms := ms) (od := 0) hN4 ht hs (by omega) (by omega) hW2 (fun o ho => by rw [a2 _ (by omega) (by omega), uN_n (by omega)]; exact hS o ho) (x0 := acF (odP s) (enF t s) (s + 1)) a1 (fun z => by omega) (fun _ => ⟨by omega, hb⟩)
    rw [if_neg (by decide)] at b1
    have e3 : lp (b_X7_sumGraphsOf_21 sf st (nI N) rw0 sg (nI ms) (nI s) (65 + s)) FU (1, uN v (65 + s) 0) = some (-1, z2.2) := by
      refine lp_fu 3 ?_ (by omega)
      rw [lp, eb_X7_sumGraphsOf_21, if_neg (by decide), show (1 : Int32) = nI 1 from rfl, show (nI 1, uN v (65 + s) 0) = ((1 : Int32), uN v (65 + s) 0) from rfl, e1]
      simp only [Option.bind_some, lt, lpk]
      rw [show nI 1 + -nI 1 = nI 0 from by decide, lp, eb_X7_sumGraphsOf_21, if_neg (by decide), e2]
      simp only [Option.bind_some, lt, lpk]
      rw [lp, eb_X7_sumGraphsOf_21, if_pos (by decide)]
      rfl
    rw [e3]
    refine ⟨_, rfl, ?_, fun j hj1 hj2 => by dsimp only; rw [b2 j hj1 hj2, a2 j hj1 hj2, uN_n hj2]⟩
    dsimp only
    rw [b1, hin, Nat.add_sub_cancel]
end SG2
