/-! Shares.weigh: the weights of a name, scaled alike, and their sums -/
def opn (ms c s : Nat) : Bool := Nat.beq (s / 2 ^ c % 2) 0 && Nat.ble (pop5 s) ms
theorem opn_iff {ms c s : Nat} : opn ms c s = true ↔ s / 2 ^ c % 2 = 0 ∧ pop5 s ≤ ms := by
  unfold opn
  rw [Bool.and_eq_true]
  exact ⟨fun h => ⟨Nat.eq_of_beq_eq_true h.1, Nat.le_of_ble_eq_true h.2⟩, fun h => ⟨by rw [h.1]; rfl, Nat.ble_eq_true_of_le h.2⟩⟩
theorem tbt {s c : Nat} : s.testBit c = true ↔ s / 2 ^ c % 2 = 1 := by
  have h1 := bit_tb s c
  have h2 : s / 2 ^ c % 2 < 2 := Nat.mod_lt _ (by decide)
  cases hb : s.testBit c with
  | true => rw [hb] at h1; simp only [true_iff]; have : ¬ s / 2 ^ c % 2 = 0 := fun z => by have := h1.mp z; cases this
            omega
  | false => have := h1.mpr hb; simp only [Bool.false_eq_true, false_iff]; omega
theorem isIn01 {s c : Nat} (hs : s < 32) (hc : c < 32) : m_X0_isIn (nI s) (nI c) = some (if s / 2 ^ c % 2 = 1 then 1 else 0) := by
  rw [t_isIn hs hc]
  by_cases h : s.testBit c = true
  · rw [if_pos h, if_pos (tbt.mp h)]
  · rw [if_neg h, if_neg (fun z => h (tbt.mpr z))]
theorem t_open {sf st nm rw0 sg : Int32} {ms c s : Nat} (hms : ms ≤ 4) (hc : c < 5) (hs : s < 32) : m_X7_isOpen sf st nm rw0 sg (nI ms) (nI c) (nI s) = some (if opn ms c s = true then 1 else 0) := by
  rw [em_X7_isOpen, isIn01 hs (by omega)]
  simp only [Option.bind_some]
  have hp := pop5_le s
  by_cases hb : s / 2 ^ c % 2 = 1
  · rw [if_pos hb, if_neg (show ¬ (1 : Int32) = 0 by decide), if_neg (fun z => by have := (opn_iff.mp z).1; omega)]
  · rw [if_neg hb, if_pos rfl, t_bitCount s hs]
    simp only [Option.bind_some, lt]
    by_cases hm : ms < pop5 s
    · rw [if_pos ((nlt (by omega) (by omega)).mpr hm), if_neg (show ¬ opn ms c s = true from fun z => by have := (opn_iff.mp z).2; omega)]
      rfl
    · rw [if_neg (fun z => hm ((nlt (by omega) (by omega)).mp z)), if_pos (show opn ms c s = true from opn_iff.mpr ⟨by omega, by omega⟩)]
      rfl
theorem tb_wi : ∀ c, c < 4 → ∀ s, s < 16 → (s / 2 ^ c % 2 = 0 → pJ (16 * c + s) = true ∧ wi c s = 16 * c + s) ∧ (s / 2 ^ c % 2 = 1 → wi c s = 64) := by decide +kernel
theorem wix_e {c s : Nat} (hc : c < 4) (hs : s < 16) : wix (nI c) (nI s) = some (wi c s) := by
  unfold wix
  rw [u3n (by omega), u3n (by omega), decide_eq_true hc, decide_eq_true hs]
  rfl
theorem six_e {s : Nat} (hs : s < 16) : six (nI s) = some (65 + s) := by
  unfold six
  rw [u3n (by omega), decide_eq_true hs]
  rfl
theorem wlen_le {x n : Nat} (h : x < BB ^ n) : wlen x ≤ n := by
  unfold wlen
  split
  · omega
  · rename_i hx
    rw [show BB = 2 ^ 32 from rfl, ← Nat.pow_mul] at h
    have := (Nat.log2_lt hx).mpr h
    omega
theorem fBec_e {v : Nat → Nat} {i n : Nat} (hi : pJ i = true) (hn : n ≤ 50000) : fBec v i (nI n) = some (uN v i n) := by
  unfold fBec
  rw [u3n (by omega), hi, decide_eq_true hn]
  rfl
theorem fCop_e {v : Nat → Nat} {i j : Nat} (hi : pJ i = true) (hj : pJ j = true) (hij : i ≠ j) (h : wlen (v j) ≤ nwJ i) : fCop v i j = some (uN v i (v j)) := by
  unfold fCop
  rw [hi, hj, decide_eq_true hij, decide_eq_true h]
  rfl
theorem fMul_e {v : Nat → Nat} {i j : Nat} (hi : pJ i = true) (hj : pJ j = true) (hij : i ≠ j) (h : wlen (v i) + wlen (v j) ≤ nwJ i) : fMul v i j = some (uN v i (v i * v j)) := by
  unfold fMul
  rw [hi, hj, decide_eq_true hij, decide_eq_true h]
  rfl
theorem fAdd_e {v : Nat → Nat} {i j : Nat} (hi : pJ i = true) (hj : pJ j = true) (hij : i ≠ j) (h1 : wlen (v i) + 1 ≤ nwJ i) (h2 : wlen (v j) + 1 ≤ nwJ i) : fAdd v i j = some (uN v i (v i + v j)) := by
  unfold fAdd
  rw [hi, hj, decide_eq_true hij, decide_eq_true (by omega)]
  rfl
theorem fSub_e {v : Nat → Nat} {i j : Nat} (hi : pJ i = true) (hj : pJ j = true) (hij : i ≠ j) (h : v j ≤ v i) : fSub v i j = some (uN v i (v i - v j)) := by
  unfold fSub
  rw [hi, hj, decide_eq_true hij, decide_eq_true h]
  rfl
/-- the product of what is below in the FITS of the open sets -/
def prP (f : Nat → Nat) (ms c : Nat) : Nat → Nat
  | 0 => 1
  | n + 1 => prP f ms c n * (if opn ms c n = true then f n else 1)
def KB (s : Nat) : Nat := (27 + 15 * 3 ^ (1 + pop5 s)) ^ 16
def WM : Nat := 2 ^ 1036
theorem tb_KB : ∀ ms, ms < 5 → ∀ c, c < 4 → prP KB ms c 16 ≤ WM := by decide +kernel
theorem prP_le {f g : Nat → Nat} {ms c : Nat} : ∀ n, (∀ s, s < n → opn ms c s = true → f s ≤ g s) → prP f ms c n ≤ prP g ms c n := by
  intro n
  induction n with
  | zero => intro _; exact Nat.le_refl _
  | succ n ih =>
    intro h
    unfold prP
    refine Nat.mul_le_mul (ih (fun s hs => h s (by omega))) ?_
    split
    · exact h n (by omega) (by assumption)
    · exact Nat.le_refl _
theorem prP_mono {f : Nat → Nat} {ms c : Nat} (hf : ∀ s, 1 ≤ f s) {n : Nat} : ∀ m, n ≤ m → prP f ms c n ≤ prP f ms c m := by
  intro m
  induction m with
  | zero => intro h; rw [show n = 0 by omega]; exact Nat.le_refl _
  | succ m ih =>
    intro h
    by_cases e : n = m + 1
    · rw [e]; exact Nat.le_refl _
    · show prP f ms c n ≤ prP f ms c m * (if opn ms c m = true then f m else 1)
      refine Nat.le_trans (ih (by omega)) ?_
      refine Nat.le_mul_of_pos_right _ ?_
      split
      · exact hf m
      · exact Nat.one_pos
def cbN (se : Nat) : Nat → Nat
  | 0 => 0
  | n + 1 => cbN se n + (if se / 2 ^ n % 2 = 1 then 1 else 0)
theorem tb_cb : ∀ se, se < 16 → ∀ n, n < 5 → cbN se n ≤ pop5 se := by decide +kernel
theorem byF_cb {vals : Nat → Nat} {se nm N : Nat} (h : ∀ p, p < N → 2 ≤ vals p ∧ vals p ≤ 3) (hnm : nm < N) : ∀ n, n ≤ N → byF vals se nm n ≤ 3 ^ (1 + cbN se n) := by
  intro n
  induction n with
  | zero => intro _; exact (h nm hnm).2
  | succ n ih =>
    intro hn
    unfold byF cbN
    have i := ih (by omega)
    split
    · rw [show 1 + (cbN se n + 1) = (1 + cbN se n) + 1 by omega, Nat.pow_succ]
      exact Nat.mul_le_mul i (h n (by omega)).2
    · rw [Nat.mul_one, Nat.add_zero]
      exact i
theorem like_le {cell : Nat → Nat → Nat} {N se nm r : Nat} : ∀ k, likeF cell N se nm r k ≤ waysF cell N se r k := by
  intro k
  induction k with
  | zero => exact Nat.le_refl _
  | succ k ih =>
    unfold likeF waysF
    refine Nat.add_le_add ih ?_
    split
    · rename_i z; rw [if_pos z.1]; exact Nat.le_refl _
    · exact Nat.zero_le _
theorem prF_mono {f g : Nat → Nat} : ∀ n, (∀ r, r < n → f r ≤ g r) → prF f n ≤ prF g n := by
  intro n
  induction n with
  | zero => intro _; exact Nat.le_refl _
  | succ n ih => intro h; unfold prF; exact Nat.mul_le_mul (ih (fun r hr => h r (by omega))) (h n (by omega))
theorem prF_const (K : Nat) : ∀ n, prF (fun _ => K) n = K ^ n := by
  intro n
  induction n with
  | zero => rfl
  | succ n ih => unfold prF; rw [ih, Nat.pow_succ]
section WG
variable {N R w ms : Nat} {vals : Nat → Nat} {cell : Nat → Nat → Nat} {fsv fsc : Nat → Int32} {c s : Nat} {sf st : Int32}
theorem num_le (h : CS N R w vals cell fsv fsc) (hc : c < N) : numT cell vals N R w c s ≤ numL cell vals N R w c s := by
  refine prF_mono R (fun r hr => ?_)
  unfold facT facL
  have h1 := (h.2.2.2.2.1 c hc).2
  refine Nat.add_le_add (Nat.le_mul_of_pos_left _ (by omega)) (Nat.mul_le_mul_right _ (like_le r))
theorem fit_le (h : CS N R w vals cell fsv fsc) (hc : c < N) : fitT cell vals N R w c s ≤ fitL cell vals N R w c s := Nat.div_le_div_right (num_le h hc)
theorem fitL_KB (h : CS N R w vals cell fsv fsc) (hN4 : N ≤ 4) (hc : c < N) (hs : s < 16) : fitL cell vals N R w c s ≤ KB s := by
  have h1 : numL cell vals N R w c s ≤ (27 + 15 * 3 ^ (1 + pop5 s)) ^ R := by
    rw [← prF_const]
    refine prF_mono R (fun r hr => ?_)
    unfold facL
    have v3 := (h.2.2.2.2.1 c hc).2.2
    have w9 := h.2.2.2.1
    have b1 := byF_cb (se := s) (fun p hp => (h.2.2.2.2.1 p hp).2) hc N (Nat.le_refl N)
    have b2 : 3 ^ (1 + cbN s N) ≤ 3 ^ (1 + pop5 s) := Nat.pow_le_pow_right (by decide) (by have := tb_cb s hs N (by omega); omega)
    have c1 := (cnt_le (cell := cell) (N := N) (se := s) (r := r) (nm := c) r).1
    have hR := h.2.1
    refine Nat.add_le_add (Nat.le_trans (Nat.mul_le_mul v3 w9) (by decide)) (Nat.mul_le_mul (by omega) (Nat.le_trans b1 b2))
  refine Nat.le_trans (Nat.div_le_self _ _) (Nat.le_trans h1 (Nat.pow_le_pow_right ?_ h.2.1))
  omega
theorem prP_WM (h : CS N R w vals cell fsv fsc) (hN4 : N ≤ 4) (hms : ms ≤ 4) (hc : c < N) {n : Nat} (hn : n ≤ 16) : prP (fitL cell vals N R w c) ms c n ≤ WM :=
  Nat.le_trans (prP_le n (fun s hs _ => fitL_KB h hN4 hc (by omega))) (Nat.le_trans (prP_mono (fun s => Nat.pow_pos (by omega)) 16 hn) (tb_KB ms (by omega) c (by omega)))
/-- what is known of the scale after n sets -/
def LQ (cell : Nat → Nat → Nat) (vals : Nat → Nat) (N R w ms c n : Nat) (el : Nat → Int) : Prop := (∀ k, -40000 < el k ∧ el k < 40000) ∧ (∀ s, s < n → opn ms c s = true → ∀ e, ES cell vals N R w c s e → ∀ k, el k ≤ e k) ∧ ppw (ngv el) 3673 ≤ prP (fitL cell vals N R w c) ms c n
theorem t_weigh1 (h : CS N R w vals cell fsv fsc) (hN4 : N ≤ 4) (hms : ms ≤ 4) (hc : c < N) {pe el : Nat → Int} {f fl : Nat → Int32} {l ll : Nat} (hE : PE pe f l) (hL : PE el fl ll) :
    ∃ q, lp (b_X7_weigh_2 sf st (nI N) (nI R) (nI w) (nI ms) 5 fsv 16 fsc (nI c)) FU (0, nI l, f, nI ll, fl) = some q ∧ (∃ pe l, q.2.1 = nI l ∧ PE pe q.2.2.1 l) ∧ ∃ el l, q.2.2.2.1 = nI l ∧ PE el q.2.2.2.2 l ∧ LQ cell vals N R w ms c (2 ^ N) el := by
  have h16 : 2 ^ N ≤ 2 ^ 4 := Nat.pow_le_pow_right (by decide) hN4
  have h1N : 1 ≤ 2 ^ N := Nat.pow_pos (by decide)
  have L := lp_cnt (body := b_X7_weigh_2 sf st (nI N) (nI R) (nI w) (nI ms) 5 fsv 16 fsc (nI c)) (fun k z => (∃ pe l, z.1 = nI l ∧ PE pe z.2.1 l) ∧ ∃ el l, z.2.2.1 = nI l ∧ PE el z.2.2.2 l ∧ (0 < k → LQ cell vals N R w ms c k el)) (n0 := 0) (n1 := 2 ^ N) (Nat.zero_le _) (by omega) ?_ ?_ (s0 := (nI l, f, nI ll, fl)) ⟨⟨pe, l, rfl, hE⟩, el, ll, rfl, hL, fun z => by omega⟩
  · obtain ⟨s1, e1, hA, el', l', hB1, hB2, hB3⟩ := L
    exact ⟨_, e1, hA, el', l', hB1, hB2, hB3 (by omega)⟩
  · rintro ⟨a1, a2, a3, a4⟩ -
    rw [eb_X7_weigh_2, tb_pow N (by omega), if_pos ((nle (by omega) (by omega)).mpr (Nat.le_refl _))]
  · rintro k ⟨a1, a2, a3, a4⟩ - hk ⟨⟨pe, l, x1, x2⟩, el, ll, y1, y2, y3⟩
    dsimp only at x1 x2 y1 y2
    subst x1 y1
    rw [eb_X7_weigh_2, tb_pow N (by omega), if_neg (fun z => by have := (nle (by omega) (by omega)).mp z; omega), t_open hms (by omega) (by omega)]
    simp only [Option.bind_some]
    by_cases ho : opn ms c k = true
    · rw [if_pos ho, if_neg (show ¬ (1 : Int32) = 0 by decide)]
      have hb := (opn_iff.mp ho).1
      obtain ⟨f1, l2, f2, e, g1, g2, g3, g4⟩ := t_pourES (i4 := nI ms) h (show k < 32 by omega) hc hb x2
      rw [g1]
      simp only [Option.bind_some]
      rw [g2]
      simp only [Option.bind_some]
      by_cases hk0 : k = 0
      · subst hk0
        obtain ⟨f3, e3, hE3⟩ := t_pcopy y2 g3
        rw [if_pos (show nI 0 = (0 : Int32) from rfl), e3]
        simp only [Option.bind_some, lt]
        rw [nI_1]
        refine ⟨_, rfl, ⟨e, l2, rfl, g3⟩, e, l2, rfl, hE3, fun _ => ⟨g4.2.2.2, fun s hs hso e' he' k => ?_, ?_⟩⟩
        · rw [show s = 0 by omega] at he'
          rw [ES_uq g4 he']
          omega
        · unfold prP prP
          rw [if_pos ho, Nat.one_mul, g4.2.2.1]
          exact Nat.le_refl _
      · rw [if_neg (show ¬ nI k = (0 : Int32) from fun z => hk0 ((neq (b := 0) (by omega) (by omega)).mp z))]
        obtain ⟨b1, b2, b3⟩ := y3 (by omega)
        obtain ⟨f3, e3, hE3⟩ := t_plow y2 g3 (fun k => by have := b1 k; omega) (fun k => by have := g4.2.2.2 k; omega)
        rw [e3]
        simp only [Option.bind_some, lt]
        rw [nI_1]
        refine ⟨_, rfl, ⟨e, l2, rfl, g3⟩, _, _, rfl, hE3, fun _ => ⟨fun j => ?_, fun s hs hso e' he' j => ?_, ?_⟩⟩
        · have q1 := b1 j
          have q2 := g4.2.2.2 j
          dsimp only
          omega
        · dsimp only
          by_cases hsk : s = k
          · rw [hsk] at he'
            rw [← ES_uq g4 he']
            exact Int.min_le_right _ _
          · exact Int.le_trans (Int.min_le_left _ _) (b2 s (by omega) hso e' he' j)
        · unfold prP
          rw [if_pos ho, ← g4.2.2.1]
          exact Nat.le_trans (ppw_min y2.two g3.two 3673) (Nat.mul_le_mul_right _ b3)
    · rw [if_neg ho, if_pos rfl]
      have hk0 : k ≠ 0 := fun z => ho (by rw [z]; exact opn_iff.mpr ⟨by rw [Nat.zero_div], Nat.zero_le _⟩)
      obtain ⟨b1, b2, b3⟩ := y3 (by omega)
      rw [lt, nI_1]
      refine ⟨_, rfl, ⟨pe, l, rfl, x2⟩, el, ll, rfl, y2, fun _ => ⟨b1, fun s hs hso e' he' j => ?_, ?_⟩⟩
      · by_cases hsk : s = k
        · rw [hsk] at hso; exact absurd hso ho
        · exact b2 s (by omega) hso e' he' j
      · unfold prP
        rw [if_neg ho, Nat.mul_one]
        exact b3
/-- a weight is a FIT, scaled by B / A -/
def PW (cell : Nat → Nat → Nat) (vals : Nat → Nat) (N R w ms c A B s x : Nat) : Prop := (opn ms c s = true → x * (A * fitL cell vals N R w c s) = fitT cell vals N R w c s * B ∧ x ≤ B) ∧ (opn ms c s = false → x = 0)
theorem WM_BB : WM < BB ^ 42 := by decide +kernel
/-- nothing but these numbers changes -/
def FRw (c : Nat) (v v' : Nat → Nat) : Prop := ∀ j, j ≠ 64 → (j < 16 * c ∨ 16 * c + 16 ≤ j) → v' j = v j
theorem t_weigh2 (h : CS N R w vals cell fsv fsc) (hN4 : N ≤ 4) (hms : ms ≤ 4) (hc : c < N) {pe el : Nat → Int} {f : Nat → Int32} {l ll : Nat} {v : Nat → Nat} {q : Int32 × Int32 × (Nat → Int32) × Int32 × (Nat → Int32)} (hE : PE pe f l) (hq : q.2.2.2.1 = nI ll) (hL : PE el q.2.2.2.2 ll) (hQ : LQ cell vals N R w ms c (2 ^ N) el) :
    ∃ z, lp (b_X7_weigh_84 sf st (nI N) (nI R) (nI w) (nI ms) 5 fsv 16 fsc (nI c) q) FU (0, nI l, f, v) = some z ∧ (∃ pe l, z.2.1 = nI l ∧ PE pe z.2.2.1 l) ∧ FRw c v z.2.2.2 ∧ ∀ s, s < 2 ^ N → s / 2 ^ c % 2 = 0 → PW cell vals N R w ms c (ppw el 3673) (ppw (ngv el) 3673) s (z.2.2.2 (16 * c + s)) := by
  have h16 : 2 ^ N ≤ 2 ^ 4 := Nat.pow_le_pow_right (by decide) hN4
  obtain ⟨b1, b2, b3⟩ := hQ
  have hWM := Nat.le_trans b3 (prP_WM h hN4 hms hc h16)
  have L := lp_cnt (body := b_X7_weigh_84 sf st (nI N) (nI R) (nI w) (nI ms) 5 fsv 16 fsc (nI c) q) (fun k z => (∃ pe l, z.1 = nI l ∧ PE pe z.2.1 l) ∧ FRw c v z.2.2 ∧ ∀ s, s < k → s / 2 ^ c % 2 = 0 → PW cell vals N R w ms c (ppw el 3673) (ppw (ngv el) 3673) s (z.2.2 (16 * c + s))) (n0 := 0) (n1 := 2 ^ N) (Nat.zero_le _) (by omega) ?_ ?_ (s0 := (nI l, f, v)) ⟨⟨pe, l, rfl, hE⟩, fun j _ _ => rfl, fun s hs => by omega⟩
  · obtain ⟨s1, e1, hA, hB, hC⟩ := L
    exact ⟨_, e1, hA, hB, hC⟩
  · rintro ⟨a1, a2, a3⟩ -
    rw [eb_X7_weigh_84, tb_pow N (by omega), if_pos ((nle (by omega) (by omega)).mpr (Nat.le_refl _))]
  · rintro k ⟨a1, a2, a3⟩ - hk ⟨⟨pe, l, x1, x2⟩, hF, hP⟩
    dsimp only at x1 x2 hF hP
    subst x1
    obtain ⟨w1, w2⟩ := tb_wi c (by omega) k (by omega)
    have hpw : pJ (wi c k) = true := by
      by_cases hb : k / 2 ^ c % 2 = 0
      · rw [(w1 hb).2]; exact (w1 hb).1
      · rw [w2 (by omega)]; rfl
    rw [eb_X7_weigh_84, tb_pow N (by omega), if_neg (fun z => by have := (nle (by omega) (by omega)).mp z; omega), wix_e (by omega) (by omega)]
    simp only [Option.bind_some]
    rw [show (0 : Int32) = nI 0 from rfl, fBec_e hpw (by omega)]
    simp only [Option.bind_some]
    rw [t_open hms (by omega) (by omega)]
    simp only [Option.bind_some]
    have hF1 : FRw c v (uN a3 (wi c k) 0) := by
      intro j hj hj2
      have : j ≠ wi c k := by
        by_cases hb : k / 2 ^ c % 2 = 0
        · rw [(w1 hb).2]; omega
        · rw [w2 (by omega)]; exact hj
      rw [uN_n this]
      exact hF j hj hj2
    by_cases ho : opn ms c k = true
    · have hb := (opn_iff.mp ho).1
      rw [if_pos ho, if_neg (show ¬ (1 : Int32) = nI 0 by decide)]
      obtain ⟨f1, l2, f2, e, g1, g2, g3, g4⟩ := t_pourES (i4 := nI ms) h (show k < 32 by omega) hc hb x2
      obtain ⟨f3, e3, hE3⟩ := t_pdiv g3 hL
      have hle := b2 k hk ho e g4
      have hpe : pexp f3 = fun j => e j - el j := pexp_eq hE3 (fun j => by have := b1 j; have := g4.2.2.2 j; omega)
      have hquo := ppw_quot hle 3673
      rw [g4.2.1, g4.2.2.1] at hquo
      have hA1 : 1 ≤ ppw el 3673 := ppw_pos hL.two 3673
      have hL1 := (fit_pos (se := k) (CS.ms h) hc hb).2.1
      have hxB : ppw (fun j => e j - el j) 3673 ≤ ppw (ngv el) 3673 := by
        refine Nat.le_of_mul_le_mul_right ?_ hL1
        refine Nat.le_trans ?_ (Nat.le_trans (Nat.le_of_eq hquo) (Nat.le_trans (Nat.mul_le_mul_right _ (fit_le h hc)) (Nat.le_of_eq (Nat.mul_comm _ _))))
        refine Nat.mul_le_mul_left _ ?_
        exact Nat.le_mul_of_pos_left _ hA1
      have hwr : fWri (nI (max l2 ll)) f3 (uN a3 (wi c k) 0) (wi c k) = some (uN (uN a3 (wi c k) 0) (wi c k) (ppw (fun j => e j - el j) 3673)) := by
        unfold fWri
        rw [hpe]
        refine @if_pos _ (Classical.propDecidable _) ⟨hpw, ?_, fun j => ?_, ?_⟩ _ _ _
        · rw [u3n (by have := g3.1; have := hL.1; omega)]; exact hE3
        · have := b1 j; have := g4.2.2.2 j; dsimp only; omega
        · rw [(w1 hb).2, show nwJ (16 * c + k) = 42 from if_pos (by omega)]
          exact Nat.lt_of_le_of_lt (Nat.le_trans hxB hWM) WM_BB
      rw [g1]
      simp only [Option.bind_some]
      rw [g2]
      simp only [Option.bind_some]
      rw [hq, e3]
      simp only [Option.bind_some]
      rw [hwr]
      simp only [Option.bind_some, lt]
      rw [nI_1]
      refine ⟨_, rfl, ⟨_, _, rfl, hE3⟩, fun j hj hj2 => ?_, fun s hs hsb => ?_⟩
      · have : j ≠ wi c k := by rw [(w1 hb).2]; omega
        dsimp only
        rw [uN_n this]
        exact hF1 j hj hj2
      · dsimp only
        rw [(w1 hb).2]
        by_cases hsk : s = k
        · subst hsk
          rw [uN_s]
          exact ⟨fun _ => ⟨hquo, hxB⟩, fun z => by rw [ho] at z; cases z⟩
        · rw [uN_n (by omega), uN_n (by omega)]
          exact hP s (by omega) hsb
    · rw [if_neg ho, if_pos (show (0 : Int32) = nI 0 from rfl)]
      rw [lt, nI_1]
      refine ⟨_, rfl, ⟨pe, l, rfl, x2⟩, hF1, fun s hs hsb => ?_⟩
      dsimp only
      by_cases hsk : s = k
      · subst hsk
        rw [(w1 hsb).2, uN_s]
        exact ⟨fun z => absurd z ho, fun _ => rfl⟩
      · have : 16 * c + s ≠ wi c k := by
          by_cases hb : k / 2 ^ c % 2 = 0
          · rw [(w1 hb).2]; omega
          · rw [w2 (by omega)]; omega
        rw [uN_n this]
        exact hP s (by omega) hsb
end WG
