/-! Shares.of tells the reference's share -/
def prD (f : Nat → Nat) (c : Nat) : Nat → Nat
  | 0 => 1
  | n + 1 => prD f c n * (if n / 2 ^ c % 2 = 0 then f n else 1)
theorem prO_lo {f : Nat → Nat} {c s : Nat} : ∀ n, n ≤ s → prO f c s n = prD f c n := by
  intro n
  induction n with
  | zero => intro _; rfl
  | succ n ih =>
    intro h
    unfold prO prD
    rw [ih (by omega)]
    by_cases hb : n / 2 ^ c % 2 = 0
    · rw [if_pos ⟨by omega, hb⟩, if_pos hb]
    · rw [if_neg (fun z => hb z.2), if_neg hb]
theorem prO_D {f : Nat → Nat} {c s : Nat} (hb : s / 2 ^ c % 2 = 0) : ∀ n, s < n → prO f c s n * f s = prD f c n := by
  intro n
  induction n with
  | zero => intro h; omega
  | succ n ih =>
    intro h
    unfold prO prD
    by_cases e : s = n
    · subst e
      rw [if_neg (fun z => z.1 rfl), if_pos hb, Nat.mul_one, prO_lo s (Nat.le_refl s)]
    · rw [← ih (by omega)]
      by_cases hn : n / 2 ^ c % 2 = 0
      · rw [if_pos ⟨fun z => e z.symm, hn⟩, if_pos hn]
        ac_rfl
      · rw [if_neg (fun z => hn z.2), if_neg hn, Nat.mul_one, Nat.mul_one]
theorem gcd_scale {P Q x y x' y' : Nat} (hP : 0 < P) (hQ : 0 < Q) (h1 : P * x = Q * x') (h2 : P * y = Q * y') : x / Nat.gcd x y = x' / Nat.gcd x' y' ∧ y / Nat.gcd x y = y' / Nat.gcd x' y' := by
  have e1 : ∀ (P z x y : Nat), 0 < P → z / Nat.gcd x y = P * z / Nat.gcd (P * x) (P * y) := fun P z x y hP => by rw [Nat.gcd_mul_left, Nat.mul_div_mul_left _ _ hP]
  rw [e1 P x x y hP, e1 P y x y hP, e1 Q x' x' y' hQ, e1 Q y' x' y' hQ, h1, h2]
  exact ⟨rfl, rfl⟩
section SH
variable {N R w ms : Nat} {vals : Nat → Nat} {cell : Nat → Nat → Nat} {fsv fsc : Nat → Int32} {sf st rdy : Int32}
theorem share_eq (h : CS N R w vals cell fsv fsc) (hN4 : N ≤ 4) {A B : Nat → Nat} {t : Nat → Nat → Nat} (hW : ∀ c, c < N → WGT cell vals N R w ms c (A c) (B c) (t c)) (hz : ∀ c u, N ≤ c → t c u = 0) {a b : Nat} (ha : a < N) (hb : b < N) :
    gT4 (tK t a b) (2 ^ N - 1) / Nat.gcd (gT4 (tK t a b) (2 ^ N - 1)) (gT4 t (2 ^ N - 1)) = shT cell vals N R w ms a b / Nat.gcd (shT cell vals N R w ms a b) (shL cell vals N R w ms b) ∧ gT4 t (2 ^ N - 1) / Nat.gcd (gT4 (tK t a b) (2 ^ N - 1)) (gT4 t (2 ^ N - 1)) = shL cell vals N R w ms b / Nat.gcd (shT cell vals N R w ms a b) (shL cell vals N R w ms b) := by
  have hN := h.1
  have dpos : ∀ c, c < N → ∀ n, 0 < prD (fitL cell vals N R w c) c n := by
    intro c hc n
    induction n with
    | zero => exact Nat.one_pos
    | succ n ih =>
      unfold prD
      refine Nat.mul_pos ih ?_
      split
      · exact (fit_pos (CS.ms h) hc (by assumption)).2.1
      · exact Nat.one_pos
  let al : Nat → Nat := fun c => if c < N then A c * prD (fitL cell vals N R w c) c (2 ^ N) else 1
  let be : Nat → Nat := fun c => if c < N then B c else 1
  have alp : ∀ c, 0 < al c := fun c => by
    show 0 < (if c < N then A c * prD (fitL cell vals N R w c) c (2 ^ N) else 1)
    split
    · exact Nat.mul_pos (hW c (by assumption)).1 (dpos c (by assumption) _)
    · exact Nat.one_pos
  have bep : ∀ c, 0 < be c := fun c => by
    show 0 < (if c < N then B c else 1)
    split
    · exact (hW c (by assumption)).2.1
    · exact Nat.one_pos
  have core : ∀ c k, c < N → k < 2 ^ N → k / 2 ^ c % 2 = 0 → pop5 k ≤ ms → al c * t c k = be c * rtF cell vals N R w c k := by
    intro c k hc hk hkb hkm
    have p := ((hW c hc).2.2.2.1 k hk hkb).1 (opn_iff.mpr ⟨hkb, hkm⟩)
    show (if c < N then A c * prD (fitL cell vals N R w c) c (2 ^ N) else 1) * t c k = (if c < N then B c else 1) * rtF cell vals N R w c k
    rw [if_pos hc, if_pos hc, ← prO_D hkb (2 ^ N) hk]
    unfold rtF
    rw [show A c * (prO (fitL cell vals N R w c) c k (2 ^ N) * fitL cell vals N R w c k) * t c k = (t c k * (A c * fitL cell vals N R w c k)) * prO (fitL cell vals N R w c) c k (2 ^ N) by ac_rfl, p.1]
    ac_rfl
  have t0 : ∀ c k, c < N → ¬ (k < 2 ^ N ∧ k / 2 ^ c % 2 = 0 ∧ pop5 k ≤ ms) → t c k = 0 := by
    intro c k hc hn
    by_cases h1 : k < 2 ^ N ∧ k / 2 ^ c % 2 = 0
    · refine ((hW c hc).2.2.2.1 k h1.1 h1.2).2 ?_
      cases ho : opn ms c k with
      | true => exact absurd ⟨h1.1, h1.2, (opn_iff.mp ho).2⟩ hn
      | false => rfl
    · exact (hW c hc).2.2.2.2 k h1
  have s1 : ∀ c k, c < 4 → k < 16 → al c * t c k = be c * tR cell vals N R w ms (-1) b c k := by
    intro c k _ _
    unfold tR
    by_cases hc : c < N
    · by_cases hq : k < 2 ^ N ∧ k / 2 ^ c % 2 = 0 ∧ pop5 k ≤ ms
      · rw [if_pos ⟨⟨hc, hq.1⟩, hq.2.1, hq.2.2, by unfold okT; simp⟩]
        exact core c k hc hq.1 hq.2.1 hq.2.2
      · rw [if_neg (fun z => hq ⟨z.1.2, z.2.1, z.2.2.1⟩), t0 c k hc hq, Nat.mul_zero, Nat.mul_zero]
    · rw [if_neg (fun z => hc z.1.1), hz c k (by omega), Nat.mul_zero, Nat.mul_zero]
  have s2 : ∀ c k, c < 4 → k < 16 → al c * tK t a b c k = be c * tR cell vals N R w ms (nI a) b c k := by
    intro c k _ _
    have na : ¬ nI a < (0 : Int32) := nI_pos (by omega)
    have ok : okT (nI a) b c k = (!(Nat.beq c b) || Nat.beq (k / 2 ^ a % 2) 1) := by
      unfold okT
      rw [decide_eq_false na, u3n (by omega), Bool.false_or]
    unfold tR tK
    rw [ok]
    by_cases hc : c < N
    · by_cases hq : k < 2 ^ N ∧ k / 2 ^ c % 2 = 0 ∧ pop5 k ≤ ms
      · by_cases hcb : c = b
        · rw [if_pos hcb]
          by_cases hka : k / 2 ^ a % 2 = 1
          · rw [if_pos hka, if_pos ⟨⟨hc, hq.1⟩, hq.2.1, hq.2.2, by rw [hka]; simp⟩]
            exact core c k hc hq.1 hq.2.1 hq.2.2
          · rw [if_neg hka, if_neg (fun z => ?_), Nat.mul_zero, Nat.mul_zero]
            have z4 := z.2.2.2
            rw [hcb, Nat.beq_refl] at z4
            simp only [Bool.not_true, Bool.false_or] at z4
            exact hka (Nat.eq_of_beq_eq_true z4)
        · have okb : (!(Nat.beq c b) || Nat.beq (k / 2 ^ a % 2) 1) = true := by
            cases hx : Nat.beq c b with
            | true => exact absurd (Nat.eq_of_beq_eq_true hx) hcb
            | false => rfl
          rw [if_neg hcb, if_pos ⟨⟨hc, hq.1⟩, hq.2.1, hq.2.2, okb⟩]
          exact core c k hc hq.1 hq.2.1 hq.2.2
      · have z0 : (if c = b then (if k / 2 ^ a % 2 = 1 then t c k else 0) else t c k) = 0 := by rw [t0 c k hc hq]; simp
        rw [z0, if_neg (fun z => hq ⟨z.1.2, z.2.1, z.2.2.1⟩), Nat.mul_zero, Nat.mul_zero]
    · have z0 : (if c = b then (if k / 2 ^ a % 2 = 1 then t c k else 0) else t c k) = 0 := by rw [hz c k (by omega)]; simp
      rw [z0, if_neg (fun z => hc z.1.1), Nat.mul_zero, Nat.mul_zero]
  exact gcd_scale (pw4_pos alp (2 ^ N - 1)) (pw4_pos bep (2 ^ N - 1)) (ev_scale s2 (2 ^ N - 1) _) (ev_scale s1 (2 ^ N - 1) _)
theorem gTC_pos (h : CS N R w vals cell fsv fsc) (hN4 : N ≤ 4) {A B : Nat → Nat} {t : Nat → Nat → Nat} (hW : ∀ c, c < N → WGT cell vals N R w ms c (A c) (B c) (t c)) : 0 < gT4 t (2 ^ N - 1) := by
  refine gT4_pos hN4 fun c hc => ?_
  have hb : 0 / 2 ^ c % 2 = 0 := by rw [Nat.zero_div]
  have p := ((hW c hc).2.2.2.1 0 (Nat.pow_pos (by decide)) hb).1 (opn_iff.mpr ⟨hb, Nat.zero_le _⟩)
  have f1 := (fit_pos (se := 0) (CS.ms h) hc hb).1.1
  have := Nat.mul_pos f1 (hW c hc).2.1
  rw [← p.1] at this
  exact Nat.pos_of_mul_pos_right this
theorem t_ofC {body : Int32 × Int32 × (Nat → Int32) × Int32 × (Nat → Int32) × (Nat → Nat) → Option ((Int32 × Int32 × (Nat → Int32) × Int32 × (Nat → Int32) × (Nat → Nat)) ⊕ (Int32 × Int32 × (Nat → Int32) × Int32 × (Nat → Int32) × (Nat → Nat)))} (hbody : ∀ x, body x = b_X7_of_46 sf st (nI N) (nI R) (nI w) (nI ms) 5 fsv 16 fsc x) (h : CS N R w vals cell fsv fsc) (hN4 : N ≤ 4) (hms : ms ≤ 4) {a b : Nat} (ha : a < N) (hb : b < N) (hab : a ≠ b) {pe el : Nat → Int} {f fl : Nat → Int32} {l ll : Nat} (v : Nat → Nat) (hE : PE pe f l) (hL : PE el fl ll) :
    ∃ (lg' : Nat) (pwf' : Nat → Int32) (pe' : Nat → Int) (lgl' : Nat) (flp' : Nat → Int32) (el' : Nat → Int) (v' : Nat → Nat), (lt ((1 <<< ((nI N) &&& 31)) - 1 : Int32) (fun x3_1 : Int32 => (lp body FU (0, nI l, f, nI ll, fl, v)).bind (fun q_10 : Int32 × Int32 × (Nat → Int32) × Int32 × (Nat → Int32) × (Nat → Nat) => (m_X7_sumGraphs sf st (nI N) (nI R) (nI w) (nI ms) q_10.2.2.2.2.2 0).bind (fun r_11 : (Nat → Nat) => (six x3_1).bind (fun k_12 : Nat => (fCop r_11 85 k_12).bind (fun fv_13 : Nat → Nat => (m_X7_keepArc sf st (nI N) (nI R) (nI w) (nI ms) fv_13 (nI a) (nI b)).bind (fun r_14 : (Nat → Nat) => (m_X7_sumGraphs sf st (nI N) (nI R) (nI w) (nI ms) r_14 (1 <<< ((nI b) &&& 31))).bind (fun r_15 : (Nat → Nat) => (six x3_1).bind (fun k_16 : Nat => (fCop r_15 84 k_16).bind (fun fv_17 : Nat → Nat => (m_X7_lower sf st rdy fv_17).bind (fun r_18 : (Nat → Nat) => some (nI a, nI b, q_10.2.1, q_10.2.2.1, q_10.2.2.2.1, q_10.2.2.2.2.1, (1 : Int32), r_18))))))))))) : Option (Int32 × Int32 × Int32 × (Nat → Int32) × Int32 × (Nat → Int32) × Int32 × (Nat → Nat))) = some (nI a, nI b, nI lg', pwf', nI lgl', flp', 1, v') ∧ PE pe' pwf' lg' ∧ PE el' flp' lgl' ∧ v' 84 = shT cell vals N R w ms a b / Nat.gcd (shT cell vals N R w ms a b) (shL cell vals N R w ms b) ∧ v' 85 = shL cell vals N R w ms b / Nat.gcd (shT cell vals N R w ms a b) (shL cell vals N R w ms b) := by
  have h16 : 2 ^ N ≤ 2 ^ 4 := Nat.pow_le_pow_right (by decide) hN4
  have h1N : 1 ≤ 2 ^ N := Nat.pow_pos (by decide)
  obtain ⟨i, l', ll', f', fl', pe', el', v1, A, B, t1, e1, p1, p2, hW1, hA1⟩ := t_weighs (sf := sf) (st := st) hbody h hN4 hms v hE hL
  obtain ⟨t, ht⟩ : ∃ t : Nat → Nat → Nat, t = fun c u => if c < N then t1 c u else 0 := ⟨_, rfl⟩
  have tc : ∀ c, c < N → t c = t1 c := fun c hc => by rw [ht]; funext u; exact if_pos hc
  have tz : ∀ c u, N ≤ c → t c u = 0 := fun c u hc => by rw [ht]; exact if_neg (by omega)
  have hW : ∀ c, c < N → WGT cell vals N R w ms c (A c) (B c) (t c) := fun c hc => by rw [tc c hc]; exact hW1 c hc
  have hA : WAL N t v1 := fun c s hc hs hsb => by rw [tc c hc]; exact hA1 c s hc hs hsb
  have tle : ∀ c u, t c u ≤ WM := fun c u => by
    by_cases hc : c < N
    · exact (hW c hc).2.2.1 u
    · rw [tz c u (by omega)]; exact Nat.zero_le _
  obtain ⟨v2, e2, b1, b2⟩ := t_sumGraphs (sf := sf) (st := st) (rw0 := nI R) (sg := nI w) (ms := ms) hN4 tle (m := 0) (by omega) hA (fun o _ ho => absurd (Nat.and_zero o) ho)
  have g133 := gT133 tle (s := 2 ^ N - 1) (by omega)
  have v2a := b1 (2 ^ N - 1) (by omega)
  have w1 := wlen_le g133
  have e3 : fCop v2 85 (65 + (2 ^ N - 1)) = some (uN v2 85 (gT4 t (2 ^ N - 1))) := by
    rw [fCop_e rfl (pJ65 _ (by omega)) (by omega) (by rw [v2a]; show wlen _ ≤ 168; omega), v2a]
  have hA2 : WAL N t (uN v2 85 (gT4 t (2 ^ N - 1))) := fun c s hc hs hsb => by rw [uN_n (by omega), b2 _ (by omega)]; exact hA c s hc hs hsb
  obtain ⟨v3, e4, c1, c2⟩ := t_keepArc (sf := sf) (st := st) (rw0 := nI R) (sg := nI w) (ms := ms) hN4 ha hb hab hA2
  have tKle := tK_le tle a b
  have tbm : ∀ b, b < 4 → ∀ o, o < 16 → ¬ o &&& 2 ^ b = 2 ^ b → o / 2 ^ b % 2 = 0 := by decide +kernel
  have p16 : ∀ b, b < 4 → 2 ^ b < 16 := by decide
  obtain ⟨v4, e5, d1, d2⟩ := t_sumGraphs (sf := sf) (st := st) (rw0 := nI R) (sg := nI w) (ms := ms) hN4 tKle (m := 2 ^ b) (p16 b (by omega)) c1 (fun o ho hob => by
    rw [c2 _ (by omega), uN_n (by omega), b1 o ho, gT4_same (by omega) (tbm b (by omega) o (by omega) hob)])
  have gK133 := gT133 tKle (s := 2 ^ N - 1) (by omega)
  have v4a := d1 (2 ^ N - 1) (by omega)
  have w2 := wlen_le gK133
  have e6 : fCop v4 84 (65 + (2 ^ N - 1)) = some (uN v4 84 (gT4 (tK t a b) (2 ^ N - 1))) := by
    rw [fCop_e rfl (pJ65 _ (by omega)) (by omega) (by rw [v4a]; show wlen _ ≤ 168; omega), v4a]
  have k84 : uN v4 84 (gT4 (tK t a b) (2 ^ N - 1)) 84 = gT4 (tK t a b) (2 ^ N - 1) := uN_s _ _ _
  have k85 : uN v4 84 (gT4 (tK t a b) (2 ^ N - 1)) 85 = gT4 t (2 ^ N - 1) := by rw [uN_n (by decide), d2 _ (by omega), c2 _ (by omega), uN_s]
  obtain ⟨v5, e7, f1, f2⟩ := t_lower (sf := sf) (st := st) (rdy := rdy) (v := uN v4 84 (gT4 (tK t a b) (2 ^ N - 1))) (by rw [k84]; exact gK133) (by rw [k85]; exact g133) (by rw [k85]; exact gTC_pos h hN4 hW)
  rw [k84, k85] at f1 f2
  obtain ⟨s1, s2⟩ := share_eq h hN4 hW tz ha hb
  refine ⟨l', f', pe', ll', fl', el', v5, ?_, p1, p2, f1.trans s1, f2.trans s2⟩
  rw [lt, tb_all N (by omega), e1]
  simp only [Option.bind_some]
  rw [show (0 : Int32) = nI 0 from rfl, e2]
  simp only [Option.bind_some]
  rw [six_e (by omega)]
  simp only [Option.bind_some]
  rw [e3]
  simp only [Option.bind_some]
  rw [e4]
  simp only [Option.bind_some]
  rw [tb_shl b (by omega), e5]
  simp only [Option.bind_some]
  rw [e6]
  simp only [Option.bind_some]
  rw [e7]
  rfl
/-- what is kept of a share is right -/
def QS (cell : Nat → Nat → Nat) (vals : Nat → Nat) (N R w ms : Nat) : Int32 → Int32 → Int32 → (Nat → Nat) → Prop := fun rdy sf st v => rdy = 0 ∨ (rdy = 1 ∧ ∃ a b, sf = nI a ∧ st = nI b ∧ a < 5 ∧ b < 5 ∧ v 84 = shT cell vals N R w ms a b / Nat.gcd (shT cell vals N R w ms a b) (shL cell vals N R w ms b) ∧ v 85 = shL cell vals N R w ms b / Nat.gcd (shT cell vals N R w ms a b) (shL cell vals N R w ms b))
theorem of_ok (h : CS N R w vals cell fsv fsc) (hN4 : N ≤ 4) (hms : ms ≤ 4) {a b : Nat} (ha : a < N) (hb : b < N) (hab : a ≠ b) : OFOK (QS cell vals N R w ms) N R w (nI ms) fsv fsc (nI a) (nI b) (shT cell vals N R w ms a b / Nat.gcd (shT cell vals N R w ms a b) (shL cell vals N R w ms b)) (shL cell vals N R w ms b / Nat.gcd (shT cell vals N R w ms a b) (shL cell vals N R w ms b)) := by
  intro sf st rdy lg pe pwf lgl el flp v hE hL hQ
  have fin : ∀ {lg' : Nat} {pwf' : Nat → Int32} {pe' : Nat → Int} {lgl' : Nat} {flp' : Nat → Int32} {el' : Nat → Int} {v' : Nat → Nat}, m_X7_of sf st (nI N) (nI R) (nI w) (nI ms) 5 fsv 16 fsc (nI lg) pwf (nI lgl) flp rdy v (nI a) (nI b) = some (nI a, nI b, nI lg', pwf', nI lgl', flp', 1, v') → PE pe' pwf' lg' → PE el' flp' lgl' → v' 84 = shT cell vals N R w ms a b / Nat.gcd (shT cell vals N R w ms a b) (shL cell vals N R w ms b) → v' 85 = shL cell vals N R w ms b / Nat.gcd (shT cell vals N R w ms a b) (shL cell vals N R w ms b) → _ := fun {lg' pwf' pe' lgl' flp' el' v'} e p1 p2 q1 q2 => (⟨nI a, nI b, lg', pwf', pe', lgl', flp', el', 1, v', e, p1, p2, Or.inr ⟨rfl, a, b, rfl, rfl, by omega, by omega, q1, q2⟩, q1, q2⟩ : ∃ (sf' st' : Int32) (lg' : Nat) (pwf' : Nat → Int32) (pe' : Nat → Int) (lgl' : Nat) (flp' : Nat → Int32) (el' : Nat → Int) (rdy' : Int32) (v' : Nat → Nat), m_X7_of sf st (nI N) (nI R) (nI w) (nI ms) 5 fsv 16 fsc (nI lg) pwf (nI lgl) flp rdy v (nI a) (nI b) = some (sf', st', nI lg', pwf', nI lgl', flp', rdy', v') ∧ PE pe' pwf' lg' ∧ PE el' flp' lgl' ∧ QS cell vals N R w ms rdy' sf' st' v' ∧ v' 84 = _ ∧ v' 85 = _)
  by_cases h0 : rdy = 0
  · obtain ⟨lg', pwf', pe', lgl', flp', el', v', e, p1, p2, q1, q2⟩ := t_ofC (sf := sf) (st := st) (rdy := rdy) (body := b_X7_of_46 sf st (nI N) (nI R) (nI w) (nI ms) 5 fsv 16 fsc) (fun _ => rfl) h hN4 hms ha hb hab v hE hL
    exact fin (by rw [em_X7_of, if_pos h0]; exact e) p1 p2 q1 q2
  · obtain ⟨h1, a', b', ea, eb, ha', hb', r1, r2⟩ := hQ.resolve_left h0
    by_cases hsf : sf = nI a
    · by_cases hst : st = nI b
      · have eaa : a' = a := by rw [ea] at hsf; exact (neq (by omega) (by omega)).mp hsf
        have ebb : b' = b := by rw [eb] at hst; exact (neq (by omega) (by omega)).mp hst
        rw [eaa, ebb] at r1 r2
        refine ⟨sf, st, lg, pwf, pe, lgl, flp, el, rdy, v, by rw [em_X7_of, if_neg h0, if_pos hsf, if_pos hst], hE, hL, hQ, r1, r2⟩
      · obtain ⟨lg', pwf', pe', lgl', flp', el', v', e, p1, p2, q1, q2⟩ := t_ofC (sf := sf) (st := st) (rdy := rdy) (body := b_X7_of_46v2 sf st (nI N) (nI R) (nI w) (nI ms) 5 fsv 16 fsc) (fun _ => rfl) h hN4 hms ha hb hab v hE hL
        exact fin (by rw [em_X7_of, if_neg h0, if_pos hsf, if_neg hst]; exact e) p1 p2 q1 q2
    · obtain ⟨lg', pwf', pe', lgl', flp', el', v', e, p1, p2, q1, q2⟩ := t_ofC (sf := sf) (st := st) (rdy := rdy) (body := b_X7_of_46v1 sf st (nI N) (nI R) (nI w) (nI ms) 5 fsv 16 fsc) (fun _ => rfl) h hN4 hms ha hb hab v hE hL
      exact fin (by rw [em_X7_of, if_neg h0, if_neg hsf]; exact e) p1 p2 q1 q2
end SH
