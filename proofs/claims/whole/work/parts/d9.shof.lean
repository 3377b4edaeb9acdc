/-! Shares: sumGraphs, keepArc, lower, of -/
section SO
variable {N ms : Nat} {sf st rw0 sg : Int32} {t t' : Nat → Nat → Nat}
theorem tb_with : ∀ s, s < 16 → ∀ m, m < 16 → ((nI s &&& nI m) = nI m ↔ s &&& m = m) := by decide +kernel
/-- all sums that have the names m; the others are right already -/
theorem t_sumGraphs (hN4 : N ≤ 4) (ht : ∀ c u, t c u ≤ WM) {m : Nat} (hm : m < 16) {v : Nat → Nat} (hW : WAL N t v) (hS : ∀ o, o < 2 ^ N → ¬ o &&& m = m → v (65 + o) = gT4 t o) :
    ∃ v', m_X7_sumGraphs sf st (nI N) rw0 sg (nI ms) v (nI m) = some v' ∧ (∀ o, o < 2 ^ N → v' (65 + o) = gT4 t o) ∧ ∀ j, (j < 65 ∨ 81 < j) → v' j = v j := by
  have h16 : 2 ^ N ≤ 2 ^ 4 := Nat.pow_le_pow_right (by decide) hN4
  have L := lp_cnt (body := b_X7_sumGraphs_2 sf st (nI N) rw0 sg (nI ms) (nI m)) (fun k z => (∀ o, o < k → z (65 + o) = gT4 t o) ∧ (∀ o, o < 2 ^ N → ¬ o &&& m = m → z (65 + o) = gT4 t o) ∧ ∀ j, (j < 65 ∨ 81 < j) → z j = v j) (n0 := 0) (n1 := 2 ^ N) (Nat.zero_le _) (by omega) ?_ ?_ (s0 := v) ⟨fun o ho => by omega, hS, fun j _ => rfl⟩
  · obtain ⟨s1, e1, h1, h2, h3⟩ := L
    rw [em_X7_sumGraphs, show (0 : Int32) = nI 0 from rfl, e1]
    exact ⟨_, rfl, h1, h3⟩
  · intro z _
    rw [eb_X7_sumGraphs_2, tb_pow N (by omega), if_pos ((nle (by omega) (by omega)).mpr (Nat.le_refl _))]
  · intro k z _ hk ⟨h1, h2, h3⟩
    rw [eb_X7_sumGraphs_2, tb_pow N (by omega), if_neg (fun z => by have := (nle (by omega) (by omega)).mp z; omega)]
    by_cases hkm : k &&& m = m
    · rw [if_pos ((tb_with k (by omega) m hm).mpr hkm)]
      have hWz : WAL N t z := fun c u hc hu hb => by rw [h3 _ (by omega)]; exact hW c u hc hu hb
      obtain ⟨v', e, a1, a2⟩ := t_sumOf (sf := sf) (st := st) (rw0 := rw0) (sg := sg) (ms := ms) hN4 ht hk hWz h1
      rw [e]
      simp only [Option.bind_some, lt]
      rw [nI_1]
      refine ⟨_, rfl, fun o ho => ?_, fun o ho hom => ?_, fun j hj => ?_⟩
      · by_cases hok : o = k
        · rw [hok]; exact a1
        · rw [a2 _ (by omega) (by omega)]; exact h1 o (by omega)
      · by_cases hok : o = k
        · rw [hok]; exact a1
        · rw [a2 _ (by omega) (by omega)]; exact h2 o ho hom
      · rw [a2 _ (by omega) (by omega)]; exact h3 j hj
    · rw [if_neg (fun z => hkm ((tb_with k (by omega) m hm).mp z)), lt, nI_1]
      refine ⟨_, rfl, fun o ho => ?_, h2, h3⟩
      by_cases hok : o = k
      · rw [hok]; exact h2 k hk hkm
      · exact h1 o (by omega)
/-- the weights with an arc alone -/
def tK (t : Nat → Nat → Nat) (a b : Nat) : Nat → Nat → Nat := fun c s => if c = b then (if s / 2 ^ a % 2 = 1 then t c s else 0) else t c s
def upL (a s : Nat) : List Nat := (subL s).filter (fun u => Nat.beq (u / 2 ^ a % 2) 1)
theorem tb_k1 : ∀ a, a < 4 → ∀ s, s < 16 → s / 2 ^ a % 2 = 1 → isoN (subL s) = isoN (upL a s ++ subL (s - 2 ^ a)) := by decide +kernel
theorem tb_k0 : ∀ a, a < 4 → ∀ s, s < 16 → s / 2 ^ a % 2 = 0 → (subL s).all (fun u => Nat.beq (u / 2 ^ a % 2) 0) = true := by decide +kernel
theorem ssum_flt {f : Nat → Nat} {q : Nat → Bool} : ∀ L : List Nat, ssum f (L.filter q) = ssum (fun u => if q u = true then f u else 0) L := by
  intro L
  induction L with
  | nil => rfl
  | cons x L ih =>
    show _ = (if q x = true then f x else 0) + ssum (fun u => if q u = true then f u else 0) L
    cases hq : q x with
    | true => rw [List.filter_cons_of_pos hq, if_pos rfl, ← ih]; rfl
    | false => rw [List.filter_cons_of_neg (by rw [hq]; decide), if_neg (by decide), Nat.zero_add, ih]
theorem ssum_congr {f g : Nat → Nat} : ∀ L : List Nat, (∀ u ∈ L, f u = g u) → ssum f L = ssum g L := by
  intro L
  induction L with
  | nil => intro _; rfl
  | cons x L ih =>
    intro h
    show f x + ssum f L = g x + ssum g L
    rw [h x List.mem_cons_self, ih (fun u hu => h u (List.mem_cons_of_mem _ hu))]
theorem keep1 {a b s : Nat} (ha : a < 4) (hs : s < 16) (h : s / 2 ^ a % 2 = 1) : ssum (t b) (subL s) = ssum (tK t a b b) (subL s) + ssum (t b) (subL (s - 2 ^ a)) := by
  have e1 : ssum (tK t a b b) (subL s) = ssum (t b) (upL a s) := by
    unfold upL
    rw [ssum_flt]
    refine ssum_congr _ fun u _ => ?_
    unfold tK
    rw [if_pos rfl]
    by_cases hu : u / 2 ^ a % 2 = 1
    · rw [if_pos hu, if_pos (by rw [hu]; rfl)]
    · rw [if_neg hu, if_neg (fun z => hu (Nat.eq_of_beq_eq_true z))]
  rw [e1, ← ssum_app, ← ssum_perm (isoN_perm (subL s)), tb_k1 a ha s hs h]
  exact ssum_perm (isoN_perm _)
theorem keep0 {a b s : Nat} (ha : a < 4) (hs : s < 16) (h : s / 2 ^ a % 2 = 0) : ssum (tK t a b b) (subL s) = 0 := by
  have e : ssum (tK t a b b) (subL s) = ssum (fun _ => 0) (subL s) := ssum_congr _ fun u hu => by
    have := Nat.eq_of_beq_eq_true (List.all_eq_true.mp (tb_k0 a ha s hs h) u hu)
    unfold tK
    rw [if_pos rfl, if_neg (by omega)]
  rw [e]
  generalize subL s = L
  induction L with
  | nil => rfl
  | cons x L ih => show 0 + ssum (fun _ => 0) L = 0; rw [ih]
theorem tb_pl1 : ∀ s, s < 16 → ∀ a, a < 4 → s / 2 ^ a % 2 = 0 → (s + 2 ^ a) / 2 ^ a % 2 = 1 := by decide +kernel
theorem tb_pl2 : ∀ s, s < 16 → ∀ a, a < 4 → ∀ b, b < 4 → (s / 2 ^ a % 2 = 0 ∧ s / 2 ^ b % 2 = 0 ∧ a ≠ b) → (s + 2 ^ a) / 2 ^ b % 2 = 0 := by decide +kernel
theorem t_keepArc (hN4 : N ≤ 4) {a b : Nat} (ha : a < N) (hb : b < N) (hab : a ≠ b) {v : Nat → Nat} (hW : WAL N t v) :
    ∃ v', m_X7_keepArc sf st (nI N) rw0 sg (nI ms) v (nI a) (nI b) = some v' ∧ WAL N (tK t a b) v' ∧ ∀ j, (j < 16 * b ∨ 16 * b + 16 ≤ j) → v' j = v j := by
  have h16 : 2 ^ N ≤ 2 ^ 4 := Nat.pow_le_pow_right (by decide) hN4
  have L := lp_cnt (body := b_X7_keepArc_2 (nI N) (nI a) (nI b)) (fun k z => (∀ s, s < 2 ^ N → s / 2 ^ b % 2 = 0 → s / 2 ^ a % 2 = 1 → z (16 * b + s) = if s < k then ssum (tK t a b b) (subL s) else ssum (t b) (subL s)) ∧ (∀ s, s < 2 ^ N → s / 2 ^ b % 2 = 0 → s / 2 ^ a % 2 = 0 → z (16 * b + s) = if s + 2 ^ a < k then 0 else ssum (t b) (subL s)) ∧ ∀ j, (j < 16 * b ∨ 16 * b + 16 ≤ j) → z j = v j) (n0 := 0) (n1 := 2 ^ N) (Nat.zero_le _) (by omega) ?_ ?_ (s0 := v) ⟨fun s hs h1 h2 => by rw [if_neg (by omega)]; exact hW b s hb hs h1, fun s hs h1 h2 => by rw [if_neg (Nat.not_lt_zero _)]; exact hW b s hb hs h1, fun j _ => rfl⟩
  · obtain ⟨s1, e1, h1, h2, h3⟩ := L
    rw [em_X7_keepArc, show (0 : Int32) = nI 0 from rfl, e1]
    refine ⟨_, rfl, fun c s hc hs hcb => ?_, h3⟩
    dsimp only
    by_cases hcb2 : c = b
    · subst hcb2
      by_cases hsa : s / 2 ^ a % 2 = 1
      · rw [h1 s hs hcb hsa, if_pos hs]
      · have tb : ∀ N, N < 5 → ∀ a, a < N → ∀ s, s < 2 ^ N → s / 2 ^ a % 2 = 0 → s + 2 ^ a < 2 ^ N := by decide +kernel
        rw [h2 s hs hcb (by omega), if_pos (tb N (by omega) a ha s hs (by omega)), keep0 (by omega) (by omega) (by omega)]
    · rw [h3 _ (by omega), hW c s hc hs hcb]
      refine ssum_congr _ fun u _ => ?_
      unfold tK
      rw [if_neg hcb2]
  · intro z _
    rw [eb_X7_keepArc_2, tb_pow N (by omega), if_pos ((nle (by omega) (by omega)).mpr (Nat.le_refl _))]
  · intro k z _ hk ⟨h1, h2, h3⟩
    have next : k / 2 ^ a % 2 = 0 ∨ k / 2 ^ b % 2 = 1 → (∀ s, s < 2 ^ N → s / 2 ^ b % 2 = 0 → s / 2 ^ a % 2 = 1 → z (16 * b + s) = if s < k + 1 then ssum (tK t a b b) (subL s) else ssum (t b) (subL s)) ∧ (∀ s, s < 2 ^ N → s / 2 ^ b % 2 = 0 → s / 2 ^ a % 2 = 0 → z (16 * b + s) = if s + 2 ^ a < k + 1 then 0 else ssum (t b) (subL s)) ∧ ∀ j, (j < 16 * b ∨ 16 * b + 16 ≤ j) → z j = v j := by
      intro hn
      refine ⟨fun s hs q1 q2 => ?_, fun s hs q1 q2 => ?_, h3⟩
      · rw [h1 s hs q1 q2]
        have : s ≠ k := fun z => by rw [z] at q1 q2; omega
        by_cases hsk : s < k
        · rw [if_pos hsk, if_pos (by omega)]
        · rw [if_neg hsk, if_neg (by omega)]
      · rw [h2 s hs q1 q2]
        have this := And.intro (tb_pl1 s (by omega) a (by omega) q2) (tb_pl2 s (by omega) a (by omega) b (by omega) ⟨q2, q1, hab⟩)
        have : s + 2 ^ a ≠ k := fun z => by rw [z] at this; omega
        by_cases hsk : s + 2 ^ a < k
        · rw [if_pos hsk, if_pos (by omega)]
        · rw [if_neg hsk, if_neg (by omega)]
    rw [eb_X7_keepArc_2, tb_pow N (by omega), if_neg (fun z => by have := (nle (by omega) (by omega)).mp z; omega), isIn01 (by omega) (by omega)]
    simp only [Option.bind_some]
    by_cases hka : k / 2 ^ a % 2 = 1
    · rw [if_pos hka, if_neg (show ¬ (1 : Int32) = 0 by decide), isIn01 (by omega) (by omega)]
      simp only [Option.bind_some]
      by_cases hkb : k / 2 ^ b % 2 = 1
      · rw [if_pos hkb, if_neg (show ¬ (1 : Int32) = 0 by decide), lt, nI_1]
        exact ⟨_, rfl, next (Or.inr hkb)⟩
      · have hkb0 : k / 2 ^ b % 2 = 0 := by omega
        obtain ⟨q1, q2⟩ := tb_del3 k (by omega) a (by omega) hka
        have q3 := tb_del4 k (by omega) a (by omega) b (by omega) ⟨hka, fun z => hab z.symm⟩
        have hp2 : 0 < 2 ^ a := Nat.pow_pos (by decide)
        have q4 : k - 2 ^ a < k := Nat.sub_lt (by omega) hp2
        have q5 : k - 2 ^ a + 2 ^ a = k := Nat.sub_add_cancel q2
        obtain ⟨w1, w2⟩ := (tb_wi b (by omega) k (by omega)).1 hkb0
        obtain ⟨x1, x2⟩ := (tb_wi b (by omega) (k - 2 ^ a) (by omega)).1 (by rw [q3]; exact hkb0)
        have v1 := h1 k hk hkb0 hka
        have v2 := h2 (k - 2 ^ a) (by omega) (by rw [q3]; exact hkb0) q1
        rw [if_neg (by omega)] at v1
        rw [if_neg (by omega)] at v2
        have k1 := keep1 (t := t) (b := b) (show a < 4 by omega) (show k < 16 by omega) hka
        rw [if_neg hkb, if_pos rfl, tb_del2 k (by omega) a (by omega) hka, wix_e (by omega) (by omega), wix_e (by omega) (by omega)]
        simp only [Option.bind_some]
        rw [w2, x2, fSub_e w1 x1 (by omega) (by rw [v1, v2]; omega)]
        simp only [Option.bind_some]
        rw [show (0 : Int32) = nI 0 from rfl, fBec_e x1 (by omega)]
        simp only [Option.bind_some, lt]
        rw [nI_1]
        refine ⟨_, rfl, fun s hs r1 r2 => ?_, fun s hs r1 r2 => ?_, fun j hj => ?_⟩
        · have hsn : s ≠ k - 2 ^ a := fun z => by rw [z] at r2; omega
          rw [uN_n (by omega)]
          by_cases hsk : s = k
          · rw [hsk, uN_s, if_pos (by omega), v1, v2, k1, Nat.add_sub_cancel]
          · rw [uN_n (by omega), h1 s hs r1 r2]
            by_cases hlt : s < k
            · rw [if_pos hlt, if_pos (by omega)]
            · rw [if_neg hlt, if_neg (by omega)]
        · by_cases hsk : s = k - 2 ^ a
          · rw [hsk, uN_s, if_pos (by omega)]
          · have hsk2 : s ≠ k := fun z => by rw [z] at r2; omega
            have hsk3 : s + 2 ^ a ≠ k := fun z => hsk (by rw [← z, Nat.add_sub_cancel])
            rw [uN_n (by omega), uN_n (by omega), h2 s hs r1 r2]
            by_cases hlt : s + 2 ^ a < k
            · rw [if_pos hlt, if_pos (by omega)]
            · rw [if_neg hlt, if_neg (by omega)]
        · rw [uN_n (by omega), uN_n (by omega)]
          exact h3 j hj
    · rw [if_neg hka, if_pos rfl, lt, nI_1]
      exact ⟨_, rfl, next (Or.inl (by omega))⟩
theorem tK_le (ht : ∀ c u, t c u ≤ WM) (a b : Nat) : ∀ c u, tK t a b c u ≤ WM := by
  intro c u
  unfold tK
  split
  · split
    · exact ht c u
    · exact Nat.zero_le _
  · exact ht c u
theorem mq_same {a b s m : Nat} (hb : b < 4) (h : s / 2 ^ b % 2 = 0) : mq (tK t a b) s m = mq t s m := by
  have e : ∀ c x, s / 2 ^ c % 2 = 1 → tK t a b c x = t c x := fun c x hc => by
    unfold tK
    rw [if_neg (fun z => by rw [z] at hc; omega)]
  have r : ∀ (c x : Nat), (if s / 2 ^ c % 2 = 1 then tK t a b c x else 1) = if s / 2 ^ c % 2 = 1 then t c x else 1 := fun c x => by
    by_cases hc : s / 2 ^ c % 2 = 1
    · rw [if_pos hc, if_pos hc, e c x hc]
    · rw [if_neg hc, if_neg hc]
  have r0 := r 0 (m % 16)
  rw [Nat.pow_zero, Nat.div_one] at r0
  unfold mq
  rw [r0, show (if s / 2 % 2 = 1 then tK t a b 1 (m / 16 % 16) else 1) = if s / 2 % 2 = 1 then t 1 (m / 16 % 16) else 1 from r 1 _, show (if s / 4 % 2 = 1 then tK t a b 2 (m / 256 % 16) else 1) = if s / 4 % 2 = 1 then t 2 (m / 256 % 16) else 1 from r 2 _, show (if s / 8 % 2 = 1 then tK t a b 3 (m / 4096 % 16) else 1) = if s / 8 % 2 = 1 then t 3 (m / 4096 % 16) else 1 from r 3 _]
theorem gT4_same {a b s : Nat} (hb : b < 4) (h : s / 2 ^ b % 2 = 0) : gT4 (tK t a b) s = gT4 t s := by
  unfold gT4
  generalize dagL s = L
  induction L with
  | nil => rfl
  | cons m L ih => unfold ev; rw [mq_same hb h, ih]
theorem t_lower {v : Nat → Nat} {rdy : Int32} (h1 : v 84 < BB ^ 133) (h2 : v 85 < BB ^ 133) (h0 : 0 < v 85) : ∃ v', m_X7_lower sf st rdy v = some v' ∧ v' 84 = v 84 / Nat.gcd (v 84) (v 85) ∧ v' 85 = v 85 / Nat.gcd (v 84) (v 85) := by
  have w1 := wlen_le h1
  have w2 := wlen_le h2
  have n81 : nwJ 81 = 168 := rfl
  have n82 : nwJ 82 = 168 := rfl
  have n83 : nwJ 83 = 168 := rfl
  have n84 : nwJ 84 = 168 := rfl
  have n85 : nwJ 85 = 168 := rfl
  rw [em_X7_lower, fCop_e rfl rfl (by decide) (by omega)]
  simp only [Option.bind_some]
  rw [fCop_e rfl rfl (by decide) (by rw [uN_n (by decide)]; omega)]
  simp only [Option.bind_some]
  have e1 : uN (uN v 81 (v 85)) 82 (uN v 81 (v 85) 84) = uN (uN v 81 (v 85)) 82 (v 84) := by rw [uN_n (show (84 : Nat) ≠ 81 by decide)]
  rw [e1]
  have a81 : uN (uN v 81 (v 85)) 82 (v 84) 81 = v 85 := by rw [uN_n (by decide), uN_s]
  have a82 : uN (uN v 81 (v 85)) 82 (v 84) 82 = v 84 := uN_s _ _ _
  have a84 : uN (uN v 81 (v 85)) 82 (v 84) 84 = v 84 := by rw [uN_n (by decide), uN_n (by decide)]
  have a85 : uN (uN v 81 (v 85)) 82 (v 84) 85 = v 85 := by rw [uN_n (by decide), uN_n (by decide)]
  generalize uN (uN v 81 (v 85)) 82 (v 84) = u at a81 a82 a84 a85
  have hg : Nat.gcd (v 85) (v 84) = Nat.gcd (v 84) (v 85) := Nat.gcd_comm _ _
  have hgp : 0 < Nat.gcd (v 84) (v 85) := Nat.gcd_pos_of_pos_right _ h0
  have hgl : Nat.gcd (v 84) (v 85) < BB ^ 133 := Nat.lt_of_le_of_lt (Nat.gcd_le_right _ h0) h2
  have wg := wlen_le hgl
  have hG : ∃ i u1, fGcd u 81 82 = some (i, u1) ∧ (i = 81 ∨ i = 82) ∧ u1 i = Nat.gcd (v 84) (v 85) ∧ ∀ j, j ≠ 81 → j ≠ 82 → u1 j = u j := by
    unfold fGcd
    rw [if_pos (by decide), a81, a82]
    by_cases hw : who (v 85) (v 84) = true
    · rw [if_pos hw, if_pos hw, if_pos hw]
      exact ⟨_, _, rfl, Or.inl rfl, by rw [uN_n (by decide), uN_s, hg], fun j h1 h2 => by rw [uN_n h2, uN_n h1]⟩
    · rw [if_neg hw, if_neg hw, if_neg hw]
      exact ⟨_, _, rfl, Or.inr rfl, by rw [uN_s, hg], fun j h1 h2 => by rw [uN_n h2, uN_n h1]⟩
  obtain ⟨i, u1, e2, hi, hui, huj⟩ := hG
  rw [e2]
  simp only [Option.bind_some]
  have hpi : pJ i = true := by rcases hi with rfl | rfl <;> rfl
  rw [fCop_e rfl hpi (by rcases hi with rfl | rfl <;> decide) (by rw [hui]; omega), hui]
  simp only [Option.bind_some]
  have b83 : uN u1 83 (Nat.gcd (v 84) (v 85)) 83 = Nat.gcd (v 84) (v 85) := uN_s _ _ _
  have b84 : uN u1 83 (Nat.gcd (v 84) (v 85)) 84 = v 84 := by rw [uN_n (by decide), huj _ (by decide) (by decide), a84]
  have b85 : uN u1 83 (Nat.gcd (v 84) (v 85)) 85 = v 85 := by rw [uN_n (by decide), huj _ (by decide) (by decide), a85]
  generalize uN u1 83 (Nat.gcd (v 84) (v 85)) = u2 at b83 b84 b85
  generalize hG2 : Nat.gcd (v 84) (v 85) = g at *
  have dv0 : ∀ (u : Nat → Nat) (k x : Nat), (k = 84 ∨ k = 85) → u 83 = g → u k = x → x < BB ^ 133 → ∃ u', m_X7_divide sf st u k = some u' ∧ u' k = x / g ∧ ∀ j, j ≠ k → j ≠ 81 → u' j = u j := by
    intro u k x hk h83 hkx hx
    have hpk : pJ k = true := by rcases hk with rfl | rfl <;> rfl
    have hnk : nwJ k = 168 := by rcases hk with rfl | rfl <;> rfl
    have hk81 : k ≠ 81 := by omega
    have hk83 : k ≠ 83 := by omega
    have hq : x / g < BB ^ 133 := Nat.lt_of_le_of_lt (Nat.div_le_self _ _) hx
    have wq := wlen_le hq
    rw [em_X7_divide, show (0 : Int32) = nI 0 from rfl, fBec_e rfl (by omega)]
    simp only [Option.bind_some]
    have hR : fRed (uN u 81 0) k 83 81 = some (uN (uN (uN u 81 0) k (x % g)) 81 (x / g)) := by
      unfold fRed
      rw [uN_n hk81, uN_n (show (83 : Nat) ≠ 81 by decide), uN_s, h83, hkx]
      rw [if_pos]
      rw [hpk]
      simp only [Bool.and_eq_true, decide_eq_true_eq]
      refine ⟨trivial, rfl, rfl, hk83, hk81, by decide, hgp, trivial, Nat.lt_of_lt_of_le hx (Nat.pow_le_pow_right (by decide) (by decide))⟩
    rw [hR]
    simp only [Option.bind_some]
    rw [fCop_e hpk rfl hk81 (by rw [uN_s, hnk]; omega), uN_s]
    refine ⟨_, rfl, uN_s _ _ _, fun j h1 h2 => ?_⟩
    rw [uN_n h1, uN_n h2, uN_n h1, uN_n h2]
  obtain ⟨u3', e3, c1, c2⟩ := dv0 u2 84 (v 84) (Or.inl rfl) b83 b84 h1
  rw [e3]
  simp only [Option.bind_some]
  obtain ⟨u4', e4, d1, d2⟩ := dv0 u3' 85 (v 85) (Or.inr rfl) (by rw [c2 _ (by decide) (by decide)]; exact b83) (by rw [c2 _ (by decide) (by decide)]; exact b85) h2
  rw [e4]
  refine ⟨_, rfl, ?_, d1⟩
  rw [d2 _ (by decide) (by decide)]
  exact c1
end SO
