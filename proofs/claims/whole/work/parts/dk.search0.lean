/-! the best parents: class and reference -/
theorem prF_one {f : Nat → Nat} {c : Nat} : ∀ n, c < n → (∀ k, k < n → k ≠ c → f k = 1) → prF f n = f c := by
  have z : ∀ n, (∀ k, k < n → f k = 1) → prF f n = 1 := by
    intro n
    induction n with
    | zero => intro _; rfl
    | succ n ih => intro h; unfold prF; rw [ih (fun k hk => h k (by omega)), h n (by omega)]
  intro n
  induction n with
  | zero => intro h; omega
  | succ n ih =>
    intro hc h
    unfold prF
    by_cases e : c = n
    · subst e
      rw [z c (fun k hk => h k (by omega) (by omega)), Nat.one_mul]
    · rw [ih (by omega) (fun k hk hkc => h k (by omega) hkc), h n (by omega) (fun q => e q.symm), Nat.mul_one]
theorem tb_frA : ∀ s, s < 32 → ∀ c, c < 5 → ∀ k, k < 5 → parN (frA s c 5) k 5 = if k = c then s else 0 := by decide +kernel
theorem tb_frL : ∀ s, s < 32 → ∀ c, c < 5 → frA s c 5 < 2 ^ 25 := by decide +kernel
theorem sg3_pos {x y : Nat} : 0 < sg3 x y ↔ y < x := by
  unfold sg3
  by_cases h1 : x < y
  · rw [if_pos h1]; exact ⟨fun z => absurd z (by decide), fun z => by omega⟩
  · rw [if_neg h1]
    by_cases h2 : x = y
    · rw [if_pos h2]; exact ⟨fun z => absurd z (by decide), fun z => by omega⟩
    · rw [if_neg h2]; exact ⟨fun _ => by omega, fun _ => by decide⟩
theorem sg3_zero {x y : Nat} : sg3 x y = 0 ↔ x = y := by
  unfold sg3
  by_cases h1 : x < y
  · rw [if_pos h1]; exact ⟨fun z => absurd z (by decide), fun z => by omega⟩
  · rw [if_neg h1]
    by_cases h2 : x = y
    · rw [if_pos h2]; exact ⟨fun _ => h2, fun _ => rfl⟩
    · rw [if_neg h2]; exact ⟨fun z => absurd z (by decide), fun z => absurd z h2⟩
theorem pos_le {s : Int32} : ¬ s ≤ 0 ↔ 0 < s := Int32.not_le
section BP
variable {N R w ms : Nat} {vals : Nat → Nat} {cell : Nat → Nat → Nat} {fvalues fcells fsv fsc : Nat → Int32} {i5 i6 : Int32} {fk ftops flows fsmall flarge fone ftwo frest tA lA tB lB lf rt : Nat → Int32} {c : Nat}
def gtF (cell : Nat → Nat → Nat) (vals : Nat → Nat) (N R w c a b : Nat) : Prop := fitT cell vals N R w c b * fitL cell vals N R w c a < fitT cell vals N R w c a * fitL cell vals N R w c b
def bpN (cell : Nat → Nat → Nat) (vals : Nat → Nat) (N R w ms c oo : Nat) : Nat → Nat
  | 0 => 0
  | n + 1 => if (1 ≤ n ∧ n &&& oo = n ∧ pop5 n ≤ ms) ∧ fitT cell vals N R w c (bpN cell vals N R w ms c oo n) * fitL cell vals N R w c n < fitT cell vals N R w c n * fitL cell vals N R w c (bpN cell vals N R w ms c oo n) then n else bpN cell vals N R w ms c oo n
theorem bpN_in {oo : Nat} : ∀ n, bpN cell vals N R w ms c oo n ≤ oo ∧ bpN cell vals N R w ms c oo n &&& oo = bpN cell vals N R w ms c oo n ∧ (n = 0 ∨ bpN cell vals N R w ms c oo n < n) ∧ pop5 (bpN cell vals N R w ms c oo n) ≤ ms := by
  intro n
  induction n with
  | zero => exact ⟨Nat.zero_le _, Nat.zero_and _, Or.inl rfl, by show pop5 0 ≤ ms; rw [show pop5 0 = 0 from rfl]; exact Nat.zero_le _⟩
  | succ n ih =>
    obtain ⟨h1, h2, h3, h4⟩ := ih
    have h5 : bpN cell vals N R w ms c oo n < n + 1 := by
      rcases h3 with h3 | h3
      · subst h3; exact Nat.one_pos
      · omega
    unfold bpN
    split
    · rename_i hh
      refine ⟨?_, hh.1.2.1, Or.inr (by omega), hh.1.2.2⟩
      rw [← hh.1.2.1]
      exact Nat.and_le_right
    · exact ⟨h1, h2, Or.inr h5, h4⟩
theorem tb_subb : ∀ a, a < 32 → ∀ b, b < 32 → a &&& b = a → ∀ c, c < 5 → b / 2 ^ c % 2 = 0 → a / 2 ^ c % 2 = 0 := by decide +kernel
theorem okW_fr {s : Nat} (hN : N ≤ 5) (hs : s < 32) (hc : c < N) (hb : s / 2 ^ c % 2 = 0) : okW N (nI (frA s c 5)) = true := by
  have hl := tb_frL s hs c (by omega)
  unfold okW
  rw [u3_nI (by simp only [BB]; omega)]
  refine decide_eq_true ⟨hl, fun k hk => ?_⟩
  rw [tb_frA s hs c (by omega) k (by omega)]
  split
  · rename_i e; rw [e]; exact hb
  · rw [Nat.zero_div]
theorem wgh_fr (h : CS N R w vals cell fsv fsc) {a b : Nat} (ha : a < 32) (hb : b < 32) (hc : c < N) (ha0 : a / 2 ^ c % 2 = 0) (hb0 : b / 2 ^ c % 2 = 0) (hne : a ≠ b) :
    ∃ s, wgh cell vals N R w (nI (frA a c 5)) (nI (frA b c 5)) = some s ∧ (0 < s ↔ fitT cell vals N R w c b * fitL cell vals N R w c a < fitT cell vals N R w c a * fitL cell vals N R w c b) := by
  have hN := h.1
  have la := tb_frL a ha c (by omega)
  have lb := tb_frL b hb c (by omega)
  unfold wgh
  rw [if_pos (okW_fr hN ha hc ha0), if_pos (okW_fr hN hb hc hb0), u3_nI (by simp only [BB]; omega), u3_nI (by simp only [BB]; omega)]
  refine ⟨_, rfl, ?_⟩
  unfold sgG
  have sf : ∀ s, s < 32 → s / 2 ^ c % 2 = 0 → ∀ k, k < N → parN (frA s c 5) k 5 / 2 ^ k % 2 = 0 := fun s hs hs0 k hk => by
    rw [tb_frA s hs c (by omega) k (by omega)]
    split
    · rename_i e; rw [e]; exact hs0
    · rw [Nat.zero_div]
  rw [← wl_sg h (sf a ha ha0), sg3_pos]
  have one : ∀ x y, x < 32 → y < 32 → x ≠ y → prF (wlF cell vals N R w (frA x c 5) (frA y c 5)) N = fitT cell vals N R w c x * fitL cell vals N R w c y := by
    intro x y hx hy hxy
    rw [prF_one (c := c) N hc (fun k hk hkc => ?_)]
    · unfold wlF
      rw [tb_frA x hx c (by omega) c (by omega), tb_frA y hy c (by omega) c (by omega), if_pos rfl, if_pos rfl, if_neg hxy]
    · unfold wlF
      rw [tb_frA x hx c (by omega) k (by omega), tb_frA y hy c (by omega) k (by omega), if_neg hkc, if_neg hkc, if_pos rfl]
  rw [one a b ha hb hne, one b a hb ha (fun z => hne z.symm)]
theorem c_bestP (h : CS N R w vals cell fsv fsc) (hms : ms ≤ 4) (hc : c < N) {oo : Nat} (ho : oo < 32) (hb : oo / 2 ^ c % 2 = 0) : m_X6_bestParents cell vals N R w (nI ms) (nI c) (nI oo) = some (nI (bpN cell vals N R w ms c oo (oo + 1))) := by
  have hN := h.1
  have L := lp_cn2 (body := b_X6_bestParents_5 cell vals N R w (nI ms) (nI c) (nI oo)) (fun k s => s = nI (bpN cell vals N R w ms c oo k)) (n0 := 1) (n1 := oo + 1) (by omega) (by omega) ?_ ?_ (s0 := (0 : Int32)) ?_
  · obtain ⟨s1, e, h1⟩ := L
    rw [em_X6_bestParents, show ((0 : Int32), (1 : Int32)) = (0, nI 1) from rfl, e, h1]
    rfl
  · intro s _
    rw [eb_X6_bestParents_5, if_pos ((nlt (by omega) (by omega)).mpr (by omega))]
  · intro k s hk1 hk hs
    subst hs
    obtain ⟨b1, b2, b3, b4⟩ := bpN_in (cell := cell) (vals := vals) (N := N) (R := R) (w := w) (ms := ms) (c := c) (oo := oo) k
    have nx : bpN cell vals N R w ms c oo (k + 1) = if (1 ≤ k ∧ k &&& oo = k ∧ pop5 k ≤ ms) ∧ fitT cell vals N R w c (bpN cell vals N R w ms c oo k) * fitL cell vals N R w c k < fitT cell vals N R w c k * fitL cell vals N R w c (bpN cell vals N R w ms c oo k) then k else bpN cell vals N R w ms c oo k := rfl
    rw [eb_X6_bestParents_5, if_neg (fun z => by have := (nlt (by omega) (by omega)).mp z; omega), if_neg (show ¬ (32 : Int32) ≤ nI k from fun z => by have := (nle (a := 32) (by omega) (by omega)).mp z; omega)]
    by_cases hsub : k &&& oo = k
    · have hpl := pop5_le k
      rw [if_pos ((tb_sub k (by omega) oo ho).mpr hsub), t_bitCount k (by omega)]
      simp only [Option.bind_some]
      by_cases hp : pop5 k ≤ ms
      · have k0 := tb_subb k (by omega) oo ho hsub c (by omega) hb
        have y0 := tb_subb _ (by omega) oo ho b2 c (by omega) hb
        obtain ⟨s, es, hs⟩ := wgh_fr (c := c) h (show k < 32 by omega) (show bpN cell vals N R w ms c oo k < 32 by omega) hc k0 y0 (by omega)
        rw [if_pos ((nle (by omega) (by omega)).mpr hp), t_fromAll (by omega) (by omega)]
        simp only [Option.bind_some]
        rw [t_fromAll (by omega) (by omega)]
        simp only [Option.bind_some]
        rw [es]
        simp only [Option.bind_some]
        by_cases hgt : fitT cell vals N R w c (bpN cell vals N R w ms c oo k) * fitL cell vals N R w c k < fitT cell vals N R w c k * fitL cell vals N R w c (bpN cell vals N R w ms c oo k)
        · rw [if_neg (pos_le.mpr (hs.mpr hgt))]
          simp only [Option.bind_some, lt]
          rw [nI_1, nx, if_pos ⟨⟨hk1, hsub, hp⟩, hgt⟩]
          exact ⟨_, rfl, rfl⟩
        · rw [if_pos (show s ≤ 0 from Int32.not_lt.mp (fun z => hgt (hs.mp z)))]
          simp only [Option.bind_some, lt]
          rw [nI_1, nx, if_neg (fun z => hgt z.2)]
          exact ⟨_, rfl, rfl⟩
      · rw [if_neg (fun z => hp ((nle (by omega) (by omega)).mp z)), lt, nI_1, nx, if_neg (fun z => hp z.1.2.2)]
        exact ⟨_, rfl, rfl⟩
    · rw [if_neg (fun z => hsub ((tb_sub k (by omega) oo ho).mp z)), lt, nI_1, nx, if_neg (fun z => hsub z.1.2.1)]
      exact ⟨_, rfl, rfl⟩
  · show (0 : Int32) = nI (bpN cell vals N R w ms c oo (0 + 1))
    unfold bpN
    rw [if_neg (fun z => absurd z.1.1 (Nat.not_succ_le_zero 0))]
    rfl
theorem t_bestP (h : MS N R w vals cell fvalues fcells) (hK : MK cell vals N R w fk ftops flows) (hms : ms ≤ 4) (hc : c < N) {oo : Nat} (ho : oo < 32) (hb : oo / 2 ^ c % 2 = 0) :
    ∃ q, m_X11_bestParents (nI N) (nI R) (nI w) (nI ms) i5 i6 fvalues fcells fk ftops flows fsmall flarge fone ftwo frest tA lA tB lB lf rt (nI c) (nI oo) = some q ∧ q.1 = nI (bpN cell vals N R w ms c oo (oo + 1)) ∧ MK cell vals N R w q.2.1 q.2.2.1 q.2.2.2.1 := by
  have hN := h.1
  have ld : ∀ {f g : Nat → Int32} {n v s : Nat}, s < 32 → MR (sh f ((32 * c + s) * 8)) n v → n ≤ 6 → ∃ f', m_X11_load 1280 f 320 g (nI ((32 * c + s) * 8)) = some f' ∧ MR f' n v := by
    intro f g n v s hs hM hn
    obtain ⟨f', e, l, -⟩ := t_load (nx := 1280) (fx := f) (ny := 320) (fy := g) (n := n) (p := (32 * c + s) * 8) (sh0 hM) (by omega) (by omega) (by omega) (by omega)
    exact ⟨f', e, MR_congr hM (fun k hk => l k hk)⟩
  have b00 : 0 / 2 ^ c % 2 = 0 := by rw [Nat.zero_div]
  obtain ⟨r1, e1, p1, K1, n1, n2, F1, F2, hn1, hn2⟩ := t_family (i4 := nI ms) (i5 := i5) (i6 := i6) (se := 0) (fsmall := fsmall) (flarge := flarge) (fone := fone) (ftwo := ftwo) (frest := frest) h hK (by omega) hc b00
  obtain ⟨g1, e2, M1⟩ := ld (g := tB) (by omega) F1 hn1
  obtain ⟨r3, e3, p3, K3, n3, n4, F3, F4', hn3, hn4⟩ := t_family (i4 := nI ms) (i5 := i5) (i6 := i6) (se := 0) (fsmall := r1.2.2.2.2.1) (flarge := r1.2.2.2.2.2.1) (fone := r1.2.2.2.2.2.2.1) (ftwo := r1.2.2.2.2.2.2.2.1) (frest := r1.2.2.2.2.2.2.2.2) h K1 (by omega) hc b00
  obtain ⟨g2, e4, M2⟩ := ld (g := lB) (by omega) F4' hn4
  have L := lp_cg (body := b_X11_bestParents_39 (nI N) (nI R) (nI w) (nI ms) i5 i6 fvalues fcells (nI c) (nI oo)) (fun (s : Int32 × (Nat → Int32) × (Nat → Int32) × (Nat → Int32) × (Nat → Int32) × (Nat → Int32) × (Nat → Int32) × (Nat → Int32) × (Nat → Int32) × (Nat → Int32) × (Nat → Int32) × (Nat → Int32) × (Nat → Int32) × (Nat → Int32) × (Nat → Int32)) (k : Int32) => (s.1, k, s.2)) (fun k s => s.1 = nI (bpN cell vals N R w ms c oo k) ∧ MK cell vals N R w s.2.2.2.2.2.2.1 s.2.2.2.2.2.2.2.1 s.2.2.2.2.2.2.2.2.2.2.2.2.2.1 ∧ ∃ m1 m2, m1 ≤ 6 ∧ m2 ≤ 6 ∧ MR s.2.2.2.2.2.1 m1 (fitT cell vals N R w c (bpN cell vals N R w ms c oo k)) ∧ MR s.2.2.2.2.2.2.2.2.2.2.2.2.2.2 m2 (fitL cell vals N R w c (bpN cell vals N R w ms c oo k))) (n0 := 1) (n1 := oo + 1) (by omega) (by omega) ?_ ?_ (s0 := (0, tA, lA, lf, rt, g1, r3.2.1, r3.2.2.1, r3.2.2.2.2.1, r3.2.2.2.2.2.1, r3.2.2.2.2.2.2.1, r3.2.2.2.2.2.2.2.1, r3.2.2.2.2.2.2.2.2, r3.2.2.2.1, g2)) ?_
  · obtain ⟨s1, e5, q1, q2, -⟩ := L
    dsimp only at e5
    rw [em_X11_bestParents, show (0 : Int32) = nI 0 from rfl, e1]
    simp only [Option.bind_some]
    rw [p1, e2]
    simp only [Option.bind_some]
    rw [e3]
    simp only [Option.bind_some]
    rw [p3, e4]
    simp only [Option.bind_some]
    rw [show (1 : Int32) = nI 1 from rfl, show nI 0 = (0 : Int32) from rfl, e5]
    exact ⟨_, rfl, q1, q2⟩
  · intro s _
    rw [eb_X11_bestParents_39, if_pos ((nlt (by omega) (by omega)).mpr (by omega))]
  · rintro k ⟨a0, a1, a2, a3, a4, a5, a6, a7, a8, a9, a10, a11, a12, a13, a14⟩ hk1 hk ⟨hs, hKs, m1, m2, hm1, hm2, A1, A2⟩
    dsimp only at hs hKs A1 A2 ⊢
    subst hs
    obtain ⟨b1, b2, b3, b4⟩ := bpN_in (cell := cell) (vals := vals) (N := N) (R := R) (w := w) (ms := ms) (c := c) (oo := oo) k
    have nx : bpN cell vals N R w ms c oo (k + 1) = if (1 ≤ k ∧ k &&& oo = k ∧ pop5 k ≤ ms) ∧ fitT cell vals N R w c (bpN cell vals N R w ms c oo k) * fitL cell vals N R w c k < fitT cell vals N R w c k * fitL cell vals N R w c (bpN cell vals N R w ms c oo k) then k else bpN cell vals N R w ms c oo k := rfl
    rw [eb_X11_bestParents_39, if_neg (fun z => by have := (nlt (by omega) (by omega)).mp z; omega)]
    by_cases hsub : k &&& oo = k
    · have hpl := pop5_le k
      rw [if_pos ((tb_sub k (by omega) oo ho).mpr hsub), t_bits (by omega)]
      simp only [Option.bind_some]
      by_cases hp : ms < pop5 k
      · rw [if_pos ((nlt (by omega) (by omega)).mpr hp), lt, nI_1, nx, if_neg (fun z => by omega)]
        exact ⟨(_, _), rfl, rfl, hKs, m1, m2, hm1, hm2, A1, A2⟩
      · have k0 := tb_subb k (by omega) oo ho hsub c (by omega) hb
        rw [if_neg (fun z => hp ((nlt (by omega) (by omega)).mp z))]
        obtain ⟨r5, e5, p5, K5, n5, n6, F5, F6, hn5, hn6⟩ := t_family (i4 := nI ms) (i5 := i5) (i6 := i6) (se := k) (fsmall := a8) (flarge := a9) (fone := a10) (ftwo := a11) (frest := a12) h hKs (by omega) hc k0
        obtain ⟨g5, e6, M5⟩ := ld (g := a1) (by omega) F5 hn5
        obtain ⟨r7, e7, p7, K7, n7, n8, F7, F8, hn7, hn8⟩ := t_family (i4 := nI ms) (i5 := i5) (i6 := i6) (se := k) (fsmall := r5.2.2.2.2.1) (flarge := r5.2.2.2.2.2.1) (fone := r5.2.2.2.2.2.2.1) (ftwo := r5.2.2.2.2.2.2.2.1) (frest := r5.2.2.2.2.2.2.2.2) h K5 (by omega) hc k0
        obtain ⟨g7, e8, M7⟩ := ld (g := a2) (by omega) F8 hn8
        obtain ⟨r9, e9, s1, s2, s3⟩ := t_sign (i1 := nI N) (i2 := nI R) (i3 := nI w) (i4 := nI ms) (i5 := i5) (i6 := i6) (lf := a3) (rt := a4) M5 M7 A1 A2 (by omega) (by omega)
        rw [e5]
        simp only [Option.bind_some]
        rw [p5, e6]
        simp only [Option.bind_some]
        rw [e7]
        simp only [Option.bind_some]
        rw [p7, e8]
        simp only [Option.bind_some]
        rw [e9]
        simp only [Option.bind_some]
        by_cases hgt : fitT cell vals N R w c (bpN cell vals N R w ms c oo k) * fitL cell vals N R w c k < fitT cell vals N R w c k * fitL cell vals N R w c (bpN cell vals N R w ms c oo k)
        · rw [if_neg (pos_le.mpr (s3.mpr hgt))]
          obtain ⟨h1, e10, l10, -⟩ := t_copy (nx := 320) (fx := g5) (ny := 320) (fy := a5) M5.1 (by omega) (by omega) (by omega) (by omega)
          obtain ⟨h2, e11, l11, -⟩ := t_copy (nx := 320) (fx := g7) (ny := 320) (fy := a14) M7.1 (by omega) (by omega) (by omega) (by omega)
          rw [e10]
          simp only [Option.bind_some]
          rw [e11]
          simp only [Option.bind_some, lt]
          rw [nI_1, nx, if_pos ⟨⟨hk1, hsub, by omega⟩, hgt⟩]
          exact ⟨(_, _), rfl, rfl, K7, n5, n8, hn5, hn8, MR_congr M5 l10, MR_congr M7 l11⟩
        · rw [if_pos (show r9.1 ≤ 0 from Int32.not_lt.mp (fun z => hgt (s3.mp z))), lt, nI_1, nx, if_neg (fun z => hgt z.2)]
          exact ⟨(_, _), rfl, rfl, K7, m1, m2, hm1, hm2, A1, A2⟩
    · rw [if_neg (fun z => hsub ((tb_sub k (by omega) oo ho).mp z)), lt, nI_1, nx, if_neg (fun z => hsub z.1.2.1)]
      exact ⟨(_, _), rfl, rfl, hKs, m1, m2, hm1, hm2, A1, A2⟩
  · have : bpN cell vals N R w ms c oo 1 = 0 := by
      show (if (1 ≤ 0 ∧ _) ∧ _ then 0 else bpN cell vals N R w ms c oo 0) = 0
      rw [if_neg (fun z => absurd z.1.1 (Nat.not_succ_le_zero 0))]
      rfl
    rw [this]
    exact ⟨rfl, K3, n1, n4, hn1, hn4, M1, M2⟩
theorem p_parents (hC : CS N R w vals cell fsv fsc) (h : MS N R w vals cell fvalues fcells) (hK : MK cell vals N R w fk ftops flows) (hms : ms ≤ 4) (x y : Int32) :
    ∃ r q, m_X10_parents cell vals N R w (nI ms) x y = some r ∧ m_X11_parents (nI N) (nI R) (nI w) (nI ms) i5 i6 fvalues fcells fk ftops flows fsmall flarge fone ftwo frest tA lA tB lB lf rt x y = some q ∧ q.1 = r ∧ MK cell vals N R w q.2.1 q.2.2.1 q.2.2.2.1 := by
  have hN := h.1
  have h2N := two_N N (by omega)
  have e0 : ∀ z : Int32, z = nI (u3 z) := fun z => (nI_u3 z).symm
  rw [em_X10_parents, em_X11_parents, isName10 hN, t_isName hN]
  simp only [Option.bind_some]
  by_cases hx : u3 x < N
  · rw [if_pos hx, if_neg (show ¬ (1 : Int32) = 0 by decide), if_neg (show ¬ (1 : Int32) = 0 by decide), tb_pow N (by omega)]
    by_cases hy0 : y < 0
    · have e1 : m_X11_isSet (nI N) (nI R) (nI w) (nI ms) i5 i6 y = some 0 := by rw [em_X11_isSet, if_pos hy0]; rfl
      rw [if_pos hy0, e1]
      exact ⟨_, _, rfl, rfl, rfl, hK⟩
    · rw [if_neg hy0]
      by_cases hy1 : nI (2 ^ N) ≤ y
      · have e1 : m_X11_isSet (nI N) (nI R) (nI w) (nI ms) i5 i6 y = some 0 := by rw [em_X11_isSet, if_neg hy0, tb_pow N (by omega), if_pos hy1]; rfl
        rw [if_pos hy1, e1]
        exact ⟨_, _, rfl, rfl, rfl, hK⟩
      · have e1 : m_X11_isSet (nI N) (nI R) (nI w) (nI ms) i5 i6 y = some 1 := by rw [em_X11_isSet, if_neg hy0, tb_pow N (by omega), if_neg hy1]; rfl
        have hyl : u3 y < 2 ^ N := by
          have h1 : y < nI (2 ^ N) := Int32.not_le.mp hy1
          have h2 : 0 ≤ y := Int32.not_lt.mp hy0
          rw [Int32.lt_iff_toInt_lt, nI_toInt (by omega)] at h1
          rw [Int32.le_iff_toInt_le] at h2
          have h3 : (0 : Int32).toInt = 0 := rfl
          rw [h3] at h2
          have h4 : (u3 y : Int) = y.toInt := by
            unfold u3
            have := y.toInt_toBitVec
            rw [← this, BitVec.toInt_eq_toNat_cond]
            rw [← this, BitVec.toInt_eq_toNat_cond] at h2
            have hl := y.toBitVec.isLt
            split
            · rfl
            · rename_i hq; rw [if_neg hq] at h2; omega
          omega
        rw [if_neg hy1, e1]
        simp only [Option.bind_some]
        rw [if_neg (show ¬ (1 : Int32) = 0 by decide)]
        generalize hxx : u3 x = c at *
        have ex : x = nI c := by rw [← hxx]; exact e0 x
        generalize hyy : u3 y = oo at *
        have ey : y = nI oo := by rw [← hyy]; exact e0 y
        subst ex ey
        rw [isIn01 (by omega) (by omega)]
        simp only [Option.bind_some]
        by_cases hb : oo / 2 ^ c % 2 = 1
        · rw [if_pos hb, if_neg (show ¬ (1 : Int32) = 0 by decide), if_pos ((bit1 (by omega) (by omega)).mpr hb)]
          exact ⟨_, _, rfl, rfl, rfl, hK⟩
        · rw [if_neg hb, if_pos rfl, if_neg (fun z => hb ((bit1 (by omega) (by omega)).mp z)), c_bestP hC hms hx (by omega) (by omega)]
          obtain ⟨q, eq, hq1, hq2⟩ := t_bestP (i5 := i5) (i6 := i6) (fsmall := fsmall) (flarge := flarge) (fone := fone) (ftwo := ftwo) (frest := frest) (tA := tA) (lA := lA) (tB := tB) (lB := lB) (lf := lf) (rt := rt) h hK hms hx (show oo < 32 by omega) (by omega)
          rw [eq]
          exact ⟨_, _, rfl, rfl, hq1, hq2⟩
  · rw [if_neg hx, if_pos rfl, if_pos rfl]
    exact ⟨_, _, rfl, rfl, rfl, hK⟩
end BP
