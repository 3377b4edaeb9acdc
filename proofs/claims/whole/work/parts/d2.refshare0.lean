/-! counted loops; bits; the reference's words of a share -/
theorem lp_cnt {σ : Type} {body : Int32 × σ → Option ((Int32 × σ) ⊕ (Int32 × σ))} (I : Nat → σ → Prop) {n0 n1 : Nat} (h01 : n0 ≤ n1) (hn : n1 ≤ 100000)
    (stop : ∀ s, I n1 s → body (nI n1, s) = some (.inr (nI n1, s))) (step : ∀ k s, n0 ≤ k → k < n1 → I k s → ∃ s', body (nI k, s) = some (.inl (nI (k + 1), s')) ∧ I (k + 1) s') {s0 : σ} (h0 : I n0 s0) :
    ∃ s1, lp body FU (nI n0, s0) = some (nI n1, s1) ∧ I n1 s1 := by
  have L := lp_inv (body := body) (fun a => ∃ k, a.1 = nI k ∧ n0 ≤ k ∧ k ≤ n1 ∧ I k a.2) (fun b => b.1 = nI n1 ∧ I n1 b.2) (fun a => n1 - u3 a.1) ?_ FU (nI n0, s0) ⟨n0, rfl, Nat.le_refl _, h01, h0⟩ (Nat.lt_of_le_of_lt (Nat.sub_le _ _) (FU_big (by omega)))
  · obtain ⟨⟨c, s1⟩, e, e1, h1⟩ := L
    dsimp only at e1 h1
    subst e1
    exact ⟨s1, e, h1⟩
  · rintro ⟨c, s⟩ ⟨k, e1, hk0, hk, hI⟩
    dsimp only at e1 hI
    subst e1
    by_cases hkn : k = n1
    · subst hkn
      exact Or.inr ⟨_, stop s hI, rfl, hI⟩
    · obtain ⟨s', es, hs'⟩ := step k s hk0 (by omega) hI
      refine Or.inl ⟨_, es, ⟨k + 1, rfl, by omega, by omega, hs'⟩, ?_⟩
      show n1 - u3 (nI (k + 1)) < n1 - u3 (nI k)
      rw [u3n (by omega), u3n (by omega)]; omega
/-- more fuel changes no answer -/
theorem lp_mono {α β : Type} {body : α → Option (α ⊕ β)} : ∀ (n m : Nat) (a : α) (b : β), lp body n a = some b → n ≤ m → lp body m a = some b := by
  intro n
  induction n with
  | zero => intro m a b h; cases h
  | succ n ih =>
    intro m a b h hm
    match m, hm with
    | m + 1, hm =>
      rw [lp] at h ⊢
      match e : body a with
      | none => rw [e] at h; cases h
      | some (.inl a') => rw [e] at h; exact ih m a' b h (by omega)
      | some (.inr b') => rw [e] at h; exact h
theorem lp_fu {α β : Type} {body : α → Option (α ⊕ β)} (n : Nat) {a : α} {b : β} (h : lp body n a = some b) (hn : n ≤ 100000) : lp body FU a = some b := lp_mono n FU a b h (Nat.le_of_lt (FU_big (by omega)))
def pop5 (v : Nat) : Nat := v % 2 + v / 2 % 2 + v / 4 % 2 + v / 8 % 2 + v / 16 % 2
theorem tb_bits : ∀ v, v < 32 → lp (b_X11_bits_4 (nI v)) 9 (0, 0) = some (nI (pop5 v), 5) := by decide +kernel
theorem t_bits {v : Nat} (h : v < 32) : m_X11_bits (nI v) = some (nI (pop5 v)) := by
  rw [em_X11_bits, lp_fu 9 (tb_bits v h) (by omega)]
  rfl
theorem t_bitCount : ∀ v, v < 32 → m_J6_bitCount_0f7a4 (nI v) = some (nI (pop5 v)) := by decide +kernel
theorem pop5_le (v : Nat) : pop5 v ≤ 5 := by unfold pop5; omega
theorem bit1 {se p : Nat} (hs : se < 32) (hp : p < 32) : ((nI se >>> (nI p &&& 31)) &&& 1 = 1) ↔ se / 2 ^ p % 2 = 1 := by
  rw [bitI hs hp, show (1 : Int32) = nI 1 from rfl, neq (by have := Nat.mod_lt (se / 2 ^ p) (show 0 < 2 by decide); omega) (by omega)]
theorem bit0 {se p : Nat} (hs : se < 32) (hp : p < 32) : ((nI se >>> (nI p &&& 31)) &&& 1 = 0) ↔ se / 2 ^ p % 2 = 0 := by
  rw [bitI hs hp, show (0 : Int32) = nI 0 from rfl, neq (by have := Nat.mod_lt (se / 2 ^ p) (show 0 < 2 by decide); omega) (by omega)]
/-- the product of what is below in all FITS of a name but one -/
def prO (f : Nat → Nat) (c s : Nat) : Nat → Nat
  | 0 => 1
  | n + 1 => prO f c s n * (if n ≠ s ∧ n / 2 ^ c % 2 = 0 then f n else 1)
def cnO (c s : Nat) : Nat → Nat
  | 0 => 0
  | n + 1 => cnO c s n + (if n ≠ s ∧ n / 2 ^ c % 2 = 0 then 1 else 0)
theorem prO_le {f : Nat → Nat} {c s : Nat} : ∀ n, (∀ k, k < n → k / 2 ^ c % 2 = 0 → 0 < f k ∧ f k < BB ^ 6) → 0 < prO f c s n ∧ prO f c s n ≤ BB ^ (6 * cnO c s n) := by
  intro n
  induction n with
  | zero => intro _; exact ⟨Nat.one_pos, Nat.le_refl _⟩
  | succ n ih =>
    intro h
    obtain ⟨a, b⟩ := ih (fun k hk => h k (by omega))
    unfold prO cnO
    by_cases hc : n ≠ s ∧ n / 2 ^ c % 2 = 0
    · rw [if_pos hc, if_pos hc]
      obtain ⟨x, y⟩ := h n (by omega) hc.2
      refine ⟨Nat.mul_pos a x, ?_⟩
      rw [show 6 * (cnO c s n + 1) = 6 * cnO c s n + 6 by omega, Nat.pow_add]
      exact Nat.mul_le_mul b (Nat.le_of_lt y)
    · rw [if_neg hc, if_neg hc, Nat.mul_one, Nat.add_zero]
      exact ⟨a, b⟩
theorem cnO_mono {c s : Nat} : ∀ n, cnO c s n ≤ n := by
  intro n
  induction n with
  | zero => exact Nat.le_refl _
  | succ n ih => unfold cnO; split <;> omega
theorem tb_cnO : ∀ N, N < 5 → ∀ c, c < N → ∀ s, s < 2 ^ N → s / 2 ^ c % 2 = 0 → cnO c s (2 ^ N) ≤ 7 := by decide +kernel
theorem cnO_ub : ∀ N, N < 5 → ∀ c, c < N → ∀ s, s < 2 ^ N → s / 2 ^ c % 2 = 0 → ∀ n, n ≤ 2 ^ N → cnO c s n ≤ 7 := by decide +kernel
section RW
variable {N R w : Nat} {vals : Nat → Nat} {cell : Nat → Nat → Nat} {fvalues fcells : Nat → Int32} {i4 i5 i6 : Int32} {fk ftops flows fsmall flarge fone ftwo frest ff fm fterms fterm : Nat → Int32} {c s : Nat}
/-- the reference's term: a FIT times what is below in all the others -/
def rtF (cell : Nat → Nat → Nat) (vals : Nat → Nat) (N R w c s : Nat) : Nat := fitT cell vals N R w c s * prO (fitL cell vals N R w c) c s (2 ^ N)
theorem rt_len (h : MS N R w vals cell fvalues fcells) (hN4 : N ≤ 4) (hc : c < N) (hs : s < 2 ^ N) (hb : s / 2 ^ c % 2 = 0) {n : Nat} (hn : n ≤ 2 ^ N) : fitT cell vals N R w c s * prO (fitL cell vals N R w c) c s n < BB ^ 48 ∧ 0 < fitT cell vals N R w c s * prO (fitL cell vals N R w c) c s n := by
  have h1 := fit_pos (se := s) h hc hb
  have h2 := prO_le (f := fitL cell vals N R w c) (c := c) (s := s) n (fun k _ hk => (fit_pos (se := k) h hc hk).2)
  have h3 := cnO_ub N (by omega) c hc s hs hb n hn
  have h4 : BB ^ (6 * cnO c s n) ≤ BB ^ 42 := Nat.pow_le_pow_right (by decide) (by omega)
  refine ⟨?_, Nat.mul_pos h1.1.1 h2.1⟩
  rw [show 48 = 6 + 42 from rfl, Nat.pow_add]
  exact Nat.mul_lt_mul_of_lt_of_le h1.1.2 (Nat.le_trans h2.2 h4) (Nat.pow_pos (by decide))
theorem two_N : ∀ N, N < 6 → 2 ^ N ≤ 32 := by decide
theorem t_whole (h : MS N R w vals cell fvalues fcells) (hk : MK cell vals N R w fk ftops flows) (hN4 : N ≤ 4) (hc : c < N) (hs : s < 2 ^ N) (hb : s / 2 ^ c % 2 = 0) :
    ∃ q n, m_X11_whole (nI N) (nI R) (nI w) i4 i5 i6 fvalues fcells fk ftops flows fsmall flarge fone ftwo frest ff fm fterms fterm (nI c) (nI s) = some q ∧ MK cell vals N R w q.1 q.2.1 q.2.2.1 ∧ n ≤ 48 ∧ MR (sh q.2.2.2.2.2.2.2.2.2.2.1 ((16 * c + s) * 80)) n (rtF cell vals N R w c s) ∧ ∀ j, j < (16 * c + s) * 80 ∨ (16 * c + s) * 80 + 79 < j → q.2.2.2.2.2.2.2.2.2.2.1 j = fterms j := by
  have hN := h.1
  have h2N := two_N N (by omega)
  have h16 : 2 ^ N ≤ 2 ^ 4 := Nat.pow_le_pow_right (by decide) hN4
  obtain ⟨r1, e1, p1, hK1, n1, n2, hF1, hF2, hn1, hn2⟩ := t_family (i4 := i4) (i5 := i5) (i6 := i6) (fsmall := fsmall) (flarge := flarge) (fone := fone) (ftwo := ftwo) (frest := frest) h hk (show s < 32 by omega) hc hb
  obtain ⟨f2, e2, l2, -⟩ := t_load (nx := 1280) (fx := r1.2.2.1) (ny := 320) (fy := fterm) (n := n1) (p := (32 * c + s) * 8) (by have := hF1.1; exact this) (by omega) (by omega) (by omega) (by omega)
  have hM2 : MR f2 n1 (fitT cell vals N R w c s) := MR_congr hF1 (fun k hk => l2 k hk)
  have L := lp_cnt (body := b_X11_whole_19 (nI N) (nI R) (nI w) i4 i5 i6 fvalues fcells (nI c) (nI s)) (fun o z => MK cell vals N R w z.2.2.1 z.2.2.2.2.2.2.2.2.2.1 z.2.2.2.1 ∧ ∃ n, MR z.2.2.2.2.2.2.2.2.2.2 n (fitT cell vals N R w c s * prO (fitL cell vals N R w c) c s o)) (n0 := 0) (n1 := 2 ^ N) (Nat.zero_le _) (by omega) ?_ ?_ (s0 := (ff, fm, r1.2.1, r1.2.2.2.1, r1.2.2.2.2.1, r1.2.2.2.2.2.1, r1.2.2.2.2.2.2.1, r1.2.2.2.2.2.2.2.1, r1.2.2.2.2.2.2.2.2, r1.2.2.1, f2)) ⟨hK1, n1, by unfold prO; rw [Nat.mul_one]; exact hM2⟩
  · obtain ⟨s1, e3, hI⟩ := L
    obtain ⟨hK3, n3, hM3⟩ := hI
    have c3 := MR_len hM3 (rt_len (n := 2 ^ N) h hN4 hc hs hb (Nat.le_refl _)).1
    obtain ⟨f4, e4, l4, o4⟩ := t_store (nx := 320) (fx := s1.2.2.2.2.2.2.2.2.2.2) (ny := 5120) (fy := fterms) (n := n3) (p := (16 * c + s) * 80) hM3.1 (by omega) (by omega) (by omega) (by omega)
    have ep : ((16 : Int32) * nI c + nI s) * 80 = nI ((16 * c + s) * 80) := by rw [show (16 : Int32) = nI 16 from rfl, show (80 : Int32) = nI 80 from rfl, nI_mulm, nI_add, nI_mulm]
    rw [em_X11_whole, e1]
    simp only [Option.bind_some]
    rw [p1, e2]
    simp only [Option.bind_some]
    rw [show (0 : Int32) = nI 0 from rfl, e3]
    simp only [Option.bind_some]
    rw [ep, e4]
    refine ⟨_, n3, rfl, hK3, c3, MR_congr hM3 (fun k hk => l4 k hk), fun j hj => o4 j (by omega)⟩
  · rintro ⟨a1, a2, a3, a4, a5, a6, a7, a8, a9, a10, a11⟩ -
    rw [eb_X11_whole_19, tb_pow N (by omega), if_pos ((nle (by omega) (by omega)).mpr (Nat.le_refl _))]
  · rintro o ⟨a1, a2, a3, a4, a5, a6, a7, a8, a9, a10, a11⟩ - ho ⟨hKa, n, hMa⟩
    dsimp only at hKa hMa
    rw [eb_X11_whole_19, tb_pow N (by omega), if_neg (fun z => by have := (nle (by omega) (by omega)).mp z; omega)]
    by_cases hos : o = s
    · subst hos
      rw [if_pos rfl]
      rw [lt, nI_1]
      refine ⟨_, rfl, hKa, n, ?_⟩
      unfold prO
      rw [if_neg (fun z => z.1 rfl), Nat.mul_one]
      exact hMa
    · rw [if_neg (fun z => hos ((neq (by omega) (by omega)).mp z))]
      by_cases hob : o / 2 ^ c % 2 = 0
      · rw [if_pos ((bit0 (by omega) (by omega)).mpr hob)]
        obtain ⟨r5, e5, p5, hK5, m1, m2, hG1, hG2, hm1, hm2⟩ := t_family (i4 := i4) (i5 := i5) (i6 := i6) (fsmall := a5) (flarge := a6) (fone := a7) (ftwo := a8) (frest := a9) h hKa (show o < 32 by omega) hc hob
        have c5 := MR_len hMa (rt_len (n := o) h hN4 hc hs hb (by omega)).1
        obtain ⟨r6, n6, e6, hM6, -⟩ := t_multiply (i1 := nI N) (i2 := nI R) (i3 := nI w) (i4 := i4) (i5 := i5) (i6 := i6) (ff := a1) (fm := a2) (ny := 1280) hMa hG2 (by omega) (by omega) (by omega)
        rw [e5]
        simp only [Option.bind_some]
        rw [p5, e6]
        simp only [Option.bind_some, lt]
        rw [nI_1]
        refine ⟨_, rfl, hK5, n6, ?_⟩
        unfold prO
        rw [if_pos ⟨hos, hob⟩, ← Nat.mul_assoc]
        exact hM6
      · rw [if_neg (fun z => hob ((bit0 (by omega) (by omega)).mp z))]
        rw [lt, nI_1]
        refine ⟨_, rfl, hKa, n, ?_⟩
        unfold prO
        rw [if_neg (fun z => hob z.2), Nat.mul_one]
        exact hMa
end RW
