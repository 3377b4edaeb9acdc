/-! size, word, shareSize, shareWord of the reference; what is kept of the last told -/
theorem MR_wl {n x : Nat} {f : Nat → Int32} (h : MR f n x) : n = wlen x := by
  rcases Nat.eq_zero_or_pos n with z | z
  · subst z
    have hx : x = 0 := h.2.1.symm
    rw [hx]
    rfl
  · have h2 := dv_pos (d := md f) z (h.2.2 z)
    have h3 : dv (md f) n < BB ^ n := dv_lt (fun k _ => md_lt f k)
    rw [h.2.1, show BB = 2 ^ 32 from rfl, ← Nat.pow_mul] at h2
    rw [h.2.1, show BB = 2 ^ 32 from rfl, ← Nat.pow_mul] at h3
    have hp : 0 < 2 ^ (32 * (n - 1)) := Nat.pow_pos (by decide)
    have hx : x ≠ 0 := by omega
    have h4 := (Nat.log2_lt hx).mpr h3
    have h5 : 32 * (n - 1) ≤ x.log2 := (Nat.le_log2 hx).mpr h2
    unfold wlen
    rw [if_neg hx]
    omega
theorem x_neg31 {x : Int32} (h0 : ¬ x < 0) : u3 x < 2 ^ 31 := by
  obtain ⟨j, hj, rfl⟩ := nI_of h0
  rw [u3_nI (by simp only [BB]; omega)]; exact hj
theorem t_wd {f : Nat → Int32} {n X : Nat} (hM : MR f n X) (hn : n ≤ 318) (x : Int32) :
    ((if x < 0 then some ((-1) : Int64) else if ix (0 : Int32) 320 = true then (if x < (f (0 : Int32).toNatClampNeg) then if ix (1 + x) 320 = true then some (((f (1 + x).toNatClampNeg).toInt64) &&& 4294967295 : Int64) else none else some ((-1) : Int64)).bind (fun y_5 : Int64 => some (y_5 : Int64)) else none).bind (fun y_4 : Int64 => some y_4)) = some (if u3 x < wlen X then lN (X / BB ^ u3 x % BB) else -1) := by
  rw [← MR_wl hM]
  by_cases h0 : x < 0
  · have hx : ¬ u3 x < n := by
      intro z
      have e : x = nI (u3 x) := (nI_u3 x).symm
      rw [e] at h0
      exact nI_pos (by omega) h0
    rw [if_pos h0, if_neg hx]; rfl
  · have h31 := x_neg31 h0
    rw [if_neg h0, if_pos (show ix (0 : Int32) 320 = true by decide), c0, hM.1]
    have e : x = nI (u3 x) := (nI_u3 x).symm
    generalize u3 x = k at *
    subst e
    by_cases hk : k < n
    · rw [if_pos ((nlt31 h31 (by omega)).mpr hk), if_pos hk, show (1 : Int32) + nI k = nI (1 + k) from nI_add 1 k, if_pos (ix_nI (by omega) (by omega)), cl (by omega), lN_mask, ← hM.2.1, dv_dig n (fun j _ => md_lt f j) k hk, Nat.add_comm 1 k]
      rfl
    · rw [if_neg (fun z => hk ((nlt31 h31 (by omega)).mp z)), if_neg hk]; rfl
theorem t_wordOf {i1 i2 i3 i4 i5 i6 part x : Int32} {fa fb : Nat → Int32} {a b X Y : Nat} (hA : MR fa a X) (hB : MR fb b Y) (ha : a ≤ 318) (hb : b ≤ 318) :
    m_X11_wordOf i1 i2 i3 i4 i5 i6 fa fb part x = some (if u3 x < wlen (if part = 0 then X else Y) then lN ((if part = 0 then X else Y) / BB ^ u3 x % BB) else -1) := by
  rw [em_X11_wordOf]
  by_cases hp : part = 0
  · rw [if_pos hp, if_pos hp]; exact t_wd hA ha x
  · rw [if_neg hp, if_neg hp]; exact t_wd hB hb x
def shTg (cell : Nat → Nat → Nat) (vals : Nat → Nat) (N R w ms a b : Nat) : Nat := shT cell vals N R w ms a b / Nat.gcd (shT cell vals N R w ms a b) (shL cell vals N R w ms b)
def shLg (cell : Nat → Nat → Nat) (vals : Nat → Nat) (N R w ms a b : Nat) : Nat := shL cell vals N R w ms b / Nat.gcd (shT cell vals N R w ms a b) (shL cell vals N R w ms b)
def TOLD (cell : Nat → Nat → Nat) (vals : Nat → Nat) (N R w ms : Nat) (tG tA : Int32) (fa fb : Nat → Int32) : Prop :=
  (tG = -1 ∨ ∃ a b, a ≤ 318 ∧ b ≤ 318 ∧ MR fa a (lsT cell vals N R w (u3 tG)) ∧ MR fb b (lsL cell vals N R w (u3 tG))) ∧
  (tA = -1 ∨ ∃ p c a b, p < 5 ∧ c < 5 ∧ tA = nI (5 * p + c) ∧ a ≤ 318 ∧ b ≤ 318 ∧ MR fa a (shTg cell vals N R w ms p c) ∧ MR fb b (shLg cell vals N R w ms p c))
theorem TOLD_0 {cell : Nat → Nat → Nat} {vals : Nat → Nat} {N R w ms : Nat} {fa fb : Nat → Int32} : TOLD cell vals N R w ms (-1) (-1) fa fb := ⟨Or.inl rfl, Or.inl rfl⟩
section TL
variable {N R w ms : Nat} {vals : Nat → Nat} {cell : Nat → Nat → Nat} {fvalues fcells fk ftops flows fsmall flarge fone ftwo frest ff fm fx fy fterms fterm fsum fsums fwholes fmore ffewer : Nat → Int32} {i4 i5 i6 : Int32}
theorem t_tell (h : MS N R w vals cell fvalues fcells) (hK : MK cell vals N R w fk ftops flows) (hT : TOLD cell vals N R w ms i5 i6 fx fy) {x : Int32} (hx : isG N x = true) :
    ∃ q n1 n2, m_X11_tell (nI N) (nI R) (nI w) (nI ms) i5 i6 fvalues fcells fk ftops flows fsmall flarge fone ftwo frest ff fm fx fy x = some q ∧ n1 ≤ 318 ∧ n2 ≤ 318 ∧ MR q.2.2.2.2.2.2.2.2.2.2.2.2.1 n1 (lsT cell vals N R w (u3 x)) ∧ MR q.2.2.2.2.2.2.2.2.2.2.2.2.2 n2 (lsL cell vals N R w (u3 x)) ∧ MK cell vals N R w q.2.2.1 q.2.2.2.1 q.2.2.2.2.1 ∧ TOLD cell vals N R w ms q.1 q.2.1 q.2.2.2.2.2.2.2.2.2.2.2.2.1 q.2.2.2.2.2.2.2.2.2.2.2.2.2 := by
  have hok := isG_iff.mp hx
  have hs := self_ok h.1 hok.1.2
  have hg : u3 x < 2 ^ 30 := Nat.lt_trans hok.1.1 (by decide)
  have hx1 : ¬ x = -1 := by
    intro z
    subst z
    exact absurd hg (by decide)
  rw [em_X11_tell]
  by_cases he : i5 = x
  · rw [if_pos he]
    subst he
    rcases hT.1 with z | ⟨a, b, ha, hb, h1, h2⟩
    · exact absurd z hx1
    · exact ⟨_, a, b, rfl, ha, hb, h1, h2, hK, hT⟩
  · rw [if_neg he]
    obtain ⟨q, n1, n2, e, hk, m1, m2, l1, l2⟩ := t_fit (i4 := nI ms) (i5 := i5) (i6 := i6) (fsmall := fsmall) (flarge := flarge) (fone := fone) (ftwo := ftwo) (frest := frest) (ff := ff) (fm := fm) (fx := fx) (fy := fy) h hK hg hs
    rw [nI_u3] at e
    rw [e]
    simp only [Option.bind_some]
    obtain ⟨⟨p1, -⟩, p2, -⟩ := g_cap h hs N (Nat.le_refl N)
    obtain ⟨r, k1, k2, e2, r1, s1, r2, s2⟩ := t_least (i1 := nI N) (i2 := nI R) (i3 := nI w) (i4 := nI ms) (i5 := i5) (i6 := i6) (fone := q.2.2.2.2.2.1) (ftwo := q.2.2.2.2.2.2.1) (frest := q.2.2.2.2.2.2.2.1) m1 m2 p1 p2 (by omega) (by omega)
    rw [e2]
    simp only [Option.bind_some]
    exact ⟨_, k1, k2, rfl, by omega, by omega, r1, r2, hk, Or.inr ⟨k1, k2, by omega, by omega, r1, r2⟩, Or.inl rfl⟩
def szA (cell : Nat → Nat → Nat) (vals : Nat → Nat) (N R w : Nat) (x part : Int32) : Int32 := if isG N x = true ∧ (part = 0 ∨ part = 1) then nI (wlen (if part = 0 then lsT cell vals N R w (u3 x) else lsL cell vals N R w (u3 x))) else -1
def wdA (cell : Nat → Nat → Nat) (vals : Nat → Nat) (N R w : Nat) (x part i : Int32) : Int64 := if isG N x = true ∧ (part = 0 ∨ part = 1) then (if u3 i < wlen (if part = 0 then lsT cell vals N R w (u3 x) else lsL cell vals N R w (u3 x)) then lN ((if part = 0 then lsT cell vals N R w (u3 x) else lsL cell vals N R w (u3 x)) / BB ^ u3 i % BB) else -1) else -1
theorem t_size (h : MS N R w vals cell fvalues fcells) (hK : MK cell vals N R w fk ftops flows) (hT : TOLD cell vals N R w ms i5 i6 fx fy) (x part : Int32) :
    ∃ q, m_X11_size (nI N) (nI R) (nI w) (nI ms) i5 i6 fvalues fcells fk ftops flows fsmall flarge fone ftwo frest ff fm fx fy x part = some q ∧ q.1 = szA cell vals N R w x part ∧ MK cell vals N R w q.2.2.2.1 q.2.2.2.2.1 q.2.2.2.2.2.1 ∧ TOLD cell vals N R w ms q.2.1 q.2.2.1 q.2.2.2.2.2.2.2.2.2.2.2.2.2.1 q.2.2.2.2.2.2.2.2.2.2.2.2.2.2 := by
  rw [em_X11_size, t_isGraph h.1, szA]
  simp only [Option.bind_some]
  by_cases hx : isG N x = true
  · rw [if_pos hx, if_neg (show ¬ (1 : Int32) = 0 by decide), (isPart_e part).1]
    simp only [Option.bind_some]
    by_cases hp : part = 0 ∨ part = 1
    · rw [if_pos hp, if_neg (show ¬ (1 : Int32) = 0 by decide), if_pos ⟨hx, hp⟩]
      obtain ⟨q, n1, n2, e, -, -, m1, m2, hk, ht⟩ := t_tell (fsmall := fsmall) (flarge := flarge) (fone := fone) (ftwo := ftwo) (frest := frest) (ff := ff) (fm := fm) h hK hT hx
      rw [e]
      simp only [Option.bind_some]
      rw [if_pos (show ix (0 : Int32) 320 = true by decide), c0, if_pos (show ix (0 : Int32) 320 = true by decide)]
      by_cases h0 : part = 0
      · rw [if_pos h0, if_pos h0, m1.1, MR_wl m1]
        exact ⟨_, rfl, rfl, hk, ht⟩
      · rw [if_neg h0, if_neg h0, m2.1, MR_wl m2]
        exact ⟨_, rfl, rfl, hk, ht⟩
    · rw [if_neg hp, if_pos rfl, if_neg (fun z => hp z.2)]
      exact ⟨_, rfl, rfl, hK, hT⟩
  · rw [if_neg hx, if_pos rfl, if_neg (fun z => hx z.1)]
    exact ⟨_, rfl, rfl, hK, hT⟩
theorem t_word (h : MS N R w vals cell fvalues fcells) (hK : MK cell vals N R w fk ftops flows) (hT : TOLD cell vals N R w ms i5 i6 fx fy) (x part i : Int32) :
    ∃ q, m_X11_word (nI N) (nI R) (nI w) (nI ms) i5 i6 fvalues fcells fk ftops flows fsmall flarge fone ftwo frest ff fm fx fy x part i = some q ∧ q.1 = wdA cell vals N R w x part i ∧ MK cell vals N R w q.2.2.2.1 q.2.2.2.2.1 q.2.2.2.2.2.1 ∧ TOLD cell vals N R w ms q.2.1 q.2.2.1 q.2.2.2.2.2.2.2.2.2.2.2.2.2.1 q.2.2.2.2.2.2.2.2.2.2.2.2.2.2 := by
  rw [em_X11_word, t_isGraph h.1, wdA]
  simp only [Option.bind_some]
  by_cases hx : isG N x = true
  · rw [if_pos hx, if_neg (show ¬ (1 : Int32) = 0 by decide), (isPart_e part).1]
    simp only [Option.bind_some]
    by_cases hp : part = 0 ∨ part = 1
    · rw [if_pos hp, if_neg (show ¬ (1 : Int32) = 0 by decide), if_pos ⟨hx, hp⟩]
      obtain ⟨q, n1, n2, e, l1, l2, m1, m2, hk, ht⟩ := t_tell (fsmall := fsmall) (flarge := flarge) (fone := fone) (ftwo := ftwo) (frest := frest) (ff := ff) (fm := fm) h hK hT hx
      rw [e]
      simp only [Option.bind_some]
      rw [t_wordOf m1 m2 l1 l2]
      simp only [Option.bind_some]
      exact ⟨_, rfl, rfl, hk, ht⟩
    · rw [if_neg hp, if_pos rfl, if_neg (fun z => hp z.2)]
      exact ⟨_, rfl, rfl, hK, hT⟩
  · rw [if_neg hx, if_pos rfl, if_neg (fun z => hx z.1)]
    exact ⟨_, rfl, rfl, hK, hT⟩
theorem t_shareFault (hN : N ≤ 5) {i2 i3 : Int32} (x y part : Int32) : m_X11_shareFault (nI N) i2 i3 i4 i5 i6 x y part = some (if (u3 x < N ∧ u3 y < N ∧ x ≠ y) ∧ (part = 0 ∨ part = 1) then (if N = 5 then -2 else 0) else -1) := by
  rw [em_X11_shareFault, t_isName hN, t_isName hN]
  simp only [Option.bind_some]
  by_cases h1 : u3 x < N
  case neg => rw [if_neg h1, if_pos rfl, if_neg (fun z => h1 z.1.1)]
  rw [if_pos h1, if_neg (show ¬ (1 : Int32) = 0 by decide)]
  by_cases h2 : u3 y < N
  case neg => rw [if_neg h2, if_pos rfl, if_neg (fun z => h2 z.1.2.1)]
  rw [if_pos h2, if_neg (show ¬ (1 : Int32) = 0 by decide)]
  by_cases h3 : x = y
  · rw [if_pos h3, if_neg (fun z => z.1.2.2 h3)]
  rw [if_neg h3, (isPart_e part).1]
  simp only [Option.bind_some]
  by_cases hp : part = 0 ∨ part = 1
  case neg => rw [if_neg hp, if_pos rfl, if_neg (fun z => hp z.2)]
  have hall : (u3 x < N ∧ u3 y < N ∧ x ≠ y) ∧ (part = 0 ∨ part = 1) := ⟨⟨h1, h2, h3⟩, hp⟩
  rw [if_pos hp, if_neg (show ¬ (1 : Int32) = 0 by decide), if_pos hall]
  by_cases h5 : N = 5
  · subst h5; rfl
  · have hn5 : ¬ nI N = (5 : Int32) := fun z => h5 ((neq (b := 5) (by omega) (by omega)).mp z)
    rw [if_neg h5, if_neg hn5]; rfl
theorem t_tellS (h : MS N R w vals cell fvalues fcells) (hK : MK cell vals N R w fk ftops flows) (hT : TOLD cell vals N R w ms i5 i6 fx fy) (hN4 : N ≤ 4) (hms : ms ≤ 4) {x y : Int32} (hx : u3 x < N) (hy : u3 y < N) :
    ∃ q n1 n2, m_X11_tellShare (nI N) (nI R) (nI w) (nI ms) i5 i6 fvalues fcells fk ftops flows fsmall flarge fone ftwo frest ff fm fterms fterm fsum fsums fwholes fmore ffewer fx fy x y = some q ∧ n1 ≤ 318 ∧ n2 ≤ 318 ∧ MR q.2.2.2.2.2.2.2.2.2.2.2.2.2.2.2.2.2.2.2.1 n1 (shTg cell vals N R w ms (u3 x) (u3 y)) ∧ MR q.2.2.2.2.2.2.2.2.2.2.2.2.2.2.2.2.2.2.2.2 n2 (shLg cell vals N R w ms (u3 x) (u3 y)) ∧ MK cell vals N R w q.2.2.1 q.2.2.2.1 q.2.2.2.2.1 ∧ TOLD cell vals N R w ms q.1 q.2.1 q.2.2.2.2.2.2.2.2.2.2.2.2.2.2.2.2.2.2.2.1 q.2.2.2.2.2.2.2.2.2.2.2.2.2.2.2.2.2.2.2.2 := by
  by_cases he : i6 = nI (5 * u3 x + u3 y)
  · rw [em_X11_tellShare, ← nI_u3 x, ← nI_u3 y, five, u3n (by omega), u3n (by omega), if_pos he]
    rcases hT.2 with z | ⟨p, c, a, b, hp, hc, e, ha, hb, h1, h2⟩
    · exfalso
      rw [z] at he
      have := congrArg u3 he
      rw [u3n (by omega)] at this
      have q : u3 (-1) = 4294967295 := by decide
      omega
    · have e2 : 5 * p + c = 5 * u3 x + u3 y := by
        have := congrArg u3 (e.symm.trans he)
        rw [u3n (by omega), u3n (by omega)] at this
        exact this
      have e3 : p = u3 x ∧ c = u3 y := by omega
      rw [e3.1, e3.2] at h1 h2
      exact ⟨_, a, b, rfl, ha, hb, h1, h2, hK, hT⟩
  · obtain ⟨q, n1, n2, e, e1, e2, hk, l1, l2, m1, m2⟩ := t_tellShare (i5 := i5) (fsmall := fsmall) (flarge := flarge) (fone := fone) (ftwo := ftwo) (frest := frest) (ff := ff) (fm := fm) (fterms := fterms) (fterm := fterm) (fsum := fsum) (fsums := fsums) (fwholes := fwholes) (fmore := fmore) (ffewer := ffewer) (fx := fx) (fy := fy) (a := u3 x) (tt := u3 y) h hK hN4 hms (by omega) (by omega) he
    rw [nI_u3, nI_u3] at e
    exact ⟨q, n1, n2, e, by omega, by omega, m1, m2, hk, Or.inl e1, Or.inr ⟨u3 x, u3 y, n1, n2, by omega, by omega, e2, by omega, by omega, m1, m2⟩⟩
def ssA (cell : Nat → Nat → Nat) (vals : Nat → Nat) (N R w ms : Nat) (x y part : Int32) : Int32 := if (u3 x < N ∧ u3 y < N ∧ x ≠ y) ∧ (part = 0 ∨ part = 1) then (if N = 5 then -2 else nI (wlen (if part = 0 then shTg cell vals N R w ms (u3 x) (u3 y) else shLg cell vals N R w ms (u3 x) (u3 y)))) else -1
def swA (cell : Nat → Nat → Nat) (vals : Nat → Nat) (N R w ms : Nat) (x y part i : Int32) : Int64 := if (u3 x < N ∧ u3 y < N ∧ x ≠ y) ∧ (part = 0 ∨ part = 1) then (if N = 5 then -2 else (if u3 i < wlen (if part = 0 then shTg cell vals N R w ms (u3 x) (u3 y) else shLg cell vals N R w ms (u3 x) (u3 y)) then lN ((if part = 0 then shTg cell vals N R w ms (u3 x) (u3 y) else shLg cell vals N R w ms (u3 x) (u3 y)) / BB ^ u3 i % BB) else -1)) else -1
theorem t_shareSize (h : MS N R w vals cell fvalues fcells) (hK : MK cell vals N R w fk ftops flows) (hT : TOLD cell vals N R w ms i5 i6 fx fy) (hms : ms ≤ 4) (x y part : Int32) :
    ∃ q, m_X11_shareSize (nI N) (nI R) (nI w) (nI ms) i5 i6 fvalues fcells fk ftops flows fsmall flarge fone ftwo frest ff fm fterms fterm fsum fsums fwholes fmore ffewer fx fy x y part = some q ∧ q.1 = ssA cell vals N R w ms x y part ∧ MK cell vals N R w q.2.2.2.1 q.2.2.2.2.1 q.2.2.2.2.2.1 ∧ TOLD cell vals N R w ms q.2.1 q.2.2.1 q.2.2.2.2.2.2.2.2.2.2.2.2.2.2.2.2.2.2.2.2.1 q.2.2.2.2.2.2.2.2.2.2.2.2.2.2.2.2.2.2.2.2.2 := by
  have hN := h.1
  rw [em_X11_shareSize, t_shareFault hN, ssA]
  simp only [Option.bind_some]
  by_cases hp : (u3 x < N ∧ u3 y < N ∧ x ≠ y) ∧ (part = 0 ∨ part = 1)
  · rw [if_pos hp, if_pos hp]
    by_cases h5 : N = 5
    · rw [if_pos h5, if_pos h5, if_neg (show ¬ (0 : Int32) ≤ -2 by decide)]
      exact ⟨_, rfl, rfl, hK, hT⟩
    · rw [if_neg h5, if_neg h5, if_pos (show (0 : Int32) ≤ 0 by decide)]
      obtain ⟨q, n1, n2, e, -, -, m1, m2, hk, ht⟩ := t_tellS (fsmall := fsmall) (flarge := flarge) (fone := fone) (ftwo := ftwo) (frest := frest) (ff := ff) (fm := fm) (fterms := fterms) (fterm := fterm) (fsum := fsum) (fsums := fsums) (fwholes := fwholes) (fmore := fmore) (ffewer := ffewer) h hK hT (by omega) hms hp.1.1 hp.1.2.1
      rw [e]
      simp only [Option.bind_some]
      rw [if_pos (show ix (0 : Int32) 320 = true by decide), c0, if_pos (show ix (0 : Int32) 320 = true by decide)]
      by_cases h0 : part = 0
      · rw [if_pos h0, if_pos h0, m1.1, MR_wl m1]
        exact ⟨_, rfl, rfl, hk, ht⟩
      · rw [if_neg h0, if_neg h0, m2.1, MR_wl m2]
        exact ⟨_, rfl, rfl, hk, ht⟩
  · rw [if_neg hp, if_neg hp, if_neg (show ¬ (0 : Int32) ≤ -1 by decide)]
    exact ⟨_, rfl, rfl, hK, hT⟩
theorem t_shareWord (h : MS N R w vals cell fvalues fcells) (hK : MK cell vals N R w fk ftops flows) (hT : TOLD cell vals N R w ms i5 i6 fx fy) (hms : ms ≤ 4) (x y part i : Int32) :
    ∃ q, m_X11_shareWord (nI N) (nI R) (nI w) (nI ms) i5 i6 fvalues fcells fk ftops flows fsmall flarge fone ftwo frest ff fm fterms fterm fsum fsums fwholes fmore ffewer fx fy x y part i = some q ∧ q.1 = swA cell vals N R w ms x y part i ∧ MK cell vals N R w q.2.2.2.1 q.2.2.2.2.1 q.2.2.2.2.2.1 ∧ TOLD cell vals N R w ms q.2.1 q.2.2.1 q.2.2.2.2.2.2.2.2.2.2.2.2.2.2.2.2.2.2.2.2.1 q.2.2.2.2.2.2.2.2.2.2.2.2.2.2.2.2.2.2.2.2.2 := by
  have hN := h.1
  rw [em_X11_shareWord, t_shareFault hN, swA]
  simp only [Option.bind_some]
  by_cases hp : (u3 x < N ∧ u3 y < N ∧ x ≠ y) ∧ (part = 0 ∨ part = 1)
  · rw [if_pos hp, if_pos hp]
    by_cases h5 : N = 5
    · rw [if_pos h5, if_pos h5, if_neg (show ¬ (0 : Int32) ≤ -2 by decide)]
      exact ⟨_, rfl, (by decide : Int32.toInt64 _ = _), hK, hT⟩
    · rw [if_neg h5, if_neg h5, if_pos (show (0 : Int32) ≤ 0 by decide)]
      obtain ⟨q, n1, n2, e, l1, l2, m1, m2, hk, ht⟩ := t_tellS (fsmall := fsmall) (flarge := flarge) (fone := fone) (ftwo := ftwo) (frest := frest) (ff := ff) (fm := fm) (fterms := fterms) (fterm := fterm) (fsum := fsum) (fsums := fsums) (fwholes := fwholes) (fmore := fmore) (ffewer := ffewer) h hK hT (by omega) hms hp.1.1 hp.1.2.1
      rw [e]
      simp only [Option.bind_some]
      rw [t_wordOf m1 m2 l1 l2]
      simp only [Option.bind_some]
      exact ⟨_, rfl, rfl, hk, ht⟩
  · rw [if_neg hp, if_neg hp, if_neg (show ¬ (0 : Int32) ≤ -1 by decide)]
    exact ⟨_, rfl, (by decide : Int32.toInt64 _ = _), hK, hT⟩
end TL
