/-! isAlike of the reference; alike -/
def cqB (g o a b c : Nat) : Bool := (hsB g a c && hsB g b c) == (hsB o a c && hsB o b c)
def cqN (g o a b : Nat) : Nat → Bool
  | 0 => true
  | c + 1 => cqN g o a b c && cqB g o a b c
def okP (g o a b : Nat) : Bool := (tcB g a b == tcB o a b) && (tcB g a b || cqN g o a b 5)
def alN (g o : Nat) : Nat → Bool
  | 0 => true
  | k + 1 => alN g o k && okP g o (pa k) (pb k)
theorem r_50 {g o a b : Nat} (hg : g < 2 ^ 25) (ho : o < 2 ^ 25) (ha : a < 5) (hb : b < 5) (x : Bool) :
    ∃ z, lp (b_X11_isAlike_50 (nI g) (nI o) (nI a) (nI b)) FU ((if x = true then 1 else 0), 0) = some ((if (x && (tcB g a b || cqN g o a b 5)) = true then 1 else 0), z) := by
  cases ht : tcB g a b with
  | true =>
    refine ⟨0, lp_fu 1 ?_ (by omega)⟩
    rw [lp, eb_X11_isAlike_50, if_neg (by decide), t_touch hg ha hb, ht]
    simp only [Option.bind_some]
    rw [if_neg (show ¬ (if True then (1 : Int32) else 0) = 0 by decide), Bool.true_or, Bool.and_true]
    rfl
  | false =>
    have L := lp_cn2 (body := b_X11_isAlike_50 (nI g) (nI o) (nI a) (nI b)) (fun c s => s = if (x && cqN g o a b c) = true then 1 else 0) (n0 := 0) (n1 := 5) (by omega) (by omega) (fun s _ => by rw [eb_X11_isAlike_50, if_pos (by decide)]) (fun c s _ hc hI => by
      subst hI
      rw [eb_X11_isAlike_50, if_neg (show ¬ (5 : Int32) ≤ nI c from fun z => by have := (nle (a := 5) (by omega) (by omega)).mp z; omega), t_touch hg ha hb, ht]
      simp only [Option.bind_some]
      rw [if_pos (show (if false = true then (1 : Int32) else 0) = 0 from rfl)]
      have nx : cqN g o a b (c + 1) = (cqN g o a b c && cqB g o a b c) := rfl
      cases hx : (x && cqN g o a b c) with
      | false =>
        rw [if_pos (show (if false = true then (1 : Int32) else 0) = 0 from rfl), lt, nI_1]
        refine ⟨_, rfl, ?_⟩
        rw [nx, ← Bool.and_assoc, hx]
        rfl
      | true =>
        rw [if_neg (show ¬ (if true = true then (1 : Int32) else 0) = 0 by decide), t_has hg ha hc]
        simp only [Option.bind_some]
        have fin : ∀ y : Bool, cqB g o a b c = y → (if y = true then (1 : Int32) else 0) = if (x && cqN g o a b (c + 1)) = true then 1 else 0 := by
          intro y hy
          rw [nx, ← Bool.and_assoc, hx, hy, Bool.true_and]
        cases h1 : hsB g a c with
        | false =>
          rw [if_pos (show (if false = true then (1 : Int32) else 0) = 0 from rfl), t_has ho ha hc]
          simp only [Option.bind_some]
          cases h2 : hsB o a c with
          | false =>
            rw [if_pos (show (if false = true then (1 : Int32) else 0) = 0 from rfl), lt, nI_1]
            exact ⟨_, rfl, fin true (by unfold cqB; rw [h1, h2]; rfl)⟩
          | true =>
            rw [if_neg (show ¬ (if true = true then (1 : Int32) else 0) = 0 by decide), t_has ho hb hc]
            simp only [Option.bind_some, lt]
            rw [nI_1]
            cases h3 : hsB o b c with
            | false => exact ⟨_, rfl, fin true (by unfold cqB; rw [h1, h2, h3]; rfl)⟩
            | true => exact ⟨_, rfl, fin false (by unfold cqB; rw [h1, h2, h3]; rfl)⟩
        | true =>
          rw [if_neg (show ¬ (if true = true then (1 : Int32) else 0) = 0 by decide), t_has hg hb hc]
          simp only [Option.bind_some, lt]
          rw [t_has ho ha hc]
          simp only [Option.bind_some]
          cases h2 : hsB o a c with
          | false =>
            rw [if_pos (show (if false = true then (1 : Int32) else 0) = 0 from rfl), nI_1]
            cases h3 : hsB g b c with
            | false => exact ⟨_, rfl, fin true (by unfold cqB; rw [h1, h2, h3]; rfl)⟩
            | true => exact ⟨_, rfl, fin false (by unfold cqB; rw [h1, h2, h3]; rfl)⟩
          | true =>
            rw [if_neg (show ¬ (if true = true then (1 : Int32) else 0) = 0 by decide), t_has ho hb hc]
            simp only [Option.bind_some]
            rw [nI_1]
            cases h3 : hsB g b c with
            | false =>
              cases h4 : hsB o b c with
              | false => exact ⟨_, rfl, fin true (by unfold cqB; rw [h1, h2, h3, h4]; rfl)⟩
              | true => exact ⟨_, rfl, fin false (by unfold cqB; rw [h1, h2, h3, h4]; rfl)⟩
            | true =>
              cases h4 : hsB o b c with
              | false => exact ⟨_, rfl, fin false (by unfold cqB; rw [h1, h2, h3, h4]; rfl)⟩
              | true => exact ⟨_, rfl, fin true (by unfold cqB; rw [h1, h2, h3, h4]; rfl)⟩) (s0 := if x = true then 1 else 0) (by show _ = if (x && true) = true then _ else _; rw [Bool.and_true])
    obtain ⟨s1, e, h⟩ := L
    rw [show nI 0 = (0 : Int32) from rfl] at e
    exact ⟨_, by rw [e, h, Bool.false_or]⟩
theorem t_isAlike {g o : Nat} (hg : g < 2 ^ 25) (ho : o < 2 ^ 25) : m_X11_isAlike (nI g) (nI o) = some (if alN g o 10 = true then 1 else 0) := by
  have L := lp_pr (outer := b_X11_isAlike_4 (nI g) (nI o)) (inner := fun a => b_X11_isAlike_14 (nI g) (nI o) (nI a)) (fun (s : Int32) (c : Int32) => (s, c)) (fun k s => s = if alN g o k = true then 1 else 0) (fun s => by rw [eb_X11_isAlike_4, if_pos (by decide)]) (fun a s ha s' e => by
    rw [eb_X11_isAlike_4, if_neg (show ¬ (5 : Int32) ≤ nI a from fun z => by have := (nle (a := 5) (by omega) (by omega)).mp z; omega)]
    simp only [lt]
    rw [nI_1, e]
    rfl) (fun a s ha => by rw [eb_X11_isAlike_14, if_pos (by decide)]) (fun a b s hab hb hI => by
    subst hI
    obtain ⟨q1, q2, q3⟩ := tb_pp a (by omega) b hb hab
    generalize hkk : bs a + (b - a - 1) = k at *
    have nx : alN g o (k + 1) = (alN g o k && okP g o a b) := by rw [show alN g o (k + 1) = (alN g o k && okP g o (pa k) (pb k)) from rfl, q1, q2]
    rw [eb_X11_isAlike_14, if_neg (show ¬ (5 : Int32) ≤ nI b from fun z => by have := (nle (a := 5) (by omega) (by omega)).mp z; omega)]
    cases hx : alN g o k with
    | false =>
      obtain ⟨z, ez⟩ := r_50 hg ho (show a < 5 by omega) hb false
      rw [if_pos (show (if false = true then (1 : Int32) else 0) = 0 from rfl)]
      rw [show ((0 : Int32), (0 : Int32)) = ((if false = true then 1 else 0), 0) from rfl, ez]
      simp only [Option.bind_some, lt]
      rw [nI_1]
      exact ⟨_, rfl, by rw [nx, hx]; rfl⟩
    | true =>
      obtain ⟨z, ez⟩ := r_50 hg ho (show a < 5 by omega) hb (tcB g a b == tcB o a b)
      rw [if_neg (show ¬ (if true = true then (1 : Int32) else 0) = 0 by decide), t_touch hg (by omega) hb]
      simp only [Option.bind_some]
      rw [t_touch ho (by omega) hb]
      simp only [Option.bind_some, lt]
      have e2 : (if (if tcB g a b = true then (1 : Int32) else 0) = (if tcB o a b = true then 1 else 0) then (1 : Int32) else 0) = if (tcB g a b == tcB o a b) = true then 1 else 0 := by
        cases tcB g a b <;> cases tcB o a b <;> rfl
      rw [e2, ez]
      simp only [Option.bind_some]
      rw [nI_1]
      exact ⟨_, rfl, by rw [nx, hx, Bool.true_and]; rfl⟩) (s0 := (1 : Int32)) rfl
  obtain ⟨s1, e, h⟩ := L
  rw [em_X11_isAlike, show ((1 : Int32), (0 : Int32)) = (1, nI 0) from rfl, e, h]
  simp only [Option.bind_some]
  cases alN g o 10 <;> rfl
theorem cqN_iff {g o a b : Nat} : ∀ n, cqN g o a b n = true ↔ ∀ c, c < n → (hsB g a c && hsB g b c) = (hsB o a c && hsB o b c) := by
  intro n
  induction n with
  | zero => exact ⟨fun _ c h => by omega, fun _ => rfl⟩
  | succ n ih =>
    rw [show cqN g o a b (n + 1) = (cqN g o a b n && cqB g o a b n) from rfl, Bool.and_eq_true, ih]
    unfold cqB
    rw [beq_iff_eq]
    constructor
    · intro h c hc
      by_cases e : c = n
      · rw [e]; exact h.2
      · exact h.1 c (by omega)
    · intro h
      exact ⟨fun c hc => h c (by omega), h n (by omega)⟩
theorem alN_iff {g o : Nat} : ∀ n, alN g o n = true ↔ ∀ k, k < n → okP g o (pa k) (pb k) = true := by
  intro n
  induction n with
  | zero => exact ⟨fun _ c h => by omega, fun _ => rfl⟩
  | succ n ih =>
    rw [show alN g o (n + 1) = (alN g o n && okP g o (pa n) (pb n)) from rfl, Bool.and_eq_true, ih]
    constructor
    · intro h c hc
      by_cases e : c = n
      · rw [e]; exact h.2
      · exact h.1 c (by omega)
    · intro h
      exact ⟨fun c hc => h c (by omega), h n (by omega)⟩
/-- the same ties: alike if the meetings are the same -/
theorem al_me {g o : Nat} (ht : ∀ k, k < 10 → tcB g (pa k) (pb k) = tcB o (pa k) (pb k)) : alN g o 10 = true ↔ mtN g 50 = mtN o 50 := by
  rw [alN_iff, meets_eq]
  constructor
  · intro h n hn
    have hk : n % 10 < 10 := Nat.mod_lt _ (by decide)
    have h1 := h (n % 10) hk
    have h2 := ht (n % 10) hk
    unfold okP at h1
    rw [Bool.and_eq_true] at h1
    unfold meB
    rw [← h2]
    cases hc : tcB g (pa (n % 10)) (pb (n % 10)) with
    | true => simp
    | false =>
      rw [hc, Bool.false_or, cqN_iff] at h1
      have := h1.2 (n / 10) (by omega)
      simp only [Bool.not_false, Bool.and_true]
      exact this
  · intro h k hk
    unfold okP
    rw [ht k hk, beq_self_eq_true, Bool.true_and]
    cases hc : tcB o (pa k) (pb k) with
    | true => rfl
    | false =>
      rw [Bool.false_or, cqN_iff]
      intro c hc5
      have h1 := h (10 * c + k) (by omega)
      unfold meB at h1
      rw [show (10 * c + k) % 10 = k by omega, show (10 * c + k) / 10 = c by omega, ht k hk, hc] at h1
      simp only [Bool.not_false, Bool.and_true] at h1
      exact h1
theorem al_ti {g o : Nat} (h : alN g o 10 = true) : ∀ k, k < 10 → tcB g (pa k) (pb k) = tcB o (pa k) (pb k) := by
  intro k hk
  have h1 := (alN_iff 10).mp h k hk
  unfold okP at h1
  rw [Bool.and_eq_true, beq_iff_eq] at h1
  exact h1.1
theorem lcmp0 {a b : Nat} (ha : a < 2 ^ 50) (hb : b < 2 ^ 50) : lg_cmp (lN a) (lN b) = 0 ↔ a = b := (lg_cmp_eq0 (by omega) (by omega)).1
theorem isG_lt {N : Nat} {x : Int32} (h : isG N x = true) : u3 x < 2 ^ 25 ∧ okA N (u3 x) := (isG_iff.mp h).1
theorem isGraph10 {N : Nat} {i2 i3 i4 x : Int32} (hN : N ≤ 5) : m_X10_isGraph (nI N) i2 i3 i4 x = some (if isG N x = true then 1 else 0) := by
  rw [em_X10_isGraph, t_areGraph hN]
  simp only [Option.bind_some]
  cases isG N x <;> rfl
theorem p_alike {N : Nat} {i2 i3 i4 j2 j3 j4 j5 j6 : Int32} (hN : N ≤ 5) (x y : Int32) : ∃ r, m_X10_alike (nI N) i2 i3 i4 x y = some r ∧ m_X11_alike (nI N) j2 j3 j4 j5 j6 x y = some r := by
  rw [em_X10_alike, em_X11_alike, isGraph10 hN, t_isGraph hN]
  simp only [Option.bind_some]
  cases hx : isG N x with
  | false =>
    rw [if_pos (show (if false = true then (1 : Int32) else 0) = 0 from rfl), if_pos (show (if false = true then (1 : Int32) else 0) = 0 from rfl)]
    exact ⟨_, rfl, rfl⟩
  | true =>
    rw [if_neg (show ¬ (if true = true then (1 : Int32) else 0) = 0 by decide), if_neg (show ¬ (if true = true then (1 : Int32) else 0) = 0 by decide), isGraph10 hN, t_isGraph hN]
    simp only [Option.bind_some]
    cases hy : isG N y with
    | false =>
      rw [if_pos (show (if false = true then (1 : Int32) else 0) = 0 from rfl), if_pos (show (if false = true then (1 : Int32) else 0) = 0 from rfl)]
      exact ⟨_, rfl, rfl⟩
    | true =>
      rw [if_neg (show ¬ (if true = true then (1 : Int32) else 0) = 0 by decide), if_neg (show ¬ (if true = true then (1 : Int32) else 0) = 0 by decide)]
      have hg := (isG_lt hx).1
      have ho := (isG_lt hy).1
      have e0 : x = nI (u3 x) := (nI_u3 x).symm
      have e1 : y = nI (u3 y) := (nI_u3 y).symm
      generalize u3 x = g at *
      generalize u3 y = o at *
      subst e0 e1
      rw [t_ties, t_ties, t_isAlike hg ho]
      simp only [Option.bind_some]
      have hl1 := tiN_lt (g := g) 10 (Nat.le_refl _)
      have hl2 := tiN_lt (g := o) 10 (Nat.le_refl _)
      by_cases ht : tiN g 10 = tiN o 10
      · rw [if_pos (by rw [ht]), t_meetings hg, t_meetings ho]
        simp only [Option.bind_some, lt]
        have hm := al_me (ties_eq.mp ht)
        by_cases he : mtN g 50 = mtN o 50
        · rw [if_pos ((lcmp0 (mtN_lt 50) (mtN_lt 50)).mpr he), hm.mpr he]
          exact ⟨_, rfl, rfl⟩
        · rw [if_neg (fun z => he ((lcmp0 (mtN_lt 50) (mtN_lt 50)).mp z))]
          cases ha : alN g o 10 with
          | true => exact absurd (hm.mp ha) he
          | false => exact ⟨_, rfl, rfl⟩
      · rw [if_neg (fun z => ht (by have := congrArg u3 z; rw [u3_nI (by simp only [BB]; omega), u3_nI (by simp only [BB]; omega)] at this; exact this))]
        simp only [lt]
        cases ha : alN g o 10 with
        | true => exact absurd (ties_eq.mpr (al_ti ha)) ht
        | false => exact ⟨_, rfl, rfl⟩
