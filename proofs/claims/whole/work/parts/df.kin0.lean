/-! pairs of names; ties and meetings of the class, isAlike of the reference -/
theorem lp_cg {σ τ : Type} {body : τ → Option (τ ⊕ τ)} (mk : σ → Int32 → τ) (I : Nat → σ → Prop) {n0 n1 : Nat} (h01 : n0 ≤ n1) (hn : n1 ≤ 100000)
    (stop : ∀ s, I n1 s → body (mk s (nI n1)) = some (.inr (mk s (nI n1)))) (step : ∀ k s, n0 ≤ k → k < n1 → I k s → ∃ s', body (mk s (nI k)) = some (.inl (mk s' (nI (k + 1)))) ∧ I (k + 1) s') {s0 : σ} (h0 : I n0 s0) :
    ∃ s1, lp body FU (mk s0 (nI n0)) = some (mk s1 (nI n1)) ∧ I n1 s1 := by
  have key : ∀ (d k : Nat) (s : σ) (f : Nat), n1 - k = d → n0 ≤ k → k ≤ n1 → I k s → d < f → ∃ s1, lp body f (mk s (nI k)) = some (mk s1 (nI n1)) ∧ I n1 s1 := by
    intro d
    induction d with
    | zero =>
      intro k s f hd _ hk hI hf
      have : k = n1 := by omega
      subst this
      match f, hf with
      | f + 1, _ => exact ⟨s, by rw [lp, stop s hI]; rfl, hI⟩
    | succ d ih =>
      intro k s f hd h0k hk hI hf
      obtain ⟨s', e, hI'⟩ := step k s h0k (by omega) hI
      match f, hf with
      | f + 1, hf =>
        obtain ⟨s1, e1, h1⟩ := ih (k + 1) s' f (by omega) (by omega) (by omega) hI' (by omega)
        exact ⟨s1, by rw [lp, e]; exact e1, h1⟩
  exact key (n1 - n0) n0 s0 FU rfl (Nat.le_refl _) h01 h0 (FU_big (by omega))
def pa (k : Nat) : Nat := [0, 0, 0, 0, 1, 1, 1, 2, 2, 3].getD k 0
def pb (k : Nat) : Nat := [1, 2, 3, 4, 2, 3, 4, 3, 4, 4].getD k 0
def bs (a : Nat) : Nat := [0, 4, 7, 9, 10, 10].getD a 10
theorem tb_pp : ∀ a, a < 5 → ∀ b, b < 5 → a < b → pa (bs a + (b - a - 1)) = a ∧ pb (bs a + (b - a - 1)) = b ∧ bs a + (b - a - 1) < 10 := by decide
theorem tb_pk : ∀ k, k < 10 → pa k < pb k ∧ pb k < 5 ∧ pa k < 5 := by decide
theorem tb_bs : ∀ a, a < 5 → bs a + (5 - a - 1) = bs (a + 1) := by decide
/-- a loop over all pairs -/
theorem lp_pr {σ τ : Type} {outer : τ → Option (τ ⊕ τ)} {inner : Nat → τ → Option (τ ⊕ τ)} (mk : σ → Int32 → τ) (I : Nat → σ → Prop)
    (ho0 : ∀ s, outer (mk s (nI 5)) = some (.inr (mk s (nI 5))))
    (ho : ∀ a s, a < 5 → ∀ s', lp (inner a) FU (mk s (nI (a + 1))) = some (mk s' (nI 5)) → outer (mk s (nI a)) = some (.inl (mk s' (nI (a + 1)))))
    (hi0 : ∀ a s, a < 5 → inner a (mk s (nI 5)) = some (.inr (mk s (nI 5))))
    (hi : ∀ a b s, a < b → b < 5 → I (bs a + (b - a - 1)) s → ∃ s', inner a (mk s (nI b)) = some (.inl (mk s' (nI (b + 1)))) ∧ I (bs a + (b - a - 1) + 1) s') {s0 : σ} (h0 : I 0 s0) :
    ∃ s1, lp outer FU (mk s0 (nI 0)) = some (mk s1 (nI 5)) ∧ I 10 s1 := by
  have L := lp_cg (body := outer) mk (fun a s => I (bs a) s) (n0 := 0) (n1 := 5) (by omega) (by omega) (fun s _ => ho0 s) (fun a s _ ha hI => by
    have L2 := lp_cg (body := inner a) mk (fun b s => I (bs a + (b - a - 1)) s) (n0 := a + 1) (n1 := 5) (by omega) (by omega) (fun s _ => hi0 a s ha) (fun b s hb1 hb2 hI2 => by
      obtain ⟨s', e, h⟩ := hi a b s (by omega) hb2 hI2
      refine ⟨s', e, ?_⟩
      rw [show bs a + (b + 1 - a - 1) = bs a + (b - a - 1) + 1 by omega]
      exact h) (s0 := s) (by rw [show bs a + (a + 1 - a - 1) = bs a by omega]; exact hI)
    obtain ⟨s1, e1, h1⟩ := L2
    refine ⟨s1, ho a s ha s1 e1, ?_⟩
    rw [tb_bs a ha] at h1
    exact h1) (s0 := s0) h0
  exact L
/-- an arc, as a truth value; whether two names touch -/
def hsB (g p c : Nat) : Bool := g.testBit (5 * p + c)
def tcB (g a b : Nat) : Bool := hsB g a b || hsB g b a
theorem t_has {g p c : Nat} (hg : g < 2 ^ 25) (hp : p < 5) (hc : c < 5) : m_X11_has (nI g) (nI p) (nI c) = some (if hsB g p c = true then 1 else 0) := by
  have tb : ∀ p, p < 5 → ∀ c, c < 5 → (((5 * nI p + nI c) &&& 31).toBitVec.smod 32).toNat = 5 * p + c := by decide
  have h1 : g / 2 ^ (5 * p + c) < 2 ^ 32 := Nat.lt_of_le_of_lt (Nat.div_le_self _ _) (by omega)
  rw [em_X11_has, pk_shrN (by omega) _ (5 * p + c) (tb p hp c hc), show nI (g / 2 ^ (5 * p + c)) &&& 1 = nI (g / 2 ^ (5 * p + c) % 2) from pk_andN h1 1 (by decide)]
  have hm : g / 2 ^ (5 * p + c) % 2 < 2 := Nat.mod_lt _ (by decide)
  unfold hsB
  by_cases hb : g.testBit (5 * p + c) = true
  · rw [if_pos hb, tbt.mp hb]; rfl
  · have h0 : g / 2 ^ (5 * p + c) % 2 = 0 := by
      have : ¬ g / 2 ^ (5 * p + c) % 2 = 1 := fun z => hb (tbt.mpr z)
      omega
    rw [if_neg hb, h0]; rfl
theorem t_touch {g a b : Nat} (hg : g < 2 ^ 25) (ha : a < 5) (hb : b < 5) : m_X11_touch (nI g) (nI a) (nI b) = some (if tcB g a b = true then 1 else 0) := by
  rw [em_X11_touch, t_has hg ha hb]
  simp only [Option.bind_some]
  unfold tcB
  cases h1 : hsB g a b with
  | true => rfl
  | false =>
    rw [if_pos (show (if false = true then (1 : Int32) else 0) = 0 from rfl), t_has hg hb ha]
    simp only [Option.bind_some, lt, Bool.false_or]
    cases h2 : hsB g b a with
    | true => rfl
    | false => rfl
theorem and_pow (x k : Nat) : x &&& 2 ^ k = if x.testBit k = true then 2 ^ k else 0 := by
  refine Nat.eq_of_testBit_eq fun i => ?_
  rw [Nat.testBit_and, Nat.testBit_two_pow]
  by_cases hk : x.testBit k = true
  · rw [if_pos hk, Nat.testBit_two_pow]
    by_cases hi : k = i
    · subst hi; rw [hk, decide_eq_true rfl]; rfl
    · rw [decide_eq_false hi, Bool.and_false]
  · rw [if_neg hk, Nat.zero_testBit]
    by_cases hi : k = i
    · subst hi; simp only [Bool.not_eq_true] at hk; rw [hk, Bool.false_and]
    · rw [decide_eq_false hi, Bool.and_false]
theorem c_has {g p c : Nat} (hp : p < 5) (hc : c < 5) : m_X0_has (nI g) (nI p) (nI c) = some (if hsB g p c = true then 1 else 0) := by
  rw [em_X0_has, arcI (by omega)]
  simp only [Option.bind_some, lt]
  rw [nI_land, and_pow]
  unfold hsB
  by_cases hb : g.testBit (5 * p + c) = true
  · rw [if_pos hb, if_pos hb]
    have tb : ∀ k, k < 25 → ¬ nI (2 ^ k) = (0 : Int32) := by decide
    rw [if_neg (tb _ (by omega))]
    rfl
  · rw [if_neg hb, if_neg hb]
    rfl
/-- the ties, pair by pair -/
def tiN (g : Nat) : Nat → Nat
  | 0 => 0
  | k + 1 => tiN g k ||| (if tcB g (pa k) (pb k) = true then 2 ^ (5 * pa k + pb k) else 0)
theorem t_ties {g : Nat} : m_X4_ties (nI g) = some (nI (tiN g 10)) := by
  have L := lp_pr (outer := b_X4_ties_4 (nI g)) (inner := fun a => b_X4_ties_13 (nI g) (nI a)) (fun (s : Int32) (c : Int32) => (s, c)) (fun k s => s = nI (tiN g k)) (fun s => by rw [eb_X4_ties_4, if_pos (by decide)]) (fun a s ha s' e => by
    rw [eb_X4_ties_4, if_neg (show ¬ (5 : Int32) ≤ nI a from fun z => by have := (nle (a := 5) (by omega) (by omega)).mp z; omega)]
    simp only [lt]
    rw [nI_1, e]
    rfl) (fun a s ha => by rw [eb_X4_ties_13, if_pos (by decide)]) (fun a b s hab hb hI => by
    subst hI
    obtain ⟨q1, q2, q3⟩ := tb_pp a (by omega) b hb hab
    rw [eb_X4_ties_13, if_neg (show ¬ (5 : Int32) ≤ nI b from fun z => by have := (nle (a := 5) (by omega) (by omega)).mp z; omega), c_has (by omega) hb]
    simp only [Option.bind_some]
    have fin : ∀ x : Bool, tcB g a b = x → (if x = true then some (Sum.inl (β := Int32 × Int32) (nI (tiN g (bs a + (b - a - 1))) ||| nI (2 ^ (5 * a + b)), nI b + 1)) else some (Sum.inl (nI (tiN g (bs a + (b - a - 1))), nI b + 1))) = some (Sum.inl (nI (tiN g (bs a + (b - a - 1) + 1)), nI (b + 1))) := by
      intro x hx
      rw [show tiN g (bs a + (b - a - 1) + 1) = tiN g (bs a + (b - a - 1)) ||| (if tcB g (pa (bs a + (b - a - 1))) (pb (bs a + (b - a - 1))) = true then 2 ^ (5 * pa (bs a + (b - a - 1)) + pb (bs a + (b - a - 1))) else 0) from rfl, q1, q2, hx, nI_1]
      cases x with
      | true => rw [if_pos rfl, if_pos rfl, nI_lor]
      | false => rw [if_neg (by decide), if_neg (by decide), Nat.or_zero]
    refine ⟨_, ?_, rfl⟩
    cases h1 : hsB g a b with
    | true =>
      rw [if_pos rfl, if_neg (by decide), arcI (by omega)]
      exact fin true (by unfold tcB; rw [h1]; rfl)
    | false =>
      rw [if_pos (show (if false = true then (1 : Int32) else 0) = 0 from rfl), c_has hb (by omega)]
      simp only [Option.bind_some]
      cases h2 : hsB g b a with
      | true =>
        rw [if_pos rfl, if_neg (by decide), arcI (by omega)]
        exact fin true (by unfold tcB; rw [h1, h2]; rfl)
      | false =>
        rw [if_pos (show (if false = true then (1 : Int32) else 0) = 0 from rfl)]
        exact fin false (by unfold tcB; rw [h1, h2]; rfl)) (s0 := (0 : Int32)) rfl
  obtain ⟨s1, e, h⟩ := L
  rw [em_X4_ties, show ((0 : Int32), (0 : Int32)) = (0, nI 0) from rfl, e, h]
  rfl
theorem tb_inj : ∀ k, k < 10 → ∀ j, j < 10 → 5 * pa k + pb k = 5 * pa j + pb j → k = j := by decide +kernel
theorem tiN_bit {g : Nat} : ∀ n, n ≤ 10 → ∀ k, k < 10 → (tiN g n).testBit (5 * pa k + pb k) = (decide (k < n) && tcB g (pa k) (pb k)) := by
  intro n
  induction n with
  | zero => intro _ k _; show (0 : Nat).testBit _ = _; rw [Nat.zero_testBit]; rfl
  | succ n ih =>
    intro hn k hk
    show (tiN g n ||| _).testBit _ = _
    rw [Nat.testBit_or, ih (by omega) k hk]
    by_cases hkn : k = n
    · subst hkn
      rw [decide_eq_false (Nat.lt_irrefl k), Bool.false_and, Bool.false_or, decide_eq_true (Nat.lt_succ_self k), Bool.true_and]
      cases hc : tcB g (pa k) (pb k) with
      | true => rw [if_pos rfl, Nat.testBit_two_pow_self]
      | false => rw [if_neg (by decide), Nat.zero_testBit]
    · have h2 : (if tcB g (pa n) (pb n) = true then 2 ^ (5 * pa n + pb n) else 0).testBit (5 * pa k + pb k) = false := by
        split
        · rw [Nat.testBit_two_pow]
          exact decide_eq_false (fun z => hkn (tb_inj n (by omega) k hk z).symm)
        · exact Nat.zero_testBit _
      rw [h2, Bool.or_false]
      congr 1
      by_cases h3 : k < n
      · rw [decide_eq_true h3, decide_eq_true (by omega)]
      · rw [decide_eq_false h3, decide_eq_false (by omega)]
theorem tiN_lt {g : Nat} : ∀ n, n ≤ 10 → tiN g n < 2 ^ 25 := by
  intro n
  induction n with
  | zero => intro _; exact Nat.pow_pos (by decide)
  | succ n ih =>
    intro hn
    refine Nat.or_lt_two_pow (ih (by omega)) ?_
    split
    · exact Nat.pow_lt_pow_right (by decide) (by have := tb_pk n (by omega); omega)
    · exact Nat.pow_pos (by decide)
theorem ties_eq {g o : Nat} : tiN g 10 = tiN o 10 ↔ ∀ k, k < 10 → tcB g (pa k) (pb k) = tcB o (pa k) (pb k) := by
  constructor
  · intro h k hk
    have h1 := tiN_bit (g := g) 10 (Nat.le_refl _) k hk
    have h2 := tiN_bit (g := o) 10 (Nat.le_refl _) k hk
    rw [decide_eq_true hk, Bool.true_and] at h1 h2
    rw [← h1, ← h2, h]
  · intro h
    have : ∀ n, n ≤ 10 → tiN g n = tiN o n := by
      intro n
      induction n with
      | zero => intro _; rfl
      | succ n ih => intro hn; unfold tiN; rw [ih (by omega), h n (by omega)]
    exact this 10 (Nat.le_refl _)
/-- a meeting: number 10 c + k for the name c and the pair k -/
def meB (g n : Nat) : Bool := hsB g (pa (n % 10)) (n / 10) && (hsB g (pb (n % 10)) (n / 10) && !(tcB g (pa (n % 10)) (pb (n % 10))))
def mtN (g : Nat) : Nat → Nat
  | 0 => 0
  | n + 1 => mtN g n ||| (if meB g n = true then 2 ^ n else 0)
theorem mtN_lt {g : Nat} : ∀ n, mtN g n < 2 ^ n := by
  intro n
  induction n with
  | zero => exact Nat.one_pos
  | succ n ih =>
    refine Nat.or_lt_two_pow (Nat.lt_of_lt_of_le ih (Nat.pow_le_pow_right (by decide) (by omega))) ?_
    split
    · exact Nat.pow_lt_pow_right (by decide) (by omega)
    · exact Nat.pow_pos (by decide)
theorem mtN_bit {g : Nat} : ∀ n i, i < n → (mtN g n).testBit i = meB g i := by
  intro n
  induction n with
  | zero => intro i h; omega
  | succ n ih =>
    intro i hi
    show (mtN g n ||| _).testBit i = _
    rw [Nat.testBit_or]
    by_cases e : i = n
    · subst e
      rw [Nat.testBit_lt_two_pow (mtN_lt i), Bool.false_or]
      cases hm : meB g i with
      | true => rw [if_pos rfl, Nat.testBit_two_pow_self]
      | false => rw [if_neg (by decide), Nat.zero_testBit]
    · rw [ih i (by omega)]
      have : (if meB g n = true then 2 ^ n else 0).testBit i = false := by
        split
        · rw [Nat.testBit_two_pow]; exact decide_eq_false (fun z => e z.symm)
        · exact Nat.zero_testBit _
      rw [this, Bool.or_false]
theorem meets_eq {g o : Nat} : mtN g 50 = mtN o 50 ↔ ∀ n, n < 50 → meB g n = meB o n := by
  constructor
  · intro h n hn
    rw [← mtN_bit 50 n hn, ← mtN_bit 50 n hn, h]
  · intro h
    have : ∀ n, n ≤ 50 → mtN g n = mtN o n := by
      intro n
      induction n with
      | zero => intro _; rfl
      | succ n ih => intro hn; unfold mtN; rw [ih (by omega), h n (by omega)]
    exact this 50 (Nat.le_refl _)
theorem tb_shlL : ∀ k, k < 50 → (1 : Int64) <<< ((nI k).toInt64 &&& 63) = lN (2 ^ k) := by decide +kernel
theorem t_meetings {g : Nat} (hg : g < 2 ^ 25) : m_X4_meetings (nI g) = some (lN (mtN g 50)) := by
  have L := lp_cg (body := b_X4_meetings_13 (nI g) (nI (tiN g 10))) (fun (s : Int64 × Int32) (c : Int32) => (s.1, s.2, c)) (fun c s => s.1 = lN (mtN g (10 * c)) ∧ s.2 = nI (10 * c)) (n0 := 0) (n1 := 5) (by omega) (by omega) (fun s _ => by rw [eb_X4_meetings_13, if_pos (by decide)]) (fun c s _ hc hI => by
    obtain ⟨s1, s2⟩ := s
    obtain ⟨i1, i2⟩ := hI
    dsimp only at i1 i2
    subst i1 i2
    have hpl := parN_lt g c 5
    have L2 := lp_pr (outer := b_X4_meetings_30 (nI (tiN g 10)) (nI (parN g c 5))) (inner := fun a => b_X4_meetings_42 (nI (tiN g 10)) (nI (parN g c 5)) (nI a)) (fun (s : Int64 × Int32) (c : Int32) => (s.1, s.2, c)) (fun k s => s.1 = lN (mtN g (10 * c + k)) ∧ s.2 = nI (10 * c + k)) (fun s => by rw [eb_X4_meetings_30, if_pos (by decide)]) (fun a s ha s' e => by
      rw [eb_X4_meetings_30, if_neg (show ¬ (5 : Int32) ≤ nI a from fun z => by have := (nle (a := 5) (by omega) (by omega)).mp z; omega)]
      simp only [lt]
      rw [nI_1, e]
      rfl) (fun a s ha => by rw [eb_X4_meetings_42, if_pos (by decide)]) (fun a b s hab hb hI => by
      obtain ⟨s1, s2⟩ := s
      obtain ⟨i1, i2⟩ := hI
      dsimp only at i1 i2 ⊢
      subst i1 i2
      obtain ⟨q1, q2, q3⟩ := tb_pp a (by omega) b hb hab
      generalize hkk : bs a + (b - a - 1) = k at *
      have d1 : (10 * c + k) % 10 = k := by omega
      have d2 : (10 * c + k) / 10 = c := by omega
      have me : meB g (10 * c + k) = (hsB g a c && (hsB g b c && !(tcB g a b))) := by unfold meB; rw [d1, d2, q1, q2]
      have bitp : ∀ p, p < 5 → (parN g c 5 / 2 ^ p % 2 = 1 ↔ hsB g p c = true) := fun p hp => by
        rw [parN_bit g c 5 p hp]; unfold hsB; exact tbt.symm
      have hti : hsB (tiN g 10) a b = tcB g a b := by
        have := tiN_bit (g := g) 10 (Nat.le_refl _) k q3
        rw [q1, q2, decide_eq_true q3, Bool.true_and] at this
        exact this
      have fin : ∀ x : Bool, meB g (10 * c + k) = x → ((if x = true then some (lN (mtN g (10 * c + k)) ||| (1 <<< ((nI (10 * c + k)).toInt64 &&& 63))) else some (lN (mtN g (10 * c + k)))).bind (fun y : Int64 => some (Sum.inl (β := Int64 × Int32 × Int32) (y, nI (10 * c + k) + 1, nI b + 1)))) = some (Sum.inl (lN (mtN g (10 * c + (k + 1))), nI (10 * c + (k + 1)), nI (b + 1))) := by
        intro x hx
        rw [show mtN g (10 * c + (k + 1)) = mtN g (10 * c + k) ||| (if meB g (10 * c + k) = true then 2 ^ (10 * c + k) else 0) from rfl, hx, nI_1, nI_1]
        cases x with
        | true => rw [if_pos rfl, if_pos rfl, tb_shlL _ (by omega), lN_lor]; rfl
        | false => rw [if_neg (by decide), if_neg (by decide), Nat.or_zero]; rfl
      rw [eb_X4_meetings_42, if_neg (show ¬ (5 : Int32) ≤ nI b from fun z => by have := (nle (a := 5) (by omega) (by omega)).mp z; omega), isIn01 hpl (by omega)]
      simp only [Option.bind_some]
      refine ⟨(_, _), ?_, rfl, rfl⟩
      by_cases h1 : hsB g a c = true
      · rw [if_pos ((bitp a (by omega)).mpr h1), if_neg (by decide), isIn01 hpl (by omega)]
        simp only [Option.bind_some]
        by_cases h2 : hsB g b c = true
        · rw [if_pos ((bitp b hb).mpr h2), if_neg (by decide), c_has (by omega) hb, hti]
          simp only [Option.bind_some, lt]
          cases h3 : tcB g a b with
          | true => exact fin false (by rw [me, h3, h2, h1]; rfl)
          | false => exact fin true (by rw [me, h3, h2, h1]; rfl)
        · rw [if_neg (fun z => h2 ((bitp b hb).mp z)), if_pos rfl]
          simp only [Bool.not_eq_true] at h2
          exact fin false (by rw [me, h2, h1]; rfl)
      · rw [if_neg (fun z => h1 ((bitp a (by omega)).mp z)), if_pos rfl]
        simp only [Bool.not_eq_true] at h1
        exact fin false (by rw [me, h1]; rfl)) (s0 := (lN (mtN g (10 * c)), nI (10 * c))) ⟨rfl, rfl⟩
    obtain ⟨s1, e, h1, h2⟩ := L2
    dsimp only at e ⊢
    rw [eb_X4_meetings_13, if_neg (show ¬ (5 : Int32) ≤ nI c from fun z => by have := (nle (a := 5) (by omega) (by omega)).mp z; omega), t_parentsIn (by omega) hc]
    simp only [Option.bind_some]
    rw [show (0 : Int32) = nI 0 from rfl, e]
    simp only [Option.bind_some, lt]
    rw [nI_1]
    exact ⟨s1, rfl, by rw [h1]; rfl, by rw [h2]; rfl⟩) (s0 := ((0 : Int64), (0 : Int32))) ⟨rfl, rfl⟩
  obtain ⟨s1, e, h1, -⟩ := L
  dsimp only at e
  rw [em_X4_meetings, t_ties]
  simp only [Option.bind_some]
  rw [show ((0 : Int64), (0 : Int32), (0 : Int32)) = (0, 0, nI 0) from rfl, e, h1]
  rfl
