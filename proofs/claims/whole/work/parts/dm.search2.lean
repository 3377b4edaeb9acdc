/-! the best graph: class and reference -/
theorem parN_tb (g c p : Nat) : (parN g c 5).testBit p = (decide (p < 5) && g.testBit (5 * p + c)) := by
  by_cases hp : p < 5
  · rw [decide_eq_true hp, Bool.true_and, Bool.eq_iff_iff, tbt, tbt, parN_bit g c 5 p hp]
  · rw [decide_eq_false hp, Bool.false_and]
    exact Nat.testBit_lt_two_pow (Nat.lt_of_lt_of_le (parN_lt g c 5) (Nat.pow_le_pow_right (by decide) (by omega)))
theorem parN_or (x y c : Nat) : parN (x ||| y) c 5 = parN x c 5 ||| parN y c 5 := by
  refine Nat.eq_of_testBit_eq fun i => ?_
  rw [Nat.testBit_or, parN_tb, parN_tb, parN_tb, Nat.testBit_or]
  cases decide (i < 5) <;> simp
/-- a graph of the names of a set alone -/
def PG (k g : Nat) : Prop := g < 2 ^ 25 ∧ ∀ c, c < 5 → parN g c 5 &&& k = parN g c 5 ∧ (k / 2 ^ c % 2 = 0 → parN g c 5 = 0) ∧ parN g c 5 / 2 ^ c % 2 = 0
theorem PG_ok {N k g : Nat} (hN : N ≤ 5) (h : PG k g) : okG N g := ⟨h.1, fun c hc => (h.2 c (by omega)).2.2⟩
theorem tb_del5 : ∀ s, s < 32 → ∀ p, p < 5 → s / 2 ^ p % 2 = 1 → nI s &&& ((1 <<< (nI p &&& 31)) ^^^ (-1)) = nI (s - 2 ^ p) := by decide +kernel
theorem tb_dl1 : ∀ s, s < 32 → ∀ p, p < 5 → s / 2 ^ p % 2 = 1 → (s - 2 ^ p) / 2 ^ p % 2 = 0 ∧ s - 2 ^ p < s := by decide +kernel
theorem tb_dl2 : ∀ s, s < 32 → ∀ p, p < 5 → ∀ c, c < 5 → (s / 2 ^ p % 2 = 1 ∧ s / 2 ^ c % 2 = 0) → (s - 2 ^ p) / 2 ^ c % 2 = 0 := by decide +kernel
theorem tb_dl3 : ∀ s, s < 32 → ∀ p, p < 5 → s / 2 ^ p % 2 = 1 → (s - 2 ^ p) &&& s = s - 2 ^ p := by decide +kernel
theorem and_sub {a b c : Nat} (h1 : a &&& b = a) (h2 : b &&& c = b) : a &&& c = a := by
  rw [← h1, Nat.and_assoc, h2]
theorem PG_add {oo n x s : Nat} (ho : oo < 32) (hn : n < 5) (hb : oo / 2 ^ n % 2 = 1) (hx : PG (oo - 2 ^ n) x) (hs : s < 32) (hsub : s &&& (oo - 2 ^ n) = s) : PG oo (x ||| frA s n 5) := by
  obtain ⟨d1, d2⟩ := tb_dl1 oo ho n hn hb
  have hsn : s / 2 ^ n % 2 = 0 := tb_subb s hs _ (by omega) hsub n hn d1
  refine ⟨Nat.or_lt_two_pow hx.1 (tb_frL s hs n hn), fun c hc => ?_⟩
  obtain ⟨x1, x2, x3⟩ := hx.2 c hc
  rw [parN_or, tb_frA s hs n hn c hc]
  have sub2 := tb_dl3 oo ho n hn hb
  by_cases e : c = n
  · subst e
    rw [if_pos rfl, x2 d1, Nat.zero_or]
    exact ⟨and_sub hsub sub2, fun z => by omega, hsn⟩
  · rw [if_neg e, Nat.or_zero]
    exact ⟨and_sub x1 sub2, fun z => x2 (tb_dl2 oo ho n hn c hc ⟨hb, z⟩), x3⟩
section BT
variable {N R w ms : Nat} {vals : Nat → Nat} {cell : Nat → Nat → Nat} {fvalues fcells fsv fsc : Nat → Int32} {i4 i5 i6 : Int32} {fk ftops flows fsmall flarge fone ftwo frest ff fm tA lA tB lB lf rt fx fy : Nat → Int32}
def cdG (cell : Nat → Nat → Nat) (vals : Nat → Nat) (N R w ms : Nat) (tab : Nat → Nat) (oo n : Nat) : Nat := tab (oo - 2 ^ n) ||| frA (bpN cell vals N R w ms n (oo - 2 ^ n) (oo - 2 ^ n + 1)) n 5
def bgR (cell : Nat → Nat → Nat) (vals : Nat → Nat) (N R w ms : Nat) (tab : Nat → Nat) (oo : Nat) : Nat → Option Nat
  | 0 => none
  | n + 1 => if oo / 2 ^ n % 2 = 1 then some (pkB (gTo cell vals N R w) (gLo cell vals N R w) (cdG cell vals N R w ms tab oo n) (bgR cell vals N R w ms tab oo n)) else bgR cell vals N R w ms tab oo n
def tbS (cell : Nat → Nat → Nat) (vals : Nat → Nat) (N R w ms : Nat) : Nat → Nat → Nat
  | 0 => fun _ => 0
  | n + 1 => fun k => if k = n then (bgR cell vals N R w ms (tbS cell vals N R w ms n) n N).getD 0 else tbS cell vals N R w ms n k
theorem cdG_PG {tab : Nat → Nat} {oo n : Nat} (ho : oo < 32) (hn : n < 5) (hb : oo / 2 ^ n % 2 = 1) (ht : PG (oo - 2 ^ n) (tab (oo - 2 ^ n))) : PG oo (cdG cell vals N R w ms tab oo n) := by
  obtain ⟨b1, b2, -, -⟩ := bpN_in (cell := cell) (vals := vals) (N := N) (R := R) (w := w) (ms := ms) (c := n) (oo := oo - 2 ^ n) (oo - 2 ^ n + 1)
  have := (tb_dl1 oo ho n hn hb).2
  exact PG_add ho hn hb ht (by omega) b2
theorem bgR_PG {tab : Nat → Nat} {oo : Nat} (hN : N ≤ 5) (ho : oo < 32) (ht : ∀ k, k < oo → PG k (tab k)) : ∀ n, n ≤ N → ∀ x, bgR cell vals N R w ms tab oo n = some x → PG oo x := by
  intro n
  induction n with
  | zero => intro _ x h; cases h
  | succ n ih =>
    intro hn x hx
    rw [show bgR cell vals N R w ms tab oo (n + 1) = if oo / 2 ^ n % 2 = 1 then some (pkB (gTo cell vals N R w) (gLo cell vals N R w) (cdG cell vals N R w ms tab oo n) (bgR cell vals N R w ms tab oo n)) else bgR cell vals N R w ms tab oo n from rfl] at hx
    by_cases hb : oo / 2 ^ n % 2 = 1
    · rw [if_pos hb] at hx
      have hx := Option.some.inj hx
      have hc := cdG_PG (cell := cell) (vals := vals) (N := N) (R := R) (w := w) (ms := ms) (tab := tab) ho (by omega) hb (ht _ (tb_dl1 oo ho n (by omega) hb).2)
      cases hr : bgR cell vals N R w ms tab oo n with
      | none => rw [hr] at hx; rw [← hx]; exact hc
      | some y =>
        rw [hr] at hx
        rcases pkB_or (gTo cell vals N R w) (gLo cell vals N R w) (cdG cell vals N R w ms tab oo n) y with q | q
        · rw [← hx, q]; exact hc
        · rw [← hx, q]; exact ih (by omega) y hr
    · rw [if_neg hb] at hx
      exact ih (by omega) x hx
theorem tb_some : ∀ N, N < 6 → ∀ oo, oo < 2 ^ N → 0 < oo → ∃ n, n < N ∧ oo / 2 ^ n % 2 = 1 := by decide +kernel
theorem bgR_some {tab : Nat → Nat} {oo : Nat} : ∀ n m, m < n → oo / 2 ^ m % 2 = 1 → ∃ x, bgR cell vals N R w ms tab oo n = some x := by
  intro n
  induction n with
  | zero => intro m h; omega
  | succ n ih =>
    intro m hm hb
    show ∃ x, (if oo / 2 ^ n % 2 = 1 then some (pkB (gTo cell vals N R w) (gLo cell vals N R w) (cdG cell vals N R w ms tab oo n) (bgR cell vals N R w ms tab oo n)) else bgR cell vals N R w ms tab oo n) = some x
    by_cases hn : oo / 2 ^ n % 2 = 1
    · rw [if_pos hn]; exact ⟨_, rfl⟩
    · rw [if_neg hn]
      exact ih m (by rcases Nat.lt_or_ge m n with q | q; exact q; have : m = n := by omega
                     rw [this] at hb; exact absurd hb hn) hb
theorem bgR_congr {tab tab' : Nat → Nat} {oo : Nat} (ho : oo < 32) (h : ∀ k, k < oo → tab k = tab' k) : ∀ n, n ≤ 5 → bgR cell vals N R w ms tab oo n = bgR cell vals N R w ms tab' oo n := by
  intro n
  induction n with
  | zero => intro _; rfl
  | succ n ih =>
    intro hn
    unfold bgR
    rw [ih (by omega)]
    by_cases hb : oo / 2 ^ n % 2 = 1
    · rw [if_pos hb, if_pos hb]
      unfold cdG
      rw [h _ (tb_dl1 oo ho n (by omega) hb).2]
    · rw [if_neg hb, if_neg hb]
theorem PG_00 : PG 0 0 := ⟨by decide, by decide⟩
theorem bgR_0 {tab : Nat → Nat} : ∀ n, bgR cell vals N R w ms tab 0 n = none := by
  intro n
  induction n with
  | zero => rfl
  | succ n ih => unfold bgR; rw [if_neg (by rw [Nat.zero_div]; decide), ih]
/-- what the table holds, and what the next set gives -/
theorem tbS_PG (hN : N ≤ 5) : ∀ n, n ≤ 2 ^ N → ∀ k, k < n → PG k (tbS cell vals N R w ms n k) := by
  have h32 := two_N N (by omega)
  intro n
  induction n with
  | zero => intro _ k h; omega
  | succ n ih =>
    intro hn k hk
    show PG k (if k = n then (bgR cell vals N R w ms (tbS cell vals N R w ms n) n N).getD 0 else tbS cell vals N R w ms n k)
    by_cases e : k = n
    · subst e
      rw [if_pos rfl]
      by_cases hk0 : k = 0
      · subst hk0; rw [bgR_0]; exact PG_00
      · obtain ⟨m, hm, hb⟩ := tb_some N (by omega) k (by omega) (by omega)
        obtain ⟨x, hx⟩ := bgR_some (cell := cell) (vals := vals) (N := N) (R := R) (w := w) (ms := ms) (tab := tbS cell vals N R w ms k) N m hm hb
        rw [hx]
        exact bgR_PG hN (by omega) (ih (by omega)) N (Nat.le_refl _) x hx
    · rw [if_neg e]
      exact ih (by omega) k (by omega)
theorem c_kept {f : Nat → Int32} {k : Nat} (hk : k < 32) : m_X6_kept 32 f (nI k) = some (if k = 0 then 0 else f k) := by
  rw [em_X6_kept]
  by_cases h : k = 0
  · rw [if_pos h, if_pos (show nI k ≤ (0 : Int32) by rw [h]; decide)]; rfl
  · rw [if_neg h, if_neg (show ¬ nI k ≤ (0 : Int32) from fun z => h ((nle0 (by omega)).mp z)), if_neg (fun z => by have := (nle (by omega) (by omega)).mp z; omega), if_pos (ixn (by omega) (by omega)), cl (by omega)]; rfl
theorem c_keep {f : Nat → Int32} {k : Nat} {x : Int32} (hk : k < 32) (h0 : 0 < k) : m_X6_keep 32 f (nI k) x = some (upd f k x) := by
  rw [em_X6_keep, if_neg (show ¬ nI k ≤ (0 : Int32) from fun z => by have := (nle0 (by omega)).mp z; omega), if_neg (fun z => by have := (nle (by omega) (by omega)).mp z; omega), if_pos (ixn (by omega) (by omega)), cl (by omega)]; rfl
/-- the row of a set, in the class -/
theorem c_row (h : CS N R w vals cell fsv fsc) (hms : ms ≤ 4) {oo : Nat} (ho : oo < 2 ^ N) {f : Nat → Int32} {tab : Nat → Nat} (hf : ∀ k, 0 < k → k < oo → f k = nI (tab k)) (ht : ∀ k, k < oo → PG k (tab k)) (ht0 : tab 0 = 0) :
    ∃ z, lp (b_X6_bestGraph_27 cell vals N R w (nI ms) 32 (nI oo) f) FU (-1, 0) = some (oI (bgR cell vals N R w ms tab oo N), z) := by
  have hN := h.1
  have h32 := two_N N (by omega)
  have L := lp_cn2 (body := b_X6_bestGraph_27 cell vals N R w (nI ms) 32 (nI oo) f) (fun n s => s = oI (bgR cell vals N R w ms tab oo n)) (n0 := 0) (n1 := N) (Nat.zero_le _) (by omega) ?_ ?_ (s0 := (-1 : Int32)) rfl
  · obtain ⟨s1, e, h1⟩ := L
    subst h1
    exact ⟨_, e⟩
  · intro s _
    rw [eb_X6_bestGraph_27, if_pos ((nle (by omega) (by omega)).mpr (Nat.le_refl _))]
  · intro n s _ hn hs
    subst hs
    have nx : bgR cell vals N R w ms tab oo (n + 1) = if oo / 2 ^ n % 2 = 1 then some (pkB (gTo cell vals N R w) (gLo cell vals N R w) (cdG cell vals N R w ms tab oo n) (bgR cell vals N R w ms tab oo n)) else bgR cell vals N R w ms tab oo n := rfl
    rw [eb_X6_bestGraph_27, if_neg (fun z => by have := (nle (by omega) (by omega)).mp z; omega), isIn01 (by omega) (by omega)]
    simp only [Option.bind_some]
    by_cases hb : oo / 2 ^ n % 2 = 1
    · obtain ⟨d1, d2⟩ := tb_dl1 oo (by omega) n (by omega) hb
      have hc := cdG_PG (cell := cell) (vals := vals) (N := N) (R := R) (w := w) (ms := ms) (tab := tab) (show oo < 32 by omega) (by omega) hb (ht _ d2)
      obtain ⟨b1, b2, -, -⟩ := bpN_in (cell := cell) (vals := vals) (N := N) (R := R) (w := w) (ms := ms) (c := n) (oo := oo - 2 ^ n) (oo - 2 ^ n + 1)
      have ek : (if oo - 2 ^ n = 0 then (0 : Int32) else f (oo - 2 ^ n)) = nI (tab (oo - 2 ^ n)) := by
        by_cases hz : oo - 2 ^ n = 0
        · rw [if_pos hz, hz, ht0]; rfl
        · rw [if_neg hz, hf _ (by omega) d2]
      rw [if_pos hb, if_neg (show ¬ (1 : Int32) = 0 by decide)]
      simp only [lt]
      rw [tb_del5 oo (by omega) n (by omega) hb, c_kept (by omega), ek]
      simp only [Option.bind_some]
      rw [c_bestP h hms hn (by omega) d1]
      simp only [Option.bind_some]
      rw [t_fromAll (by omega) (by omega)]
      simp only [Option.bind_some]
      rw [nI_lor]
      have hbt : m_X6_better cell vals N R w (nI ms) (nI (cdG cell vals N R w ms tab oo n)) (oI (bgR cell vals N R w ms tab oo n)) = _ := c_better (PG_ok hN hc) (fun x hx => PG_ok hN (bgR_PG hN (by omega) ht n (by omega) x hx))
      unfold cdG at hbt
      rw [hbt]
      simp only [Option.bind_some]
      rw [nI_1]
      exact ⟨_, rfl, by rw [nx, if_pos hb]; rfl⟩
    · rw [if_neg hb, if_pos rfl, lt, nI_1]
      exact ⟨_, rfl, by rw [nx, if_neg hb]⟩
theorem c_best (h : CS N R w vals cell fsv fsc) (hms : ms ≤ 4) {f : Nat → Int32} : ∃ f', m_X6_bestGraph cell vals N R w (nI ms) 32 f = some (nI (tbS cell vals N R w ms (2 ^ N) (2 ^ N - 1)), f') := by
  have hN := h.1
  have h32 := two_N N (by omega)
  have h1N : 1 ≤ 2 ^ N := Nat.pow_pos (by decide)
  have L := lp_cg (body := b_X6_bestGraph_4 cell vals N R w (nI ms) 32) (fun (s : Int32 × (Nat → Int32)) (c : Int32) => (s.1, c, s.2)) (fun n s => s.1 = nI (tbS cell vals N R w ms n (n - 1)) ∧ ∀ k, 0 < k → k < n → s.2 k = nI (tbS cell vals N R w ms n k)) (n0 := 1) (n1 := 2 ^ N) h1N (by omega) ?_ ?_ (s0 := ((0 : Int32), f)) ⟨by show (0 : Int32) = nI (tbS cell vals N R w ms 1 0); rw [show tbS cell vals N R w ms 1 0 = (bgR cell vals N R w ms (tbS cell vals N R w ms 0) 0 N).getD 0 from rfl, bgR_0]; rfl, fun k h1 h2 => by omega⟩
  · obtain ⟨⟨s1, s2⟩, e, q1, -⟩ := L
    dsimp only at e q1
    rw [em_X6_bestGraph, show ((0 : Int32), (1 : Int32), f) = (0, nI 1, f) from rfl, e, q1]
    exact ⟨_, rfl⟩
  · rintro s -
    rw [eb_X6_bestGraph_4, tb_pow N (by omega), if_pos ((nle (by omega) (by omega)).mpr (Nat.le_refl _))]
  · rintro n ⟨s1, s2⟩ hn1 hn ⟨q1, q2⟩
    dsimp only at q1 q2 ⊢
    have tS : ∀ k, tbS cell vals N R w ms (n + 1) k = if k = n then (bgR cell vals N R w ms (tbS cell vals N R w ms n) n N).getD 0 else tbS cell vals N R w ms n k := fun _ => rfl
    have t0 : tbS cell vals N R w ms n 0 = 0 := by
      have : ∀ n, tbS cell vals N R w ms n 0 = 0 := by
        intro n
        induction n with
        | zero => rfl
        | succ n ih =>
          show (if 0 = n then (bgR cell vals N R w ms (tbS cell vals N R w ms n) n N).getD 0 else tbS cell vals N R w ms n 0) = 0
          split
          · rename_i e; rw [← e, bgR_0]; rfl
          · exact ih
      exact this n
    obtain ⟨z, ez⟩ := c_row h hms hn q2 (tbS_PG hN n (by omega)) t0
    obtain ⟨m, hm, hb⟩ := tb_some N (by omega) n hn (by omega)
    obtain ⟨x, hx⟩ := bgR_some (cell := cell) (vals := vals) (N := N) (R := R) (w := w) (ms := ms) (tab := tbS cell vals N R w ms n) N m hm hb
    rw [eb_X6_bestGraph_4, tb_pow N (by omega), if_neg (fun z => by have := (nle (by omega) (by omega)).mp z; omega), if_neg (show ¬ (32 : Int32) ≤ nI n from fun z => by have := (nle (a := 32) (by omega) (by omega)).mp z; omega), ez, hx]
    simp only [Option.bind_some]
    rw [c_keep (by omega) (by omega)]
    simp only [Option.bind_some, lt]
    rw [nI_1]
    have ex : tbS cell vals N R w ms (n + 1) n = x := by rw [tS, if_pos rfl, hx]; rfl
    refine ⟨(_, _), rfl, ?_, fun k hk1 hk2 => ?_⟩
    · show nI x = nI (tbS cell vals N R w ms (n + 1) n)
      rw [ex]
    · by_cases e : k = n
      · rw [e, ex]; exact pk_us
      · rw [tS, if_neg e]; exact (pk_un e).trans (q2 k hk1 (by omega))
end BT
