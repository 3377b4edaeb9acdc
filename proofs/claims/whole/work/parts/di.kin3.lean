/-! kin: class and reference answer alike -/
theorem tb_arc : ∀ a, a < 5 → ∀ b, b < 5 → ∀ p, p < 5 → ∀ c, c < 5 → (5 * a + b = 5 * p + c ↔ a = p ∧ b = c) := by decide +kernel
theorem tb_pi : ∀ a, a < 5 → ∀ b, b < 5 → a < b → ∃ k, k < 10 ∧ pa k = a ∧ pb k = b := fun a ha b hb h => ⟨_, (tb_pp a ha b hb h).2.2, (tb_pp a ha b hb h).1, (tb_pp a ha b hb h).2.1⟩
theorem tb_pq : ∀ k, k < 10 → ∀ j, j < 10 → pa k = pa j → pb k = pb j → k = j := by decide +kernel
theorem pw_bit (x i : Nat) : (2 ^ x).testBit i = decide (x = i) := Nat.testBit_two_pow
/-- the arcs of a direction -/
theorem drN_bit {g way : Nat} : ∀ n, n ≤ 10 → ∀ p c, p < 5 → c < 5 → ((drN g way n).testBit (5 * p + c) = true ↔ ∃ k, k < n ∧ tcB g (pa k) (pb k) = true ∧ ((way / 2 ^ cnN g k % 2 = 0 ∧ pa k = p ∧ pb k = c) ∨ (way / 2 ^ cnN g k % 2 ≠ 0 ∧ pb k = p ∧ pa k = c))) := by
  intro n
  induction n with
  | zero => intro _ p c _ _; show (0 : Nat).testBit _ = true ↔ _; rw [Nat.zero_testBit]; exact ⟨fun h => absurd h (by decide), fun ⟨k, h, _⟩ => by omega⟩
  | succ n ih =>
    intro hn p c hp hc
    obtain ⟨p1, p2, p3⟩ := tb_pk n (by omega)
    show (drN g way n ||| (if tcB g (pa n) (pb n) = true then arN (way / 2 ^ cnN g n % 2) (pa n) (pb n) else 0)).testBit (5 * p + c) = true ↔ _
    rw [Nat.testBit_or, Bool.or_eq_true, ih (by omega) p c hp hc]
    have e : ((if tcB g (pa n) (pb n) = true then arN (way / 2 ^ cnN g n % 2) (pa n) (pb n) else 0).testBit (5 * p + c) = true) ↔ (tcB g (pa n) (pb n) = true ∧ ((way / 2 ^ cnN g n % 2 = 0 ∧ pa n = p ∧ pb n = c) ∨ (way / 2 ^ cnN g n % 2 ≠ 0 ∧ pb n = p ∧ pa n = c))) := by
      by_cases ht : tcB g (pa n) (pb n) = true
      · rw [if_pos ht]
        unfold arN
        by_cases hz : way / 2 ^ cnN g n % 2 = 0
        · rw [if_pos hz, pw_bit, decide_eq_true_eq, tb_arc _ p3 _ p2 _ hp _ hc]
          exact ⟨fun h => ⟨ht, Or.inl ⟨hz, h⟩⟩, fun h => h.2.elim (fun q => q.2) (fun q => absurd hz q.1)⟩
        · rw [if_neg hz, pw_bit, decide_eq_true_eq, tb_arc _ p2 _ p3 _ hp _ hc]
          exact ⟨fun h => ⟨ht, Or.inr ⟨hz, h⟩⟩, fun h => h.2.elim (fun q => absurd q.1 hz) (fun q => q.2)⟩
      · rw [if_neg ht, Nat.zero_testBit]
        exact ⟨fun h => absurd h (by decide), fun h => absurd h.1 ht⟩
    rw [e]
    constructor
    · rintro (⟨k, h1, h2⟩ | h)
      · exact ⟨k, by omega, h2⟩
      · exact ⟨n, by omega, h⟩
    · rintro ⟨k, h1, h2⟩
      by_cases hk : k = n
      · subst hk; exact Or.inr h2
      · exact Or.inl ⟨k, by omega, h2⟩
theorem drN_lt {g way : Nat} : ∀ n, n ≤ 10 → drN g way n < 2 ^ 25 := by
  intro n
  induction n with
  | zero => intro _; exact Nat.pow_pos (by decide)
  | succ n ih =>
    intro hn
    obtain ⟨p1, p2, p3⟩ := tb_pk n (by omega)
    refine Nat.or_lt_two_pow (ih (by omega)) ?_
    split
    · unfold arN
      split
      · exact Nat.pow_lt_pow_right (by decide) (by omega)
      · exact Nat.pow_lt_pow_right (by decide) (by omega)
    · exact Nat.pow_pos (by decide)
theorem dr_tc {g way k : Nat} (hk : k < 10) : tcB (drN g way 10) (pa k) (pb k) = tcB g (pa k) (pb k) := by
  obtain ⟨p1, p2, p3⟩ := tb_pk k hk
  have h1 := drN_bit (g := g) (way := way) 10 (Nat.le_refl _) (pa k) (pb k) p3 p2
  have h2 := drN_bit (g := g) (way := way) 10 (Nat.le_refl _) (pb k) (pa k) p2 p3
  rw [Bool.eq_iff_iff]
  show (hsB (drN g way 10) (pa k) (pb k) || hsB (drN g way 10) (pb k) (pa k)) = true ↔ _
  unfold hsB
  rw [Bool.or_eq_true, h1, h2]
  constructor
  · rintro (⟨j, hj, ht, ⟨_, q1, q2⟩ | ⟨_, q1, q2⟩⟩ | ⟨j, hj, ht, ⟨_, q1, q2⟩ | ⟨_, q1, q2⟩⟩)
    · rw [q1, q2] at ht; exact ht
    · have := tb_pk j hj; omega
    · have := tb_pk j hj; omega
    · rw [q1, q2] at ht; exact ht
  · intro ht
    by_cases hz : way / 2 ^ cnN g k % 2 = 0
    · exact Or.inl ⟨k, hk, ht, Or.inl ⟨hz, rfl, rfl⟩⟩
    · exact Or.inr ⟨k, hk, ht, Or.inr ⟨hz, rfl, rfl⟩⟩
theorem tb_alF : ∀ N, N < 6 → ∀ p, p < 5 → ∀ c, c < 5 → ((alF N N).testBit (5 * p + c) = true ↔ p < N ∧ c < N ∧ p ≠ c) := by decide +kernel
theorem okA_sbs {N g : Nat} (hN : N ≤ 5) : (g < 2 ^ 25 ∧ okA N g) ↔ sbs g (alF N N) := by
  rw [sbs_parts (tb_mk N (by omega) 0 (by omega)).2]
  unfold okA
  constructor
  · rintro ⟨h1, h2⟩
    refine ⟨h1, fun p hp => ?_⟩
    rw [(tb_mk N (by omega) p hp).1]
    exact h2 p hp
  · rintro ⟨h1, h2⟩
    refine ⟨h1, fun p hp => ?_⟩
    have := h2 p hp
    rw [(tb_mk N (by omega) p hp).1] at this
    exact this
theorem okA_bit {N g : Nat} (hN : N ≤ 5) : (g < 2 ^ 25 ∧ okA N g) ↔ g < 2 ^ 25 ∧ ∀ p c, p < 5 → c < 5 → hsB g p c = true → p < N ∧ c < N ∧ p ≠ c := by
  constructor
  · intro h
    refine ⟨h.1, fun p c hp hc hb => ?_⟩
    exact (tb_alF N (by omega) p hp c hc).mp ((okA_sbs hN).mp h _ hb)
  · rintro ⟨h1, h2⟩
    refine (okA_sbs hN).mpr fun i hi => ?_
    have hi25 : i < 25 := by
      rcases Nat.lt_or_ge i 25 with q | q
      · exact q
      · have hlt : g < 2 ^ i := Nat.lt_of_lt_of_le h1 (Nat.pow_le_pow_right (by decide) q)
        rw [Nat.testBit_lt_two_pow hlt] at hi; cases hi
    have ei : 5 * (i / 5) + i % 5 = i := by omega
    have := h2 (i / 5) (i % 5) (by omega) (by omega) (by unfold hsB; rw [ei]; exact hi)
    rw [← ei]
    exact (tb_alF N (by omega) _ (by omega) _ (by omega)).mpr this
theorem dr_ok {N g way : Nat} (hN : N ≤ 5) (h : g < 2 ^ 25 ∧ okA N g) : drN g way 10 < 2 ^ 25 ∧ okA N (drN g way 10) := by
  have hb := ((okA_bit hN).mp h).2
  refine (okA_bit hN).mpr ⟨drN_lt 10 (Nat.le_refl _), fun p c hp hc hd => ?_⟩
  obtain ⟨k, hk, ht, hor⟩ := (drN_bit 10 (Nat.le_refl _) p c hp hc).mp hd
  obtain ⟨p1, p2, p3⟩ := tb_pk k hk
  have hs : (pa k < N ∧ pb k < N ∧ pa k ≠ pb k) := by
    unfold tcB at ht
    rw [Bool.or_eq_true] at ht
    rcases ht with q | q
    · exact hb _ _ p3 p2 q
    · have := hb _ _ p2 p3 q; exact ⟨this.2.1, this.1, fun z => this.2.2 z.symm⟩
  rcases hor with ⟨_, q1, q2⟩ | ⟨_, q1, q2⟩
  · rw [← q1, ← q2]; exact hs
  · rw [← q1, ← q2]; exact ⟨hs.2.1, hs.1, fun z => hs.2.2 z.symm⟩
/-- a graph has no two arcs between two names -/
theorem no_two {N g : Nat} (hN : N ≤ 5) (hg : (gro (fun c => parN g c 5) N N).isSome = true) {a b : Nat} (ha : a < N) (hb : b < N) (h1 : hsB g a b = true) (h2 : hsB g b a = true) : False := by
  obtain ⟨S, hS⟩ := Option.isSome_iff_exists.mp hg
  obtain ⟨c1, c2⟩ := gro_ok N S hS
  have hfull := cn_full.mp c1
  let T := (31 : Nat) &&& (31 - 2 ^ a) &&& (31 - 2 ^ b)
  have tb : ∀ a, a < 5 → ∀ b, b < 5 → ∀ c, c < 5 → (((31 : Nat) &&& (31 - 2 ^ a) &&& (31 - 2 ^ b)).testBit c = true ↔ c ≠ a ∧ c ≠ b) := by decide +kernel
  have hcl : closed (fun c => parN g c 5) N T := by
    intro c hc hs
    refine (tb a (by omega) b (by omega) c (by omega)).mpr ⟨fun z => ?_, fun z => ?_⟩
    · subst z
      have hbit : (parN g c 5).testBit b = true := tbt.mpr (by rw [parN_bit g c 5 b (by omega)]; exact tbt.mp h2)
      exact ((tb c (by omega) b (by omega) b (by omega)).mp (hs b hbit)).2 rfl
    · subst z
      have hbit : (parN g c 5).testBit a = true := tbt.mpr (by rw [parN_bit g c 5 a (by omega)]; exact tbt.mp h1)
      exact ((tb a (by omega) c (by omega) a (by omega)).mp (hs a hbit)).1 rfl
  have := c2 T hcl a (hfull a ha)
  exact ((tb a (by omega) b (by omega) a (by omega)).mp this).1 rfl
/-- the way that gives the graph itself -/
def wyN (g : Nat) : Nat → Nat
  | 0 => 0
  | k + 1 => wyN g k + (if tcB g (pa k) (pb k) = true then (if hsB g (pa k) (pb k) = true then 0 else 2 ^ cnN g k) else 0)
theorem wyN_lt {g : Nat} : ∀ n, wyN g n < 2 ^ cnN g n := by
  intro n
  induction n with
  | zero => exact Nat.one_pos
  | succ n ih =>
    show wyN g n + (if tcB g (pa n) (pb n) = true then (if hsB g (pa n) (pb n) = true then 0 else 2 ^ cnN g n) else 0) < 2 ^ (cnN g n + (if tcB g (pa n) (pb n) = true then 1 else 0))
    split
    · rw [Nat.pow_succ]
      split <;> omega
    · rw [Nat.add_zero, Nat.add_zero]; exact ih
theorem wyN_bit {g : Nat} : ∀ n k, k < n → tcB g (pa k) (pb k) = true → (wyN g n / 2 ^ cnN g k % 2 = 0 ↔ hsB g (pa k) (pb k) = true) := by
  intro n
  induction n with
  | zero => intro k h; omega
  | succ n ih =>
    intro k hk ht
    by_cases e : k = n
    · subst e
      have hl := wyN_lt (g := g) k
      rw [show wyN g (k + 1) = wyN g k + (if tcB g (pa k) (pb k) = true then (if hsB g (pa k) (pb k) = true then 0 else 2 ^ cnN g k) else 0) from rfl, if_pos ht]
      by_cases hh : hsB g (pa k) (pb k) = true
      · rw [if_pos hh, Nat.add_zero, Nat.div_eq_of_lt hl]
        exact ⟨fun _ => hh, fun _ => rfl⟩
      · rw [if_neg hh, Nat.add_div_right _ (Nat.pow_pos (by decide)), Nat.div_eq_of_lt hl]
        exact ⟨fun z => absurd z (by decide), fun z => absurd z hh⟩
    · rw [← ih k (by omega) ht]
      have hlt := cnN_lt (g := g) (show k < n by omega) ht
      rw [show wyN g (n + 1) = wyN g n + (if tcB g (pa n) (pb n) = true then (if hsB g (pa n) (pb n) = true then 0 else 2 ^ cnN g n) else 0) from rfl]
      split
      · split
        · rw [Nat.add_zero]
        · rw [show cnN g n = cnN g k + ((cnN g n - cnN g k - 1) + 1) by omega, Nat.pow_add, Nat.pow_succ, show 2 ^ cnN g k * (2 ^ (cnN g n - cnN g k - 1) * 2) = 2 ^ cnN g k * (2 * 2 ^ (cnN g n - cnN g k - 1)) by ac_rfl, Nat.add_mul_div_left _ _ (Nat.pow_pos (by decide)), Nat.add_mul_mod_self_left]
      · rw [Nat.add_zero]
theorem wy_self {N g : Nat} (hN : N ≤ 5) (h : g < 2 ^ 25 ∧ okA N g) (hr : (gro (fun c => parN g c 5) N N).isSome = true) : drN g (wyN g 10) 10 = g := by
  have hb := ((okA_bit hN).mp h).2
  refine Nat.eq_of_testBit_eq fun i => ?_
  rcases Nat.lt_or_ge i 25 with q | q
  · have ei : 5 * (i / 5) + i % 5 = i := by omega
    rw [Bool.eq_iff_iff, ← ei, drN_bit 10 (Nat.le_refl _) (i / 5) (i % 5) (by omega) (by omega)]
    generalize hp : i / 5 = p
    generalize hc : i % 5 = c
    have hp5 : p < 5 := by omega
    have hc5 : c < 5 := by omega
    show _ ↔ hsB g p c = true
    constructor
    · rintro ⟨k, hk, ht, ⟨hz, q1, q2⟩ | ⟨hz, q1, q2⟩⟩
      · rw [← q1, ← q2]; exact (wyN_bit 10 k hk ht).mp hz
      · have h1 : ¬ hsB g (pa k) (pb k) = true := fun z => hz ((wyN_bit 10 k hk ht).mpr z)
        unfold tcB at ht
        rw [Bool.or_eq_true] at ht
        rw [← q1, ← q2]
        exact ht.resolve_left h1
    · intro hh
      obtain ⟨b1, b2, b3⟩ := hb p c hp5 hc5 hh
      rcases Nat.lt_or_gt_of_ne b3 with hlt | hgt
      · obtain ⟨k, hk, k1, k2⟩ := tb_pi p hp5 c hc5 hlt
        have ht : tcB g (pa k) (pb k) = true := by unfold tcB; rw [k1, k2, hh]; rfl
        exact ⟨k, hk, ht, Or.inl ⟨(wyN_bit 10 k hk ht).mpr (by rw [k1, k2]; exact hh), k1, k2⟩⟩
      · obtain ⟨k, hk, k1, k2⟩ := tb_pi c hc5 p hp5 hgt
        have ht : tcB g (pa k) (pb k) = true := by unfold tcB; rw [k1, k2, hh, Bool.or_true]
        refine ⟨k, hk, ht, Or.inr ⟨fun z => ?_, k2, k1⟩⟩
        have := (wyN_bit 10 k hk ht).mp z
        rw [k1, k2] at this
        exact no_two hN hr b2 b1 this hh
  · rw [Nat.testBit_lt_two_pow (Nat.lt_of_lt_of_le h.1 (Nat.pow_le_pow_right (by decide) q)), Nat.testBit_lt_two_pow (Nat.lt_of_lt_of_le (drN_lt 10 (Nat.le_refl _)) (Nat.pow_le_pow_right (by decide) q))]
