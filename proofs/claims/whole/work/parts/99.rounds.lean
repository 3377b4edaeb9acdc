/-! no way along arcs comes back: the reference's rounds and the class's order come to the same -/
def sbs (a b : Nat) : Prop := ∀ i, a.testBit i = true → b.testBit i = true
theorem sbs_iff {a b : Nat} : a &&& b = a ↔ sbs a b := by
  constructor
  · intro h i hi
    rw [← h, Nat.testBit_and] at hi
    simp only [Bool.and_eq_true] at hi
    exact hi.2
  · intro h
    apply Nat.eq_of_testBit_eq
    intro i
    rw [Nat.testBit_and]
    cases hi : a.testBit i with
    | false => rfl
    | true => rw [h i hi]; rfl
theorem sbs_or {a c : Nat} : sbs a (a ||| 2 ^ c) := fun i hi => by rw [Nat.testBit_or, hi]; rfl
theorem sbs.tr {a b c : Nat} (h : sbs a b) (h2 : sbs b c) : sbs a c := fun i hi => h2 i (h i hi)
theorem or_bit {S c i : Nat} : (S ||| 2 ^ c).testBit i = true ↔ S.testBit i = true ∨ i = c := by
  rw [Nat.testBit_or, Nat.testBit_two_pow]
  simp only [Bool.or_eq_true, decide_eq_true_eq]
  exact ⟨fun h => h.imp id (fun q => q.symm), fun h => h.imp id (fun q => q.symm)⟩
/-- how many names below n a set has -/
def cn (S : Nat) : Nat → Nat
  | 0 => 0
  | n + 1 => cn S n + (if S.testBit n = true then 1 else 0)
theorem cn_le (S n : Nat) : cn S n ≤ n := by
  induction n with
  | zero => exact Nat.le_refl 0
  | succ n ih => unfold cn; split <;> omega
theorem cn_mono {S T : Nat} (h : sbs S T) (n : Nat) : cn S n ≤ cn T n := by
  induction n with
  | zero => exact Nat.le_refl 0
  | succ n ih =>
    unfold cn
    by_cases h1 : S.testBit n = true
    · rw [if_pos h1, if_pos (h n h1)]; omega
    · rw [if_neg h1]; omega
theorem cn_lt {S T : Nat} (h : sbs S T) {c n : Nat} (hc : c < n) (h1 : ¬ S.testBit c = true) (h2 : T.testBit c = true) : cn S n < cn T n := by
  induction n with
  | zero => omega
  | succ n ih =>
    unfold cn
    by_cases hcn : c = n
    · subst hcn
      rw [if_neg h1, if_pos h2]
      have := cn_mono h c
      omega
    · have := ih (by omega)
      by_cases h3 : S.testBit n = true
      · rw [if_pos h3, if_pos (h n h3)]; omega
      · rw [if_neg h3]; omega
theorem cn_full {S n : Nat} : cn S n = n ↔ ∀ c, c < n → S.testBit c = true := by
  induction n with
  | zero => exact ⟨fun _ c hc => by omega, fun _ => rfl⟩
  | succ n ih =>
    have h0 := cn_le S n
    unfold cn
    constructor
    · intro h c hc
      by_cases h1 : S.testBit n = true
      · rw [if_pos h1] at h
        by_cases hcn : c = n
        · rw [hcn]; exact h1
        · exact ih.mp (by omega) c (by omega)
      · rw [if_neg h1] at h; omega
    · intro h
      rw [if_pos (h n (by omega)), ih.mpr (fun c hc => h c (by omega))]
theorem cn_add {S c n : Nat} (hc : c < n) (h : ¬ S.testBit c = true) : cn (S ||| 2 ^ c) n = cn S n + 1 := by
  induction n with
  | zero => omega
  | succ n ih =>
    unfold cn
    by_cases hcn : c = n
    · subst hcn
      rw [if_pos (or_bit.mpr (Or.inr rfl)), if_neg h]
      have : ∀ m, m ≤ c → cn (S ||| 2 ^ c) m = cn S m := by
        intro m
        induction m with
        | zero => intro _; rfl
        | succ m ihm =>
          intro hm
          unfold cn
          rw [ihm (by omega)]
          have : ((S ||| 2 ^ c).testBit m = true) ↔ S.testBit m = true := by
            rw [or_bit]
            exact ⟨fun q => q.elim id (fun e => by omega), Or.inl⟩
          by_cases hb : S.testBit m = true
          · rw [if_pos hb, if_pos (this.mpr hb)]
          · rw [if_neg hb, if_neg (fun q => hb (this.mp q))]
      rw [this c (Nat.le_refl c)]
    · rw [ih (by omega)]
      have : ((S ||| 2 ^ c).testBit n = true) ↔ S.testBit n = true := by
        rw [or_bit]
        exact ⟨fun q => q.elim id (fun e => by omega), Or.inl⟩
      by_cases hb : S.testBit n = true
      · rw [if_pos hb, if_pos (this.mpr hb)]
      · rw [if_neg hb, if_neg (fun q => hb (this.mp q))]
def closed (par : Nat → Nat) (N S : Nat) : Prop := ∀ c, c < N → sbs (par c) S → S.testBit c = true
def addc (par : Nat → Nat) (S c : Nat) : Nat := if par c &&& S = par c then S ||| 2 ^ c else S
/-- a round of the reference, and so many rounds -/
def rd (par : Nat → Nat) (S : Nat) : Nat → Nat
  | 0 => S
  | c + 1 => addc par (rd par S c) c
def rds (par : Nat → Nat) (N : Nat) : Nat → Nat
  | 0 => 0
  | k + 1 => rd par (rds par N k) N
theorem addc_sup (par : Nat → Nat) (S c : Nat) : sbs S (addc par S c) := by
  unfold addc
  split
  · exact sbs_or
  · exact fun _ h => h
theorem rd_sup (par : Nat → Nat) (S n : Nat) : sbs S (rd par S n) := by
  induction n with
  | zero => exact fun _ h => h
  | succ n ih => exact ih.tr (addc_sup par _ n)
theorem rd_in {par : Nat → Nat} {S c n : Nat} (hc : c < n) (h : sbs (par c) S) : (rd par S n).testBit c = true := by
  induction n with
  | zero => omega
  | succ n ih =>
    unfold rd
    by_cases hcn : c = n
    · subst hcn
      unfold addc
      rw [if_pos (sbs_iff.mpr (h.tr (rd_sup par S c)))]
      exact or_bit.mpr (Or.inr rfl)
    · exact addc_sup par _ n c (ih (by omega))
theorem rd_closed {par : Nat → Nat} {N S T : Nat} (hT : closed par N T) (hS : sbs S T) : ∀ n, n ≤ N → sbs (rd par S n) T := by
  intro n
  induction n with
  | zero => intro _; exact hS
  | succ n ih =>
    intro hn
    have h := ih (by omega)
    unfold rd addc
    split
    · rename_i hp
      intro i hi
      rcases or_bit.mp hi with q | q
      · exact h i q
      · rw [q]; exact hT n (by omega) ((sbs_iff.mp hp).tr h)
    · exact h
theorem rds_sub {par : Nat → Nat} {N T : Nat} (hT : closed par N T) : ∀ k, sbs (rds par N k) T := by
  intro k
  induction k with
  | zero => intro i hi; unfold rds at hi; rw [Nat.zero_testBit] at hi; cases hi
  | succ k ih => exact rd_closed hT ih N (Nat.le_refl N)
theorem rds_grow {par : Nat → Nat} {N : Nat} : ∀ k, closed par N (rds par N k) ∨ k ≤ cn (rds par N k) N := by
  intro k
  induction k with
  | zero => right; exact Nat.zero_le _
  | succ k ih =>
    by_cases hc : closed par N (rds par N k)
    · left
      have h1 := rd_closed hc (fun _ h => h) N (Nat.le_refl N)
      intro c hcN hp
      exact rd_sup par _ N c (hc c hcN (hp.tr h1))
    · right
      obtain ⟨c, hcN, hp, hn⟩ : ∃ c, c < N ∧ sbs (par c) (rds par N k) ∧ ¬ (rds par N k).testBit c = true := by
        refine Classical.byContradiction fun hne => hc fun c h1 h2 => ?_
        refine Classical.byContradiction fun h3 => hne ⟨c, h1, h2, h3⟩
      have := cn_lt (rd_sup par (rds par N k) N) hcN hn (rd_in hcN hp)
      rcases ih with q | q
      · exact absurd q hc
      · unfold rds; omega
theorem rds_closed (par : Nat → Nat) (N : Nat) : closed par N (rds par N N) := by
  rcases rds_grow (par := par) (N := N) N with h | h
  · exact h
  · have := cn_full.mp (Nat.le_antisymm (cn_le _ N) h)
    exact fun c hc _ => this c hc
/-- the class's order: the least name that did not come and all of whose parents came -/
def nxf (par : Nat → Nat) (S : Nat) : Nat → Nat → Option Nat
  | 0, _ => none
  | m + 1, c => if ¬ S.testBit c = true ∧ par c &&& S = par c then some c else nxf par S m (c + 1)
theorem nxf_some {par : Nat → Nat} {S r : Nat} : ∀ m c, nxf par S m c = some r → c ≤ r ∧ r < c + m ∧ ¬ S.testBit r = true ∧ sbs (par r) S := by
  intro m
  induction m with
  | zero => intro c h; cases h
  | succ m ih =>
    intro c h
    unfold nxf at h
    split at h
    · rename_i hc
      cases h
      exact ⟨Nat.le_refl _, by omega, hc.1, sbs_iff.mp hc.2⟩
    · obtain ⟨a, b, d⟩ := ih (c + 1) h
      exact ⟨by omega, by omega, d⟩
theorem nxf_none {par : Nat → Nat} {S : Nat} : ∀ m c, nxf par S m c = none → ∀ r, c ≤ r → r < c + m → sbs (par r) S → S.testBit r = true := by
  intro m
  induction m with
  | zero => intro c _ r h1 h2; omega
  | succ m ih =>
    intro c h r h1 h2 h3
    unfold nxf at h
    split at h
    · cases h
    · rename_i hc
      by_cases hr : r = c
      · subst hr
        exact Classical.byContradiction fun q => hc ⟨q, sbs_iff.mpr h3⟩
      · exact ih (c + 1) h r (by omega) (by omega) h3
def gro (par : Nat → Nat) (N : Nat) : Nat → Option Nat
  | 0 => some 0
  | k + 1 => (gro par N k).bind fun S => (nxf par S N 0).bind fun c => some (S ||| 2 ^ c)
theorem gro_ok {par : Nat → Nat} {N : Nat} : ∀ k S, gro par N k = some S → cn S N = k ∧ ∀ T, closed par N T → sbs S T := by
  intro k
  induction k with
  | zero =>
    intro S h
    cases h
    have h0 : ∀ n, cn 0 n = 0 := by
      intro n
      induction n with
      | zero => rfl
      | succ n ih => unfold cn; rw [ih, Nat.zero_testBit]; rfl
    exact ⟨h0 N, fun T _ i hi => by rw [Nat.zero_testBit] at hi; cases hi⟩
  | succ k ih =>
    intro S h
    unfold gro at h
    cases hS : gro par N k with
    | none => rw [hS] at h; cases h
    | some S0 =>
      rw [hS] at h
      simp only [Option.bind_some] at h
      cases hc : nxf par S0 N 0 with
      | none => rw [hc] at h; cases h
      | some c =>
        rw [hc] at h
        simp only [Option.bind_some] at h
        cases h
        obtain ⟨a, b⟩ := ih S0 hS
        obtain ⟨-, c2, c3, c4⟩ := nxf_some N 0 hc
        refine ⟨by rw [cn_add (by omega) c3, a], fun T hT i hi => ?_⟩
        rcases or_bit.mp hi with q | q
        · exact b T hT i q
        · rw [q]; exact hT c (by omega) (c4.tr (b T hT))
theorem rounds_iff (par : Nat → Nat) (N : Nat) : (∀ c, c < N → (rds par N N).testBit c = true) ↔ ∃ S, gro par N N = some S := by
  constructor
  · intro h
    have full : ∀ T, closed par N T → ∀ c, c < N → T.testBit c = true := fun T hT c hc => rds_sub hT N c (h c hc)
    have key : ∀ k, k ≤ N → ∃ S, gro par N k = some S := by
      intro k
      induction k with
      | zero => intro _; exact ⟨0, rfl⟩
      | succ k ih =>
        intro hk
        obtain ⟨S, hS⟩ := ih (by omega)
        obtain ⟨a, -⟩ := gro_ok k S hS
        cases hc : nxf par S N 0 with
        | none =>
          have hcl : closed par N S := fun c h1 h2 => nxf_none N 0 hc c (Nat.zero_le c) (by omega) h2
          have := cn_full.mpr (full S hcl)
          omega
        | some c =>
          exact ⟨S ||| 2 ^ c, by unfold gro; rw [hS]; simp only [Option.bind_some]; rw [hc]; rfl⟩
    exact key N (Nat.le_refl N)
  · rintro ⟨S, hS⟩ c hc
    obtain ⟨a, b⟩ := gro_ok N S hS
    exact b _ (rds_closed par N) c (cn_full.mp a c hc)
