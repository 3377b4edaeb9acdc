/-! Powers: exponents of primes; the number above and the number below -/
def ppw (e : Nat → Int) : Nat → Nat
  | 0 => 1
  | n + 1 => ppw e n * n ^ (e n).toNat
def ngv (e : Nat → Int) : Nat → Int := fun k => - e k
def adE (e : Nat → Int) (p : Nat) (s : Int) : Nat → Int := fun k => if k = p then e k + s else e k
def prm (p : Nat) : Prop := 2 ≤ p ∧ ∀ d, d ∣ p → d = 1 ∨ d = p
theorem prm_co {p q : Nat} (hp : prm p) (hq : prm q) (h : p ≠ q) : Nat.Coprime p q := by
  have h1 := hp.2 _ (Nat.gcd_dvd_left p q)
  have h2 := hq.2 _ (Nat.gcd_dvd_right p q)
  rcases h1 with h1 | h1
  · exact h1
  · rcases h2 with h2 | h2
    · exact h2
    · exact absurd (h1.symm.trans h2) h
theorem ppw_congr {e e' : Nat → Int} {n : Nat} (h : ∀ k, k < n → e k = e' k) : ppw e n = ppw e' n := by
  induction n with
  | zero => rfl
  | succ n ih => rw [ppw, ppw, ih (fun k hk => h k (by omega)), h n (by omega)]
theorem ppw_pos {e : Nat → Int} (h : ∀ k, e k ≠ 0 → 2 ≤ k) : ∀ n, 0 < ppw e n := by
  intro n
  induction n with
  | zero => exact Nat.one_pos
  | succ n ih =>
    rw [ppw]
    refine Nat.mul_pos ih ?_
    by_cases hn : e n = 0
    · rw [hn]; exact Nat.one_pos
    · exact Nat.pow_pos (by have := h n hn; omega)
theorem tn_id (x : Int) (p : Nat) : p ^ (x + 1).toNat * p ^ (-x).toNat = p * (p ^ x.toNat * p ^ (-(x + 1)).toNat) := by
  by_cases h : x < 0
  · obtain ⟨m, hm⟩ : ∃ m : Nat, x = -((m : Int) + 1) := ⟨(-x - 1).toNat, by omega⟩
    subst hm
    rw [show (-((m : Int) + 1) + 1).toNat = 0 by omega, show (- -((m : Int) + 1)).toNat = m + 1 by omega, show (-((m : Int) + 1)).toNat = 0 by omega, show (-(-((m : Int) + 1) + 1)).toNat = m by omega, Nat.pow_zero, Nat.one_mul, Nat.one_mul, Nat.pow_succ, Nat.mul_comm]
  · obtain ⟨m, hm⟩ : ∃ m : Nat, x = (m : Int) := ⟨x.toNat, by omega⟩
    subst hm
    rw [show ((m : Int) + 1).toNat = m + 1 by omega, show (-(m : Int)).toNat = 0 by omega, show ((m : Int)).toNat = m by omega, show (-((m : Int) + 1)).toNat = 0 by omega, Nat.pow_zero, Nat.mul_one, Nat.mul_one, Nat.pow_succ, Nat.mul_comm]
/-- e' is e and n besides -/
def Rat (M : Nat) (e e' : Nat → Int) (n : Nat) : Prop := ppw e' M * ppw (ngv e) M = n * (ppw e M * ppw (ngv e') M)
theorem rat_step {e : Nat → Int} {p M : Nat} (h : p < M) : Rat M e (adE e p 1) p := by
  unfold Rat
  induction M with
  | zero => omega
  | succ n ih =>
    rw [ppw, ppw, ppw, ppw]
    by_cases hp : p = n
    · subst hp
      rw [ppw_congr (e := adE e p 1) (e' := e) (fun k hk => by unfold adE; rw [if_neg (by omega)]), ppw_congr (e := ngv (adE e p 1)) (e' := ngv e) (fun k hk => by unfold ngv adE; rw [if_neg (by omega)])]
      have hid := tn_id (e p) p
      have a1 : adE e p 1 p = e p + 1 := by unfold adE; rw [if_pos rfl]
      have a2 : ngv (adE e p 1) p = -(e p + 1) := by unfold ngv; rw [a1]
      have a3 : ngv e p = - e p := rfl
      rw [a1, a2, a3]
      rw [Nat.mul_mul_mul_comm, hid]
      ac_rfl
    · have h1 := ih (by omega)
      have a1 : adE e p 1 n = e n := by unfold adE; rw [if_neg (by omega)]
      have a2 : ngv (adE e p 1) n = - e n := by unfold ngv; rw [a1]
      have a3 : ngv e n = - e n := rfl
      rw [a1, a2, a3, Nat.mul_mul_mul_comm, h1, Nat.mul_mul_mul_comm (ppw e n), Nat.mul_assoc]
theorem rat_one {M : Nat} {e : Nat → Int} : Rat M e e 1 := by unfold Rat; rw [Nat.one_mul]
def two (e : Nat → Int) : Prop := ∀ k, e k ≠ 0 → 2 ≤ k
theorem two_ng {e : Nat → Int} (h : two e) : two (ngv e) := fun k hk => h k (fun z => hk (by unfold ngv; rw [z]; rfl))
theorem rat_comp {M : Nat} {e e1 e2 : Nat → Int} {a b : Nat} (h1 : Rat M e e1 a) (h2 : Rat M e1 e2 b) (t1 : two e1) : Rat M e e2 (a * b) := by
  unfold Rat at *
  have p1 := ppw_pos t1 M
  have p2 := ppw_pos (two_ng t1) M
  apply Nat.eq_of_mul_eq_mul_left (Nat.mul_pos p1 p2)
  have e0 : ppw e1 M * ppw (ngv e1) M * (ppw e2 M * ppw (ngv e) M) = (ppw e1 M * ppw (ngv e) M) * (ppw e2 M * ppw (ngv e1) M) := by ac_rfl
  rw [e0, h1, h2]
  ac_rfl
theorem ad_sub (e : Nat → Int) (p : Nat) : adE (adE e p (-1)) p 1 = e := by
  funext k
  unfold adE
  split
  · omega
  · rfl
/-- one more, or one fewer, of a prime -/
def RatS (σ : Bool) (e e' : Nat → Int) (n : Nat) : Prop := match σ with
  | true => Rat 3673 e e' n
  | false => Rat 3673 e' e n
def sg (σ : Bool) : Int := if σ = true then 1 else -1
theorem rats_step {σ : Bool} {e : Nat → Int} {p : Nat} (h : p < 3673) : RatS σ e (adE e p (sg σ)) p := by
  cases σ with
  | true => exact rat_step h
  | false =>
    show Rat 3673 (adE e p (-1)) e p
    have := rat_step (e := adE e p (-1)) h
    rw [ad_sub] at this
    exact this
theorem rats_comp {σ : Bool} {e e1 e2 : Nat → Int} {a b : Nat} (h1 : RatS σ e e1 a) (h2 : RatS σ e1 e2 b) (t1 : two e1) : RatS σ e e2 (a * b) := by
  cases σ with
  | true => exact rat_comp h1 h2 t1
  | false =>
    have := rat_comp (show Rat 3673 e2 e1 b from h2) (show Rat 3673 e1 e a from h1) t1
    rw [Nat.mul_comm] at this
    exact this
theorem rats_one {σ : Bool} {e : Nat → Int} : RatS σ e e 1 := by
  cases σ <;> exact rat_one
/-- what the machine keeps of exponents -/
def PE (e : Nat → Int) (f : Nat → Int32) (lg : Nat) : Prop := lg ≤ 3672 ∧ (∀ k, k ≤ 3672 → f k = Int32.ofInt (e k)) ∧ ∀ k, e k ≠ 0 → prm k ∧ k ≤ lg
theorem PE.two {e : Nat → Int} {f : Nat → Int32} {lg : Nat} (h : PE e f lg) : two e := fun k hk => (h.2.2 k hk).1.1
theorem PE_step {σ : Bool} {e : Nat → Int} {f : Nat → Int32} {lg p : Nat} (h : PE e f lg) (hp : prm p) (hl : p ≤ 3672) : PE (adE e p (sg σ)) (upd f p (f p + Int32.ofInt (sg σ))) (max lg p) := by
  obtain ⟨h1, h2, h3⟩ := h
  refine ⟨by omega, fun k hk => ?_, fun k hk => ?_⟩
  · unfold upd adE
    by_cases e0 : k = p
    · rw [if_pos e0, if_pos e0, h2 p hl, e0, Int32.ofInt_add]
    · rw [if_neg e0, if_neg e0]
      exact h2 k hk
  · unfold adE at hk
    by_cases e0 : k = p
    · rw [e0]
      exact ⟨hp, by omega⟩
    · rw [if_neg e0] at hk
      have := h3 k hk
      exact ⟨this.1, by omega⟩
theorem nI_divp {a p : Nat} (ha : a ≤ 100000) (hp : 0 < p) (hp2 : p ≤ 100000) : nI a / nI p = nI (a / p) := by
  apply Int32.toInt_inj.mp
  have h1 : a / p ≤ a := Nat.div_le_self _ _
  rw [Int32.toInt_div, nI_toInt (by omega), nI_toInt (by omega), nI_toInt (by omega), Int.tdiv_eq_ediv_of_nonneg (by omega)]
  rw [← Int.natCast_ediv]
  generalize a / p = q at h1
  rw [Int.bmod_eq_of_le (by omega) (by omega)]
theorem nI_mulm (a b : Nat) : nI a * nI b = nI (a * b) := (Int32.ofNat_mul a b).symm
theorem nI_subm {a b : Nat} (h : b ≤ a) : nI a - nI b = nI (a - b) := by
  rw [show a = (a - b) + b by omega, ← nI_add, Nat.add_sub_cancel]
  exact Int32.add_sub_cancel _ _
theorem nI_rem {a p : Nat} (ha : a ≤ 100000) (hp : 0 < p) (hp2 : p ≤ 100000) : nI a - nI a / nI p * nI p = nI (a % p) := by
  rw [nI_divp ha hp hp2, nI_mulm, nI_subm (Nat.div_mul_le_self a p)]
  congr 1
  have := Nat.div_add_mod' a p
  omega
