/-! Powers.multiply -/
theorem tb_pr : ∀ j, j < 17 → 2 ≤ primeAt j ∧ primeAt j ≤ 59 := by decide +kernel
theorem tb_dv : ∀ a, a < 61 → 2 ≤ a → ∃ j, j < 17 ∧ primeAt j ∣ a ∧ primeAt j ≤ a := by
  have h : ∀ a, a < 61 → 2 ≤ a → (List.range 17).any (fun j => decide (primeAt j ∣ a ∧ primeAt j ≤ a)) = true := by decide +kernel
  intro a h1 h2
  obtain ⟨j, hj, hd⟩ := List.any_eq_true.mp (h a h1 h2)
  exact ⟨j, List.mem_range.mp hj, (of_decide_eq_true hd).1, (of_decide_eq_true hd).2⟩
theorem tb_prm : ∀ j, j < 17 → ∀ d, d < 60 → d ∣ primeAt j → d = 1 ∨ d = primeAt j := by decide +kernel
theorem pr_prm {j : Nat} (h : j < 17) : prm (primeAt j) := by
  refine ⟨(tb_pr j h).1, fun d hd => tb_prm j h d ?_ hd⟩
  have := Nat.le_of_dvd (by have := (tb_pr j h).1; omega) hd
  have := (tb_pr j h).2
  omega
theorem tb_mono : ∀ i, i < 17 → ∀ j, j < 17 → primeAt i < primeAt j → i < j := by decide +kernel
theorem prm_of {r j : Nat} (hr : 2 ≤ r) (hr2 : r ≤ 3672) (h1 : ∀ i, i < j → i < 17 → ¬ primeAt i ∣ r) (h2 : j = 17 ∨ (j < 17 ∧ r < primeAt j * primeAt j)) : prm r := by
  refine ⟨hr, fun d hd => ?_⟩
  have hd0 : 1 ≤ d := Nat.one_le_iff_ne_zero.mpr (fun z => by rw [z] at hd; have := Nat.eq_zero_of_zero_dvd hd; omega)
  rcases Nat.eq_or_lt_of_le hd0 with q | q
  · exact Or.inl q.symm
  · right
    obtain ⟨b, hb⟩ := hd
    by_cases hb1 : b = 1
    · rw [hb, hb1, Nat.mul_one]
    · exfalso
      have hb0 : 2 ≤ b := by
        rcases Nat.lt_or_ge b 2 with z | z
        · have : b = 0 := by omega
          rw [this] at hb; omega
        · exact z
      have key : ∀ a c, 2 ≤ a → r = a * c → a ≤ c → False := by
        intro a c ha hac hle
        have hsq : a * a ≤ r := by rw [hac]; exact Nat.mul_le_mul_left a hle
        have ha61 : a < 61 := by
          rcases Nat.lt_or_ge a 61 with z | z
          · exact z
          · have : 61 * 61 ≤ a * a := Nat.mul_le_mul z z
            omega
        obtain ⟨i, hi, hdv, hle2⟩ := tb_dv a ha61 ha
        have hij : i < j := by
          rcases h2 with h2 | ⟨h2, h3⟩
          · omega
          · apply tb_mono i hi j h2
            rcases Nat.lt_or_ge (primeAt i) (primeAt j) with z | z
            · exact z
            · have : primeAt j * primeAt j ≤ a * a := Nat.mul_le_mul (by omega) (by omega)
              omega
        exact h1 i hij hi (Nat.dvd_trans hdv ⟨c, hac⟩)
      rcases Nat.le_total d b with z | z
      · exact key d b q hb z
      · exact key b d hb0 (by rw [hb, Nat.mul_comm]) z
theorem ifmax {α : Type} {l p : Nat} (F : Int32 → α) (hl : l ≤ 100000) (hp : p ≤ 100000) : (if nI p ≤ nI l then F (nI l) else F (nI p)) = F (nI (max l p)) := by
  by_cases h : p ≤ l
  · rw [if_pos ((nle hp hl).mpr h), Nat.max_eq_left h]
  · rw [if_neg (fun q => h ((nle hp hl).mp q)), Nat.max_eq_right (by omega)]
section PM
variable {σ : Bool} {e0 : Nat → Int} {num : Nat}
/-- what holds between: the part that was taken, and the rest -/
def PI (σ : Bool) (e0 : Nat → Int) (num rest : Nat) (lg : Int32) (f : Nat → Int32) : Prop := ∃ e l c, lg = nI l ∧ PE e f l ∧ RatS σ e0 e c ∧ c * rest = num ∧ 1 ≤ rest
theorem PI_le {rest : Nat} {lg : Int32} {f : Nat → Int32} (hn0 : 1 ≤ num) (h : PI σ e0 num rest lg f) : rest ≤ num := by
  obtain ⟨e, l, c, -, -, -, hc, h1⟩ := h
  exact Nat.le_of_dvd hn0 ⟨c, by rw [← hc, Nat.mul_comm]⟩
theorem t_mul_in {p rest : Nat} {lg : Int32} {f : Nat → Int32} (hn0 : 1 ≤ num) (hn : num ≤ 3672) (hp : prm p) (hp2 : p ≤ 59) (h : PI σ e0 num rest lg f) :
    ∃ q r, lp (b_X5_multiply_68 3673 (Int32.ofInt (sg σ)) (nI p)) FU (nI rest, 0, lg, f) = some q ∧ q.1 = nI r ∧ PI σ e0 num r q.2.2.1 q.2.2.2 ∧ ¬ p ∣ r ∧ r ∣ rest := by
  have hr0 := PI_le hn0 h
  have hp1 := hp.1
  have L := lp_inv (body := b_X5_multiply_68 3673 (Int32.ofInt (sg σ)) (nI p)) (fun s => ∃ r k, s.1 = nI r ∧ s.2.1 = nI k ∧ PI σ e0 num r s.2.2.1 s.2.2.2 ∧ r ∣ rest ∧ r * 2 ^ k ≤ 3672) (fun s => ∃ r, s.1 = nI r ∧ PI σ e0 num r s.2.2.1 s.2.2.2 ∧ ¬ p ∣ r ∧ r ∣ rest) (fun s => u3 s.1) ?_ FU (nI rest, 0, lg, f) ⟨rest, 0, rfl, rfl, h, Nat.dvd_refl _, by omega⟩ (by rw [u3n (by omega)]; exact FU_big (by omega))
  · obtain ⟨q, eq, r, h1, h2, h3, h4⟩ := L
    exact ⟨q, r, eq, h1, h2, h3, h4⟩
  · rintro ⟨s1, s2, s3, s4⟩ ⟨r, k, h1, h2, hI, hdv, hcap⟩
    simp only at h1 h2 hI
    subst h1
    subst h2
    have hrn := PI_le hn0 hI
    obtain ⟨e, l, c, hl, hPE, hR, hc, hr1⟩ := hI
    have hk : k < 12 := by
      have : 2 ^ k ≤ r * 2 ^ k := Nat.le_mul_of_pos_left _ hr1
      have h3 : 2 ^ k < 2 ^ 12 := by omega
      exact (Nat.pow_lt_pow_iff_right (by decide)).mp h3
    rw [eb_X5_multiply_68, show (32 : Int32) = nI 32 from rfl, if_neg (fun z => by have := (nle (by omega) (by omega)).mp z; omega), if_neg (nI_ne0 (by omega) (by omega)), nI_rem (by omega) (by omega) (by omega)]
    by_cases hm : r % p = 0
    · left
      rw [hm, if_pos nI_0, if_neg (nI_ne0 (by omega) (by omega)), nI_divp (by omega) (by omega) (by omega)]
      simp only [lt]
      rw [if_pos (ixn (by omega) (by omega)), if_pos (ixn (by omega) (by omega)), cl (by omega), nI_1]
      have hl2 := hPE.1
      subst hl
      have hrp : p * (r / p) = r := by have := Nat.div_add_mod r p; omega
      have hd1 : 1 ≤ r / p := by
        rcases Nat.eq_zero_or_pos (r / p) with z | z
        · rw [z] at hrp; omega
        · exact z
      have hdl : r / p < r := Nat.div_lt_self (by omega) (by omega)
      refine ⟨(nI (r / p), nI (k + 1), nI (max l p), upd s4 p (s4 p + Int32.ofInt (sg σ))), ifmax (fun y : Int32 => some (Sum.inl (nI (r / p), nI (k + 1), y, upd s4 p (s4 p + Int32.ofInt (sg σ))))) (by omega) (by omega), ⟨r / p, k + 1, rfl, rfl, ⟨_, _, c * p, rfl, PE_step hPE hp (by omega), rats_comp hR (rats_step (by omega)) hPE.two, by rw [Nat.mul_assoc, hrp]; exact hc, hd1⟩, Nat.dvd_trans ⟨p, by rw [Nat.mul_comm]; exact hrp.symm⟩ hdv, ?_⟩, ?_⟩
      · have : 2 * (r / p) ≤ p * (r / p) := Nat.mul_le_mul_right _ hp1
        rw [Nat.pow_succ, ← Nat.mul_assoc, Nat.mul_comm, ← Nat.mul_assoc]
        refine Nat.le_trans (Nat.mul_le_mul_right _ ?_) hcap
        omega
      · show u3 (nI (r / p)) < u3 (nI r)
        rw [u3n (by omega), u3n (by omega)]
        exact hdl
    · right
      have hlt : r % p < p := Nat.mod_lt _ (by omega)
      rw [if_neg (nI_ne0 (by omega) (by omega))]
      refine ⟨_, rfl, r, rfl, ⟨e, l, c, hl, hPE, hR, hc, hr1⟩, fun z => hm (Nat.mod_eq_zero_of_dvd z), hdv⟩
theorem t_mul_out {lg : Int32} {f : Nat → Int32} (hn0 : 1 ≤ num) (hn : num ≤ 3672) (h : PI σ e0 num num lg f) :
    ∃ q r, lp (b_X5_multiply_20 3673 (Int32.ofInt (sg σ))) FU (nI num, 0, lg, f) = some q ∧ q.1 = nI r ∧ PI σ e0 num r q.2.2.1 q.2.2.2 ∧ (r = 1 ∨ prm r) := by
  have L := lp_inv (body := b_X5_multiply_20 3673 (Int32.ofInt (sg σ))) (fun s => ∃ r j, s.1 = nI r ∧ s.2.1 = nI j ∧ j ≤ 17 ∧ PI σ e0 num r s.2.2.1 s.2.2.2 ∧ ∀ i, i < j → ¬ primeAt i ∣ r) (fun s => ∃ r, s.1 = nI r ∧ PI σ e0 num r s.2.2.1 s.2.2.2 ∧ (r = 1 ∨ prm r)) (fun s => 17 - u3 s.2.1) ?_ FU (nI num, 0, lg, f) ⟨num, 0, rfl, rfl, by omega, h, fun i hi => by omega⟩ (FU_big (by omega))
  · obtain ⟨q, eq, r, h1, h2, h3⟩ := L
    exact ⟨q, r, eq, h1, h2, h3⟩
  · rintro ⟨s1, s2, s3, s4⟩ ⟨r, j, h1, h2, hj, hI, hnd⟩
    simp only at h1 h2 hI
    subst h1
    subst h2
    have hrn := PI_le hn0 hI
    have hr1 : 1 ≤ r := by obtain ⟨_, _, _, _, _, _, _, z⟩ := hI; exact z
    rw [eb_X5_multiply_20]
    by_cases hj17 : j = 17
    · right
      rw [if_pos (by rw [hj17]; exact (nle (by omega) (by omega)).mpr (Nat.le_refl _))]
      refine ⟨_, rfl, r, rfl, hI, ?_⟩
      rcases Nat.eq_or_lt_of_le hr1 with z | z
      · exact Or.inl z.symm
      · exact Or.inr (prm_of (j := j) z (by omega) (fun i h1 _ => hnd i h1) (Or.inl hj17))
    · have hp := tb_pr j (by omega)
      rw [if_neg (fun z => by have := (nle (by omega) (by omega)).mp z; omega), if_pos (ixn (by omega) (by omega)), cl (by omega)]
      simp only [lt]
      have hpp : primeAt j * primeAt j ≤ 59 * 59 := Nat.mul_le_mul hp.2 hp.2
      rw [show (2 : Int32) = nI 2 from rfl, if_neg (fun z => by have := (nlt (by omega) (by omega)).mp z; omega), if_neg (fun z => by have := (nle (by omega) (by omega)).mp z; omega), nI_mulm]
      by_cases hsq : primeAt j * primeAt j ≤ r
      · left
        rw [if_pos ((nle (by omega) (by omega)).mpr hsq)]
        obtain ⟨q, r', eq, q1, q2, q3, q4⟩ := t_mul_in hn0 hn (pr_prm (by omega)) hp.2 hI
        rw [eq]
        simp only [Option.bind_some]
        rw [q1, nI_1]
        refine ⟨_, rfl, ⟨r', j + 1, rfl, rfl, by omega, q2, fun i hi z => ?_⟩, ?_⟩
        · by_cases hij : i = j
          · rw [hij] at z; exact q3 z
          · exact hnd i (by omega) (Nat.dvd_trans z q4)
        · show 17 - u3 (nI (j + 1)) < 17 - u3 (nI j)
          rw [u3n (by omega), u3n (by omega)]
          omega
      · right
        rw [if_neg (fun z => hsq ((nle (by omega) (by omega)).mp z))]
        refine ⟨_, rfl, r, rfl, hI, ?_⟩
        rcases Nat.eq_or_lt_of_le hr1 with z | z
        · exact Or.inl z.symm
        · exact Or.inr (prm_of (j := j) z (by omega) (fun i h1 _ => hnd i h1) (Or.inr ⟨by omega, by omega⟩))
theorem t_pmul {l : Nat} {f : Nat → Int32} (hn0 : 1 ≤ num) (hn : num ≤ 3672) (h : PE e0 f l) :
    ∃ l' f' e, m_X5_multiply (nI l) 3673 f (nI num) (Int32.ofInt (sg σ)) = some (nI l', f') ∧ PE e f' l' ∧ RatS σ e0 e num := by
  obtain ⟨q, r, eq, q1, ⟨e, l1, c, hl, hPE, hR, hc, hr1⟩, q3⟩ := t_mul_out (σ := σ) (lg := nI l) (f := f) hn0 hn ⟨e0, l, 1, rfl, h, rats_one, Nat.one_mul _, hn0⟩
  have hrn := PI_le hn0 (show PI σ e0 num r q.2.2.1 q.2.2.2 from ⟨e, l1, c, hl, hPE, hR, hc, hr1⟩)
  rw [em_X5_multiply, show (1 : Int32) = nI 1 from rfl, if_neg (fun z => by have := (nlt (by omega) (by omega)).mp z; omega), if_pos ((nlt (by omega) (by omega)).mpr (by omega)), eq]
  simp only [Option.bind_some]
  rw [q1]
  rcases q3 with z | z
  · subst z
    rw [if_pos ((nle (by omega) (by omega)).mpr (Nat.le_refl _))]
    exact ⟨l1, q.2.2.2, e, by rw [← hl], hPE, by rw [Nat.mul_one] at hc; rw [← hc]; exact hR⟩
  · have hz := z.1
    have hl2 := hPE.1
    rw [if_neg (fun y => by have := (nle (by omega) (by omega)).mp y; omega), if_neg (fun y => by have := (nle (by omega) (by omega)).mp y; omega), if_pos (ixn (by omega) (by omega)), if_pos (ixn (by omega) (by omega)), cl (by omega)]
    simp only [lt]
    rw [hl]
    exact ⟨_, _, _, ifmax (fun y : Int32 => some (y, upd q.2.2.2 r (q.2.2.2 r + Int32.ofInt (sg σ)))) (by omega) (by omega), PE_step hPE z (by omega), by rw [← hc]; exact rats_comp hR (rats_step (by omega)) hPE.two⟩
end PM
