/-! Powers: copy, lowerTo, divide; the powers of a FIT are told by the FIT -/
theorem ofI_lt {a b : Int} (ha : -1000000 < a ∧ a < 1000000) (hb : -1000000 < b ∧ b < 1000000) : Int32.ofInt a < Int32.ofInt b ↔ a < b := by
  rw [Int32.lt_iff_toInt_lt, Int32.toInt_ofInt_of_le (by omega) (by omega), Int32.toInt_ofInt_of_le (by omega) (by omega)]
theorem min_lg {a b : Nat} (ha : a ≤ 100000) (hb : b ≤ 100000) : (if nI a < nI b then nI b else nI a) = nI (max a b) := maxI ha hb
section PO
variable {e1 e2 : Nat → Int} {f1 f2 : Nat → Int32} {l1 l2 : Nat}
theorem t_pcopy (h1 : PE e1 f1 l1) (h2 : PE e2 f2 l2) : ∃ f', m_X5_copy (nI l1) 3673 f1 (nI l2) 3673 f2 = some (nI l2, f') ∧ PE e2 f' l2 := by
  obtain ⟨f0, e0, -, hf0, -⟩ := t_pforget h1
  obtain ⟨hl, hf, he⟩ := h2
  have L := lp_cnt (body := b_X5_copy_14 3673 (nI l2) 3673 f2) (fun k f => (∀ j, j < k → f j = f2 j) ∧ ∀ j, k ≤ j → f j = f0 j) (n0 := 0) (n1 := l2 + 1) (Nat.zero_le _) (by omega) ?_ ?_ (s0 := f0) ⟨fun j hj => by omega, fun j _ => rfl⟩
  · obtain ⟨s1, e3, hA, hB⟩ := L
    refine ⟨s1, by rw [em_X5_copy, e0]; simp only [Option.bind_some]; rw [show (0 : Int32) = nI 0 from rfl, e3]; rfl, hl, fun k hk => ?_, he⟩
    by_cases hkl : k ≤ l2
    · rw [hA k (by omega), hf k hk]
    · rw [hB k (by omega), hf0 k hk]
      have : e2 k = 0 := Decidable.byContradiction fun z => hkl (he k z).2
      rw [this]
      rfl
  · intro f _
    rw [eb_X5_copy_14, if_pos ((nlt (by omega) (by omega)).mpr (by omega))]
  · intro k f _ hk ⟨hA, hB⟩
    rw [eb_X5_copy_14, if_neg (fun z => by have := (nlt (by omega) (by omega)).mp z; omega), if_neg (fun z => by have := (nle (by omega) (by omega)).mp z; omega), if_neg (fun z => by have := (nle (by omega) (by omega)).mp z; omega), if_pos (ixn (by omega) (by omega)), if_pos (ixn (by omega) (by omega)), cl (by omega)]
    simp only [lt]
    rw [nI_1]
    refine ⟨_, rfl, fun j hj => ?_, fun j hj => ?_⟩
    · by_cases hjk : j = k
      · subst hjk; exact pk_us
      · exact (pk_un hjk).trans (hA j (by omega))
    · exact (pk_un (by omega)).trans (hB j (by omega))
theorem t_plow (h1 : PE e1 f1 l1) (h2 : PE e2 f2 l2) (b1 : ∀ k, -1000000 < e1 k ∧ e1 k < 1000000) (b2 : ∀ k, -1000000 < e2 k ∧ e2 k < 1000000) : ∃ f', m_X5_lowerTo (nI l1) 3673 f1 (nI l2) 3673 f2 = some (nI (max l1 l2), f') ∧ PE (fun k => min (e1 k) (e2 k)) f' (max l1 l2) := by
  obtain ⟨hl1, hf1, he1⟩ := h1
  obtain ⟨hl2, hf2, he2⟩ := h2
  have L := lp_cnt (body := b_X5_lowerTo_17 3673 3673 f2 (nI (max l1 l2))) (fun k f => (∀ j, j < k → f j = if f2 j < f1 j then f2 j else f1 j) ∧ ∀ j, k ≤ j → f j = f1 j) (n0 := 0) (n1 := max l1 l2 + 1) (Nat.zero_le _) (by omega) ?_ ?_ (s0 := f1) ⟨fun j hj => by omega, fun j _ => rfl⟩
  · obtain ⟨s1, e3, hA, hB⟩ := L
    refine ⟨s1, by rw [em_X5_lowerTo, min_lg (by omega) (by omega)]; simp only [lt]; rw [show (0 : Int32) = nI 0 from rfl, e3]; rfl, by omega, fun k hk => ?_, fun k hk => ?_⟩
    · show s1 k = Int32.ofInt (min (e1 k) (e2 k))
      by_cases hkl : k ≤ max l1 l2
      · rw [hA k (by omega), hf1 k hk, hf2 k hk]
        by_cases hlt : e2 k < e1 k
        · rw [if_pos ((ofI_lt (b2 k) (b1 k)).mpr hlt), Int.min_eq_right (by omega)]
        · rw [if_neg (fun z => hlt ((ofI_lt (b2 k) (b1 k)).mp z)), Int.min_eq_left (by omega)]
      · rw [hB k (by omega), hf1 k hk]
        have z1 : e1 k = 0 := Decidable.byContradiction fun z => hkl (by have := (he1 k z).2; omega)
        have z2 : e2 k = 0 := Decidable.byContradiction fun z => hkl (by have := (he2 k z).2; omega)
        rw [z1, z2]
        rfl
    · have hk : (min (e1 k) (e2 k)) ≠ 0 := hk
      by_cases z1 : e1 k = 0
      · have z2 : e2 k ≠ 0 := fun z => hk (by rw [z1, z]; rfl)
        exact ⟨(he2 k z2).1, by have := (he2 k z2).2; omega⟩
      · exact ⟨(he1 k z1).1, by have := (he1 k z1).2; omega⟩
  · intro f _
    rw [eb_X5_lowerTo_17, if_pos ((nlt (by omega) (by omega)).mpr (by omega))]
  · intro k f _ hk ⟨hA, hB⟩
    rw [eb_X5_lowerTo_17, if_neg (fun z => by have := (nlt (by omega) (by omega)).mp z; omega), if_neg (fun z => by have := (nle (by omega) (by omega)).mp z; omega), if_neg (fun z => by have := (nle (by omega) (by omega)).mp z; omega), if_pos (ixn (by omega) (by omega)), if_pos (ixn (by omega) (by omega)), if_pos (ixn (by omega) (by omega)), cl (by omega)]
    simp only [lt]
    rw [nI_1]
    refine ⟨_, rfl, fun j hj => ?_, fun j hj => ?_⟩
    · by_cases hjk : j = k
      · subst hjk; rw [hB j (Nat.le_refl _)]; exact pk_us
      · exact (pk_un hjk).trans (hA j (by omega))
    · exact (pk_un (by omega)).trans (hB j (by omega))
theorem t_pdiv (h1 : PE e1 f1 l1) (h2 : PE e2 f2 l2) : ∃ f', m_X5_divide (nI l1) 3673 f1 (nI l2) 3673 f2 = some (nI (max l1 l2), f') ∧ PE (fun k => e1 k - e2 k) f' (max l1 l2) := by
  obtain ⟨hl1, hf1, he1⟩ := h1
  obtain ⟨hl2, hf2, he2⟩ := h2
  have L := lp_cnt (body := b_X5_divide_17 3673 3673 f2 (nI (max l1 l2))) (fun k f => (∀ j, j < k → f j = f1 j - f2 j) ∧ ∀ j, k ≤ j → f j = f1 j) (n0 := 0) (n1 := max l1 l2 + 1) (Nat.zero_le _) (by omega) ?_ ?_ (s0 := f1) ⟨fun j hj => by omega, fun j _ => rfl⟩
  · obtain ⟨s1, e3, hA, hB⟩ := L
    refine ⟨s1, by rw [em_X5_divide, min_lg (by omega) (by omega)]; simp only [lt]; rw [show (0 : Int32) = nI 0 from rfl, e3]; rfl, by omega, fun k hk => ?_, fun k hk => ?_⟩
    · show s1 k = Int32.ofInt (e1 k - e2 k)
      by_cases hkl : k ≤ max l1 l2
      · rw [hA k (by omega), hf1 k hk, hf2 k hk, Int32.ofInt_sub]
      · rw [hB k (by omega), hf1 k hk]
        have z1 : e1 k = 0 := Decidable.byContradiction fun z => hkl (by have := (he1 k z).2; omega)
        have z2 : e2 k = 0 := Decidable.byContradiction fun z => hkl (by have := (he2 k z).2; omega)
        rw [z1, z2]
        rfl
    · have hk : (e1 k - e2 k) ≠ 0 := hk
      by_cases z1 : e1 k = 0
      · have z2 : e2 k ≠ 0 := fun z => hk (by rw [z1, z]; rfl)
        exact ⟨(he2 k z2).1, by have := (he2 k z2).2; omega⟩
      · exact ⟨(he1 k z1).1, by have := (he1 k z1).2; omega⟩
  · intro f _
    rw [eb_X5_divide_17, if_pos ((nlt (by omega) (by omega)).mpr (by omega))]
  · intro k f _ hk ⟨hA, hB⟩
    rw [eb_X5_divide_17, if_neg (fun z => by have := (nlt (by omega) (by omega)).mp z; omega), if_neg (fun z => by have := (nle (by omega) (by omega)).mp z; omega), if_neg (fun z => by have := (nle (by omega) (by omega)).mp z; omega), if_pos (ixn (by omega) (by omega)), if_pos (ixn (by omega) (by omega)), if_pos (ixn (by omega) (by omega)), cl (by omega)]
    simp only [lt]
    rw [nI_1]
    refine ⟨_, rfl, fun j hj => ?_, fun j hj => ?_⟩
    · by_cases hjk : j = k
      · subst hjk; rw [hB j (Nat.le_refl _)]; exact pk_us
      · exact (pk_un hjk).trans (hA j (by omega))
    · exact (pk_un (by omega)).trans (hB j (by omega))
end PO
theorem pexp_eq {e : Nat → Int} {f : Nat → Int32} {l : Nat} (h : PE e f l) (b : ∀ k, -1000000 < e k ∧ e k < 1000000) : pexp f = e := by
  funext k
  unfold pexp
  by_cases hk : k ≤ 3672
  · rw [if_pos hk, h.2.1 k hk, Int32.toInt_ofInt_of_le (by have := b k; omega) (by have := b k; omega)]
  · rw [if_neg hk]
    exact (Decidable.byContradiction fun z => hk (by have := (h.2.2 k (fun q => z q.symm)).2; have := h.1; omega) : 0 = e k)
/-- powers of primes alone: the product tells them -/
theorem pw_cancel {p a b A B : Nat} (hp : 2 ≤ p) (hA : Nat.Coprime A p) (hB : Nat.Coprime B p) (h : A * p ^ a = B * p ^ b) : a = b := by
  have key : ∀ (a b A B : Nat), Nat.Coprime A p → A * p ^ a = B * p ^ b → ¬ a < b := by
    intro a b A B hA h hlt
    rw [show b = (b - a - 1) + 1 + a by omega, Nat.pow_add, ← Nat.mul_assoc] at h
    have h2 := Nat.eq_of_mul_eq_mul_right (Nat.pow_pos (by omega)) h
    have hd : p ∣ A := by rw [h2, Nat.pow_succ, ← Nat.mul_assoc]; exact Nat.dvd_mul_left _ _
    have := Nat.dvd_gcd hd (Nat.dvd_refl p)
    rw [show Nat.gcd A p = 1 from hA] at this
    have := Nat.le_of_dvd (by decide) this
    omega
  have h1 := key a b A B hA h
  have h2 := key b a B A hB h.symm
  omega
theorem ppw_uq {e e' : Nat → Int} (h : ∀ k, e k ≠ 0 → prm k) (h' : ∀ k, e' k ≠ 0 → prm k) : ∀ n, ppw e n = ppw e' n → ∀ k, k < n → (e k).toNat = (e' k).toNat := by
  intro n
  induction n with
  | zero => intro _ k hk; omega
  | succ n ih =>
    intro hq k hk
    unfold ppw at hq
    have hn : (e n).toNat = (e' n).toNat := by
      by_cases hp : prm n
      · have c1 := co_pow h (j := 1) hp n (Nat.le_refl n)
        have c2 := co_pow h' (j := 1) hp n (Nat.le_refl n)
        rw [Nat.pow_one] at c1 c2
        exact pw_cancel hp.1 c1 c2 hq
      · have z1 : e n = 0 := Decidable.byContradiction fun z => hp (h n z)
        have z2 : e' n = 0 := Decidable.byContradiction fun z => hp (h' n z)
        rw [z1, z2]
    by_cases hkn : k = n
    · rw [hkn]; exact hn
    · refine ih ?_ k (by omega)
      rw [hn] at hq
      by_cases hz : n = 0
      · omega
      · exact Nat.eq_of_mul_eq_mul_right (Nat.pow_pos (by omega)) hq
/-- the powers of the FIT of a name with a set -/
def ES (cell : Nat → Nat → Nat) (vals : Nat → Nat) (N R w c s : Nat) (e : Nat → Int) : Prop := (∀ k, e k ≠ 0 → prm k ∧ k ≤ 3672) ∧ ppw e 3673 = fitT cell vals N R w c s ∧ ppw (ngv e) 3673 = fitL cell vals N R w c s ∧ ∀ k, -40000 < e k ∧ e k < 40000
section PS
variable {N R w : Nat} {vals : Nat → Nat} {cell : Nat → Nat → Nat} {fsv fsc : Nat → Int32} {c s : Nat} {i4 : Int32}
theorem ES_uq {e e' : Nat → Int} (h : ES cell vals N R w c s e) (h' : ES cell vals N R w c s e') : e = e' := by
  obtain ⟨a1, a2, a3, -⟩ := h
  obtain ⟨b1, b2, b3, -⟩ := h'
  have n1 : ∀ k, ngv e k ≠ 0 → prm k := fun k hk => (a1 k (fun z => hk (by unfold ngv; rw [z]; rfl))).1
  have n2 : ∀ k, ngv e' k ≠ 0 → prm k := fun k hk => (b1 k (fun z => hk (by unfold ngv; rw [z]; rfl))).1
  have u1 := ppw_uq (fun k hk => (a1 k hk).1) (fun k hk => (b1 k hk).1) 3673 (a2.trans b2.symm)
  have u2 := ppw_uq n1 n2 3673 (a3.trans b3.symm)
  funext k
  by_cases hk : k < 3673
  · have x1 := u1 k hk
    have x2 := u2 k hk
    unfold ngv at x2
    omega
  · have z1 : e k = 0 := Decidable.byContradiction fun z => hk (by have := (a1 k z).2; omega)
    have z2 : e' k = 0 := Decidable.byContradiction fun z => hk (by have := (b1 k z).2; omega)
    rw [z1, z2]
theorem t_pourES (h : CS N R w vals cell fsv fsc) (hs : s < 32) (hc : c < N) (hb : s / 2 ^ c % 2 = 0) {pe : Nat → Int} {f : Nat → Int32} {l : Nat} (hE : PE pe f l) :
    ∃ f1 l2 f2 e, m_X5_forget (nI l) 3673 f = some (0, f1) ∧ m_X8_pourFit (nI N) (nI R) (nI w) i4 5 fsv 16 fsc 0 3673 f1 (nI c) (nI s) = some (nI l2, f2) ∧ PE e f2 l2 ∧ ES cell vals N R w c s e := by
  obtain ⟨f1, e1, hz⟩ := t_pforget hE
  obtain ⟨l2, f2, e, e2, hE2, hR⟩ := t_pour (i4 := i4) h hs hc hb hz
  obtain ⟨⟨p1, p2⟩, p3, p4⟩ := num_pos (se := s) (CS.ms h) hc hb
  have hpr : ∀ k, e k ≠ 0 → prm k := fun k hk => (hE2.2.2 k hk).1
  have htw : two e := hE2.two
  unfold Rt2 at hR
  rw [ng_z, ppw_z, Nat.mul_one, Nat.one_mul] at hR
  obtain ⟨q1, q2⟩ := least_eq hR (co_pp hpr 3673) p1 (ppw_pos (two_ng htw) 3673)
  obtain ⟨⟨g1, g2⟩, g3, g4⟩ := fit_pos (se := s) (CS.ms h) hc hb
  refine ⟨f1, l2, f2, e, e1, e2, hE2, fun k hk => ⟨hpr k hk, Nat.le_trans (hE2.2.2 k hk).2 hE2.1⟩, q1, q2, fun k => ?_⟩
  by_cases hk : k < 3673
  · have x1 := exp_lt (m := 6) htw hk (by rw [q1]; exact g2)
    have x2 := exp_lt (m := 6) (two_ng htw) hk (by rw [q2]; exact g4)
    unfold ngv at x2
    omega
  · have z1 : e k = 0 := Decidable.byContradiction fun z => hk (by have := (hE2.2.2 k z).2; have := hE2.1; omega)
    rw [z1]
    omega
end PS
theorem ppw_min {a b : Nat → Int} (ha : two a) (hb : two b) : ∀ n, ppw (ngv (fun k => min (a k) (b k))) n ≤ ppw (ngv a) n * ppw (ngv b) n := by
  intro n
  induction n with
  | zero => exact Nat.le_refl _
  | succ n ih =>
    unfold ppw
    rw [show ppw (ngv a) n * n ^ (ngv a n).toNat * (ppw (ngv b) n * n ^ (ngv b n).toNat) = (ppw (ngv a) n * ppw (ngv b) n) * (n ^ (ngv a n).toNat * n ^ (ngv b n).toNat) by ac_rfl]
    refine Nat.mul_le_mul ih ?_
    rw [← Nat.pow_add]
    show n ^ (-(min (a n) (b n))).toNat ≤ n ^ ((-(a n)).toNat + (-(b n)).toNat)
    by_cases hn : n = 0
    · have z1 : a n = 0 := Decidable.byContradiction fun z => by have := ha n z; omega
      have z2 : b n = 0 := Decidable.byContradiction fun z => by have := hb n z; omega
      rw [z1, z2]
      exact Nat.le_refl _
    · exact Nat.pow_le_pow_right (by omega) (by omega)
theorem ppw_quot {e el : Nat → Int} (h : ∀ k, el k ≤ e k) : ∀ n, ppw (fun k => e k - el k) n * (ppw el n * ppw (ngv e) n) = ppw e n * ppw (ngv el) n := by
  intro n
  induction n with
  | zero => rfl
  | succ n ih =>
    unfold ppw
    have hx : n ^ (e n - el n).toNat * (n ^ (el n).toNat * n ^ (ngv e n).toNat) = n ^ (e n).toNat * n ^ (ngv el n).toNat := by
      rw [← Nat.pow_add, ← Nat.pow_add, ← Nat.pow_add]
      congr 1
      have := h n
      unfold ngv
      omega
    rw [show ppw (fun k => e k - el k) n * n ^ (e n - el n).toNat * (ppw el n * n ^ (el n).toNat * (ppw (ngv e) n * n ^ (ngv e n).toNat)) = (ppw (fun k => e k - el k) n * (ppw el n * ppw (ngv e) n)) * (n ^ (e n - el n).toNat * (n ^ (el n).toNat * n ^ (ngv e n).toNat)) by ac_rfl, ih, hx]
    ac_rfl
