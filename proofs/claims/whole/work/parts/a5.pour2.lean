/-! Powers: forget, write; the FIT that comes out of pourFit -/
def Rt2 (e e' : Nat → Int) (T L : Nat) : Prop := ppw e' 3673 * ppw (ngv e) 3673 * L = T * (ppw e 3673 * ppw (ngv e') 3673)
theorem rt2_comp {e e1 e2 : Nat → Int} {a b c d : Nat} (h1 : Rt2 e e1 a b) (h2 : Rt2 e1 e2 c d) (t1 : two e1) : Rt2 e e2 (a * c) (b * d) := by
  unfold Rt2 at *
  have p1 := ppw_pos t1 3673
  have p2 := ppw_pos (two_ng t1) 3673
  apply Nat.eq_of_mul_eq_mul_left (Nat.mul_pos p1 p2)
  have e0 : ppw e1 3673 * ppw (ngv e1) 3673 * (ppw e2 3673 * ppw (ngv e) 3673 * (b * d)) = (ppw e1 3673 * ppw (ngv e) 3673 * b) * (ppw e2 3673 * ppw (ngv e1) 3673 * d) := by ac_rfl
  rw [e0, h1, h2]
  ac_rfl
theorem rt2_t {e e' : Nat → Int} {a : Nat} (h : RatS true e e' a) : Rt2 e e' a 1 := by
  unfold Rt2
  rw [Nat.mul_one]
  exact h
theorem rt2_f {e e' : Nat → Int} {a : Nat} (h : RatS false e e' a) : Rt2 e e' 1 a := by
  have h1 : ppw e 3673 * ppw (ngv e') 3673 = a * (ppw e' 3673 * ppw (ngv e) 3673) := h
  unfold Rt2
  rw [Nat.one_mul, h1]
  ac_rfl
theorem rt2_one {e : Nat → Int} : Rt2 e e 1 1 := by unfold Rt2; rw [Nat.one_mul, Nat.mul_one]
def zE : Nat → Int := fun _ => 0
theorem ppw_z : ∀ n, ppw zE n = 1 := by
  intro n
  induction n with
  | zero => rfl
  | succ n ih => rw [ppw, ih, Nat.one_mul]; exact Nat.pow_zero n
theorem ng_z : ngv zE = zE := rfl
theorem co_pow {e : Nat → Int} (h : ∀ k, e k ≠ 0 → prm k) {n j : Nat} (hn : prm n) : ∀ m, m ≤ n → Nat.Coprime (ppw e m) (n ^ j) := by
  intro m
  induction m with
  | zero => intro _; rw [ppw]; exact Nat.coprime_one_left _
  | succ m ih =>
    intro hm
    rw [ppw]
    refine Nat.Coprime.mul_left (ih (by omega)) ?_
    by_cases hz : e m = 0
    · rw [hz]
      exact Nat.coprime_one_left _
    · exact Nat.Coprime.pow _ _ (prm_co (h m hz) hn (by omega))
theorem co_pp {e : Nat → Int} (h : ∀ k, e k ≠ 0 → prm k) : ∀ n, Nat.Coprime (ppw e n) (ppw (ngv e) n) := by
  intro n
  have h' : ∀ k, ngv e k ≠ 0 → prm k := fun k hk => h k (fun z => hk (by unfold ngv; rw [z]; rfl))
  induction n with
  | zero => exact Nat.coprime_one_left _
  | succ n ih =>
    rw [ppw, ppw]
    by_cases hz : e n = 0
    · have : ngv e n = 0 := by unfold ngv; rw [hz]; rfl
      rw [hz, this]
      show Nat.Coprime (ppw e n * n ^ 0) (ppw (ngv e) n * n ^ 0)
      rw [Nat.pow_zero, Nat.mul_one, Nat.mul_one]
      exact ih
    · have hp := h n hz
      by_cases hs : 0 < e n
      · have : (ngv e n).toNat = 0 := by unfold ngv; omega
        rw [this, Nat.pow_zero, Nat.mul_one]
        exact Nat.Coprime.mul_left ih (co_pow h' hp n (Nat.le_refl n)).symm
      · have : (e n).toNat = 0 := by omega
        rw [this, Nat.pow_zero, Nat.mul_one]
        exact Nat.Coprime.mul_right ih (co_pow h hp n (Nat.le_refl n))
/-- a fraction in least terms is told by its value -/
theorem least_eq {a b T L : Nat} (h : a * L = T * b) (hc : Nat.Coprime a b) (hT : 0 < T) (hb : 0 < b) : a = T / Nat.gcd T L ∧ b = L / Nat.gcd T L := by
  have h1 : a ∣ T := hc.dvd_of_dvd_mul_right ⟨L, by rw [← h]⟩
  obtain ⟨k, hk⟩ := h1
  have hk0 : 0 < k := by
    rcases Nat.eq_zero_or_pos k with z | z
    · rw [z] at hk; omega
    · exact z
  have ha : 0 < a := by
    rcases Nat.eq_zero_or_pos a with z | z
    · rw [z] at hk; omega
    · exact z
  have hL : L = k * b := by
    apply Nat.eq_of_mul_eq_mul_left ha
    rw [h, hk]
    ac_rfl
  have hg : Nat.gcd T L = k := by
    rw [hk, hL, Nat.mul_comm a k, Nat.gcd_mul_left]
    rw [show Nat.gcd a b = 1 from hc, Nat.mul_one]
  rw [hg]
  constructor
  · rw [hk]; exact (Nat.mul_div_cancel a hk0).symm
  · rw [hL]; exact (Nat.mul_div_cancel_left b hk0).symm
theorem t_pforget {e : Nat → Int} {f : Nat → Int32} {l : Nat} (h : PE e f l) : ∃ f', m_X5_forget (nI l) 3673 f = some (0, f') ∧ PE zE f' 0 := by
  obtain ⟨hl, hf, he⟩ := h
  have L := lp_inv (body := b_X5_forget_2 (nI l) 3673) (fun s => ∃ k, s.1 = nI k ∧ k ≤ l + 1 ∧ (∀ j, j < k → s.2 j = 0) ∧ ∀ j, k ≤ j → s.2 j = f j) (fun s => (∀ j, j ≤ l → s.2 j = 0) ∧ ∀ j, l < j → s.2 j = f j) (fun s => l + 1 - u3 s.1) ?_ FU (0, f) ⟨0, rfl, by omega, fun j hj => by omega, fun j _ => rfl⟩ (Nat.lt_of_le_of_lt (Nat.sub_le _ _) (FU_big (by omega)))
  · obtain ⟨q, eq, h1, h2⟩ := L
    refine ⟨q.2, by rw [em_X5_forget, eq]; rfl, by omega, fun k hk => ?_, fun k hk => absurd rfl hk⟩
    by_cases hkl : k ≤ l
    · rw [h1 k hkl]; rfl
    · rw [h2 k (by omega), hf k hk]
      have : e k = 0 := by
        by_cases z : e k = 0
        · exact z
        · have := (he k z).2; omega
      rw [this]; rfl
  · rintro ⟨s1, s2⟩ ⟨k, e1, hk, h1, h2⟩
    dsimp only at e1 h1 h2
    subst e1
    rw [eb_X5_forget_2]
    by_cases hkl : l < k
    · right
      rw [if_pos ((nlt (by omega) (by omega)).mpr hkl)]
      exact ⟨_, rfl, fun j hj => h1 j (by omega), fun j hj => h2 j (by omega)⟩
    · left
      rw [if_neg (fun z => hkl ((nlt (by omega) (by omega)).mp z)), if_neg (fun z => by have := (nle (by omega) (by omega)).mp z; omega), if_pos (ixn (by omega) (by omega)), cl (by omega)]
      simp only [lt]
      rw [nI_1]
      refine ⟨_, rfl, ⟨k + 1, rfl, by omega, fun j hj => ?_, fun j hj => ?_⟩, ?_⟩
      · show upd s2 k 0 j = 0
        unfold upd
        by_cases z : j = k
        · rw [if_pos z]
        · rw [if_neg z]; exact h1 j (by omega)
      · show upd s2 k 0 j = f j
        unfold upd
        rw [if_neg (by omega)]
        exact h2 j (by omega)
      · show l + 1 - u3 (nI (k + 1)) < l + 1 - u3 (nI k)
        rw [u3n (by omega), u3n (by omega)]
        omega
section PF2
variable {N R w : Nat} {vals : Nat → Nat} {cell : Nat → Nat → Nat} {fsv fsc : Nat → Int32} {i4 : Int32} {se nm : Nat}
theorem facs_ok (h : CS N R w vals cell fsv fsc) {r : Nat} (hnm : nm < N) (hb : se / 2 ^ nm % 2 = 0) (hr : r < R) : (1 ≤ facT cell vals N w se nm r ∧ facT cell vals N w se nm r ≤ 3672) ∧ 1 ≤ facL cell vals N w se nm r ∧ facL cell vals N w se nm r ≤ 3672 :=
  fac_ok2 (R := R) (fvalues := fsv) (fcells := fun k => nI (cell (k / 5) (k % 5))) ⟨h.1, h.2.1, h.2.2.1, h.2.2.2.1, h.2.2.2.2.1, fun r p hr hp => ⟨by have := h.1; show nI (cell ((5 * r + p) / 5) ((5 * r + p) % 5)) = _; rw [show (5 * r + p) / 5 = r by omega, show (5 * r + p) % 5 = p by omega], (h.2.2.2.2.2 r hr).2 p hp⟩⟩ hnm hb hr
theorem t_pour (h : CS N R w vals cell fsv fsc) (hse : se < 32) (hnm : nm < N) (hb : se / 2 ^ nm % 2 = 0) {e0 : Nat → Int} {f : Nat → Int32} {l : Nat} (hE : PE e0 f l) :
    ∃ l' f' e, m_X8_pourFit (nI N) (nI R) (nI w) i4 5 fsv 16 fsc (nI l) 3673 f (nI nm) (nI se) = some (nI l', f') ∧ PE e f' l' ∧ Rt2 e0 e (numT cell vals N R w nm se) (numL cell vals N R w nm se) := by
  have hN := h.1
  have hR := h.2.1
  have hw := h.2.2.2.1
  obtain ⟨q, eq, q1, q2⟩ := s_mask (i2 := nI R) (i3 := nI w) (i4 := i4) h hse hnm
  have L := lp_inv (body := b_X8_pourFit_73 (nI N) (nI R) (nI w) i4 16 fsc 3673 (nI (vals nm)) (nI (3 * 2 ^ (2 * nm))) q) (fun s => ∃ r l1 e, s.1 = nI r ∧ r ≤ R ∧ s.2.1 = nI l1 ∧ PE e s.2.2 l1 ∧ Rt2 e0 e (prF (facT cell vals N w se nm) r) (prF (facL cell vals N w se nm) r)) (fun s => ∃ l1 e, s.2.1 = nI l1 ∧ PE e s.2.2 l1 ∧ Rt2 e0 e (prF (facT cell vals N w se nm) R) (prF (facL cell vals N w se nm) R)) (fun s => R - u3 s.1) ?_ FU (0, nI l, f) ⟨0, l, e0, rfl, Nat.zero_le R, rfl, hE, rt2_one⟩ (Nat.lt_of_le_of_lt (Nat.sub_le _ _) (FU_big (by omega)))
  · obtain ⟨s, es, l1, e, h1, h2, h3⟩ := L
    refine ⟨l1, s.2.2, e, ?_, h2, h3⟩
    rw [em_X8_pourFit, s_valuesOf h hnm]
    simp only [Option.bind_some, lt]
    rw [tb_own nm (by omega), eq]
    simp only [Option.bind_some]
    rw [es]
    simp only [Option.bind_some]
    rw [h1]
  · rintro ⟨s1, s2, s3⟩ ⟨r, l1, e, e1, hr, e2, hPE, hRt⟩
    dsimp only at e1 e2 hPE
    subst e1 e2
    rw [eb_X8_pourFit_73]
    by_cases hrR : R ≤ r
    · right
      rw [if_pos ((nle (by omega) (by omega)).mpr hrR)]
      have : r = R := by omega
      subst this
      exact ⟨_, rfl, l1, e, rfl, hPE, hRt⟩
    · left
      obtain ⟨c, ec, c1, c2⟩ := s_cnt (i3 := nI w) (i4 := i4) (se := se) h q1 hnm (show r < R by omega)
      obtain ⟨⟨g1, g2⟩, g3, g4⟩ := facs_ok h hnm hb (show r < R by omega)
      rw [if_neg (fun z => hrR ((nle (by omega) (by omega)).mp z)), ec]
      simp only [Option.bind_some]
      rw [c1, c2, q2, nI_mulm, nI_mulm, nI_mulm, nI_add, nI_add]
      obtain ⟨l2, f2, e2, m1, m2, m3⟩ := t_pmul (σ := true) g1 g2 hPE
      obtain ⟨l3, f3, e3, n1, n2, n3⟩ := t_pmul (σ := false) g3 g4 m2
      have m1' : m_X5_multiply (nI l1) 3673 s3 (nI (w + likeF cell N se nm r r * byF vals se nm N)) 1 = some (nI l2, f2) := m1
      have n1' : m_X5_multiply (nI l2) 3673 f2 (nI (vals nm * w + waysF cell N se r r * byF vals se nm N)) (-1) = some (nI l3, f3) := n1
      rw [m1']
      simp only [Option.bind_some]
      rw [n1']
      simp only [Option.bind_some, lt]
      rw [nI_1]
      refine ⟨_, rfl, ⟨r + 1, l3, e3, rfl, by omega, rfl, n2, ?_⟩, ?_⟩
      · rw [prF, prF]
        have k1 := rt2_comp (rt2_t m3) (rt2_f n3) m2.two
        rw [Nat.mul_one, Nat.one_mul] at k1
        exact rt2_comp hRt k1 hPE.two
      · show R - u3 (nI (r + 1)) < R - u3 (nI r)
        rw [u3n (by omega), u3n (by omega)]
        omega
end PF2
