/-! the FITS of names and graphs out of the class's powers -/
section FO
variable {N R w : Nat} {vals : Nat → Nat} {cell : Nat → Nat → Nat} {fsv fsc : Nat → Int32} {i4 : Int32} {se nm : Nat}
theorem t_lst {e : Nat → Int} {f : Nat → Int32} {l nw T L : Nat} {iu iu2 : Int32} {fw fw2 : Nat → Int64} (hE : PE e f l) (hR : Rt2 zE e T L) (hT : 0 < T) (hL : 0 < L) (c1 : T / Nat.gcd T L < BB ^ nw) (c2 : L / Nat.gcd T L < BB ^ nw) (h1 : 1 ≤ nw) (hn : nw ≤ 1000) :
    (∃ c g, m_X5_write (nI l) 3673 f iu nw fw 1 = some (nI c, g) ∧ BR nw g c (T / Nat.gcd T L)) ∧ ∃ c g, m_X5_write (nI l) 3673 f iu2 nw fw2 (-1) = some (nI c, g) ∧ BR nw g c (L / Nat.gcd T L) := by
  unfold Rt2 at hR
  rw [ng_z, ppw_z, Nat.mul_one, Nat.one_mul] at hR
  have hpr : ∀ k, e k ≠ 0 → prm k := fun k hk => (hE.2.2 k hk).1
  obtain ⟨a1, a2⟩ := least_eq hR (co_pp hpr 3673) hT (ppw_pos (two_ng hE.two) 3673)
  have hb : ∀ k, e k < 100000 ∧ -100000 < e k := by
    intro k
    by_cases hz : e k = 0
    · omega
    · have hk := (hE.2.2 k hz).2
      have hl := hE.1
      have q1 := exp_lt hE.two (show k < 3673 by omega) (show ppw e 3673 < BB ^ nw by rw [a1]; exact c1)
      have q2 := exp_lt (two_ng hE.two) (show k < 3673 by omega) (show ppw (ngv e) 3673 < BB ^ nw by rw [a2]; exact c2)
      have q3 : ngv e k = - e k := rfl
      rw [q3] at q2
      omega
  constructor
  · obtain ⟨c, g, m1, m2⟩ := t_write (nw := nw) (iu := iu) (fw := fw) true hE hb (show ppw e 3673 < BB ^ nw by rw [a1]; exact c1) h1 (by omega)
    refine ⟨c, g, m1, ?_⟩
    rw [← a1]
    exact m2
  · obtain ⟨c, g, m1, m2⟩ := t_write (nw := nw) (iu := iu2) (fw := fw2) false hE hb (show ppw (ngv e) 3673 < BB ^ nw by rw [a2]; exact c2) h1 (by omega)
    refine ⟨c, g, m1, ?_⟩
    rw [← a2]
    exact m2
/-- the reference's cells of such a sheet -/
theorem CS.ms (h : CS N R w vals cell fsv fsc) : MS N R w vals cell fsv (fun k => nI (cell (k / 5) (k % 5))) :=
  ⟨h.1, h.2.1, h.2.2.1, h.2.2.2.1, h.2.2.2.2.1, fun r p hr hp => ⟨by have := h.1; show nI (cell ((5 * r + p) / 5) ((5 * r + p) % 5)) = _; rw [show (5 * r + p) / 5 = r by omega, show (5 * r + p) % 5 = p by omega], (h.2.2.2.2.2 r hr).2 p hp⟩⟩
theorem t_oname (h : CS N R w vals cell fsv fsc) (hse : se < 32) (hnm : nm < N) (hb : se / 2 ^ nm % 2 = 0) {e : Nat → Int} {f : Nat → Int32} {l : Nat} (hE : PE e f l) :
    ∃ f1 l2 f2 e2, m_X5_forget (nI l) 3673 f = some (0, f1) ∧ m_X8_pourFit (nI N) (nI R) (nI w) i4 5 fsv 16 fsc 0 3673 f1 (nI nm) (nI se) = some (nI l2, f2) ∧ PE e2 f2 l2 ∧
      ∀ (iu iu2 : Int32) (fw fw2 : Nat → Int64), (∃ c g, m_X5_write (nI l2) 3673 f2 iu 6 fw 1 = some (nI c, g) ∧ BR 6 g c (fitT cell vals N R w nm se)) ∧ ∃ c g, m_X5_write (nI l2) 3673 f2 iu2 6 fw2 (-1) = some (nI c, g) ∧ BR 6 g c (fitL cell vals N R w nm se) := by
  obtain ⟨f1, m1, p1⟩ := t_pforget hE
  obtain ⟨l2, f2, e2, m2, p2, p3⟩ := t_pour (i4 := i4) h hse hnm hb p1
  obtain ⟨⟨a1, a2⟩, b1, b2⟩ := num_pos (se := se) h.ms hnm hb
  obtain ⟨⟨_, c2⟩, _, d2⟩ := fit_pos (se := se) h.ms hnm hb
  exact ⟨f1, l2, f2, e2, m1, m2, p2, fun iu iu2 fw fw2 => t_lst p2 p3 a1 b1 c2 d2 (by omega) (by omega)⟩
theorem prF_30 {f : Nat → Nat} {n : Nat} (h : ∀ r, r < n → 0 < f r ∧ f r < BB ^ 6) (hn : n ≤ 5) : 0 < prF f n ∧ prF f n < BB ^ 30 := by
  have key : ∀ m, m ≤ n → 0 < prF f m ∧ prF f m ≤ BB ^ (6 * m) ∧ (0 < m → prF f m < BB ^ (6 * m)) := by
    intro m
    induction m with
    | zero => intro _; exact ⟨Nat.one_pos, Nat.le_refl 1, fun z => by omega⟩
    | succ m ih =>
      intro hm
      obtain ⟨p1, p2, _⟩ := ih (by omega)
      obtain ⟨q1, q2⟩ := h m (by omega)
      rw [prF]
      have hs : prF f m * f m < BB ^ (6 * (m + 1)) := by
        rw [show 6 * (m + 1) = 6 * m + 6 by omega, Nat.pow_add]
        refine Nat.lt_of_le_of_lt (Nat.mul_le_mul_right _ p2) ?_
        exact Nat.mul_lt_mul_of_pos_left q2 (Nat.pow_pos (by decide))
      exact ⟨Nat.mul_pos p1 q1, Nat.le_of_lt hs, fun _ => hs⟩
  obtain ⟨k1, _, k3⟩ := key n (Nat.le_refl n)
  refine ⟨k1, ?_⟩
  rcases Nat.eq_zero_or_pos n with z | z
  · subst z
    show 1 < BB ^ 30
    decide
  · exact Nat.lt_of_lt_of_le (k3 z) (Nat.pow_le_pow_right (by decide) (by omega))
def puT (cell : Nat → Nat → Nat) (vals : Nat → Nat) (N R w g n : Nat) : Nat := prF (fun c => numT cell vals N R w c (parN g c 5)) n
def puL (cell : Nat → Nat → Nat) (vals : Nat → Nat) (N R w g n : Nat) : Nat := prF (fun c => numL cell vals N R w c (parN g c 5)) n
theorem fit_num (h : CS N R w vals cell fsv fsc) (hnm : nm < N) (hb : se / 2 ^ nm % 2 = 0) : fitT cell vals N R w nm se * numL cell vals N R w nm se = numT cell vals N R w nm se * fitL cell vals N R w nm se := by
  obtain ⟨⟨a1, a2⟩, b1, b2⟩ := num_pos (se := se) h.ms hnm hb
  unfold fitT fitL
  obtain ⟨x, hx⟩ := Nat.gcd_dvd_left (numT cell vals N R w nm se) (numL cell vals N R w nm se)
  obtain ⟨y, hy⟩ := Nat.gcd_dvd_right (numT cell vals N R w nm se) (numL cell vals N R w nm se)
  have g0 := Nat.gcd_pos_of_pos_left (numL cell vals N R w nm se) a1
  generalize Nat.gcd (numT cell vals N R w nm se) (numL cell vals N R w nm se) = G at *
  rw [hx, hy, Nat.mul_div_cancel_left x g0, Nat.mul_div_cancel_left y g0]
  ac_rfl
theorem gr_pu (h : CS N R w vals cell fsv fsc) {g : Nat} (hs : ∀ c, c < N → parN g c 5 / 2 ^ c % 2 = 0) : ∀ n, n ≤ N → grT cell vals N R w g n * puL cell vals N R w g n = puT cell vals N R w g n * grL cell vals N R w g n := by
  intro n
  induction n with
  | zero => intro _; rfl
  | succ n ih =>
    intro hn
    have a := ih (by omega)
    have b := fit_num h (show n < N by omega) (hs n (by omega))
    unfold grT grL puT puL at *
    rw [prF, prF, prF, prF]
    have e1 : ∀ x y z t : Nat, x * y * (z * t) = (x * z) * (y * t) := fun x y z t => by ac_rfl
    rw [e1, a, b, e1]
/-- two fractions of one value have the same least terms -/
theorem least_same {a b T L : Nat} (h : a * L = T * b) (ha : 0 < a) (hb : 0 < b) (hT : 0 < T) : a / Nat.gcd a b = T / Nat.gcd T L ∧ b / Nat.gcd a b = L / Nat.gcd T L := by
  have g0 := Nat.gcd_pos_of_pos_left b ha
  obtain ⟨x, hx⟩ := Nat.gcd_dvd_left a b
  obtain ⟨y, hy⟩ := Nat.gcd_dvd_right a b
  have hco : Nat.Coprime (a / Nat.gcd a b) (b / Nat.gcd a b) := Nat.coprime_div_gcd_div_gcd g0
  refine least_eq ?_ hco hT (Nat.div_pos (Nat.gcd_le_right _ hb) g0)
  generalize Nat.gcd a b = G at *
  subst hx hy
  rw [Nat.mul_div_cancel_left x g0, Nat.mul_div_cancel_left y g0]
  apply Nat.eq_of_mul_eq_mul_left g0
  rw [← Nat.mul_assoc, h]
  ac_rfl
end FO
