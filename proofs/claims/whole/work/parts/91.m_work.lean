theorem byF_le2 {N : Nat} {vals : Nat → Nat} {se nm : Nat} (h : ∀ p, p < N → 2 ≤ vals p ∧ vals p ≤ 3) (hnm : nm < N) (hb : se / 2 ^ nm % 2 = 0) : ∀ n, nm < n → n ≤ N → byF vals se nm n ≤ 3 ^ n := by
  intro n
  induction n with
  | zero => intro h0; omega
  | succ n ih =>
    intro h1 h2
    by_cases hn : n = nm
    · subst hn
      unfold byF
      rw [if_neg (by omega), Nat.mul_one]
      exact (byF_le (se := se) h hnm n (by omega)).2
    · have a := ih (by omega) (by omega)
      have hv := h n (by omega)
      unfold byF
      rw [Nat.pow_succ]
      split
      · exact Nat.mul_le_mul a hv.2
      · exact Nat.mul_le_mul a (by omega)
section WK
variable {N R w : Nat} {vals : Nat → Nat} {cell : Nat → Nat → Nat} {fvalues fcells : Nat → Int32} {i2 i3 i4 i5 i6 : Int32} {se nm : Nat}
theorem fac_ok2 (h : MS N R w vals cell fvalues fcells) {r : Nat} (hnm : nm < N) (hb : se / 2 ^ nm % 2 = 0) (hr : r < R) : (1 ≤ facT cell vals N w se nm r ∧ facT cell vals N w se nm r ≤ 3672) ∧ 1 ≤ facL cell vals N w se nm r ∧ facL cell vals N w se nm r ≤ 3672 := by
  have h0 := fac_ok (se := se) h hnm hr
  obtain ⟨hN, hR, hw1, hw2, hv, -⟩ := h
  have hv2 : ∀ p, p < N → 2 ≤ vals p ∧ vals p ≤ 3 := fun p hp => (hv p hp).2
  have b2 := byF_le2 (se := se) hv2 hnm hb N (by omega) (Nat.le_refl N)
  have b3 : byF vals se nm N ≤ 243 := Nat.le_trans b2 (Nat.le_trans (Nat.pow_le_pow_right (by decide) hN) (by decide))
  obtain ⟨c1, c2⟩ := cnt_le (cell := cell) (N := N) (se := se) (r := r) (nm := nm) r
  have d1 : likeF cell N se nm r r * byF vals se nm N ≤ 15 * 243 := Nat.mul_le_mul (by omega) b3
  have d2 : waysF cell N se r r * byF vals se nm N ≤ 15 * 243 := Nat.mul_le_mul (by omega) b3
  have d3 : vals nm * w ≤ 3 * 9 := Nat.mul_le_mul (hv2 nm hnm).2 hw2
  unfold facT facL at *
  omega
theorem prF_le {f : Nat → Nat} {R : Nat} (hR : R ≤ 16) (h : ∀ r, r < R → 1 ≤ f r ∧ f r ≤ 3672) : ∀ r, r ≤ R → 1 ≤ prF f r ∧ prF f r < BB ^ 6 := by
  have key : ∀ r, r ≤ R → 1 ≤ prF f r ∧ prF f r ≤ 3672 ^ r := by
    intro r
    induction r with
    | zero => intro _; exact ⟨Nat.le_refl 1, Nat.le_refl 1⟩
    | succ r ih =>
      intro hr
      obtain ⟨a, b⟩ := ih (by omega)
      obtain ⟨c, d⟩ := h r (by omega)
      unfold prF
      rw [Nat.pow_succ]
      exact ⟨Nat.le_trans a (Nat.le_mul_of_pos_right _ c), Nat.mul_le_mul b d⟩
  intro r hr
  obtain ⟨a, b⟩ := key r hr
  refine ⟨a, Nat.lt_of_le_of_lt b ?_⟩
  have h1 : 3672 ^ r ≤ 3672 ^ 16 := Nat.pow_le_pow_right (by decide) (by omega)
  have h2 : 3672 ^ 16 < BB ^ 6 := by decide
  omega
theorem t_place (nm se : Nat) : m_X11_place (nI nm) (nI se) = some (nI ((32 * nm + se) * 8)) := by
  unfold m_X11_place
  rw [show (32 : Int32) = nI 32 from rfl, show (8 : Int32) = nI 8 from rfl, pk_mul, nI_add, pk_mul]
theorem t_work_by (h : MS N R w vals cell fvalues fcells) (hse : se < 32) (hnm : nm < N) : ∃ q, lp (b_X11_work_49 (nI N) fvalues (nI se)) FU (nI (vals nm), 0) = some q ∧ q.1 = nI (byF vals se nm N) := by
  obtain ⟨hN, hR, hw1, hw2, hv, -⟩ := h
  refine lp_inv (body := b_X11_work_49 (nI N) fvalues (nI se)) (fun s => ∃ p, s.2 = nI p ∧ p ≤ N ∧ s.1 = nI (byF vals se nm p)) _ (fun s => N - u3 s.2) ?_ FU (nI (vals nm), 0) ⟨0, rfl, Nat.zero_le N, rfl⟩ (Nat.lt_of_le_of_lt (Nat.sub_le _ _) (FU_big (by omega)))
  rintro ⟨bw, pw⟩ ⟨p, e1, hp, e2⟩
  dsimp only at e1 e2
  subst e1
  subst e2
  rw [eb_X11_work_49]
  by_cases hpN : N ≤ p
  · right
    rw [if_pos ((nle (by omega) (by omega)).mpr hpN)]
    have : p = N := by omega
    subst this
    exact ⟨_, rfl, rfl⟩
  · left
    have hb2 : se / 2 ^ p % 2 < 2 := Nat.mod_lt _ (by decide)
    have hb : nI (se / 2 ^ p % 2) = (1 : Int32) ↔ se / 2 ^ p % 2 = 1 := neq (b := 1) (by omega) (by omega)
    rw [if_neg (fun h => hpN ((nle (by omega) (by omega)).mp h)), bitI hse (by omega), if_pos (ixn (by omega) (by omega)), cl (by omega), (hv p (by omega)).1]
    refine ⟨(nI (byF vals se nm (p + 1)), nI (p + 1)), ?_, ⟨p + 1, rfl, by omega, rfl⟩, ?_⟩
    · by_cases h1 : se / 2 ^ p % 2 = 1
      · rw [if_pos (hb.mpr h1)]
        simp only [Option.bind_some, lt]
        rw [pk_mul, nI_1, show byF vals se nm (p + 1) = byF vals se nm p * (if se / 2 ^ p % 2 = 1 then vals p else 1) from rfl, if_pos h1]
      · rw [if_neg (fun q => h1 (hb.mp q))]
        simp only [Option.bind_some, lt]
        rw [show (1 : Int32) = nI 1 from rfl, pk_mul, nI_add, show byF vals se nm (p + 1) = byF vals se nm p * (if se / 2 ^ p % 2 = 1 then vals p else 1) from rfl, if_neg h1]
    · show N - u3 (nI (p + 1)) < N - u3 (nI p)
      rw [u3n (by omega), u3n (by omega)]; omega
theorem t_work_cnt (h : MS N R w vals cell fvalues fcells) (hse : se < 32) (hnm : nm < N) {r : Nat} (hr : r < R) : ∃ q, lp (b_X11_work_111 (nI N) i2 i3 i4 i5 i6 fcells (nI nm) (nI se) (nI r)) FU (0, 0, 0) = some q ∧ q.1 = nI (waysF cell N se r r) ∧ q.2.1 = nI (likeF cell N se nm r r) := by
  have hcell := h.2.2.2.2.2
  have hR := h.2.1
  have hN := h.1
  refine lp_inv (body := b_X11_work_111 (nI N) i2 i3 i4 i5 i6 fcells (nI nm) (nI se) (nI r)) (fun s => ∃ k, s.2.2 = nI k ∧ k ≤ r ∧ s.1 = nI (waysF cell N se r k) ∧ s.2.1 = nI (likeF cell N se nm r k)) _ (fun s => r - u3 s.2.2) ?_ FU (0, 0, 0) ⟨0, rfl, Nat.zero_le r, rfl, rfl⟩ (Nat.lt_of_le_of_lt (Nat.sub_le _ _) (FU_big (by omega)))
  rintro ⟨ww, lw, kw⟩ ⟨k, e1, hk, e2, e3⟩
  dsimp only at e1 e2 e3
  subst e1
  subst e2
  subst e3
  rw [eb_X11_work_111]
  by_cases hkr : r ≤ k
  · right
    rw [if_pos ((nle (by omega) (by omega)).mpr hkr)]
    have : k = r := by omega
    subst this
    exact ⟨_, rfl, rfl, rfl⟩
  · left
    rw [if_neg (fun h => hkr ((nle (by omega) (by omega)).mp h)), t_agree (i2 := i2) (i3 := i3) (i4 := i4) (i5 := i5) (i6 := i6) h hse hr (show k < R by omega)]
    simp only [Option.bind_some, lt]
    rw [five, five, if_pos (ixn (by omega) (by omega)), if_pos (ixn (by omega) (by omega)), cl (by omega), cl (by omega), (hcell r nm hr hnm).1, (hcell k nm (by omega) hnm).1]
    have hc : nI (cell r nm) = nI (cell k nm) ↔ cell r nm = cell k nm := neq (by have := (hcell r nm hr hnm).2; omega) (by have := (hcell k nm (by omega) hnm).2; omega)
    refine ⟨(nI (waysF cell N se r (k + 1)), nI (likeF cell N se nm r (k + 1)), nI (k + 1)), ?_, ⟨k + 1, rfl, by omega, rfl, rfl⟩, ?_⟩
    · by_cases ha : agr cell se r k N = true
      · rw [if_pos ha, if_neg (by decide)]
        simp only [Option.bind_some]
        rw [nI_1, nI_1, show waysF cell N se r (k + 1) = waysF cell N se r k + (if agr cell se r k N = true then 1 else 0) from rfl, show likeF cell N se nm r (k + 1) = likeF cell N se nm r k + (if agr cell se r k N = true ∧ cell r nm = cell k nm then 1 else 0) from rfl]
        by_cases hcc : cell r nm = cell k nm
        · rw [if_pos (hc.mpr hcc), if_pos ha, if_pos ⟨ha, hcc⟩, nI_1]
        · rw [if_neg (fun q => hcc (hc.mp q)), if_pos ha, if_neg (fun q => hcc q.2)]
          rw [show (0 : Int32) = nI 0 from rfl, nI_add]
      · rw [if_neg ha, if_pos rfl]
        simp only [Option.bind_some]
        rw [nI_1, show waysF cell N se r (k + 1) = waysF cell N se r k + (if agr cell se r k N = true then 1 else 0) from rfl, show likeF cell N se nm r (k + 1) = likeF cell N se nm r k + (if agr cell se r k N = true ∧ cell r nm = cell k nm then 1 else 0) from rfl, if_neg ha, if_neg (fun q => ha q.1)]
        rfl
    · show r - u3 (nI (k + 1)) < r - u3 (nI k)
      rw [u3n (by omega), u3n (by omega)]; omega
theorem MR_one {f : Nat → Int32} {p : Nat} : MR (sh (upd (upd f p 1) (p + 1) 1) p) 1 1 := by
  refine ⟨?_, ?_, fun _ => ?_⟩
  · show upd (upd f p 1) (p + 1) 1 (p + 0) = nI 1
    rw [pk_un (by omega)]; exact pk_us
  · show 0 + u3 (upd (upd f p 1) (p + 1) 1 (p + (0 + 1))) * BB ^ 0 = 1
    rw [show p + (0 + 1) = p + 1 by omega, pk_us]; rfl
  · show u3 (upd (upd f p 1) (p + 1) 1 (p + (1 - 1 + 1))) ≠ 0
    rw [show p + (1 - 1 + 1) = p + 1 by omega, pk_us]; decide
/-- work: the factors' products come to the place of the name and the set -/
theorem t_work {ftops flows : Nat → Int32} (h : MS N R w vals cell fvalues fcells) (hse : se < 32) (hnm : nm < N) (hb : se / 2 ^ nm % 2 = 0) :
    ∃ q n1 n2, m_X11_work (nI N) (nI R) (nI w) i4 i5 i6 fvalues fcells ftops flows (nI nm) (nI se) = some q ∧ MR (sh q.1 ((32 * nm + se) * 8)) n1 (prF (facT cell vals N w se nm) R) ∧ MR (sh q.2 ((32 * nm + se) * 8)) n2 (prF (facL cell vals N w se nm) R) ∧ n1 ≤ 6 ∧ n2 ≤ 6 ∧ (∀ j, j < (32 * nm + se) * 8 ∨ (32 * nm + se) * 8 + 7 < j → q.1 j = ftops j ∧ q.2 j = flows j) := by
  have hN := h.1
  have hR := h.2.1
  have hw := h.2.2.2.1
  have hv := h.2.2.2.2.1
  obtain ⟨q1, eq1, hq1⟩ := t_work_by h hse hnm
  generalize hat : (32 * nm + se) * 8 = p
  have hp : p ≤ 1272 := by omega
  have hpT := prF_le (f := facT cell vals N w se nm) hR (fun r hr => (fac_ok2 h hnm hb hr).1)
  have hpL := prF_le (f := facL cell vals N w se nm) hR (fun r hr => (fac_ok2 h hnm hb hr).2)
  have L := lp_inv (body := b_X11_work_93 (nI N) (nI R) (nI w) i4 i5 i6 fvalues fcells (nI nm) (nI se) (nI p) q1) (fun s => ∃ r n1 n2, s.1 = nI r ∧ r ≤ R ∧ MR (sh s.2.1 p) n1 (prF (facT cell vals N w se nm) r) ∧ MR (sh s.2.2 p) n2 (prF (facL cell vals N w se nm) r) ∧ (∀ j, j < p ∨ p + 7 < j → s.2.1 j = ftops j ∧ s.2.2 j = flows j)) (fun s => ∃ n1 n2, MR (sh s.2.1 p) n1 (prF (facT cell vals N w se nm) R) ∧ MR (sh s.2.2 p) n2 (prF (facL cell vals N w se nm) R) ∧ (∀ j, j < p ∨ p + 7 < j → s.2.1 j = ftops j ∧ s.2.2 j = flows j)) (fun s => R - u3 s.1) ?_ FU (0, upd (upd ftops p 1) (p + 1) 1, upd (upd flows p 1) (p + 1) 1) ⟨0, 1, 1, rfl, Nat.zero_le R, MR_one, MR_one, fun j hj => ⟨by show upd _ _ _ j = _; rw [pk_un (by omega), pk_un (by omega)], by show upd _ _ _ j = _; rw [pk_un (by omega), pk_un (by omega)]⟩⟩ (Nat.lt_of_le_of_lt (Nat.sub_le _ _) (FU_big (by omega)))
  · obtain ⟨q2, eq2, n1, n2, h1, h2, h3⟩ := L
    refine ⟨(q2.2.1, q2.2.2), n1, n2, ?_, h1, h2, MR_len h1 (hpT R (Nat.le_refl R)).2, MR_len h2 (hpL R (Nat.le_refl R)).2, h3⟩
    unfold m_X11_work
    rw [t_place, hat]
    simp only [Option.bind_some, lt]
    rw [nI_1, if_pos (ixn (by omega) (by omega)), if_pos (ixn (by omega) (by omega)), cl (by omega), cl (by omega), if_pos (ixn (by omega) (by omega)), if_pos (ixn (by omega) (by omega)), if_pos (ixn (by omega) (by omega)), cl (by omega), (hv nm hnm).1, eq1]
    simp only [Option.bind_some]
    rw [eq2]
    rfl
  · rintro ⟨rw', g1, g2⟩ ⟨r, n1, n2, e1, hr, hM1, hM2, hout⟩
    dsimp only at e1 hM1 hM2 hout
    subst e1
    rw [eb_X11_work_93]
    by_cases hrR : R ≤ r
    · right
      rw [if_pos ((nle (by omega) (by omega)).mpr hrR)]
      have : r = R := by omega
      subst this
      exact ⟨_, rfl, n1, n2, hM1, hM2, hout⟩
    · left
      obtain ⟨q3, eq3, hw1, hw2⟩ := t_work_cnt (i2 := nI R) (i3 := nI w) (i4 := i4) (i5 := i5) (i6 := i6) h hse hnm (show r < R by omega)
      have hfac := fac_ok2 h hnm hb (show r < R by omega)
      have hT := hpT r hr
      have hL := hpL r hr
      have hn1 := MR_len hM1 hT.2
      have hn2 := MR_len hM2 hL.2
      rw [if_neg (fun h => hrR ((nle (by omega) (by omega)).mp h)), eq3]
      simp only [Option.bind_some]
      have e5 : nI w + q3.2.1 * q1.1 = nI (facT cell vals N w se nm r) := by rw [hw2, hq1, pk_mul, nI_add]; rfl
      have e6 : nI (vals nm) * nI w + q3.1 * q1.1 = nI (facL cell vals N w se nm r) := by rw [hw1, hq1, pk_mul, pk_mul, nI_add]; rfl
      obtain ⟨g1', m1, eg1, hg1, hm1, ho1⟩ := t_grow (nx := 1280) hM1 hT.1 hfac.1.1 (by omega) (by omega) (by omega)
      obtain ⟨g2', m2, eg2, hg2, hm2, ho2⟩ := t_grow (nx := 1280) hM2 hL.1 hfac.2.1 (by omega) (by omega) (by omega)
      rw [e5, eg1]
      simp only [Option.bind_some]
      rw [if_pos (ixn (by omega) (by omega)), cl (by omega), (hv nm hnm).1, e6, eg2]
      simp only [Option.bind_some, lt]
      rw [nI_1]
      refine ⟨_, rfl, ⟨r + 1, m1, m2, rfl, by omega, hg1, hg2, fun j hj => ⟨(ho1 j (by omega)).trans (hout j hj).1, (ho2 j (by omega)).trans (hout j hj).2⟩⟩, ?_⟩
      show R - u3 (nI (r + 1)) < R - u3 (nI r)
      rw [u3n (by omega), u3n (by omega)]; omega
end WK
