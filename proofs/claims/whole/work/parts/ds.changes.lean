/-! the methods that change: class and reference answer alike -/
section CHG
variable {N R w : Nat} {vals : Nat → Nat} {cell : Nat → Nat → Nat} {fvalues fcells fsv fsc : Nat → Int32} {i4 i5 i6 : Int32}
def vlN (vals : Nat → Nat) (N : Nat) (x : Int32) : Nat → Nat := fun p => if p = N then u3 x else vals p
theorem p_clear (fk : Nat → Int32) {i1 i2 i3 : Int32} : ∃ fk', m_X11_clear i1 i2 i3 i4 i5 i6 fk = some (i2, 0, 0, 1, 4, -1, -1, fk') ∧ ∀ j, j < 160 → fk' j = 0 := by
  obtain ⟨fk', e, hz⟩ := t_change (i1 := 0) (i2 := 0) (i3 := 1) (i4 := 4) (i5 := i5) (i6 := i6) fk
  exact ⟨fk', by rw [em_X11_clear, e]; rfl, hz⟩
theorem CS_0 : CS 0 0 1 vals cell fsv fsc := ⟨by omega, by omega, by omega, by omega, fun p hp => absurd hp (by omega), fun r hr => absurd hr (by omega)⟩
theorem MS_0 : MS 0 0 1 vals cell fvalues fcells := ⟨by omega, by omega, by omega, by omega, fun p hp => absurd hp (by omega), fun r p hr => absurd hr (by omega)⟩
theorem p_name (hC : CS N R w vals cell fsv fsc) (h : MS N R w vals cell fvalues fcells) (fk : Nat → Int32) (x : Int32) :
    (∃ r, m_X10_name (nI N) (nI R) (nI w) i4 5 fsv 16 fsc x = some r ∧ m_X11_name (nI N) (nI R) (nI w) i4 i5 i6 fk fvalues x = some (r, nI N, i5, i6, fk, fvalues)) ∨
    ((x = 2 ∨ x = 3) ∧ R = 0 ∧ N < 5 ∧ ∃ f1 fk' fv', m_X8_addName (nI N) (nI R) (nI w) i4 5 fsv x = some (nI N, nI (N + 1), f1) ∧ m_X11_name (nI N) (nI R) (nI w) i4 i5 i6 fk fvalues x = some (nI N, nI (N + 1), -1, -1, fk', fv') ∧ (∀ j, j < 160 → fk' j = 0) ∧ CS (N + 1) R w (vlN vals N x) cell f1 fsc ∧ MS (N + 1) R w (vlN vals N x) cell fv' fcells) := by
  obtain ⟨hN, hR, hw1, hw9, hv, hc⟩ := hC
  obtain ⟨-, -, -, -, hv', hc'⟩ := h
  have key : (x = 2 ∨ x = 3) → (if nI R ≤ 0 then if nI N < (5 : Int32) then none else some (-3) else some (-2) : Option Int32) = (m_X10_name (nI N) (nI R) (nI w) i4 5 fsv 16 fsc x) := by
    intro hx
    rw [em_X10_name]
    rcases hx with rfl | rfl <;> rfl
  have key2 : (x = 2 ∨ x = 3) → m_X11_name (nI N) (nI R) (nI w) i4 i5 i6 fk fvalues x = if nI R ≤ 0 then if nI N = (5 : Int32) then some ((-3), nI N, i5, i6, fk, fvalues) else if ix (nI N) 5 = true then lt ((upd fvalues (nI N).toNatClampNeg x) : Nat → Int32) (fun fvalues_1 : Nat → Int32 => lt (nI N + 1 : Int32) (fun vnames_2 : Int32 => (m_X11_change vnames_2 (nI R) (nI w) i4 i5 i6 fk).bind (fun r_3 : Int32 × Int32 × (Nat → Int32) => some (vnames_2 - 1, vnames_2, r_3.1, r_3.2.1, r_3.2.2, fvalues_1)))) else none else some ((-2), nI N, i5, i6, fk, fvalues) := by
    intro hx
    rw [em_X11_name]
    rcases hx with rfl | rfl <;> rfl
  by_cases hx : x = 2 ∨ x = 3
  · rw [← key hx, key2 hx]
    by_cases hR0 : R = 0
    · rw [if_pos ((nle0 (by omega)).mpr hR0), if_pos ((nle0 (by omega)).mpr hR0)]
      by_cases hN5 : N = 5
      · subst hN5
        rw [if_neg (show ¬ nI 5 < (5 : Int32) by decide), if_pos (show nI 5 = (5 : Int32) from rfl)]
        exact Or.inl ⟨_, rfl, rfl⟩
      · refine Or.inr ⟨hx, hR0, by omega, ?_⟩
        obtain ⟨fk', e, hz⟩ := t_change (i1 := nI (N + 1)) (i2 := nI R) (i3 := nI w) (i4 := i4) (i5 := i5) (i6 := i6) fk
        have hn5 : ¬ nI N = (5 : Int32) := fun z => hN5 (by have q := congrArg u3 z; rw [u3n (by omega)] at q; exact q)
        have hsub : nI (N + 1) - 1 = nI N := nI_subm (a := N + 1) (b := 1) (by omega)
        have hx2 : x = nI (u3 x) ∧ 2 ≤ u3 x ∧ u3 x ≤ 3 := by rcases hx with rfl | rfl <;> decide
        refine ⟨upd fsv N x, fk', upd fvalues N x, ?_, ?_, hz, ?_, ?_⟩
        · rw [em_X8_addName, if_neg (nI_pos (by omega)), if_pos ((nlt (by omega) (by omega)).mpr (by omega)), if_pos (ix_nI (by omega) (by omega)), lt, lt, cl (by omega), nI_1, hsub]
        · rw [if_neg hn5, if_pos (ix_nI (by omega) (by omega)), lt, lt, cl (by omega), nI_1, e]
          simp only [Option.bind_some]
          rw [hsub]
        · refine ⟨by omega, hR, hw1, hw9, fun p hp => ?_, fun r hr => by omega⟩
          unfold vlN
          by_cases hpN : p = N
          · subst hpN
            rw [if_pos rfl]
            exact ⟨pk_us.trans hx2.1, hx2.2⟩
          · rw [if_neg hpN]
            have q := hv p (by omega)
            exact ⟨(pk_un hpN).trans q.1, q.2⟩
        · refine ⟨by omega, hR, hw1, hw9, fun p hp => ?_, fun r p hr => by omega⟩
          unfold vlN
          by_cases hpN : p = N
          · subst hpN
            rw [if_pos rfl]
            exact ⟨pk_us.trans hx2.1, hx2.2⟩
          · rw [if_neg hpN]
            have q := hv' p (by omega)
            exact ⟨(pk_un hpN).trans q.1, q.2⟩
    · rw [if_neg (fun z => hR0 ((nle0 (by omega)).mp z)), if_neg (fun z => hR0 ((nle0 (by omega)).mp z))]
      exact Or.inl ⟨_, rfl, rfl⟩
  · left
    rw [em_X10_name, em_X11_name, if_neg (fun z => hx (Or.inl z)), if_neg (fun z => hx (Or.inr z)), if_neg (fun z => hx (Or.inl z)), if_neg (fun z => hx (Or.inr z))]
    exact ⟨_, rfl, rfl⟩
/-- a row that is told goes -/
def rwD (cell : Nat → Nat → Nat) (g : Nat) : Nat → Nat → Nat := fun r p => if r < g then cell r p else cell (r + 1) p
theorem cdF_congr {c c' : Nat → Nat → Nat} {r r' : Nat} : ∀ n, (∀ p, p < n → c r p = c' r' p) → cdF c r n = cdF c' r' n := by
  intro n
  induction n with
  | zero => intro _; rfl
  | succ n ih => intro hh; rw [cdF, cdF, ih (fun p hp => hh p (by omega)), hh n (by omega)]
theorem p_drop (hC : CS N R w vals cell fsv fsc) (h : MS N R w vals cell fvalues fcells) (fk : Nat → Int32) (x : Int32) :
    (m_X10_drop (nI N) (nI R) (nI w) i4 5 fsv 16 fsc x = some (-1) ∧ m_X11_drop (nI N) (nI R) (nI w) i4 i5 i6 fk fcells x = some (-1, nI R, i5, i6, fk, fcells)) ∨
    (m_X10_isRow (nI N) (nI R) (nI w) i4 x = some 1 ∧ 0 < R ∧ ∃ f1 fk' fc', m_X8_removeRow (nI N) (nI R) (nI w) i4 16 fsc x = some (nI (R - 1), nI (R - 1), f1) ∧ m_X11_drop (nI N) (nI R) (nI w) i4 i5 i6 fk fcells x = some (nI (R - 1), nI (R - 1), -1, -1, fk', fc') ∧ (∀ j, j < 160 → fk' j = 0) ∧ CS N (R - 1) w vals (rwD cell (u3 x)) fsv f1 ∧ MS N (R - 1) w vals (rwD cell (u3 x)) fvalues fc') := by
  obtain ⟨hN, hR, hw1, hw9, hv, hc⟩ := hC
  obtain ⟨-, -, -, -, hv', hc'⟩ := h
  by_cases hx : u3 x < R
  · have hxe : x = nI (u3 x) := (nI_u3 x).symm
    generalize hg : u3 x = g at *
    subst hxe
    refine Or.inr ⟨by rw [isRow10 (N := N) hR, hg, if_pos hx], by omega, ?_⟩
    obtain ⟨fk', e, hz⟩ := t_change (i1 := nI N) (i2 := nI (R - 1)) (i3 := nI w) (i4 := i4) (i5 := i5) (i6 := i6) fk
    have hsub : nI R - 1 = nI (R - 1) := nI_subm (a := R) (b := 1) (by omega)
    have L1 := lp_cnt (body := b_X8_removeRow_2 (nI R) 16) (fun k f => ∀ j, f j = if g ≤ j ∧ j < k then fsc (j + 1) else fsc j) (n0 := g) (n1 := R - 1) (by omega) (by omega) ?_ ?_ (s0 := fsc) (fun j => by rw [if_neg (by omega)])
    rotate_left
    · intro s hs
      rw [eb_X8_removeRow_2, if_neg (nI_pos (by omega)), nI_1, if_pos ((nle (by omega) (by omega)).mpr (by omega))]
    · intro k s hk1 hk2 hs
      rw [eb_X8_removeRow_2, if_neg (nI_pos (by omega)), nI_1, if_neg (fun z => by have := (nle (by omega) (by omega)).mp z; omega), if_neg (fun z => by have := (nle (by omega) (by omega)).mp z; omega), if_pos (ix_nI (by omega) (by omega)), if_pos (ix_nI (by omega) (by omega)), lt, lt, cl (by omega), cl (by omega)]
      refine ⟨_, rfl, fun j => ?_⟩
      by_cases hjk : j = k
      · subst hjk
        rw [if_pos (by omega), pk_us, hs (j + 1), if_neg (by omega)]
      · rw [pk_un hjk, hs j]
        by_cases hj : g ≤ j ∧ j < k
        · rw [if_pos hj, if_pos (by omega)]
        · rw [if_neg hj, if_neg (by omega)]
    have L2 := lp_cnt (body := b_X11_drop_28 (nI (R - 1))) (fun k f => ∀ j, f j = if 5 * g ≤ j ∧ j < k then fcells (j + 5) else fcells j) (n0 := 5 * g) (n1 := 5 * (R - 1)) (by omega) (by omega) ?_ ?_ (s0 := fcells) (fun j => by rw [if_neg (by omega)])
    rotate_left
    · intro s hs
      rw [eb_X11_drop_28, show (5 : Int32) * nI (R - 1) = nI (5 * (R - 1)) from pk_mul 5 (R - 1), if_pos ((nle (by omega) (by omega)).mpr (by omega))]
    · intro k s hk1 hk2 hs
      rw [eb_X11_drop_28, show (5 : Int32) * nI (R - 1) = nI (5 * (R - 1)) from pk_mul 5 (R - 1), if_neg (fun z => by have := (nle (by omega) (by omega)).mp z; omega), show nI k + 5 = nI (k + 5) from nI_add k 5, if_pos (ix_nI (by omega) (by omega)), if_pos (ix_nI (by omega) (by omega)), lt, lt, cl (by omega), cl (by omega), nI_1]
      refine ⟨_, rfl, fun j => ?_⟩
      by_cases hjk : j = k
      · subst hjk
        rw [if_pos (by omega), pk_us, hs (j + 5), if_neg (by omega)]
      · rw [pk_un hjk, hs j]
        by_cases hj : 5 * g ≤ j ∧ j < k
        · rw [if_pos hj, if_pos (by omega)]
        · rw [if_neg hj, if_neg (by omega)]
    obtain ⟨f1, e1, q1⟩ := L1
    obtain ⟨fc, e2, q2⟩ := L2
    refine ⟨f1, fk', fc, ?_, ?_, hz, ?_, ?_⟩
    · rw [em_X8_removeRow, e1]
      simp only [Option.bind_some, lt]
      rw [hsub]
    · rw [em_X11_drop, if_neg (nI_pos (by omega)), if_pos ((nlt (by omega) (by omega)).mpr hx), lt, lt, hsub, show (5 : Int32) * nI g = nI (5 * g) from pk_mul 5 g, e2]
      simp only [Option.bind_some]
      rw [e]
      rfl
    · refine ⟨hN, by omega, hw1, hw9, hv, fun r hr => ?_⟩
      rw [q1 r]
      by_cases hrg : r < g
      · rw [if_neg (by omega), (hc r (by omega)).1]
        refine ⟨congrArg nI (cdF_congr N (fun p hp => ?_)), fun p hp => ?_⟩
        · rw [rwD, if_pos hrg]
        · rw [rwD, if_pos hrg]; exact (hc r (by omega)).2 p hp
      · rw [if_pos (by omega), (hc (r + 1) (by omega)).1]
        refine ⟨congrArg nI (cdF_congr N (fun p hp => ?_)), fun p hp => ?_⟩
        · rw [rwD, if_neg hrg]
        · rw [rwD, if_neg hrg]; exact (hc (r + 1) (by omega)).2 p hp
    · refine ⟨hN, by omega, hw1, hw9, hv', fun r p hr hp => ?_⟩
      rw [q2 (5 * r + p), rwD]
      by_cases hrg : r < g
      · rw [if_neg (by omega), if_pos hrg]
        exact hc' r p (by omega) hp
      · rw [if_pos (by omega), if_neg hrg, show 5 * r + p + 5 = 5 * (r + 1) + p by omega]
        exact hc' (r + 1) p (by omega) hp
  · left
    constructor
    · rw [em_X10_drop, isRow10 (N := N) hR, if_neg hx]; rfl
    · rw [em_X11_drop]
      by_cases hneg : x < 0
      · rw [if_pos hneg]
      · rw [if_neg hneg]
        obtain ⟨j, hj, rfl⟩ := nI_of hneg
        have hj3 : u3 (nI j) = j := u3_nI (by simp only [BB]; omega)
        rw [hj3] at hx
        rw [if_neg (fun z => hx ((nlt31 hj (by omega)).mp z))]
theorem p_set (hC : CS N R w vals cell fsv fsc) (h : MS N R w vals cell fvalues fcells) (fk : Nat → Int32) (x v : Int32) :
    (m_X10_set (nI N) (nI R) (nI w) i4 5 fsv 16 fsc x v = some (-1, nI w, i4) ∧ m_X11_set (nI N) (nI R) (nI w) i4 i5 i6 fk x v = some (-1, nI w, i4, i5, i6, fk)) ∨
    (∃ fk', (∀ j, j < 160 → fk' j = 0) ∧ ((x = 0 ∧ ¬ v < 1 ∧ ¬ 9 < v ∧ m_X11_set (nI N) (nI R) (nI w) i4 i5 i6 fk x v = some (nI w, v, i4, -1, -1, fk') ∧ v = nI (u3 v) ∧ CS N R (u3 v) vals cell fsv fsc ∧ MS N R (u3 v) vals cell fvalues fcells) ∨
      (x = 1 ∧ ¬ v < 0 ∧ ¬ 4 < v ∧ m_X11_set (nI N) (nI R) (nI w) i4 i5 i6 fk x v = some (i4, nI w, v, -1, -1, fk') ∧ v = nI (u3 v) ∧ u3 v ≤ 4))) := by
  obtain ⟨hN, hR, hw1, hw9, hv, hc⟩ := hC
  obtain ⟨-, -, -, -, hv', hc'⟩ := h
  rw [em_X10_set, em_X11_set]
  by_cases h0 : x = 0
  · subst h0
    rw [if_pos rfl, if_pos rfl, if_neg (show ¬ (0 : Int32) = 1 by decide)]
    by_cases h1 : v < 1
    · rw [if_pos h1, if_pos h1]; exact Or.inl ⟨rfl, rfl⟩
    · rw [if_neg h1, if_neg h1]
      by_cases h9 : 9 < v
      · rw [if_pos h9, if_pos h9]; exact Or.inl ⟨rfl, rfl⟩
      · rw [if_neg h9, if_neg h9]
        obtain ⟨fk', e, hz⟩ := t_change (i1 := nI N) (i2 := nI R) (i3 := v) (i4 := i4) (i5 := i5) (i6 := i6) fk
        obtain ⟨j, hj, rfl⟩ := nI_of (show ¬ v < 0 from fun z => h1 (Int32.lt_trans z (by decide)))
        have hj3 : u3 (nI j) = j := u3_nI (by simp only [BB]; omega)
        have j1 : 1 ≤ j := by
          rcases Nat.lt_or_ge j 1 with q | q
          · exact absurd ((nlt31 (b := 1) hj (by omega)).mpr q) h1
          · exact q
        have j9 : j ≤ 9 := by
          rcases Nat.lt_or_ge 9 j with q | q
          · exact absurd ((nlt31 (a := 9) (by omega) hj).mpr q) h9
          · exact q
        right
        refine ⟨fk', hz, Or.inl ⟨rfl, h1, h9, ?_, by rw [hj3], ?_, ?_⟩⟩
        · rw [e]; rfl
        · rw [hj3]; exact ⟨hN, hR, j1, j9, hv, hc⟩
        · rw [hj3]; exact ⟨hN, hR, j1, j9, hv', hc'⟩
  · rw [if_neg h0, if_neg h0]
    by_cases h1 : x = 1
    · rw [if_pos h1, if_pos h1]
      by_cases hn : v < 0
      · rw [if_pos hn, if_pos hn]; exact Or.inl ⟨rfl, rfl⟩
      · rw [if_neg hn, if_neg hn]
        by_cases h4 : 4 < v
        · rw [if_pos h4, if_pos h4]; exact Or.inl ⟨rfl, rfl⟩
        · rw [if_neg h4, if_neg h4]
          obtain ⟨fk', e, hz⟩ := t_change (i1 := nI N) (i2 := nI R) (i3 := nI w) (i4 := v) (i5 := i5) (i6 := i6) fk
          obtain ⟨j, hj, rfl⟩ := nI_of hn
          have hj3 : u3 (nI j) = j := u3_nI (by simp only [BB]; omega)
          have j4 : j ≤ 4 := by
            rcases Nat.lt_or_ge 4 j with q | q
            · exact absurd ((nlt31 (a := 4) (by omega) hj).mpr q) h4
            · exact q
          right
          refine ⟨fk', hz, Or.inr ⟨h1, hn, h4, ?_, by rw [hj3], by rw [hj3]; exact j4⟩⟩
          rw [e]; rfl
    · rw [if_neg h1, if_neg h1]; exact Or.inl ⟨rfl, rfl⟩
end CHG
