/-! row: class and reference answer alike -/
section ROW
variable {N R w : Nat} {vals : Nat → Nat} {cell : Nat → Nat → Nat} {fvalues fcells fsv fsc : Nat → Int32} {i4 i5 i6 : Int32}
theorem fitsName10 (hC : CS N R w vals cell fsv fsc) {i2 i3 : Int32} (p : Nat) (hp : p < 5) (v : Int32) : m_X10_fitsName (nI N) i2 i3 i4 5 fsv (nI p) v = some (if N ≤ p ∨ (¬ v < 0 ∧ v < nI (vals p)) then 1 else 0) := by
  have hN := hC.1
  rw [em_X10_fitsName, isName10 hN, u3n (by omega)]
  simp only [Option.bind_some]
  by_cases h : p < N
  · rw [if_pos h, if_neg (show ¬ (1 : Int32) = 0 by decide), isValue10 hC h]
    simp only [Option.bind_some]
    by_cases hv : ¬ v < 0 ∧ v < nI (vals p)
    · rw [if_pos hv, if_pos (Or.inr hv)]; rfl
    · rw [if_neg hv, if_pos rfl, if_neg (show ¬ (N ≤ p ∨ (¬ v < 0 ∧ v < nI (vals p))) from fun z => z.elim (fun q => by omega) hv)]; rfl
  · rw [if_neg h, if_pos rfl, if_pos (Or.inl (by omega))]
theorem t_isValue (hM : MS N R w vals cell fvalues fcells) {i2 i3 : Int32} (p : Nat) (hp : p < 5) (v : Int32) : m_X11_isValue (nI N) i2 i3 i4 i5 i6 fvalues (nI p) v = some (if N ≤ p ∨ (¬ v < 0 ∧ v < nI (vals p)) then 1 else 0) := by
  have hN := hM.1
  rw [em_X11_isValue]
  by_cases h : p < N
  · rw [if_neg (fun z => by have := (nle (by omega) (by omega)).mp z; omega)]
    by_cases h0 : v < 0
    · rw [if_pos h0, if_neg (fun z => z.elim (fun q => by omega) (fun q => q.1 h0))]; rfl
    · rw [if_neg h0, if_pos (ix_nI hp (by omega)), cl (by omega), (hM.2.2.2.2.1 p h).1]
      by_cases h1 : nI (vals p) ≤ v
      · rw [if_pos h1, if_neg (fun z => z.elim (fun q => by omega) (fun q => Int32.not_lt.mpr h1 q.2))]; rfl
      · rw [if_neg h1, if_pos (Or.inr ⟨h0, Int32.not_le.mp h1⟩)]; rfl
  · rw [if_pos ((nle (by omega) (by omega)).mpr (by omega)), if_pos (Or.inl (by omega))]; rfl
def rwP (p0 p1 p2 p3 p4 : Int32) : Nat → Int32 := fun p => if p = 0 then p0 else if p = 1 then p1 else if p = 2 then p2 else if p = 3 then p3 else p4
def rwA (cell : Nat → Nat → Nat) (R : Nat) (f : Nat → Int32) : Nat → Nat → Nat := fun r p => if r = R then u3 (f p) else cell r p
theorem tb_cod : ∀ c, c < 3 → ∀ p, p < 5 → nI c <<< ((2 * nI p) &&& 31) = nI (c * 4 ^ p) := by decide +kernel
theorem tb_ors : ∀ c0, c0 < 3 → ∀ c1, c1 < 3 → ∀ c2, c2 < 3 → ∀ c3, c3 < 3 → ∀ c4, c4 < 3 → (((nI (c0 * 4 ^ 0) ||| nI (c1 * 4 ^ 1)) ||| nI (c2 * 4 ^ 2)) ||| nI (c3 * 4 ^ 3)) ||| nI (c4 * 4 ^ 4) = nI (c0 * 4 ^ 0 + c1 * 4 ^ 1 + c2 * 4 ^ 2 + c3 * 4 ^ 3 + c4 * 4 ^ 4) := by decide +kernel
def cd0 (f : Nat → Int32) (N p : Nat) : Nat := if p < N then u3 (f p) else 0
theorem coded10 {i2 i3 : Int32} (hN : N ≤ 5) (f : Nat → Int32) (p : Nat) (hp : p < 5) (h3 : p < N → u3 (f p) < 3) : m_X10_coded (nI N) i2 i3 i4 (nI p) (f p) = some (nI (cd0 f N p * 4 ^ p)) := by
  rw [em_X10_coded, isName10 hN, u3n (by omega), cd0]
  simp only [Option.bind_some]
  by_cases h : p < N
  · rw [if_pos h, if_neg (show ¬ (1 : Int32) = 0 by decide), if_pos h, ← tb_cod _ (h3 h) p hp, nI_u3]; rfl
  · rw [if_neg h, if_pos rfl, if_neg h, Nat.zero_mul]; rfl
theorem cd_sum (f : Nat → Int32) (hN : N ≤ 5) : cd0 f N 0 * 4 ^ 0 + cd0 f N 1 * 4 ^ 1 + cd0 f N 2 * 4 ^ 2 + cd0 f N 3 * 4 ^ 3 + cd0 f N 4 * 4 ^ 4 = cdF (rwA cell R f) R N := by
  have e : ∀ p, rwA cell R f R p = u3 (f p) := fun p => by rw [rwA, if_pos rfl]
  match N, hN with
  | 0, _ => simp [cd0, cdF]
  | 1, _ => simp [cd0, cdF, e]
  | 2, _ => simp [cd0, cdF, e]
  | 3, _ => simp [cd0, cdF, e]
  | 4, _ => simp [cd0, cdF, e]
  | 5, _ => simp [cd0, cdF, e]
theorem p_row (hC : CS N R w vals cell fsv fsc) (h : MS N R w vals cell fvalues fcells) (fk : Nat → Int32) (p0 p1 p2 p3 p4 : Int32) :
    (∃ r, m_X10_row (nI N) (nI R) (nI w) i4 5 fsv 16 fsc p0 p1 p2 p3 p4 = some r ∧ m_X11_row (nI N) (nI R) (nI w) i4 i5 i6 fk fvalues fcells p0 p1 p2 p3 p4 = some (r, nI R, i5, i6, fk, fcells)) ∨
    (m_X10_fitsName (nI N) (nI R) (nI w) i4 5 fsv 0 p0 = some 1 ∧ m_X10_fitsName (nI N) (nI R) (nI w) i4 5 fsv 1 p1 = some 1 ∧ m_X10_fitsName (nI N) (nI R) (nI w) i4 5 fsv 2 p2 = some 1 ∧ m_X10_fitsName (nI N) (nI R) (nI w) i4 5 fsv 3 p3 = some 1 ∧ m_X10_fitsName (nI N) (nI R) (nI w) i4 5 fsv 4 p4 = some 1 ∧ 0 < N ∧ R < 16 ∧
      ∃ k0 k1 k2 k3 k4 f1 fk' fc', m_X10_coded (nI N) (nI R) (nI w) i4 0 p0 = some k0 ∧ m_X10_coded (nI N) (nI R) (nI w) i4 1 p1 = some k1 ∧ m_X10_coded (nI N) (nI R) (nI w) i4 2 p2 = some k2 ∧ m_X10_coded (nI N) (nI R) (nI w) i4 3 p3 = some k3 ∧ m_X10_coded (nI N) (nI R) (nI w) i4 4 p4 = some k4 ∧ m_X8_addRow (nI N) (nI R) (nI w) i4 16 fsc ((((k0 ||| k1) ||| k2) ||| k3) ||| k4) = some (nI R, nI (R + 1), f1) ∧
      m_X11_row (nI N) (nI R) (nI w) i4 i5 i6 fk fvalues fcells p0 p1 p2 p3 p4 = some (nI R, nI (R + 1), -1, -1, fk', fc') ∧ (∀ j, j < 160 → fk' j = 0) ∧ CS N (R + 1) w vals (rwA cell R (rwP p0 p1 p2 p3 p4)) fsv f1 ∧ MS N (R + 1) w vals (rwA cell R (rwP p0 p1 p2 p3 p4)) fvalues fc') := by
  have f0 := fitsName10 (i4 := i4) (i2 := nI R) (i3 := nI w) hC 0 (by omega) p0
  have f1 := fitsName10 (i4 := i4) (i2 := nI R) (i3 := nI w) hC 1 (by omega) p1
  have f2 := fitsName10 (i4 := i4) (i2 := nI R) (i3 := nI w) hC 2 (by omega) p2
  have f3 := fitsName10 (i4 := i4) (i2 := nI R) (i3 := nI w) hC 3 (by omega) p3
  have f4 := fitsName10 (i4 := i4) (i2 := nI R) (i3 := nI w) hC 4 (by omega) p4
  have g0 := t_isValue (i4 := i4) (i5 := i5) (i6 := i6) (i2 := nI R) (i3 := nI w) h 0 (by omega) p0
  have g1 := t_isValue (i4 := i4) (i5 := i5) (i6 := i6) (i2 := nI R) (i3 := nI w) h 1 (by omega) p1
  have g2 := t_isValue (i4 := i4) (i5 := i5) (i6 := i6) (i2 := nI R) (i3 := nI w) h 2 (by omega) p2
  have g3 := t_isValue (i4 := i4) (i5 := i5) (i6 := i6) (i2 := nI R) (i3 := nI w) h 3 (by omega) p3
  have g4 := t_isValue (i4 := i4) (i5 := i5) (i6 := i6) (i2 := nI R) (i3 := nI w) h 4 (by omega) p4
  change m_X10_fitsName (nI N) (nI R) (nI w) i4 5 fsv 0 p0 = _ at f0
  change m_X10_fitsName (nI N) (nI R) (nI w) i4 5 fsv 1 p1 = _ at f1
  change m_X10_fitsName (nI N) (nI R) (nI w) i4 5 fsv 2 p2 = _ at f2
  change m_X10_fitsName (nI N) (nI R) (nI w) i4 5 fsv 3 p3 = _ at f3
  change m_X10_fitsName (nI N) (nI R) (nI w) i4 5 fsv 4 p4 = _ at f4
  change m_X11_isValue (nI N) (nI R) (nI w) i4 i5 i6 fvalues 0 p0 = _ at g0
  change m_X11_isValue (nI N) (nI R) (nI w) i4 i5 i6 fvalues 1 p1 = _ at g1
  change m_X11_isValue (nI N) (nI R) (nI w) i4 i5 i6 fvalues 2 p2 = _ at g2
  change m_X11_isValue (nI N) (nI R) (nI w) i4 i5 i6 fvalues 3 p3 = _ at g3
  change m_X11_isValue (nI N) (nI R) (nI w) i4 i5 i6 fvalues 4 p4 = _ at g4
  have one : ¬ (1 : Int32) = 0 := by decide
  rw [em_X10_row, em_X11_row, f0, g0]
  simp only [Option.bind_some]
  by_cases h0 : N ≤ 0 ∨ (¬ p0 < 0 ∧ p0 < nI (vals 0))
  case neg => rw [if_neg h0, if_pos rfl, if_pos rfl]; exact Or.inl ⟨_, rfl, rfl⟩
  rw [if_pos h0, if_neg one, if_neg one, f1, g1]
  simp only [Option.bind_some]
  by_cases h1 : N ≤ 1 ∨ (¬ p1 < 0 ∧ p1 < nI (vals 1))
  case neg => rw [if_neg h1, if_pos rfl, if_pos rfl]; exact Or.inl ⟨_, rfl, rfl⟩
  rw [if_pos h1, if_neg one, if_neg one, f2, g2]
  simp only [Option.bind_some]
  by_cases h2 : N ≤ 2 ∨ (¬ p2 < 0 ∧ p2 < nI (vals 2))
  case neg => rw [if_neg h2, if_pos rfl, if_pos rfl]; exact Or.inl ⟨_, rfl, rfl⟩
  rw [if_pos h2, if_neg one, if_neg one, f3, g3]
  simp only [Option.bind_some]
  by_cases h3 : N ≤ 3 ∨ (¬ p3 < 0 ∧ p3 < nI (vals 3))
  case neg => rw [if_neg h3, if_pos rfl, if_pos rfl]; exact Or.inl ⟨_, rfl, rfl⟩
  rw [if_pos h3, if_neg one, if_neg one, f4, g4]
  simp only [Option.bind_some]
  by_cases h4 : N ≤ 4 ∨ (¬ p4 < 0 ∧ p4 < nI (vals 4))
  case neg => rw [if_neg h4, if_pos rfl, if_pos rfl]; exact Or.inl ⟨_, rfl, rfl⟩
  rw [if_pos h4, if_neg one, if_neg one]
  obtain ⟨hN, hR, hw1, hw9, hv, hc⟩ := hC
  obtain ⟨-, -, -, -, hv', hc'⟩ := h
  by_cases hN0 : N = 0
  · subst hN0
    rw [if_pos (show nI 0 = (0 : Int32) from rfl), if_pos (show nI 0 = (0 : Int32) from rfl)]
    exact Or.inl ⟨_, rfl, rfl⟩
  have hn0 : ¬ nI N = (0 : Int32) := fun z => hN0 ((neq (b := 0) (by omega) (by omega)).mp z)
  rw [if_neg hn0, if_neg hn0]
  by_cases hR16 : R = 16
  · subst hR16
    rw [if_neg (show ¬ nI 16 < (16 : Int32) by decide), if_pos (show nI 16 = (16 : Int32) from rfl)]
    exact Or.inl ⟨_, rfl, rfl⟩
  have hr16 : ¬ nI R = (16 : Int32) := fun z => hR16 ((neq (b := 16) (by omega) (by omega)).mp z)
  rw [if_neg hr16]
  have hall : ∀ p, p < N → u3 (rwP p0 p1 p2 p3 p4 p) < 3 := by
    intro p hp
    have key : ∀ v : Int32, ¬ v < 0 → v < nI (vals p) → u3 v < 3 := by
      intro v a b
      obtain ⟨j, hj, rfl⟩ := nI_of a
      have q := hv p hp
      have := (nlt31 (b := vals p) hj (by omega)).mp b
      rw [u3_nI (by simp only [BB]; omega)]
      omega
    match p, (show p < 5 by omega) with
    | 0, _ => exact (h0.resolve_left (by omega)).elim (key p0)
    | 1, _ => exact (h1.resolve_left (by omega)).elim (key p1)
    | 2, _ => exact (h2.resolve_left (by omega)).elim (key p2)
    | 3, _ => exact (h3.resolve_left (by omega)).elim (key p3)
    | 4, _ => exact (h4.resolve_left (by omega)).elim (key p4)
  right
  obtain ⟨fk', e, hz⟩ := t_change (i1 := nI N) (i2 := nI (R + 1)) (i3 := nI w) (i4 := i4) (i5 := i5) (i6 := i6) fk
  have hsub : nI (R + 1) - 1 = nI R := nI_subm (a := R + 1) (b := 1) (by omega)
  have c3 : ∀ p, cd0 (rwP p0 p1 p2 p3 p4) N p < 3 := fun p => by
    rw [cd0]
    split
    · rename_i q; exact hall p q
    · omega
  have hor := tb_ors _ (c3 0) _ (c3 1) _ (c3 2) _ (c3 3) _ (c3 4)
  rw [cd_sum (cell := cell) (R := R) (rwP p0 p1 p2 p3 p4) hN] at hor
  refine ⟨by first | trivial | rfl | (rw [f0, if_pos h0]), by first | trivial | rfl | (rw [f1, if_pos h1]), by first | trivial | rfl | (rw [f2, if_pos h2]), by first | trivial | rfl | (rw [f3, if_pos h3]), by first | trivial | rfl | (rw [f4, if_pos h4]), by omega, by omega, _, _, _, _, _, upd fsc R (nI (cdF (rwA cell R (rwP p0 p1 p2 p3 p4)) R N)), fk', upd (upd (upd (upd (upd fcells (5 * R) p0) (5 * R + 1) p1) (5 * R + 2) p2) (5 * R + 3) p3) (5 * R + 4) p4, coded10 hN (rwP p0 p1 p2 p3 p4) 0 (by omega) (hall 0), coded10 hN (rwP p0 p1 p2 p3 p4) 1 (by omega) (hall 1), coded10 hN (rwP p0 p1 p2 p3 p4) 2 (by omega) (hall 2), coded10 hN (rwP p0 p1 p2 p3 p4) 3 (by omega) (hall 3), coded10 hN (rwP p0 p1 p2 p3 p4) 4 (by omega) (hall 4), ?_, ?_, hz, ?_, ?_⟩
  · rw [hor, em_X8_addRow, if_neg (nI_pos (by omega)), if_pos ((nlt (by omega) (by omega)).mpr (by omega)), if_pos (ix_nI (by omega) (by omega)), lt, lt, cl (by omega), nI_1, hsub]
  · rw [show (5 : Int32) * nI R = nI (5 * R) from pk_mul 5 R, lt, if_pos (ix_nI (by omega) (by omega)), lt, show nI (5 * R) + 1 = nI (5 * R + 1) from nI_add (5 * R) 1, if_pos (ix_nI (by omega) (by omega)), lt, show nI (5 * R) + 2 = nI (5 * R + 2) from nI_add (5 * R) 2, if_pos (ix_nI (by omega) (by omega)), lt, show nI (5 * R) + 3 = nI (5 * R + 3) from nI_add (5 * R) 3, if_pos (ix_nI (by omega) (by omega)), lt, show nI (5 * R) + 4 = nI (5 * R + 4) from nI_add (5 * R) 4, if_pos (ix_nI (by omega) (by omega)), lt, lt, nI_1, e]
    simp only [Option.bind_some]
    rw [hsub, cl (by omega), cl (by omega), cl (by omega), cl (by omega), cl (by omega)]
  · refine ⟨hN, by omega, hw1, hw9, hv, fun r hr => ?_⟩
    by_cases hrR : r = R
    · subst hrR
      refine ⟨pk_us, fun p hp => ?_⟩
      rw [rwA, if_pos rfl]; exact hall p hp
    · have q := hc r (by omega)
      refine ⟨((pk_un hrR).trans q.1).trans (congrArg nI (cdF_congr N (fun p hp => ?_))), fun p hp => ?_⟩
      · rw [rwA, if_neg hrR]
      · rw [rwA, if_neg hrR]; exact q.2 p hp
  · refine ⟨hN, by omega, hw1, hw9, hv', fun r p hr hp => ?_⟩
    by_cases hrR : r = R
    · subst hrR
      have hcell : rwA cell r (rwP p0 p1 p2 p3 p4) r p = u3 (rwP p0 p1 p2 p3 p4 p) := by rw [rwA, if_pos rfl]
      rw [hcell]
      refine ⟨?_, hall p hp⟩
      rw [nI_u3]
      match p, (show p < 5 by omega) with
      | 0, _ => rw [pk_un (by omega), pk_un (by omega), pk_un (by omega), pk_un (by omega)]; exact pk_us
      | 1, _ => rw [pk_un (by omega), pk_un (by omega), pk_un (by omega)]; exact pk_us
      | 2, _ => rw [pk_un (by omega), pk_un (by omega)]; exact pk_us
      | 3, _ => rw [pk_un (by omega)]; exact pk_us
      | 4, _ => exact pk_us
    · rw [rwA, if_neg hrR, pk_un (by omega), pk_un (by omega), pk_un (by omega), pk_un (by omega), pk_un (by omega)]
      exact hc' r p (by omega) hp
end ROW
