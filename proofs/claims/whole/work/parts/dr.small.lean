/-! the small methods: class and reference answer alike -/
section SM
variable {N R w : Nat} {vals : Nat → Nat} {cell : Nat → Nat → Nat} {fvalues fcells fsv fsc : Nat → Int32} {i2 i3 i4 i5 i6 j2 j3 j4 : Int32}
theorem c_order (hN : N ≤ 5) {x : Int32} (hx : isG N x = true) {i : Nat} (hi : i < N) {ci : Nat} (hp : pick (fun c => parN (u3 x) c 5) N i = some ci) : ∃ q, lp (b_X10_order_26 (nI N) x (nI i)) FU (0, 0, 0) = some q ∧ q.2.1 = nI ci := by
  obtain ⟨⟨hx25, -⟩, hall⟩ := isG_iff.mp hx
  have hxg : x = nI (u3 x) := (nI_u3 x).symm
  have hpick : ∀ k, k < N → ∃ S c, gro (fun c => parN (u3 x) c 5) N k = some S ∧ nxf (fun c => parN (u3 x) c 5) S N 0 = some c ∧ gro (fun c => parN (u3 x) c 5) N (k + 1) = some (S ||| 2 ^ c) ∧ S < 32 ∧ c < N := by
    intro k hk
    obtain ⟨S, hS⟩ := gro_some hall (show k ≤ N by omega)
    obtain ⟨S1, hS1⟩ := gro_some hall (show k + 1 ≤ N by omega)
    have h1 := hS1
    unfold gro at h1
    rw [hS] at h1
    simp only [Option.bind_some] at h1
    cases hc : nxf (fun c => parN (u3 x) c 5) S N 0 with
    | none => rw [hc] at h1; cases h1
    | some c =>
      rw [hc] at h1
      simp only [Option.bind_some] at h1
      obtain ⟨-, c2, -⟩ := nxf_some N 0 hc
      exact ⟨S, c, hS, hc, by rw [hS1]; exact h1.symm, gro_lt hN k S hS, by omega⟩
  have L := lp_inv (body := b_X10_order_26 (nI N) x (nI i)) (fun s => ∃ k S, s.2.2 = nI k ∧ k ≤ i + 1 ∧ s.1 = nI S ∧ gro (fun c => parN (u3 x) c 5) N k = some S ∧ (k = i + 1 → s.2.1 = nI ci)) (fun s => s.2.1 = nI ci) (fun s => i + 1 - u3 s.2.2) ?_ FU (0, 0, 0) ⟨0, 0, rfl, by omega, rfl, rfl, fun h => by omega⟩ (Nat.lt_of_le_of_lt (Nat.sub_le _ _) (FU_big (by omega)))
  · obtain ⟨q, e, hq⟩ := L
    exact ⟨q, e, hq⟩
  · rintro ⟨sw, lw, kw⟩ ⟨k, S, e1, hk, e2, hS, hlast⟩
    dsimp only at e1 e2 hlast
    subst e1
    subst e2
    rw [eb_X10_order_26]
    by_cases hki : i < k
    · right
      rw [if_pos ((nlt (by omega) (by omega)).mpr hki)]
      exact ⟨_, rfl, hlast (by omega)⟩
    · left
      obtain ⟨S', c, h1, h2, h3, h4, h5⟩ := hpick k (by omega)
      rw [hS] at h1
      cases h1
      have hin := t_nextAfter (g := u3 x) (N := N) (Nat.lt_trans hx25 (by decide)) hN h4
      rw [← hxg, h2] at hin
      rw [if_neg (fun h => hki ((nlt (by omega) (by omega)).mp h)), hin]
      simp only [Option.bind_some, lt]
      rw [(tb_or S h4 c (by omega)).1, nI_1]
      refine ⟨_, rfl, ⟨k + 1, S ||| 2 ^ c, rfl, by omega, rfl, h3, fun h => ?_⟩, ?_⟩
      · have hk2 : k = i := by omega
        subst hk2
        unfold pick at hp
        rw [hS] at hp
        simp only [Option.bind_some] at hp
        rw [h2] at hp
        cases hp
        rfl
      · show i + 1 - u3 (nI (k + 1)) < i + 1 - u3 (nI k)
        rw [u3n (by omega), u3n (by omega)]; omega
theorem p_order (hN : N ≤ 5) (x i : Int32) : ∃ r, m_X10_order (nI N) j2 j3 j4 x i = some r ∧ m_X11_order (nI N) i2 i3 i4 i5 i6 x i = some r := by
  by_cases hx : isG N x = true
  · by_cases hi : u3 i < N
    · obtain ⟨c, h1, -, h2⟩ := t_order (i2 := i2) (i3 := i3) (i4 := i4) (i5 := i5) (i6 := i6) hN hx hi
      rw [nI_u3] at h2
      obtain ⟨q, h3, h4⟩ := c_order hN hx hi h1
      rw [nI_u3] at h3
      refine ⟨nI c, ?_, h2⟩
      rw [em_X10_order, isGraph10 hN, if_pos hx]
      simp only [Option.bind_some]
      rw [if_neg (show ¬ (1 : Int32) = 0 by decide), isName10 hN, if_pos hi]
      simp only [Option.bind_some]
      rw [if_neg (show ¬ (1 : Int32) = 0 by decide), h3]
      simp only [Option.bind_some]
      rw [h4]
    · refine ⟨-1, ?_, ?_⟩
      · rw [em_X10_order, isGraph10 hN, if_pos hx]
        simp only [Option.bind_some]
        rw [if_neg (show ¬ (1 : Int32) = 0 by decide), isName10 hN, if_neg hi]
        rfl
      · unfold m_X11_order
        rw [t_isGraph hN, if_pos hx]
        simp only [Option.bind_some]
        rw [if_neg (show ¬ (1 : Int32) = 0 by decide), t_isName hN, if_neg hi]
        rfl
  · refine ⟨-1, ?_, ?_⟩
    · rw [em_X10_order, isGraph10 hN, if_neg hx]
      rfl
    · unfold m_X11_order
      rw [t_isGraph hN, if_neg hx]
      rfl
theorem p_isGraph (hN : N ≤ 5) (x : Int32) : ∃ r, m_X10_isGraph (nI N) j2 j3 j4 x = some r ∧ m_X11_isGraph (nI N) i2 i3 i4 i5 i6 x = some r := ⟨_, isGraph10 hN, t_isGraph hN⟩
theorem isRow10 {N : Nat} {i1 i3 i4 x : Int32} (hR : R ≤ 16) : m_X10_isRow i1 (nI R) i3 i4 x = some (if u3 x < R then 1 else 0) := by
  rw [em_X10_isRow]
  by_cases hneg : x < 0
  · rw [if_pos hneg]
    have : ¬ u3 x < R := by
      intro h
      have hx : x = nI (u3 x) := (nI_u3 x).symm
      rw [hx] at hneg
      exact nI_pos (by omega) hneg
    rw [if_neg this]; rfl
  · rw [if_neg hneg]
    obtain ⟨j, hj, rfl⟩ := nI_of hneg
    have hj3 : u3 (nI j) = j := u3_nI (by simp only [BB]; omega)
    rw [hj3]
    by_cases h : j < R
    · rw [if_neg (fun q => by have := (nI_leI (a := R) (b := j) (by omega) hj).mp q; omega), if_pos h]; rfl
    · rw [if_pos ((nI_leI (a := R) (b := j) (by omega) hj).mpr (by omega)), if_neg h]; rfl
theorem p_value (hC : CS N R w vals cell fsv fsc) (h : MS N R w vals cell fvalues fcells) (x y : Int32) : ∃ r, m_X10_value (nI N) (nI R) j3 j4 16 fsc x y = some r ∧ m_X11_value (nI N) (nI R) i3 i4 i5 i6 fcells x y = some r := by
  have hN := hC.1
  have hR := hC.2.1
  rw [em_X10_value, isRow10 (N := N) hR, em_X11_value]
  simp only [Option.bind_some]
  by_cases hneg : x < 0
  · have : ¬ u3 x < R := by
      intro h
      have hx : x = nI (u3 x) := (nI_u3 x).symm
      rw [hx] at hneg
      exact nI_pos (by omega) hneg
    rw [if_neg this, if_pos rfl, if_pos hneg]
    exact ⟨_, rfl, rfl⟩
  · rw [if_neg hneg]
    obtain ⟨j, hj, rfl⟩ := nI_of hneg
    have hj3 : u3 (nI j) = j := u3_nI (by simp only [BB]; omega)
    rw [hj3]
    by_cases hr : j < R
    · have hnr : ¬ nI R ≤ nI j := fun q => by have := (nI_leI (a := R) (b := j) (by omega) hj).mp q; omega
      rw [if_pos hr, if_neg (show ¬ (1 : Int32) = 0 by decide), if_neg hnr, isName10 hN, t_isName hN]
      simp only [Option.bind_some]
      by_cases hp : u3 y < N
      · have hy : y = nI (u3 y) := (nI_u3 y).symm
        rw [if_pos hp, if_neg (show ¬ (1 : Int32) = 0 by decide), if_neg (show ¬ (1 : Int32) = 0 by decide), hy, s_valueIn hC hr hp, five, if_pos (ix_nI (by omega) (by omega)), cl (by omega), (h.2.2.2.2.2 j (u3 y) hr hp).1]
        exact ⟨_, rfl, rfl⟩
      · rw [if_neg hp, if_pos rfl, if_pos rfl]
        exact ⟨_, rfl, rfl⟩
    · rw [if_neg hr, if_pos rfl, if_pos ((nI_leI (a := R) (b := j) (by omega) hj).mpr (by omega))]
      exact ⟨_, rfl, rfl⟩
theorem p_about (hC : CS N R w vals cell fsv fsc) (h : MS N R w vals cell fvalues fcells) (x : Int32) : ∃ r, m_X10_about (nI N) (nI R) (nI w) i4 5 fsv x = some r ∧ m_X11_about (nI N) (nI R) (nI w) i4 i5 i6 fvalues x = some r := by
  have hN := hC.1
  rw [em_X10_about, em_X11_about]
  by_cases h0 : x = 0
  · rw [if_pos h0, if_pos h0]; exact ⟨_, rfl, rfl⟩
  by_cases h1 : x = 1
  · rw [if_neg h0, if_neg h0, if_pos h1, if_pos h1]; exact ⟨_, rfl, rfl⟩
  by_cases h2 : x = 2
  · rw [if_neg h0, if_neg h0, if_neg h1, if_neg h1, if_pos h2, if_pos h2]; exact ⟨_, rfl, rfl⟩
  by_cases h3 : x = 3
  · rw [if_neg h0, if_neg h0, if_neg h1, if_neg h1, if_neg h2, if_neg h2, if_pos h3, if_pos h3]; exact ⟨_, rfl, rfl⟩
  rw [if_neg h0, if_neg h0, if_neg h1, if_neg h1, if_neg h2, if_neg h2, if_neg h3, if_neg h3]
  by_cases h4 : x < 4
  · rw [if_pos h4, if_pos h4]; exact ⟨_, rfl, rfl⟩
  rw [if_neg h4, if_neg h4]
  obtain ⟨j, hj, rfl⟩ := nI_of (show ¬ x < 0 from fun z => h4 (Int32.lt_trans z (by decide)))
  have hj4 : 4 ≤ j := by
    rcases Nat.lt_or_ge j 4 with q | q
    · exact absurd ((nlt31 (b := 4) hj (by omega)).mpr q) h4
    · exact q
  rw [show (4 : Int32) = nI 4 from rfl, nI_subm hj4, nI_add, isName10 hN, u3_nI (by simp only [BB]; omega)]
  simp only [Option.bind_some]
  by_cases hp : j - 4 < N
  · rw [if_pos hp, if_neg (show ¬ (1 : Int32) = 0 by decide), s_valuesOf hC hp, if_neg (fun q => by have := (nle31 (a := 4 + N) (b := j) (by omega) hj).mp q; omega), if_pos (ix_nI (by omega) (by omega)), cl (by omega), (h.2.2.2.2.1 (j - 4) hp).1]
    exact ⟨_, rfl, rfl⟩
  · rw [if_neg hp, if_pos rfl, if_pos ((nle31 (a := 4 + N) (b := j) (by omega) hj).mpr (by omega))]
    exact ⟨_, rfl, rfl⟩
theorem t_change {i1 : Int32} (fk : Nat → Int32) : ∃ fk', m_X11_change i1 i2 i3 i4 i5 i6 fk = some (-1, -1, fk') ∧ ∀ j, j < 160 → fk' j = 0 := by
  have L := lp_cnt (body := b_X11_change_2) (fun k f => ∀ j, j < k → f j = 0) (n0 := 0) (n1 := 160) (by omega) (by omega) ?_ ?_ (s0 := fk) (fun j hj => by omega)
  · obtain ⟨f, e, hf⟩ := L
    refine ⟨f, ?_, hf⟩
    rw [em_X11_change, show ((0 : Int32), fk) = (nI 0, fk) from rfl, e]
    rfl
  · intro s _
    rw [eb_X11_change_2, if_pos (show (160 : Int32) ≤ nI 160 by decide)]
  · intro k s _ hk hs
    rw [eb_X11_change_2, if_neg (fun z => by have := (nle (a := 160) (b := k) (by omega) (by omega)).mp z; omega), if_pos (ix_nI hk (by omega)), lt, lt, cl (by omega), nI_1]
    refine ⟨_, rfl, fun j hj => ?_⟩
    by_cases hjk : j = k
    · subst hjk; exact pk_us
    · exact (pk_un hjk).trans (hs j (by omega))
theorem MK_z {fk ft fl : Nat → Int32} (hN : N ≤ 5) (hz : ∀ j, j < 160 → fk j = 0) : MK cell vals N R w fk ft fl := fun nm se h1 h2 _ => Or.inl (hz _ (by omega))
end SM
