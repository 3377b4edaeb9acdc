/-! order of the reference -/
theorem t_isName {N : Nat} {i2 i3 i4 i5 i6 x : Int32} (hN : N ≤ 5) : m_X11_isName (nI N) i2 i3 i4 i5 i6 x = some (if u3 x < N then 1 else 0) := by
  unfold m_X11_isName
  by_cases hneg : x < 0
  · rw [if_pos hneg]
    have : ¬ u3 x < N := by
      intro h
      have hx : x = nI (u3 x) := (nI_u3 x).symm
      rw [hx] at hneg
      exact nI_pos (by omega) hneg
    rw [if_neg this]; rfl
  · rw [if_neg hneg]
    obtain ⟨j, hj, rfl⟩ := nI_of hneg
    have hj3 : u3 (nI j) = j := u3_nI (by simp only [BB]; omega)
    rw [hj3]
    by_cases h : j < N
    · rw [if_neg (fun q => by have := (nI_leI (a := N) (b := j) (by omega) hj).mp q; omega), if_pos h]; rfl
    · rw [if_pos ((nI_leI (a := N) (b := j) (by omega) hj).mpr (by omega)), if_neg h]; rfl
/-- the k-th name of the order -/
def pick (par : Nat → Nat) (N k : Nat) : Option Nat := (gro par N k).bind fun S => nxf par S N 0
theorem gro_some {par : Nat → Nat} {N k : Nat} (h : (gro par N N).isSome = true) (hk : k ≤ N) : ∃ S, gro par N k = some S := by
  cases hS : gro par N k with
  | some S => exact ⟨S, rfl⟩
  | none => rw [gro_stop hS hk] at h; cases h
section OD
variable {N : Nat} {i2 i3 i4 i5 i6 : Int32} {g : Nat}
theorem t_order_in (hg : g < 2 ^ 30) (hN : N ≤ 5) {S c : Nat} (hS : S < 32) (hc : nxf (fun c => parN g c 5) S N 0 = some c) : lp (b_X11_order_35 (nI g) (nI S)) FU 0 = some (nI c) := by
  have hN0 : 0 < N := by
    rcases Nat.eq_zero_or_pos N with q | q
    · rw [q] at hc; cases hc
    · exact q
  have L := lp_inv (body := b_X11_order_35 (nI g) (nI S)) (fun i => ∃ j, i = nI j ∧ j < N ∧ nxf (fun c => parN g c 5) S (N - j) j = some c) (fun b => b = nI c) (fun i => N - u3 i) ?_ FU 0 ⟨0, rfl, hN0, hc⟩ (Nat.lt_of_le_of_lt (Nat.sub_le _ _) (FU_big (by omega)))
  · obtain ⟨b, e, rfl⟩ := L
    exact e
  · rintro i ⟨j, rfl, hj, hx⟩
    rw [eb_X11_order_35, bitI hS (by omega)]
    have hb2 : S / 2 ^ j % 2 < 2 := Nat.mod_lt _ (by decide)
    have hb : nI (S / 2 ^ j % 2) = (1 : Int32) ↔ S.testBit j = true := by
      rw [Nat.testBit_eq_decide_div_mod_eq, decide_eq_true_eq]
      exact neq (b := 1) (by omega) (by omega)
    have hstep : nxf (fun c => parN g c 5) S (N - j) j = if ¬ S.testBit j = true ∧ parN g j 5 &&& S = parN g j 5 then some j else nxf (fun c => parN g c 5) S (N - (j + 1)) (j + 1) := by
      rw [show N - j = (N - (j + 1)) + 1 by omega]
      rfl
    have hmu : N - u3 (nI (j + 1)) < N - u3 (nI j) := by rw [u3n (by omega), u3n (by omega)]; omega
    have go : nxf (fun c => parN g c 5) S (N - (j + 1)) (j + 1) = some c → ∃ j', nI (j + 1) = nI j' ∧ j' < N ∧ nxf (fun c => parN g c 5) S (N - j') j' = some c := by
      intro h
      obtain ⟨a1, a2, -⟩ := nxf_some _ _ h
      exact ⟨j + 1, rfl, by omega, h⟩
    rw [hstep] at hx
    by_cases hin : S.testBit j = true
    · left
      rw [if_pos (hb.mpr hin)]
      rw [if_neg (fun q => q.1 hin)] at hx
      exact ⟨nI (j + 1), by rw [← nI_1]; rfl, go hx, hmu⟩
    · rw [if_neg (fun q => hin (hb.mp q)), t_parentsOf hg (by omega)]
      simp only [Option.bind_some]
      have hsub := tb_sub (parN g j 5) (parN_lt g j 5) S hS
      by_cases hp : parN g j 5 &&& S = parN g j 5
      · right
        rw [if_pos (hsub.mpr hp)]
        rw [if_pos ⟨hin, hp⟩] at hx
        cases hx
        exact ⟨_, rfl, rfl⟩
      · left
        rw [if_neg (fun q => hp (hsub.mp q))]
        rw [if_neg (fun q => hp q.2)] at hx
        exact ⟨nI (j + 1), by rw [← nI_1]; rfl, go hx, hmu⟩
theorem t_order (hN : N ≤ 5) {x : Int32} (hx : isG N x = true) {i : Nat} (hi : i < N) : ∃ c, pick (fun c => parN (u3 x) c 5) N i = some c ∧ c < N ∧ m_X11_order (nI N) i2 i3 i4 i5 i6 x (nI i) = some (nI c) := by
  obtain ⟨⟨hx25, -⟩, hall⟩ := isG_iff.mp hx
  have hxg : x = nI (u3 x) := (nI_u3 x).symm
  have hpick : ∀ k, k < N → ∃ S c, gro (fun c => parN (u3 x) c 5) N k = some S ∧ nxf (fun c => parN (u3 x) c 5) S N 0 = some c ∧ gro (fun c => parN (u3 x) c 5) N (k + 1) = some (S ||| 2 ^ c) ∧ S < 32 ∧ c < N := by
    intro k hk
    obtain ⟨S, hS⟩ := gro_some hall (show k ≤ N by omega)
    obtain ⟨S1, hS1⟩ := gro_some hall (show k + 1 ≤ N by omega)
    have h1 := hS1
    unfold gro at h1
    rw [hS] at h1
    simp only [Option.bind_some] at h1
    cases hc : nxf (fun c => parN (u3 x) c 5) S N 0 with
    | none => rw [hc] at h1; cases h1
    | some c =>
      rw [hc] at h1
      simp only [Option.bind_some] at h1
      obtain ⟨-, c2, -⟩ := nxf_some N 0 hc
      exact ⟨S, c, hS, hc, by rw [hS1]; exact h1.symm, gro_lt hN k S hS, by omega⟩
  obtain ⟨Si, ci, hSi, hci, -, -, hciN⟩ := hpick i hi
  refine ⟨ci, by unfold pick; rw [hSi]; exact hci, hciN, ?_⟩
  have L := lp_inv (body := b_X11_order_26 x (nI i)) (fun s => ∃ k S, s.2.2 = nI k ∧ k ≤ i + 1 ∧ s.1 = nI S ∧ gro (fun c => parN (u3 x) c 5) N k = some S ∧ (k = i + 1 → s.2.1 = nI ci)) (fun s => s.2.1 = nI ci) (fun s => i + 1 - u3 s.2.2) ?_ FU (0, -1, 0) ⟨0, 0, rfl, by omega, rfl, rfl, fun h => by omega⟩ (Nat.lt_of_le_of_lt (Nat.sub_le _ _) (FU_big (by omega)))
  · obtain ⟨q, e, hq⟩ := L
    unfold m_X11_order
    rw [t_isGraph hN, if_pos hx]
    simp only [Option.bind_some]
    rw [if_neg (by decide), t_isName hN, u3n (by omega), if_pos hi]
    simp only [Option.bind_some]
    rw [if_neg (by decide), e]
    simp only [Option.bind_some]
    rw [hq]
  · rintro ⟨sw, lw, kw⟩ ⟨k, S, e1, hk, e2, hS, hlast⟩
    dsimp only at e1 e2 hlast
    subst e1
    subst e2
    rw [eb_X11_order_26]
    by_cases hki : i < k
    · right
      rw [if_pos ((nlt (by omega) (by omega)).mpr hki)]
      exact ⟨_, rfl, hlast (by omega)⟩
    · left
      obtain ⟨S', c, h1, h2, h3, h4, h5⟩ := hpick k (by omega)
      rw [hS] at h1
      cases h1
      have hin := t_order_in (g := u3 x) (N := N) (Nat.lt_trans hx25 (by decide)) hN h4 h2
      rw [← hxg] at hin
      rw [if_neg (fun h => hki ((nlt (by omega) (by omega)).mp h)), hin]
      simp only [Option.bind_some, lt]
      rw [(tb_or S h4 c (by omega)).1, nI_1]
      refine ⟨_, rfl, ⟨k + 1, S ||| 2 ^ c, rfl, by omega, rfl, h3, fun h => ?_⟩, ?_⟩
      · have hk2 : k = i := by omega
        subst hk2
        rw [hS] at hSi
        cases hSi
        rw [h2] at hci
        cases hci
        rfl
      · show i + 1 - u3 (nI (k + 1)) < i + 1 - u3 (nI k)
        rw [u3n (by omega), u3n (by omega)]; omega
end OD
