section IG
variable {N : Nat} {i2 i3 i4 i5 i6 : Int32}
theorem t_isSet (hN : N ≤ 5) {t : Nat} (ht : t < 100000) : m_X11_isSet (nI N) i2 i3 i4 i5 i6 (nI t) = some (if t < 2 ^ N then 1 else 0) := by
  unfold m_X11_isSet
  have h32 : 2 ^ N ≤ 32 := Nat.le_trans (Nat.pow_le_pow_right (by decide) hN) (by decide)
  rw [if_neg (nI_pos (by omega)), tb_pow N (by omega)]
  by_cases h : t < 2 ^ N
  · rw [if_neg (fun q => by have := (nle (by omega) (by omega)).mp q; omega), if_pos h]; rfl
  · rw [if_pos ((nle (by omega) (by omega)).mpr (by omega)), if_neg h]; rfl
theorem t_arcs (hN : N ≤ 5) {g : Nat} (hg : g < 2 ^ 25) : ∃ b, lp (b_X11_isGraph_14 (nI N) i2 i3 i4 i5 i6 (nI g)) FU 0 = some b ∧ ((okA N g ∧ ∃ z, b = .inl z) ∨ (¬ okA N g ∧ b = .inr 0)) := by
  refine lp_inv (body := b_X11_isGraph_14 (nI N) i2 i3 i4 i5 i6 (nI g)) (fun i => ∃ p, i = nI p ∧ p ≤ 5 ∧ ∀ q, q < p → g / 2 ^ (5 * q) % 32 &&& mk N q = g / 2 ^ (5 * q) % 32) _ (fun i => 5 - u3 i) ?_ FU 0 ⟨0, rfl, by omega, fun q hq => by omega⟩ (Nat.lt_of_le_of_lt (Nat.sub_le _ _) (FU_big (by omega)))
  rintro i ⟨p, rfl, hp, hlo⟩
  rw [eb_X11_isGraph_14]
  have h5i : (5 : Int32) ≤ nI p ↔ 5 ≤ p := nle (a := 5) (by omega) (by omega)
  by_cases h5 : 5 ≤ p
  · right
    rw [if_pos (h5i.mpr h5)]
    exact ⟨_, rfl, Or.inl ⟨fun q hq => hlo q (by omega), _, rfl⟩⟩
  · have e5 : (5 : Int32) * nI p = nI (5 * p) := by rw [show (5 : Int32) = nI 5 from rfl, pk_mul]
    have hd : g / 2 ^ (5 * p) < 2 ^ 32 := Nat.lt_of_le_of_lt (Nat.div_le_self _ _) (by omega)
    have e6 : nI (g / 2 ^ (5 * p)) &&& 31 = nI (g / 2 ^ (5 * p) % 32) := pk_andN hd 5 (by decide)
    rw [if_neg (fun h => h5 (h5i.mp h)), e5, pk_shrN (by omega) (nI (5 * p) &&& 31) (5 * p) (s_ll _ (by omega)), e6]
    simp only [lt]
    have ht : g / 2 ^ (5 * p) % 32 < 32 := Nat.mod_lt _ (by decide)
    have hok := tb_ok N (by omega) p (by omega) _ ht
    have bad : ¬ (g / 2 ^ (5 * p) % 32 &&& mk N p = g / 2 ^ (5 * p) % 32) → ¬ okA N g := fun h q => h (q p (by omega))
    have good : (g / 2 ^ (5 * p) % 32 &&& mk N p = g / 2 ^ (5 * p) % 32) → ∃ p', nI (p + 1) = nI p' ∧ p' ≤ 5 ∧ ∀ q, q < p' → g / 2 ^ (5 * q) % 32 &&& mk N q = g / 2 ^ (5 * q) % 32 := fun h => ⟨p + 1, rfl, by omega, fun q hq => by
      by_cases hqp : q = p
      · rw [hqp]; exact h
      · exact hlo q (by omega)⟩
    have hmu : 5 - u3 (nI (p + 1)) < 5 - u3 (nI p) := by rw [u3n (by omega), u3n (by omega)]; omega
    generalize g / 2 ^ (5 * p) % 32 = t at ht hok bad good ⊢
    have hz : nI t = 0 ↔ t = 0 := neq (b := 0) (by omega) (by omega)
    by_cases h0 : t = 0
    · left
      rw [if_pos (hz.mpr h0), nI_1]
      exact ⟨_, rfl, good (hok.mp (Or.inl h0)), hmu⟩
    · rw [if_neg (fun q => h0 (hz.mp q))]
      by_cases hpN : N ≤ p
      · right
        rw [if_pos ((nle (by omega) (by omega)).mpr hpN)]
        exact ⟨_, rfl, Or.inr ⟨bad (fun q => by rcases hok.mpr q with r | r <;> omega), rfl⟩⟩
      · rw [if_neg (fun h => hpN ((nle (by omega) (by omega)).mp h)), t_isSet hN (by omega)]
        simp only [Option.bind_some]
        rw [bitI ht (by omega), nI_1]
        have hb2 : t / 2 ^ p % 2 < 2 := Nat.mod_lt _ (by decide)
        have hb : nI (t / 2 ^ p % 2) = (1 : Int32) ↔ t / 2 ^ p % 2 = 1 := neq (b := 1) (by omega) (by omega)
        by_cases hs : t < 2 ^ N
        · rw [if_pos hs, if_neg (by decide)]
          by_cases hbb : t / 2 ^ p % 2 = 1
          · right
            rw [if_pos (hb.mpr hbb)]
            simp only [Option.bind_some, if_true]
            exact ⟨_, rfl, Or.inr ⟨bad (fun q => by rcases hok.mpr q with r | r <;> omega), rfl⟩⟩
          · left
            rw [if_neg (fun q => hbb (hb.mp q))]
            simp only [Option.bind_some, Bool.false_eq_true, if_false]
            exact ⟨_, rfl, good (hok.mp (Or.inr ⟨by omega, hs, by omega⟩)), hmu⟩
        · right
          rw [if_neg hs, if_pos rfl]
          simp only [Option.bind_some, if_true]
          exact ⟨_, rfl, Or.inr ⟨bad (fun q => by rcases hok.mpr q with r | r <;> omega), rfl⟩⟩
theorem full_iff (par : Nat → Nat) (N : Nat) : rds par N N = 2 ^ N - 1 ↔ ∀ c, c < N → (rds par N N).testBit c = true := by
  constructor
  · intro h c hc
    rw [h, Nat.testBit_two_pow_sub_one]
    exact decide_eq_true hc
  · intro h
    apply Nat.eq_of_testBit_eq
    intro i
    have hcl : closed par N (2 ^ N - 1) := fun c hc _ => by rw [Nat.testBit_two_pow_sub_one]; exact decide_eq_true hc
    have hs := rds_sub hcl N i
    rw [Nat.testBit_two_pow_sub_one] at hs ⊢
    by_cases hi : i < N
    · rw [h i hi, decide_eq_true hi]
    · rw [decide_eq_false hi] at hs ⊢
      cases hb : (rds par N N).testBit i with
      | false => rfl
      | true => exact absurd (hs hb) (by decide)
/-- isGraph of the reference -/
theorem t_isGraph {x : Int32} (hN : N ≤ 5) : m_X11_isGraph (nI N) i2 i3 i4 i5 i6 x = some (if isG N x = true then 1 else 0) := by
  unfold m_X11_isGraph
  by_cases hx : u3 x < 2 ^ 25
  · obtain ⟨g, hg⟩ : ∃ g, g = u3 x := ⟨_, rfl⟩
    have hxg : x = nI g := by rw [hg]; exact (nI_u3 x).symm
    rw [← hg] at hx
    have hg3 : u3 (nI g) = g := u3_nI (by simp only [BB]; omega)
    subst hxg
    have hlt : nI g < (33554432 : Int32) := (nI_ltI (a := g) (b := 33554432) (by omega) (by omega)).mpr (by omega)
    rw [if_neg (nI_pos (by omega)), if_pos hlt]
    obtain ⟨b, eb, hb⟩ := t_arcs (i2 := i2) (i3 := i3) (i4 := i4) (i5 := i5) (i6 := i6) hN hx
    rw [eb]
    simp only [Option.bind_some]
    rcases hb with ⟨hok, z, rfl⟩ | ⟨hno, rfl⟩
    · simp only []
      obtain ⟨q, eq, hq⟩ := t_rounds (g := g) (N := N) (by omega) hN
      rw [eq]
      simp only [Option.bind_some, lt]
      rw [hq, tb_all N (by omega)]
      have hl := rds_lt (par := fun c => parN g c 5) hN N
      have h32 : 2 ^ N ≤ 32 := Nat.le_trans (Nat.pow_le_pow_right (by decide) hN) (by decide)
      have hiff : nI (rds (fun c => parN g c 5) N N) = nI (2 ^ N - 1) ↔ isG N (nI g) = true := by
        rw [neq (by omega) (by omega), full_iff, rounds_iff, isG_iff, hg3]
        constructor
        · rintro ⟨S, hS⟩
          exact ⟨⟨hx, hok⟩, by rw [hS]; rfl⟩
        · rintro ⟨-, h⟩
          cases hS : gro (fun c => parN g c 5) N N with
          | none => rw [hS] at h; cases h
          | some S => exact ⟨S, rfl⟩
      by_cases h : isG N (nI g) = true
      · rw [if_pos (hiff.mpr h), if_pos h]; rfl
      · rw [if_neg (fun q => h (hiff.mp q)), if_neg h]; rfl
    · simp only []
      rw [if_neg (fun q => by have := (isG_iff.mp q).1.2; rw [hg3] at this; exact hno this)]
  · have hno : ¬ isG N x = true := fun q => hx (isG_iff.mp q).1.1
    rw [if_neg hno]
    by_cases hneg : x < 0
    · rw [if_pos hneg]
    · rw [if_neg hneg]
      obtain ⟨j, hj, rfl⟩ := nI_of hneg
      have hj3 : u3 (nI j) = j := u3_nI (by simp only [BB]; omega)
      rw [hj3] at hx
      rw [if_neg (fun q => by have := (nI_ltI (a := j) (b := 33554432) hj (by omega)).mp q; omega)]
/-- both sides tell alike whether a number is a graph -/
theorem isGraph_alike {x : Int32} (hN : N ≤ 5) : m_X11_isGraph (nI N) i2 i3 i4 i5 i6 x = m_X0_areGraph x (nI N) := by
  rw [t_isGraph hN, t_areGraph hN]
end IG
