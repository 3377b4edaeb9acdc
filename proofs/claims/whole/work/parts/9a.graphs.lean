/-! the mirrors of both sides tell whether no way comes back -/
theorem tb_sub : ∀ a, a < 32 → ∀ b, b < 32 → ((nI a &&& (nI b ^^^ (-1))) = 0 ↔ a &&& b = a) := by decide +kernel
theorem tb_or : ∀ s, s < 32 → ∀ c, c < 5 → (nI s ||| (1 <<< (nI c &&& 31))) = nI (s ||| 2 ^ c) ∧ s ||| 2 ^ c < 32 := by decide +kernel
theorem tb_shl : ∀ c, c < 5 → (1 : Int32) <<< (nI c &&& 31) = nI (2 ^ c) := by decide +kernel
theorem tb_or2 : ∀ s, s < 32 → ∀ c, c < 5 → nI s ||| nI (2 ^ c) = nI (s ||| 2 ^ c) := by decide +kernel
theorem tb_or0 : ∀ s, s < 32 → nI s ||| (0 : Int32) = nI s := by decide +kernel
theorem t_isIn {s c : Nat} (hs : s < 32) (hc : c < 32) : m_X0_isIn (nI s) (nI c) = some (if s.testBit c = true then 1 else 0) := by
  unfold m_X0_isIn
  rw [bitI hs hc]
  have hb2 : s / 2 ^ c % 2 < 2 := Nat.mod_lt _ (by decide)
  have hb : nI (s / 2 ^ c % 2) = (1 : Int32) ↔ s.testBit c = true := by
    rw [Nat.testBit_eq_decide_div_mod_eq, decide_eq_true_eq]
    exact neq (b := 1) (by omega) (by omega)
  by_cases h : s.testBit c = true
  · rw [if_pos (hb.mpr h), if_pos h]; rfl
  · rw [if_neg (fun q => h (hb.mp q)), if_neg h]; rfl
theorem t_parentsIn {g c : Nat} (hg : g < 2 ^ 30) (hc : c < 5) : m_X0_parentsIn (nI g) (nI c) = some (nI (parN g c 5)) := by
  have hb : b_X0_parentsIn_4 (nI g) (nI c) = b_X11_parentsOf_4 (nI g) (nI c) := by
    funext s
    obtain ⟨a, b⟩ := s
    rw [eb_X0_parentsIn_4, eb_X11_parentsOf_4]
  have h := t_parentsOf hg hc
  unfold m_X11_parentsOf at h
  unfold m_X0_parentsIn
  rw [hb]
  exact h
section NR
variable {g N : Nat}
theorem t_nextAfter (hg : g < 2 ^ 30) (hN : N ≤ 5) {S : Nat} (hS : S < 32) : m_X0_nextAfter (nI g) (nI N) (nI S) = some (match nxf (fun c => parN g c 5) S N 0 with | none => -1 | some c => nI c) := by
  have L := lp_inv (body := b_X0_nextAfter_2 (nI g) (nI N) (nI S)) (fun i => ∃ c, i = nI c ∧ c ≤ N ∧ nxf (fun c => parN g c 5) S N 0 = nxf (fun c => parN g c 5) S (N - c) c) (fun b => (match b with | .inl _ => some (-1 : Int32) | .inr q => some q) = some (match nxf (fun c => parN g c 5) S N 0 with | none => -1 | some c => nI c)) (fun i => N - u3 i) ?_ FU 0 ⟨0, rfl, Nat.zero_le N, rfl⟩ (Nat.lt_of_le_of_lt (Nat.sub_le _ _) (FU_big (by omega)))
  · obtain ⟨b, e, hb⟩ := L
    unfold m_X0_nextAfter
    rw [e]
    simp only [Option.bind_some]
    exact hb
  · rintro i ⟨c, rfl, hc, hx⟩
    rw [eb_X0_nextAfter_2]
    by_cases hcN : N ≤ c
    · right
      rw [if_pos ((nle (by omega) (by omega)).mpr hcN)]
      refine ⟨_, rfl, ?_⟩
      rw [hx, show N - c = 0 by omega]
      rfl
    · rw [if_neg (fun h => hcN ((nle (by omega) (by omega)).mp h)), t_isIn hS (by omega)]
      simp only [Option.bind_some]
      have hstep : nxf (fun c => parN g c 5) S (N - c) c = if ¬ S.testBit c = true ∧ parN g c 5 &&& S = parN g c 5 then some c else nxf (fun c => parN g c 5) S (N - (c + 1)) (c + 1) := by
        rw [show N - c = (N - (c + 1)) + 1 by omega]
        rfl
      have hmu : N - u3 (nI (c + 1)) < N - u3 (nI c) := by rw [u3n (by omega), u3n (by omega)]; omega
      by_cases hin : S.testBit c = true
      · left
        rw [if_pos hin, if_neg (by decide)]
        refine ⟨nI (c + 1), by rw [← nI_1]; rfl, ⟨c + 1, rfl, by omega, ?_⟩, hmu⟩
        rw [hx, hstep, if_neg (fun q => q.1 hin)]
      · rw [if_neg hin, if_pos rfl, t_parentsIn hg (by omega)]
        simp only [Option.bind_some]
        have hsub := tb_sub (parN g c 5) (parN_lt g c 5) S hS
        by_cases hp : parN g c 5 &&& S = parN g c 5
        · right
          rw [if_pos (hsub.mpr hp)]
          refine ⟨_, rfl, ?_⟩
          rw [hx, hstep, if_pos ⟨hin, hp⟩]
        · left
          rw [if_neg (fun q => hp (hsub.mp q))]
          refine ⟨nI (c + 1), by rw [← nI_1]; rfl, ⟨c + 1, rfl, by omega, ?_⟩, hmu⟩
          rw [hx, hstep, if_neg (fun q => hp q.2)]
theorem gro_lt {par : Nat → Nat} (hN : N ≤ 5) : ∀ k S, gro par N k = some S → S < 32 := by
  intro k
  induction k with
  | zero => intro S h; cases h; decide
  | succ k ih =>
    intro S h
    unfold gro at h
    cases hS : gro par N k with
    | none => rw [hS] at h; cases h
    | some S0 =>
      rw [hS] at h
      simp only [Option.bind_some] at h
      cases hc : nxf par S0 N 0 with
      | none => rw [hc] at h; cases h
      | some c =>
        rw [hc] at h
        simp only [Option.bind_some] at h
        cases h
        obtain ⟨-, c2, -⟩ := nxf_some N 0 hc
        exact (tb_or S0 (ih S0 hS) c (by omega)).2
theorem gro_stop {par : Nat → Nat} {k m : Nat} (h : gro par N k = none) (hkm : k ≤ m) : gro par N m = none := by
  induction m with
  | zero => rw [show k = 0 by omega] at h; exact h
  | succ m ih =>
    by_cases hk : k = m + 1
    · rw [← hk]; exact h
    · unfold gro; rw [ih (by omega)]; rfl
theorem t_haveNoRound (hg : g < 2 ^ 30) (hN : N ≤ 5) : m_X0_haveNoRound (nI g) (nI N) = some (if (gro (fun c => parN g c 5) N N).isSome = true then 1 else 0) := by
  have L := lp_inv (body := b_X0_haveNoRound_4 (nI g) (nI N)) (fun s => ∃ k S, s.2 = nI k ∧ k ≤ N ∧ s.1 = nI S ∧ gro (fun c => parN g c 5) N k = some S) (fun b => (match b with | .inl _ => some (1 : Int32) | .inr q => some q) = some (if (gro (fun c => parN g c 5) N N).isSome = true then 1 else 0)) (fun s => N - u3 s.2) ?_ FU (0, 0) ⟨0, 0, rfl, Nat.zero_le N, rfl, rfl⟩ (Nat.lt_of_le_of_lt (Nat.sub_le _ _) (FU_big (by omega)))
  · obtain ⟨b, e, hb⟩ := L
    unfold m_X0_haveNoRound
    rw [e]
    simp only [Option.bind_some]
    exact hb
  · rintro ⟨sw, kw⟩ ⟨k, S, e1, hk, e2, hS⟩
    dsimp only at e1 e2
    subst e1
    subst e2
    rw [eb_X0_haveNoRound_4]
    by_cases hkN : N ≤ k
    · right
      rw [if_pos ((nle (by omega) (by omega)).mpr hkN)]
      refine ⟨_, rfl, ?_⟩
      have : k = N := by omega
      subst this
      rw [hS]; rfl
    · have hSl := gro_lt hN k S hS
      rw [if_neg (fun h => hkN ((nle (by omega) (by omega)).mp h)), t_nextAfter hg hN hSl]
      simp only [Option.bind_some]
      cases hc : nxf (fun c => parN g c 5) S N 0 with
      | none =>
        right
        simp only []
        rw [if_neg (by decide)]
        refine ⟨_, rfl, ?_⟩
        have hn : gro (fun c => parN g c 5) N (k + 1) = none := by unfold gro; rw [hS]; simp only [Option.bind_some]; rw [hc]; rfl
        rw [gro_stop hn (show k + 1 ≤ N by omega)]; rfl
      | some c =>
        left
        obtain ⟨-, c2, -⟩ := nxf_some N 0 hc
        simp only []
        rw [if_pos (nI_pos' (by omega)), (tb_or S hSl c (by omega)).1]
        refine ⟨(nI (S ||| 2 ^ c), nI (k + 1)), by rw [← nI_1]; rfl, ⟨k + 1, S ||| 2 ^ c, rfl, by omega, rfl, by unfold gro; rw [hS]; simp only [Option.bind_some]; rw [hc]; rfl⟩, ?_⟩
        show N - u3 (nI (k + 1)) < N - u3 (nI k)
        rw [u3n (by omega), u3n (by omega)]; omega
theorem rd_lt {par : Nat → Nat} {S : Nat} (hS : S < 32) : ∀ n, n ≤ 5 → rd par S n < 32 := by
  intro n
  induction n with
  | zero => intro _; exact hS
  | succ n ih =>
    intro hn
    have := ih (by omega)
    unfold rd addc
    split
    · exact (tb_or _ this n (by omega)).2
    · exact this
theorem rds_lt {par : Nat → Nat} (hN : N ≤ 5) : ∀ k, rds par N k < 32 := by
  intro k
  induction k with
  | zero => show 0 < 32; decide
  | succ k ih => exact rd_lt ih N hN
/-- the reference's rounds -/
theorem t_rounds (hg : g < 2 ^ 30) (hN : N ≤ 5) : ∃ q, lp (b_X11_isGraph_69 (nI N) (nI g)) FU (0, 0) = some q ∧ q.1 = nI (rds (fun c => parN g c 5) N N) := by
  refine lp_inv (body := b_X11_isGraph_69 (nI N) (nI g)) (fun s => ∃ k, s.2 = nI k ∧ k ≤ N ∧ s.1 = nI (rds (fun c => parN g c 5) N k)) _ (fun s => N - u3 s.2) ?_ FU (0, 0) ⟨0, rfl, Nat.zero_le N, rfl⟩ (Nat.lt_of_le_of_lt (Nat.sub_le _ _) (FU_big (by omega)))
  rintro ⟨sw, kw⟩ ⟨k, e1, hk, e2⟩
  dsimp only at e1 e2
  subst e1
  subst e2
  rw [eb_X11_isGraph_69]
  by_cases hkN : N ≤ k
  · right
    rw [if_pos ((nle (by omega) (by omega)).mpr hkN)]
    have : k = N := by omega
    subst this
    exact ⟨_, rfl, rfl⟩
  · left
    rw [if_neg (fun h => hkN ((nle (by omega) (by omega)).mp h))]
    have hl := rds_lt (par := fun c => parN g c 5) hN k
    generalize hS : rds (fun c => parN g c 5) N k = S at hl
    have L := lp_inv (body := b_X11_isGraph_80 (nI N) (nI g)) (fun s => ∃ c, s.2 = nI c ∧ c ≤ N ∧ s.1 = nI (rd (fun c => parN g c 5) S c)) (fun s => s.1 = nI (rd (fun c => parN g c 5) S N)) (fun s => N - u3 s.2) ?_ FU (nI S, 0) ⟨0, rfl, Nat.zero_le N, rfl⟩ (Nat.lt_of_le_of_lt (Nat.sub_le _ _) (FU_big (by omega)))
    · obtain ⟨q, e, hq⟩ := L
      rw [e]
      simp only [Option.bind_some, lt]
      rw [hq, nI_1]
      refine ⟨_, rfl, ⟨k + 1, rfl, by omega, ?_⟩, ?_⟩
      · show nI _ = nI (rds _ N (k + 1))
        unfold rds
        rw [hS]
      · show N - u3 (nI (k + 1)) < N - u3 (nI k)
        rw [u3n (by omega), u3n (by omega)]; omega
    · rintro ⟨gw, cw⟩ ⟨c, e1, hc, e2⟩
      dsimp only at e1 e2
      subst e1
      subst e2
      rw [eb_X11_isGraph_80]
      by_cases hcN : N ≤ c
      · right
        rw [if_pos ((nle (by omega) (by omega)).mpr hcN)]
        have : c = N := by omega
        subst this
        exact ⟨_, rfl, rfl⟩
      · left
        rw [if_neg (fun h => hcN ((nle (by omega) (by omega)).mp h)), t_parentsOf hg (by omega)]
        simp only [Option.bind_some, lt]
        have hrl := rd_lt (par := fun c => parN g c 5) hl c (by omega)
        have hsub := tb_sub (parN g c 5) (parN_lt g c 5) _ hrl
        have hmu : N - u3 (nI (c + 1)) < N - u3 (nI c) := by rw [u3n (by omega), u3n (by omega)]; omega
        refine ⟨(nI (rd (fun c => parN g c 5) S (c + 1)), nI (c + 1)), ?_, ⟨c + 1, rfl, by omega, rfl⟩, hmu⟩
        rw [nI_1]
        have hrd : rd (fun c => parN g c 5) S (c + 1) = if parN g c 5 &&& rd (fun c => parN g c 5) S c = parN g c 5 then rd (fun c => parN g c 5) S c ||| 2 ^ c else rd (fun c => parN g c 5) S c := rfl
        rw [hrd]
        by_cases hp : parN g c 5 &&& rd (fun c => parN g c 5) S c = parN g c 5
        · rw [if_pos (hsub.mpr hp), if_pos hp]
          simp only [Option.bind_some]
          rw [tb_shl c (by omega), tb_or2 _ hrl c (by omega)]
        · rw [if_neg (fun q => hp (hsub.mp q)), if_neg hp]
          simp only [Option.bind_some]
          rw [tb_or0 _ hrl]
end NR
