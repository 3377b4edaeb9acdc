/-! kin: the loops over the ways -/
def tmN (m : Nat) : Nat → Nat
  | 0 => 0
  | k + 1 => tmN m k ||| (if m / 2 ^ k % 2 = 1 then 2 ^ (5 * pa k + pb k) else 0)
def pcN (m : Nat) : Nat → Nat
  | 0 => 0
  | k + 1 => pcN m k + (if m / 2 ^ k % 2 = 1 then 1 else 0)
theorem tb_bc : ∀ m, m < 1024 → m_J6_bitCount_0f7a4 (nI (tmN m 10)) = some (nI (pcN m 10)) := by decide +kernel
def maN (g : Nat) : Nat → Nat
  | 0 => 0
  | k + 1 => maN g k + (if tcB g (pa k) (pb k) = true then 2 ^ k else 0)
theorem maN_lt {g : Nat} : ∀ n, maN g n < 2 ^ n := by
  intro n
  induction n with
  | zero => exact Nat.one_pos
  | succ n ih =>
    show maN g n + (if tcB g (pa n) (pb n) = true then 2 ^ n else 0) < 2 ^ (n + 1)
    rw [Nat.pow_succ]
    split <;> omega
theorem maN_bit {g : Nat} : ∀ n k, k < n → (maN g n / 2 ^ k % 2 = 1 ↔ tcB g (pa k) (pb k) = true) := by
  intro n
  induction n with
  | zero => intro k h; omega
  | succ n ih =>
    intro k hk
    rw [show maN g (n + 1) = maN g n + (if tcB g (pa n) (pb n) = true then 2 ^ n else 0) from rfl]
    by_cases e : k = n
    · subst e
      have hl := maN_lt (g := g) k
      by_cases ht : tcB g (pa k) (pb k) = true
      · rw [if_pos ht, Nat.add_div_right _ (Nat.pow_pos (by decide)), Nat.div_eq_of_lt hl]
        exact ⟨fun _ => ht, fun _ => rfl⟩
      · rw [if_neg ht, Nat.add_zero, Nat.div_eq_of_lt hl]
        exact ⟨fun z => absurd z (by decide), fun z => absurd z ht⟩
    · rw [← ih k (by omega)]
      split
      · rw [show n = k + ((n - k - 1) + 1) by omega, Nat.pow_add, Nat.pow_succ, show 2 ^ k * (2 ^ (n - k - 1) * 2) = 2 ^ k * (2 * 2 ^ (n - k - 1)) by ac_rfl, ← show n = k + ((n - k - 1) + 1) by omega, Nat.add_mul_div_left _ _ (Nat.pow_pos (by decide)), Nat.add_mul_mod_self_left]
      · rw [Nat.add_zero]
theorem t_bcT {g : Nat} : m_J6_bitCount_0f7a4 (nI (tiN g 10)) = some (nI (cnN g 10)) := by
  have hb := maN_bit (g := g) 10
  have e : ∀ n, n ≤ 10 → tmN (maN g 10) n = tiN g n ∧ pcN (maN g 10) n = cnN g n := by
    intro n
    induction n with
    | zero => intro _; exact ⟨rfl, rfl⟩
    | succ n ih =>
      intro hn
      obtain ⟨i1, i2⟩ := ih (by omega)
      have := hb n (by omega)
      unfold tmN pcN tiN cnN
      rw [i1, i2]
      by_cases ht : tcB g (pa n) (pb n) = true
      · rw [if_pos ht, if_pos (this.mpr ht), if_pos ht, if_pos (this.mpr ht)]; exact ⟨rfl, rfl⟩
      · rw [if_neg ht, if_neg (fun z => ht (this.mp z)), if_neg ht, if_neg (fun z => ht (this.mp z))]; exact ⟨rfl, rfl⟩
  obtain ⟨e1, e2⟩ := e 10 (Nat.le_refl _)
  rw [← e1, ← e2]
  exact tb_bc _ (maN_lt 10)
theorem tb_shl10 : ∀ n, n < 11 → (1 : Int32) <<< (nI n &&& 31) = nI (2 ^ n) := by decide
/-- the ways that count -/
def gdB (N g way : Nat) : Bool := (gro (fun c => parN (drN g way 10) c 5) N N).isSome && decide (mtN (drN g way 10) 50 = mtN g 50)
def kcN (N g : Nat) : Nat → Nat
  | 0 => 0
  | n + 1 => kcN N g n + (if gdB N g n = true then 1 else 0)
def klN (N g : Nat) : Nat → Nat
  | 0 => 33554432
  | n + 1 => if gdB N g n = true then min (drN g n 10) (klN N g n) else klN N g n
def kgN (N g : Nat) : Nat → Nat
  | 0 => 0
  | n + 1 => if gdB N g n = true then max (drN g n 10) (kgN N g n) else kgN N g n
def kaN (N g : Nat) : Nat → Nat
  | 0 => 33554431
  | n + 1 => if gdB N g n = true then kaN N g n &&& drN g n 10 else kaN N g n
theorem kcS {N g n : Nat} : kcN N g (n + 1) = kcN N g n + (if gdB N g n = true then 1 else 0) := rfl
theorem klS {N g n : Nat} : klN N g (n + 1) = if gdB N g n = true then min (drN g n 10) (klN N g n) else klN N g n := rfl
theorem kgS {N g n : Nat} : kgN N g (n + 1) = if gdB N g n = true then max (drN g n 10) (kgN N g n) else kgN N g n := rfl
theorem kaS {N g n : Nat} : kaN N g (n + 1) = if gdB N g n = true then kaN N g n &&& drN g n 10 else kaN N g n := rfl
theorem k_bd {N g : Nat} : ∀ n, kcN N g n ≤ n ∧ klN N g n ≤ 2 ^ 25 ∧ kgN N g n < 2 ^ 25 ∧ kaN N g n < 2 ^ 25 := by
  intro n
  induction n with
  | zero => exact ⟨Nat.le_refl _, show 33554432 ≤ 2 ^ 25 by decide, show 0 < 2 ^ 25 by decide, show 33554431 < 2 ^ 25 by decide⟩
  | succ n ih =>
    have hd := drN_lt (g := g) (way := n) 10 (Nat.le_refl _)
    obtain ⟨i1, i2, i3, i4⟩ := ih
    unfold kcN klN kgN kaN
    split
    · exact ⟨by omega, by omega, by omega, Nat.lt_of_le_of_lt Nat.and_le_left i4⟩
    · exact ⟨by omega, i2, i3, i4⟩
theorem nlt3 {a b : Nat} (ha : a < 2 ^ 31) (hb : b < 2 ^ 31) : nI a < nI b ↔ a < b := nI_ltI ha hb
theorem nle3 {a b : Nat} (ha : a < 2 ^ 31) (hb : b < 2 ^ 31) : nI a ≤ nI b ↔ a ≤ b := nI_leI ha hb
theorem kc_0 {N g : Nat} : ∀ n, kcN N g n = 0 → klN N g n = 33554432 ∧ kgN N g n = 0 ∧ kaN N g n = 33554431 := by
  intro n
  induction n with
  | zero => intro _; exact ⟨rfl, rfl, rfl⟩
  | succ n ih =>
    intro h
    rw [show kcN N g (n + 1) = kcN N g n + (if gdB N g n = true then 1 else 0) from rfl] at h
    cases hg : gdB N g n with
    | true => rw [hg, if_pos rfl] at h; omega
    | false =>
      unfold klN kgN kaN
      rw [hg]
      exact ih (by omega)
section KK
variable {N : Nat} {i2 i3 i4 j2 j3 j4 j5 j6 : Int32}
theorem t_gather (hN : N ≤ 5) {g : Nat} (hg : g < 2 ^ 25) : ∃ a b c d, m_X4_gather 0 0 0 0 (nI g) (nI N) = some (a, b, c, d) ∧ a = nI (kcN N g (2 ^ cnN g 10)) ∧ c = nI (kgN N g (2 ^ cnN g 10)) ∧ (0 < kcN N g (2 ^ cnN g 10) → b = nI (klN N g (2 ^ cnN g 10)) ∧ d = nI (kaN N g (2 ^ cnN g 10))) := by
  have hc := cnN_le (g := g) 10
  have h10 : 2 ^ cnN g 10 ≤ 2 ^ 10 := Nat.pow_le_pow_right (by decide) hc
  have L := lp_cnt (body := b_X4_gather_22 (nI N) (nI (tiN g 10)) (lN (mtN g 50)) (nI (2 ^ cnN g 10))) (fun n s => s.1 = nI (kcN N g n) ∧ s.2.2.1 = nI (kgN N g n) ∧ (0 < kcN N g n → s.2.1 = nI (klN N g n) ∧ s.2.2.2 = nI (kaN N g n))) (n0 := 0) (n1 := 2 ^ cnN g 10) (Nat.zero_le _) (by omega) ?_ ?_ (s0 := ((0 : Int32), (0 : Int32), (0 : Int32), (0 : Int32))) ⟨rfl, rfl, fun z => absurd z (Nat.lt_irrefl 0)⟩
  · obtain ⟨⟨a, b, c, d⟩, e, h1, h2, h3⟩ := L
    refine ⟨a, b, c, d, ?_, h1, h2, h3⟩
    rw [em_X4_gather, t_ties]
    simp only [Option.bind_some]
    rw [t_meetings hg]
    simp only [Option.bind_some]
    rw [t_bcT]
    simp only [Option.bind_some, lt]
    rw [tb_shl10 _ (by omega), show ((0 : Int32), (0 : Int32), (0 : Int32), (0 : Int32), (0 : Int32)) = (nI 0, 0, 0, 0, 0) from rfl, e]
    rfl
  · rintro ⟨a, b, c, d⟩ -
    rw [eb_X4_gather_22, if_pos ((nle (by omega) (by omega)).mpr (Nat.le_refl _))]
  · rintro n ⟨a, b, c, d⟩ - hn ⟨h1, h2, h3⟩
    dsimp only at h1 h2 h3
    subst h1 h2
    have hdl := drN_lt (g := g) (way := n) 10 (Nat.le_refl _)
    obtain ⟨k1, k2, k3, k4⟩ := k_bd (N := N) (g := g) n
    rw [eb_X4_gather_22, if_neg (fun z => by have := (nle (by omega) (by omega)).mp z; omega), t_directed (by omega)]
    simp only [Option.bind_some]
    rw [t_haveNoRound (by omega) hN]
    simp only [Option.bind_some]
    have skip : gdB N g n = false → ∃ s' : Int32 × Int32 × Int32 × Int32, some (Sum.inl (β := Int32 × Int32 × Int32 × Int32 × Int32) (nI n + 1, nI (kcN N g n), b, nI (kgN N g n), d)) = some (.inl (nI (n + 1), s')) ∧ s'.1 = nI (kcN N g (n + 1)) ∧ s'.2.2.1 = nI (kgN N g (n + 1)) ∧ (0 < kcN N g (n + 1) → s'.2.1 = nI (klN N g (n + 1)) ∧ s'.2.2.2 = nI (kaN N g (n + 1))) := by
      intro hf
      rw [nI_1, kcS, kgS, klS, kaS, hf]
      exact ⟨(_, _, _, _), rfl, rfl, rfl, h3⟩
    by_cases hr : (gro (fun c => parN (drN g n 10) c 5) N N).isSome = true
    · rw [if_pos hr, if_neg (show ¬ (1 : Int32) = 0 by decide), t_meetings hdl]
      simp only [Option.bind_some]
      by_cases hm : mtN (drN g n 10) 50 = mtN g 50
      · rw [if_pos ((lcmp0 (mtN_lt 50) (mtN_lt 50)).mpr hm)]
        have hgd : gdB N g n = true := by unfold gdB; rw [hr, decide_eq_true hm]; rfl
        have e3 : (if nI (kgN N g n) < nI (drN g n 10) then nI (drN g n 10) else nI (kgN N g n)) = nI (kgN N g (n + 1)) := by
          rw [kgS, if_pos hgd]
          by_cases hq : kgN N g n < drN g n 10
          · rw [if_pos ((nlt3 (by omega) (by omega)).mpr hq), Nat.max_eq_left (by omega)]
          · rw [if_neg (fun z => hq ((nlt3 (by omega) (by omega)).mp z)), Nat.max_eq_right (by omega)]
        have e1 : nI (kcN N g n) + 1 = nI (kcN N g (n + 1)) := by rw [nI_1, kcS, if_pos hgd]
        have e1' : kcN N g (n + 1) = kcN N g n + 1 := by rw [show kcN N g (n + 1) = kcN N g n + (if gdB N g n = true then 1 else 0) from rfl, if_pos hgd]
        have e2 : klN N g (n + 1) = min (drN g n 10) (klN N g n) := by rw [show klN N g (n + 1) = if gdB N g n = true then min (drN g n 10) (klN N g n) else klN N g n from rfl, if_pos hgd]
        have e4 : kaN N g (n + 1) = kaN N g n &&& drN g n 10 := by rw [show kaN N g (n + 1) = if gdB N g n = true then kaN N g n &&& drN g n 10 else kaN N g n from rfl, if_pos hgd]
        rw [em_X4_add]
        by_cases hz : kcN N g n = 0
        · obtain ⟨z1, z2, z3⟩ := kc_0 n hz
          rw [if_pos (show nI (kcN N g n) = (0 : Int32) by rw [hz]; rfl), if_pos (show nI (kcN N g n) = (0 : Int32) by rw [hz]; rfl)]
          simp only [Option.bind_some, lt]
          rw [e3, e1, nI_1]
          refine ⟨(_, _, _, _), rfl, rfl, rfl, fun _ => ⟨?_, ?_⟩⟩
          · rw [e2, z1, Nat.min_eq_left (by omega)]
          · rw [e4, z3, Nat.and_comm, Nat.and_two_pow_sub_one_of_lt_two_pow (n := 25) hdl]
        · obtain ⟨y1, y2⟩ := h3 (by omega)
          subst y1 y2
          rw [if_neg (show ¬ nI (kcN N g n) = (0 : Int32) from fun z => hz ((neq (b := 0) (by omega) (by omega)).mp z)), if_neg (show ¬ nI (kcN N g n) = (0 : Int32) from fun z => hz ((neq (b := 0) (by omega) (by omega)).mp z))]
          simp only [Option.bind_some, lt]
          rw [e3, e1, nI_1, nI_land]
          refine ⟨(_, _, _, _), rfl, rfl, rfl, fun _ => ⟨?_, by rw [e4]⟩⟩
          dsimp only
          rw [e2]
          by_cases hq : drN g n 10 < klN N g n
          · rw [if_pos ((nlt3 (by omega) (by omega)).mpr hq), Nat.min_eq_left (by omega)]
          · rw [if_neg (fun z => hq ((nlt3 (by omega) (by omega)).mp z)), Nat.min_eq_right (by omega)]
      · rw [if_neg (fun z => hm ((lcmp0 (mtN_lt 50) (mtN_lt 50)).mp z)), lt]
        exact skip (by unfold gdB; rw [decide_eq_false hm, Bool.and_false])
    · rw [if_neg hr, if_pos rfl, lt]
      simp only [Bool.not_eq_true] at hr
      exact skip (by unfold gdB; rw [hr, Bool.false_and])
theorem t_kinL (hN : N ≤ 5) {g : Nat} (hg : g < 2 ^ 25 ∧ okA N g) {f s : Nat → Int32} (hF : FS g 10 f s) :
    ∃ z, lp (b_X11_kin_102 (nI N) j2 j3 j4 j5 j6 (nI g) (nI (cnN g 10), 5, f, s)) FU (0, 33554432, 0, 33554431, 0) = some (nI (kcN N g (2 ^ cnN g 10)), nI (klN N g (2 ^ cnN g 10)), nI (kgN N g (2 ^ cnN g 10)), nI (kaN N g (2 ^ cnN g 10)), z) := by
  have hc := cnN_le (g := g) 10
  have h10 : 2 ^ cnN g 10 ≤ 2 ^ 10 := Nat.pow_le_pow_right (by decide) hc
  have L := lp_cg (body := b_X11_kin_102 (nI N) j2 j3 j4 j5 j6 (nI g) (nI (cnN g 10), 5, f, s)) (fun (s : Int32 × Int32 × Int32 × Int32) (c : Int32) => (s.1, s.2.1, s.2.2.1, s.2.2.2, c)) (fun n s => s = (nI (kcN N g n), nI (klN N g n), nI (kgN N g n), nI (kaN N g n))) (n0 := 0) (n1 := 2 ^ cnN g 10) (Nat.zero_le _) (by omega) ?_ ?_ (s0 := ((0 : Int32), (33554432 : Int32), (0 : Int32), (33554431 : Int32))) rfl
  · obtain ⟨s1, e, h⟩ := L
    subst h
    exact ⟨_, e⟩
  · rintro s' -
    rw [eb_X11_kin_102, tb_shl10 _ (by omega), if_pos ((nle (by omega) (by omega)).mpr (Nat.le_refl _))]
  · rintro n s' - hn h
    subst h
    dsimp only
    have hdo := dr_ok (way := n) hN hg
    have hdl := hdo.1
    obtain ⟨k1, k2, k3, k4⟩ := k_bd (N := N) (g := g) n
    obtain ⟨z, ez⟩ := t_kin116 (way := n) (by omega) hF
    have ud : u3 (nI (drN g n 10)) = drN g n 10 := u3_nI (by simp only [BB]; omega)
    have hisG : isG N (nI (drN g n 10)) = (gro (fun c => parN (drN g n 10) c 5) N N).isSome := by
      unfold isG
      rw [ud, decide_eq_true hdl, okB_iff.mpr hdo.2]
      rfl
    have hal : alN g (drN g n 10) 10 = decide (mtN (drN g n 10) 50 = mtN g 50) := by
      have h1 := al_me (g := g) (o := drN g n 10) (fun k hk => (dr_tc hk).symm)
      by_cases hm : mtN (drN g n 10) 50 = mtN g 50
      · rw [decide_eq_true hm]; exact h1.mpr hm.symm
      · rw [decide_eq_false hm]
        cases hx : alN g (drN g n 10) 10 with
        | true => exact absurd (h1.mp hx).symm hm
        | false => rfl
    rw [eb_X11_kin_102, tb_shl10 _ (by omega), if_neg (fun z => by have := (nle (by omega) (by omega)).mp z; omega), show ((0 : Int32), (0 : Int32)) = (0, 0) from rfl, ez]
    simp only [Option.bind_some]
    rw [t_isGraph hN, hisG]
    simp only [Option.bind_some]
    have e1' : kcN N g (n + 1) = kcN N g n + (if gdB N g n = true then 1 else 0) := rfl
    have e2 : klN N g (n + 1) = if gdB N g n = true then min (drN g n 10) (klN N g n) else klN N g n := rfl
    have e3 : kgN N g (n + 1) = if gdB N g n = true then max (drN g n 10) (kgN N g n) else kgN N g n := rfl
    have e4 : kaN N g (n + 1) = if gdB N g n = true then kaN N g n &&& drN g n 10 else kaN N g n := rfl
    have hgd : gdB N g n = ((gro (fun c => parN (drN g n 10) c 5) N N).isSome && decide (mtN (drN g n 10) 50 = mtN g 50)) := rfl
    cases hr : (gro (fun c => parN (drN g n 10) c 5) N N).isSome with
    | false =>
      rw [hr, Bool.false_and] at hgd
      rw [hgd] at e1' e2 e3 e4
      rw [if_pos (show (if false = true then (1 : Int32) else 0) = 0 from rfl), lt, nI_1]
      exact ⟨_, rfl, by rw [e1', e2, e3, e4]⟩
    | true =>
      rw [hr, Bool.true_and] at hgd
      rw [if_neg (show ¬ (if true = true then (1 : Int32) else 0) = 0 by decide), t_isAlike hg.1 hdl, hal]
      simp only [Option.bind_some]
      cases hm : decide (mtN (drN g n 10) 50 = mtN g 50) with
      | false =>
        rw [hm] at hgd
        rw [hgd] at e1' e2 e3 e4
        rw [if_pos (show (if false = true then (1 : Int32) else 0) = 0 from rfl)]
        simp only [Option.bind_some, lt]
        rw [nI_1]
        exact ⟨_, rfl, by rw [e1', e2, e3, e4]⟩
      | true =>
        rw [hm] at hgd
        rw [hgd, if_pos rfl] at e1' e2 e3 e4
        rw [if_neg (show ¬ (if true = true then (1 : Int32) else 0) = 0 by decide)]
        simp only [lt]
        have y1 : (if nI (klN N g n) ≤ nI (drN g n 10) then some (nI (klN N g n)) else some (nI (drN g n 10))) = some (nI (klN N g (n + 1))) := by
          rw [e2]
          by_cases hq : klN N g n ≤ drN g n 10
          · rw [if_pos ((nle3 (by omega) (by omega)).mpr hq), Nat.min_eq_right hq]
          · rw [if_neg (fun z => hq ((nle3 (by omega) (by omega)).mp z)), Nat.min_eq_left (by omega)]
        have y2 : (if nI (drN g n 10) ≤ nI (kgN N g n) then some (nI (kgN N g n)) else some (nI (drN g n 10))) = some (nI (kgN N g (n + 1))) := by
          rw [e3]
          by_cases hq : drN g n 10 ≤ kgN N g n
          · rw [if_pos ((nle3 (by omega) (by omega)).mpr hq), Nat.max_eq_right hq]
          · rw [if_neg (fun z => hq ((nle3 (by omega) (by omega)).mp z)), Nat.max_eq_left (by omega)]
        rw [y1]
        simp only [Option.bind_some]
        rw [y2]
        simp only [Option.bind_some]
        rw [nI_1, nI_1, nI_land, ← e4, ← e1']
        exact ⟨(_, _, _, _), rfl, rfl⟩
theorem kc_mono {g m : Nat} : ∀ n, m ≤ n → kcN N g m ≤ kcN N g n := by
  intro n
  induction n with
  | zero => intro h; rw [show m = 0 by omega]; exact Nat.le_refl _
  | succ n ih =>
    intro h
    by_cases e : m = n + 1
    · rw [e]; exact Nat.le_refl _
    · exact Nat.le_trans (ih (by omega)) (Nat.le_add_right _ _)
theorem kc_pos (hN : N ≤ 5) {x : Int32} (hx : isG N x = true) : 0 < kcN N (u3 x) (2 ^ cnN (u3 x) 10) := by
  have h1 := isG_iff.mp hx
  have hs := wy_self hN h1.1 h1.2
  have hl := wyN_lt (g := u3 x) 10
  have hg : gdB N (u3 x) (wyN (u3 x) 10) = true := by unfold gdB; rw [hs, h1.2, decide_eq_true rfl]; rfl
  have := kc_mono (N := N) (g := u3 x) (m := wyN (u3 x) 10 + 1) (2 ^ cnN (u3 x) 10) hl
  have e : kcN N (u3 x) (wyN (u3 x) 10 + 1) = kcN N (u3 x) (wyN (u3 x) 10) + 1 := by rw [show kcN N (u3 x) (wyN (u3 x) 10 + 1) = kcN N (u3 x) (wyN (u3 x) 10) + (if gdB N (u3 x) (wyN (u3 x) 10) = true then 1 else 0) from rfl, if_pos hg]
  omega
/-- kin of a graph: the class gathers what the reference finds -/
theorem p_kin (hN : N ≤ 5) {x what : Int32} (hx : isG N x = true) (h0 : ¬ what < 0) (h3 : what ≤ 3) (f s : Nat → Int32) :
    ∃ r0 r1 r2 r3 f' s', m_X4_gather 0 0 0 0 x (nI N) = some (r0, r1, r2, r3) ∧ m_X11_kin (nI N) j2 j3 j4 j5 j6 f s x what = some ((if what = 0 then r0 else if what = 1 then r1 else if what = 2 then r2 else r3), f', s') := by
  have h1 := isG_iff.mp hx
  have hp := kc_pos hN hx
  have e0 : x = nI (u3 x) := (nI_u3 x).symm
  rw [em_X11_kin, t_isGraph hN, hx]
  simp only [Option.bind_some]
  rw [if_neg (show ¬ (if True then (1 : Int32) else 0) = 0 by decide), if_neg h0, if_pos h3]
  generalize u3 x = g at *
  subst e0
  obtain ⟨a, b, c, d, e, q1, q2, q3⟩ := t_gather hN h1.1.1
  obtain ⟨q4, q5⟩ := q3 hp
  obtain ⟨f', s', e2, hF⟩ := t_kin24 (f := f) (s := s) h1.1.1
  obtain ⟨z, e3⟩ := t_kinL (j2 := j2) (j3 := j3) (j4 := j4) (j5 := j5) (j6 := j6) hN h1.1 hF
  refine ⟨a, b, c, d, f', s', e, ?_⟩
  rw [e2]
  simp only [Option.bind_some]
  rw [e3]
  simp only [Option.bind_some]
  rw [q1, q2, q4, q5]
  by_cases w0 : what = 0
  · rw [if_pos w0, if_pos w0]; rfl
  · rw [if_neg w0, if_neg w0]
    by_cases w1 : what = 1
    · rw [if_pos w1, if_pos w1]; rfl
    · rw [if_neg w1, if_neg w1]
      by_cases w2 : what = 2
      · rw [if_pos w2, if_pos w2]; rfl
      · rw [if_neg w2, if_neg w2]; rfl
end KK
