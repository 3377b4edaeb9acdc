/-! isGraph of both sides -/
theorem nI_lor (a b : Nat) : nI a ||| nI b = nI (a ||| b) := by
  apply Int32.toBitVec_inj.mp
  apply BitVec.eq_of_toNat_eq
  show (BitVec.ofNat 32 a ||| BitVec.ofNat 32 b).toNat = (BitVec.ofNat 32 (a ||| b)).toNat
  simp only [BitVec.toNat_or, BitVec.toNat_ofNat]
  exact Nat.or_mod_two_pow.symm
theorem arcI {p c : Nat} (h : 5 * p + c < 32) : m_X0_arc (nI p) (nI c) = some (nI (2 ^ (5 * p + c))) := by
  unfold m_X0_arc
  rw [five, ← nI_u3 (1 <<< (nI (5 * p + c) &&& 31)), u3_one_shl h]
def frA (s c : Nat) : Nat → Nat
  | 0 => 0
  | p + 1 => if s.testBit p = true then frA s c p ||| 2 ^ (5 * p + c) else frA s c p
theorem t_fromAll {s c : Nat} (hs : s < 32) (hc : c < 5) : m_X0_fromAll (nI s) (nI c) = some (nI (frA s c 5)) := by
  have L := lp_inv (body := b_X0_fromAll_4 (nI s) (nI c)) (fun a => ∃ p, a.2 = nI p ∧ p ≤ 5 ∧ a.1 = nI (frA s c p)) (fun a => a.1 = nI (frA s c 5)) (fun a => 5 - u3 a.2) ?_ FU (0, 0) ⟨0, rfl, by omega, rfl⟩ (Nat.lt_of_le_of_lt (Nat.sub_le _ _) (FU_big (by omega)))
  · obtain ⟨q, e, hq⟩ := L
    unfold m_X0_fromAll
    rw [e]
    simp only [Option.bind_some]
    rw [hq]
  · rintro ⟨aw, pw⟩ ⟨p, e1, hp, e2⟩
    dsimp only at e1 e2
    subst e1
    subst e2
    rw [eb_X0_fromAll_4]
    have h5i : (5 : Int32) ≤ nI p ↔ 5 ≤ p := nle (a := 5) (by omega) (by omega)
    by_cases h5 : 5 ≤ p
    · right
      rw [if_pos (h5i.mpr h5)]
      have : p = 5 := by omega
      subst this
      exact ⟨_, rfl, rfl⟩
    · left
      rw [if_neg (fun h => h5 (h5i.mp h)), t_isIn hs (by omega)]
      simp only [Option.bind_some]
      have hmu : 5 - u3 (nI (p + 1)) < 5 - u3 (nI p) := by rw [u3n (by omega), u3n (by omega)]; omega
      have hst : frA s c (p + 1) = if s.testBit p = true then frA s c p ||| 2 ^ (5 * p + c) else frA s c p := rfl
      refine ⟨(nI (frA s c (p + 1)), nI (p + 1)), ?_, ⟨p + 1, rfl, by omega, rfl⟩, hmu⟩
      rw [hst]
      by_cases hin : s.testBit p = true
      · rw [if_pos hin, if_neg (by decide), arcI (by omega), if_pos hin]
        simp only [Option.bind_some, lt]
        rw [nI_lor, nI_1]
      · rw [if_neg hin, if_pos rfl, if_neg hin]
        simp only [lt]
        rw [nI_1]
/-- the arcs that N names allow -/
def alF (N : Nat) : Nat → Nat
  | 0 => 0
  | c + 1 => alF N c ||| frA ((2 ^ N - 1) &&& (2 ^ 32 - 1 - 2 ^ c)) c 5
theorem tb_all : ∀ N, N < 6 → (1 : Int32) <<< (nI N &&& 31) - 1 = nI (2 ^ N - 1) := by decide +kernel
theorem tb_pow : ∀ N, N < 6 → (1 : Int32) <<< (nI N &&& 31) = nI (2 ^ N) := by decide +kernel
theorem tb_del : ∀ N, N < 6 → ∀ c, c < 5 → nI (2 ^ N - 1) &&& ((1 <<< (nI c &&& 31)) ^^^ (-1)) = nI ((2 ^ N - 1) &&& (2 ^ 32 - 1 - 2 ^ c)) ∧ (2 ^ N - 1) &&& (2 ^ 32 - 1 - 2 ^ c) < 32 := by decide +kernel
theorem t_allowed {N : Nat} (hN : N ≤ 5) : ∃ q, lp (b_X0_areGraph_11 (nI N) (nI (2 ^ N - 1))) FU (0, 0) = some q ∧ q.1 = nI (alF N N) := by
  refine lp_inv (body := b_X0_areGraph_11 (nI N) (nI (2 ^ N - 1))) (fun a => ∃ c, a.2 = nI c ∧ c ≤ N ∧ a.1 = nI (alF N c)) _ (fun a => N - u3 a.2) ?_ FU (0, 0) ⟨0, rfl, Nat.zero_le N, rfl⟩ (Nat.lt_of_le_of_lt (Nat.sub_le _ _) (FU_big (by omega)))
  rintro ⟨aw, cw⟩ ⟨c, e1, hc, e2⟩
  dsimp only at e1 e2
  subst e1
  subst e2
  rw [eb_X0_areGraph_11]
  by_cases hcN : N ≤ c
  · right
    rw [if_pos ((nle (by omega) (by omega)).mpr hcN)]
    have : c = N := by omega
    subst this
    exact ⟨_, rfl, rfl⟩
  · left
    obtain ⟨d1, d2⟩ := tb_del N (by omega) c (by omega)
    rw [if_neg (fun h => hcN ((nle (by omega) (by omega)).mp h)), d1, t_fromAll d2 (by omega)]
    simp only [Option.bind_some, lt]
    rw [nI_lor, nI_1]
    refine ⟨_, rfl, ⟨c + 1, rfl, by omega, rfl⟩, ?_⟩
    show N - u3 (nI (c + 1)) < N - u3 (nI c)
    rw [u3n (by omega), u3n (by omega)]; omega
def mk (N p : Nat) : Nat := if p < N then (2 ^ N - 1) &&& (31 - 2 ^ p) else 0
theorem tb_mk : ∀ N, N < 6 → ∀ p, p < 5 → alF N N / 2 ^ (5 * p) % 32 = mk N p ∧ alF N N < 2 ^ 25 := by decide +kernel
theorem tb_ok : ∀ N, N < 6 → ∀ p, p < 5 → ∀ t, t < 32 → ((t = 0 ∨ (p < N ∧ t < 2 ^ N ∧ t / 2 ^ p % 2 = 0)) ↔ t &&& mk N p = t) := by decide +kernel
/-- only arcs between names that are there, none to itself -/
def okA (N g : Nat) : Prop := ∀ p, p < 5 → g / 2 ^ (5 * p) % 32 &&& mk N p = g / 2 ^ (5 * p) % 32
def okB (N g : Nat) : Bool := (List.range 5).all (fun p => decide (g / 2 ^ (5 * p) % 32 &&& mk N p = g / 2 ^ (5 * p) % 32))
theorem okB_iff {N g : Nat} : okB N g = true ↔ okA N g := by
  unfold okB okA
  rw [List.all_eq_true]
  constructor
  · intro h p hp
    exact of_decide_eq_true (h p (List.mem_range.mpr hp))
  · intro h p hp
    exact decide_eq_true (h p (List.mem_range.mp hp))
/-- a number is a graph of N names -/
def isG (N : Nat) (x : Int32) : Bool := decide (u3 x < 2 ^ 25) && (okB N (u3 x) && (gro (fun c => parN (u3 x) c 5) N N).isSome)
theorem isG_iff {N : Nat} {x : Int32} : isG N x = true ↔ (u3 x < 2 ^ 25 ∧ okA N (u3 x)) ∧ (gro (fun c => parN (u3 x) c 5) N N).isSome = true := by
  unfold isG
  rw [Bool.and_eq_true, Bool.and_eq_true, decide_eq_true_eq, okB_iff]
  exact ⟨fun ⟨a, b, c⟩ => ⟨⟨a, b⟩, c⟩, fun ⟨⟨a, b⟩, c⟩ => ⟨a, b, c⟩⟩
theorem and_not {x : Int32} {A : Nat} (hA : A < 2 ^ 32) : (x &&& (nI A ^^^ (-1))) = 0 ↔ sbs (u3 x) A := by
  rw [← u3_eq0]
  have e : u3 (x &&& (nI A ^^^ (-1))) = u3 x &&& (A ^^^ (2 ^ 32 - 1)) := by
    show (x.toBitVec &&& (BitVec.ofNat 32 A ^^^ (-1 : Int32).toBitVec)).toNat = _
    rw [BitVec.toNat_and, BitVec.toNat_xor, BitVec.toNat_ofNat, Nat.mod_eq_of_lt hA]
    rfl
  rw [e]
  constructor
  · intro h i hi
    have h1 : (u3 x &&& (A ^^^ (2 ^ 32 - 1))).testBit i = false := by rw [h, Nat.zero_testBit]
    have hi32 : i < 32 := by
      rcases Nat.lt_or_ge i 32 with q | q
      · exact q
      · rw [Nat.testBit_lt_two_pow (Nat.lt_of_lt_of_le (show u3 x < 2 ^ 32 from u3_lt x) (Nat.pow_le_pow_right (by decide) q))] at hi
        cases hi
    rw [Nat.testBit_and, hi, Bool.true_and, Nat.testBit_xor, Nat.testBit_two_pow_sub_one, decide_eq_true hi32] at h1
    cases hA2 : A.testBit i with
    | true => rfl
    | false => rw [hA2] at h1; cases h1
  · intro h
    apply Nat.eq_of_testBit_eq
    intro i
    rw [Nat.zero_testBit, Nat.testBit_and, Nat.testBit_xor, Nat.testBit_two_pow_sub_one]
    cases hi : (u3 x).testBit i with
    | false => rfl
    | true =>
      have hi32 : i < 32 := by
        rcases Nat.lt_or_ge i 32 with q | q
        · exact q
        · rw [Nat.testBit_lt_two_pow (Nat.lt_of_lt_of_le (show u3 x < 2 ^ 32 from u3_lt x) (Nat.pow_le_pow_right (by decide) q))] at hi
          cases hi
      rw [h i hi, decide_eq_true hi32]; rfl
theorem part_bit {g p c : Nat} (hc : c < 5) : (g / 2 ^ (5 * p) % 32).testBit c = g.testBit (5 * p + c) := by
  rw [show (32 : Nat) = 2 ^ 5 from rfl, Nat.testBit_mod_two_pow, Nat.testBit_div_two_pow, decide_eq_true hc, Bool.true_and, Nat.add_comm]
theorem sbs_parts {g A : Nat} (hA : A < 2 ^ 25) : sbs g A ↔ g < 2 ^ 25 ∧ ∀ p, p < 5 → g / 2 ^ (5 * p) % 32 &&& (A / 2 ^ (5 * p) % 32) = g / 2 ^ (5 * p) % 32 := by
  constructor
  · intro h
    refine ⟨?_, fun p hp => sbs_iff.mpr fun c hcb => ?_⟩
    · refine Nat.lt_of_le_of_lt (?_ : g ≤ A) hA
      rw [← sbs_iff.mpr h]
      exact Nat.and_le_right
    · have hc : c < 5 := by
        rcases Nat.lt_or_ge c 5 with q | q
        · exact q
        · rw [Nat.testBit_lt_two_pow (Nat.lt_of_lt_of_le (show g / 2 ^ (5 * p) % 32 < 2 ^ 5 from Nat.mod_lt _ (by decide)) (Nat.pow_le_pow_right (by decide) q))] at hcb
          cases hcb
      rw [part_bit hc] at hcb ⊢
      exact h _ hcb
  · rintro ⟨hg, h⟩ i hi
    have hi25 : i < 25 := by
      rcases Nat.lt_or_ge i 25 with q | q
      · exact q
      · rw [Nat.testBit_lt_two_pow (Nat.lt_of_lt_of_le hg (Nat.pow_le_pow_right (by decide) q))] at hi
        cases hi
    have e : 5 * (i / 5) + i % 5 = i := Nat.div_add_mod i 5
    have h1 := sbs_iff.mp (h (i / 5) (by omega)) (i % 5)
    rw [part_bit (by omega), part_bit (by omega), e] at h1
    exact h1 hi
/-- areGraph of the class -/
theorem t_areGraph {x : Int32} {N : Nat} (hN : N ≤ 5) : m_X0_areGraph x (nI N) = some (if isG N x = true then 1 else 0) := by
  obtain ⟨q, eq, hq⟩ := t_allowed hN
  have hal := (tb_mk N (by omega) 0 (by omega)).2
  have key : (x &&& (nI (alF N N) ^^^ (-1))) = 0 ↔ u3 x < 2 ^ 25 ∧ okA N (u3 x) := by
    rw [and_not (Nat.lt_trans hal (by decide)), sbs_parts hal]
    constructor
    · rintro ⟨a, b⟩
      exact ⟨a, fun p hp => by have := b p hp; rw [(tb_mk N (by omega) p hp).1] at this; exact this⟩
    · rintro ⟨a, b⟩
      exact ⟨a, fun p hp => by rw [(tb_mk N (by omega) p hp).1]; exact b p hp⟩
  unfold m_X0_areGraph
  simp only [lt]
  rw [tb_all N (by omega), eq]
  simp only [Option.bind_some]
  rw [hq]
  by_cases h : u3 x < 2 ^ 25 ∧ okA N (u3 x)
  · rw [if_pos (key.mpr h)]
    have hx : x = nI (u3 x) := (nI_u3 x).symm
    have hnr := t_haveNoRound (g := u3 x) (N := N) (Nat.lt_trans h.1 (by decide)) hN
    rw [← hx] at hnr
    rw [hnr]
    simp only [Option.bind_some]
    by_cases hr : (gro (fun c => parN (u3 x) c 5) N N).isSome = true
    · rw [if_pos hr, if_pos (isG_iff.mpr ⟨h, hr⟩)]; rfl
    · rw [if_neg hr, if_neg (fun q => hr (isG_iff.mp q).2)]; rfl
  · rw [if_neg (fun q => h (key.mp q)), if_neg (fun q => h (isG_iff.mp q).1)]
