/-! climbing: class and reference -/
def bdN (g ms : Nat) : Nat → Bool
  | 0 => true
  | n + 1 => bdN g ms n && Nat.ble (pop5 (parN g n 5)) ms
theorem bdN_iff {g ms : Nat} : ∀ n, bdN g ms n = true ↔ ∀ c, c < n → pop5 (parN g c 5) ≤ ms := by
  intro n
  induction n with
  | zero => exact ⟨fun _ c h => by omega, fun _ => rfl⟩
  | succ n ih =>
    rw [show bdN g ms (n + 1) = (bdN g ms n && Nat.ble (pop5 (parN g n 5)) ms) from rfl, Bool.and_eq_true, ih]
    constructor
    · intro h c hc
      by_cases e : c = n
      · rw [e]; exact Nat.le_of_ble_eq_true h.2
      · exact h.1 c (by omega)
    · intro h
      exact ⟨fun c hc => h c (by omega), Nat.ble_eq_true_of_le (h n (by omega))⟩
theorem c_bnd0 {g ms : Nat} (hb : bdN g ms 5 = true) : b_X0_areBounded_2 (nI g) (nI ms) (nI 5) = some (.inr (.inl (nI 5))) := by
  rw [eb_X0_areBounded_2, if_pos (show (5 : Int32) ≤ nI 5 by decide)]
theorem c_bnd2 {s ms : Nat} {x : Int32} (hms : ms ≤ 4) (hs : s < 32) : ((m_J6_bitCount_0f7a4 (nI s)).bind (fun r_3 : Int32 => if r_3 ≤ nI ms then lt (x + 1 : Int32) (fun x2_4 : Int32 => some (Sum.inl (β := Int32 ⊕ Int32) x2_4)) else some (.inr (.inr (0))))) = if pop5 s ≤ ms then some (.inl (x + 1)) else some (.inr (.inr 0)) := by
  have hpl := pop5_le s
  rw [t_bitCount s hs, Option.bind_some]
  by_cases hq : pop5 s ≤ ms
  · rw [if_pos ((nle (by omega) (by omega)).mpr hq), if_pos hq, lt]
  · rw [if_neg (fun z => hq ((nle (by omega) (by omega)).mp z)), if_neg hq]
theorem c_bnd1 {g ms c : Nat} (hg : g < 2 ^ 30) (hms : ms ≤ 4) (hc : c < 5) : b_X0_areBounded_2 (nI g) (nI ms) (nI c) = if pop5 (parN g c 5) ≤ ms then some (.inl (nI (c + 1))) else some (.inr (.inr 0)) := by
  have h32 : parN g c 5 < 32 := parN_lt g c 5
  rw [eb_X0_areBounded_2, if_neg (show ¬ (5 : Int32) ≤ nI c from fun z => by have := (nle (a := 5) (by omega) (by omega)).mp z; omega), t_parentsIn hg (by omega), Option.bind_some, c_bnd2 hms h32, nI_1]
theorem c_bndL {g ms : Nat} (hg : g < 2 ^ 30) (hms : ms ≤ 4) : ∃ r, lp (b_X0_areBounded_2 (nI g) (nI ms)) FU (nI 0) = some r ∧ ((bdN g ms 5 = true ∧ ∃ z, r = .inl z) ∨ (bdN g ms 5 = false ∧ r = .inr 0)) := by
  refine lp_inv (body := b_X0_areBounded_2 (nI g) (nI ms)) (fun s => ∃ c, s = nI c ∧ c ≤ 5 ∧ bdN g ms c = true) (fun r => (bdN g ms 5 = true ∧ ∃ z, r = .inl z) ∨ (bdN g ms 5 = false ∧ r = .inr 0)) (fun s => 5 - u3 s) ?_ FU (nI 0) ⟨0, rfl, by omega, rfl⟩ (Nat.lt_of_le_of_lt (Nat.sub_le _ _) (FU_big (by omega)))
  rintro s ⟨c, rfl, hc, hb⟩
  by_cases h5 : c = 5
  · right
    subst h5
    exact ⟨_, c_bnd0 hb, Or.inl ⟨hb, _, rfl⟩⟩
  · rw [c_bnd1 hg hms (by omega)]
    by_cases hq : pop5 (parN g c 5) ≤ ms
    · left
      rw [if_pos hq]
      refine ⟨_, rfl, ⟨c + 1, rfl, by omega, ?_⟩, ?_⟩
      · rw [show bdN g ms (c + 1) = (bdN g ms c && Nat.ble (pop5 (parN g c 5)) ms) from rfl, hb, Nat.ble_eq_true_of_le hq]; rfl
      · show 5 - u3 (nI (c + 1)) < 5 - u3 (nI c)
        rw [u3n (by omega), u3n (by omega)]; omega
    · right
      rw [if_neg hq]
      refine ⟨_, rfl, Or.inr ⟨?_, rfl⟩⟩
      cases hx : bdN g ms 5 with
      | false => rfl
      | true => exact absurd ((bdN_iff 5).mp hx c (by omega)) hq
theorem c_bnd {g ms : Nat} (hg : g < 2 ^ 30) (hms : ms ≤ 4) : m_X0_areBounded (nI g) (nI ms) = some (if bdN g ms 5 = true then 1 else 0) := by
  obtain ⟨r, e, ⟨h1, z, rfl⟩ | ⟨h1, rfl⟩⟩ := c_bndL hg hms
  · rw [em_X0_areBounded, show (0 : Int32) = nI 0 from rfl, e, if_pos h1]
    rfl
  · rw [em_X0_areBounded, show (0 : Int32) = nI 0 from rfl, e, h1]
    rfl
theorem t_bnd {N g ms : Nat} {i2 i3 i5 i6 : Int32} (hN : N ≤ 5) (hg : g < 2 ^ 30) (hms : ms ≤ 4) : m_X11_isBounded (nI N) i2 i3 (nI ms) i5 i6 (nI g) = some (if bdN g ms N = true then 1 else 0) := by
  have L := lp_cn2 (body := b_X11_isBounded_4 (nI N) (nI ms) (nI g)) (fun n s => s = if bdN g ms n = true then 1 else 0) (n0 := 0) (n1 := N) (Nat.zero_le _) (by omega) (fun s _ => by rw [eb_X11_isBounded_4, if_pos ((nle (by omega) (by omega)).mpr (Nat.le_refl _))]) (fun n s _ hn hs => by
    subst hs
    have hpl := pop5_le (parN g n 5)
    have nx : bdN g ms (n + 1) = (bdN g ms n && Nat.ble (pop5 (parN g n 5)) ms) := rfl
    rw [eb_X11_isBounded_4, if_neg (fun z => by have := (nle (by omega) (by omega)).mp z; omega)]
    cases hb : bdN g ms n with
    | false =>
      rw [if_pos (show (if false = true then (1 : Int32) else 0) = 0 from rfl), lt, nI_1]
      exact ⟨_, rfl, by rw [nx, hb]; rfl⟩
    | true =>
      rw [if_neg (show ¬ (if true = true then (1 : Int32) else 0) = 0 by decide), t_parentsOf hg (by omega)]
      simp only [Option.bind_some]
      rw [t_bits (parN_lt g n 5)]
      simp only [Option.bind_some, lt]
      rw [nI_1]
      refine ⟨_, rfl, ?_⟩
      rw [nx, hb, Bool.true_and]
      by_cases hq : ms < pop5 (parN g n 5)
      · rw [if_pos ((nlt (by omega) (by omega)).mpr hq), if_neg (fun z => by have := Nat.le_of_ble_eq_true z; omega)]
      · rw [if_neg (fun z => hq ((nlt (by omega) (by omega)).mp z)), if_pos (Nat.ble_eq_true_of_le (by omega))]) (s0 := (1 : Int32)) rfl
  obtain ⟨s1, e, h⟩ := L
  rw [em_X11_isBounded, show ((1 : Int32), (0 : Int32)) = (1, nI 0) from rfl, e, h]
  simp only [Option.bind_some]
  cases bdN g ms N <;> rfl
theorem bd_same {N g ms : Nat} (hN : N ≤ 5) (h : g < 2 ^ 25 ∧ okA N g) : bdN g ms 5 = bdN g ms N := by
  have hb := ((okA_bit hN).mp h).2
  rw [Bool.eq_iff_iff, bdN_iff, bdN_iff]
  constructor
  · intro q c hc; exact q c (by omega)
  · intro q c hc
    by_cases hcN : c < N
    · exact q c hcN
    · have : parN g c 5 = 0 := by
        refine Nat.eq_of_testBit_eq fun i => ?_
        rw [parN_tb, Nat.zero_testBit]
        by_cases hi : i < 5
        · rw [decide_eq_true hi, Bool.true_and]
          cases hx : g.testBit (5 * i + c) with
          | false => rfl
          | true => have := hb i c hi hc hx; omega
        · rw [decide_eq_false hi, Bool.false_and]
      rw [this]
      exact Nat.zero_le _
section CL
variable {N R w ms : Nat} {vals : Nat → Nat} {cell : Nat → Nat → Nat} {fvalues fcells fsv fsc : Nat → Int32} {i5 i6 : Int32} {fk ftops flows fsmall flarge fone ftwo frest ff fm tA lA tB lB lf rt : Nat → Int32} {g : Nat}
/-- a graph that is open: a graph, and bounded -/
def acB (N ms x : Nat) : Bool := isG N (nI x) && bdN x ms N
theorem acB_ok {x : Nat} (hx : x < 2 ^ 25) (h : acB N ms x = true) : x < 2 ^ 25 ∧ okA N x := by
  unfold acB at h
  rw [Bool.and_eq_true] at h
  have := isG_lt h.1
  rw [u3_nI (by simp only [BB]; omega)] at this
  exact this
theorem isG_gro {x : Nat} (h : x < 2 ^ 25 ∧ okA N x) : isG N (nI x) = (gro (fun c => parN x c 5) N N).isSome := by
  unfold isG
  rw [u3_nI (by simp only [BB]; have := h.1; omega), decide_eq_true h.1, okB_iff.mpr h.2]
  rfl
theorem c_open (hN : N ≤ 5) (hms : ms ≤ 4) {i2 i3 : Int32} {x : Nat} (h : x < 2 ^ 25 ∧ okA N x) : m_X6_isOpen (nI N) i2 i3 (nI ms) (nI x) = some (if acB N ms x = true then 1 else 0) := by
  have := h.1
  rw [em_X6_isOpen, c_bnd (by omega) hms, bd_same hN h]
  simp only [Option.bind_some]
  unfold acB
  rw [isG_gro h]
  cases hb : bdN x ms N with
  | false => rw [if_pos (show (if false = true then (1 : Int32) else 0) = 0 from rfl), Bool.and_false]; rfl
  | true =>
    rw [if_neg (show ¬ (if true = true then (1 : Int32) else 0) = 0 by decide), t_haveNoRound (by omega) hN, Bool.and_true]
    simp only [Option.bind_some, lt]
    cases (gro (fun c => parN x c 5) N N).isSome <;> rfl
theorem xor_bit (g k i : Nat) : (g ^^^ 2 ^ k).testBit i = (g.testBit i != decide (k = i)) := by
  rw [Nat.testBit_xor, Nat.testBit_two_pow]
theorem xor_ok (hN : N ≤ 5) (h : g < 2 ^ 25 ∧ okA N g) {p c : Nat} (hp : p < N) (hc : c < N) (hpc : p ≠ c) : g ^^^ 2 ^ (5 * p + c) < 2 ^ 25 ∧ okA N (g ^^^ 2 ^ (5 * p + c)) := by
  have hb := ((okA_bit hN).mp h).2
  refine (okA_bit hN).mpr ⟨Nat.xor_lt_two_pow h.1 (Nat.pow_lt_pow_right (by decide) (by omega)), fun q d hq hd hh => ?_⟩
  unfold hsB at hh
  rw [xor_bit] at hh
  by_cases e : 5 * p + c = 5 * q + d
  · have := (tb_arc p (by omega) c (by omega) q hq d hd).mp e
    rw [← this.1, ← this.2]
    exact ⟨hp, hc, hpc⟩
  · rw [decide_eq_false e] at hh
    have : g.testBit (5 * q + d) = true := by cases hx : g.testBit (5 * q + d); rw [hx] at hh; cases hh; rfl
    exact hb q d hq hd this
/-- what comes if the arc from p to c comes, goes, or is turned to it -/
def chG (g p c : Nat) : Nat := if hsB g c p = true then (g ^^^ 2 ^ (5 * p + c)) ^^^ 2 ^ (5 * c + p) else g ^^^ 2 ^ (5 * p + c)
theorem chG_ok (hN : N ≤ 5) (h : g < 2 ^ 25 ∧ okA N g) {p c : Nat} (hp : p < N) (hc : c < N) (hpc : p ≠ c) : chG g p c < 2 ^ 25 ∧ okA N (chG g p c) := by
  unfold chG
  split
  · exact xor_ok hN (xor_ok hN h hp hc hpc) hc hp (fun z => hpc z.symm)
  · exact xor_ok hN h hp hc hpc
def clI (N ms g p : Nat) (l : List Nat) : Nat → List Nat
  | 0 => l
  | c + 1 => if p ≠ c ∧ acB N ms (chG g p c) = true then chG g p c :: clI N ms g p l c else clI N ms g p l c
def clO (N ms g : Nat) : Nat → List Nat
  | 0 => []
  | p + 1 => clI N ms g p (clO N ms g p) N
def rlI (N ms g p : Nat) (l : List Nat) : Nat → List Nat
  | 0 => l
  | c + 1 => (if (p ≠ c ∧ hsB g p c = true) ∧ acB N ms ((g ^^^ 2 ^ (5 * p + c)) ^^^ 2 ^ (5 * c + p)) = true then [(g ^^^ 2 ^ (5 * p + c)) ^^^ 2 ^ (5 * c + p)] else []) ++ ((if p ≠ c ∧ acB N ms (g ^^^ 2 ^ (5 * p + c)) = true then [g ^^^ 2 ^ (5 * p + c)] else []) ++ rlI N ms g p l c)
def rlO (N ms g : Nat) : Nat → List Nat
  | 0 => []
  | p + 1 => rlI N ms g p (rlO N ms g p) N
theorem clI_mem {p : Nat} {l : List Nat} {x : Nat} : ∀ n, x ∈ clI N ms g p l n ↔ x ∈ l ∨ ∃ c, c < n ∧ p ≠ c ∧ acB N ms (chG g p c) = true ∧ x = chG g p c := by
  intro n
  induction n with
  | zero => exact ⟨Or.inl, fun h => h.elim id (fun ⟨c, h, _⟩ => by omega)⟩
  | succ n ih =>
    show x ∈ (if p ≠ n ∧ acB N ms (chG g p n) = true then chG g p n :: clI N ms g p l n else clI N ms g p l n) ↔ _
    by_cases hc : p ≠ n ∧ acB N ms (chG g p n) = true
    · rw [if_pos hc, List.mem_cons, ih]
      constructor
      · rintro (h | h | ⟨c, h1, h2⟩)
        · exact Or.inr ⟨n, by omega, hc.1, hc.2, h⟩
        · exact Or.inl h
        · exact Or.inr ⟨c, by omega, h2⟩
      · rintro (h | ⟨c, h1, h2, h3, h4⟩)
        · exact Or.inr (Or.inl h)
        · by_cases e : c = n
          · subst e; exact Or.inl h4
          · exact Or.inr (Or.inr ⟨c, by omega, h2, h3, h4⟩)
    · rw [if_neg hc, ih]
      constructor
      · rintro (h | ⟨c, h1, h2⟩)
        · exact Or.inl h
        · exact Or.inr ⟨c, by omega, h2⟩
      · rintro (h | ⟨c, h1, h2, h3, h4⟩)
        · exact Or.inl h
        · by_cases e : c = n
          · subst e; exact absurd ⟨h2, h3⟩ hc
          · exact Or.inr ⟨c, by omega, h2, h3, h4⟩
theorem clO_mem {x : Nat} : ∀ n, x ∈ clO N ms g n ↔ ∃ p c, p < n ∧ c < N ∧ p ≠ c ∧ acB N ms (chG g p c) = true ∧ x = chG g p c := by
  intro n
  induction n with
  | zero => exact ⟨fun h => (by cases h), fun ⟨p, c, h, _⟩ => by omega⟩
  | succ n ih =>
    show x ∈ clI N ms g n (clO N ms g n) N ↔ _
    rw [clI_mem, ih]
    constructor
    · rintro (⟨p, c, h1, h2⟩ | ⟨c, h1, h2⟩)
      · exact ⟨p, c, by omega, h2⟩
      · exact ⟨n, c, by omega, h1, h2⟩
    · rintro ⟨p, c, h1, h2, h3⟩
      by_cases e : p = n
      · subst e; exact Or.inr ⟨c, h2, h3⟩
      · exact Or.inl ⟨p, c, by omega, h2, h3⟩
def rpM (N ms g p c x : Nat) : Prop := p ≠ c ∧ ((acB N ms (g ^^^ 2 ^ (5 * p + c)) = true ∧ x = g ^^^ 2 ^ (5 * p + c)) ∨ (hsB g p c = true ∧ acB N ms ((g ^^^ 2 ^ (5 * p + c)) ^^^ 2 ^ (5 * c + p)) = true ∧ x = (g ^^^ 2 ^ (5 * p + c)) ^^^ 2 ^ (5 * c + p)))
theorem ite_mem {q : Prop} [Decidable q] {x y : Nat} : x ∈ (if q then [y] else []) ↔ q ∧ x = y := by
  by_cases h : q
  · rw [if_pos h, List.mem_singleton]; exact ⟨fun z => ⟨h, z⟩, fun z => z.2⟩
  · rw [if_neg h]; exact ⟨fun z => (by cases z), fun z => absurd z.1 h⟩
theorem rlI_mem {p : Nat} {l : List Nat} {x : Nat} : ∀ n, x ∈ rlI N ms g p l n ↔ x ∈ l ∨ ∃ c, c < n ∧ rpM N ms g p c x := by
  intro n
  induction n with
  | zero => exact ⟨Or.inl, fun h => h.elim id (fun ⟨c, h, _⟩ => by omega)⟩
  | succ n ih =>
    show x ∈ (if (p ≠ n ∧ hsB g p n = true) ∧ acB N ms ((g ^^^ 2 ^ (5 * p + n)) ^^^ 2 ^ (5 * n + p)) = true then [(g ^^^ 2 ^ (5 * p + n)) ^^^ 2 ^ (5 * n + p)] else []) ++ ((if p ≠ n ∧ acB N ms (g ^^^ 2 ^ (5 * p + n)) = true then [g ^^^ 2 ^ (5 * p + n)] else []) ++ rlI N ms g p l n) ↔ _
    rw [List.mem_append, List.mem_append, ih, ite_mem, ite_mem]
    constructor
    · rintro (⟨⟨⟨h1, h2⟩, h3⟩, h4⟩ | ⟨⟨h1, h2⟩, h3⟩ | h | ⟨c, h1, h2⟩)
      · exact Or.inr ⟨n, by omega, h1, Or.inr ⟨h2, h3, h4⟩⟩
      · exact Or.inr ⟨n, by omega, h1, Or.inl ⟨h2, h3⟩⟩
      · exact Or.inl h
      · exact Or.inr ⟨c, by omega, h2⟩
    · rintro (h | ⟨c, h1, h2⟩)
      · exact Or.inr (Or.inr (Or.inl h))
      · by_cases e : c = n
        · subst e
          obtain ⟨q, ⟨a, b⟩ | ⟨a, b, d⟩⟩ := h2
          · exact Or.inr (Or.inl ⟨⟨q, a⟩, b⟩)
          · exact Or.inl ⟨⟨⟨q, a⟩, b⟩, d⟩
        · exact Or.inr (Or.inr (Or.inr ⟨c, by omega, h2⟩))
theorem rlO_mem {x : Nat} : ∀ n, x ∈ rlO N ms g n ↔ ∃ p c, p < n ∧ c < N ∧ rpM N ms g p c x := by
  intro n
  induction n with
  | zero => exact ⟨fun h => (by cases h), fun ⟨p, c, h, _⟩ => by omega⟩
  | succ n ih =>
    show x ∈ rlI N ms g n (rlO N ms g n) N ↔ _
    rw [rlI_mem, ih]
    constructor
    · rintro (⟨p, c, h1, h2⟩ | ⟨c, h1, h2⟩)
      · exact ⟨p, c, by omega, h2⟩
      · exact ⟨n, c, by omega, h1, h2⟩
    · rintro ⟨p, c, h1, h2, h3⟩
      by_cases e : p = n
      · subst e; exact Or.inr ⟨c, h2, h3⟩
      · exact Or.inl ⟨p, c, by omega, h2, h3⟩
theorem xor_comm2 (a b c : Nat) : (a ^^^ b) ^^^ c = (a ^^^ c) ^^^ b := by rw [Nat.xor_assoc, Nat.xor_comm b c, ← Nat.xor_assoc]
/-- both go through the same graphs -/
theorem lists_same (hN : N ≤ 5) (h : g < 2 ^ 25 ∧ okA N g) (hr : (gro (fun c => parN g c 5) N N).isSome = true) (x : Nat) : x ∈ clO N ms g N ↔ x ∈ rlO N ms g N := by
  rw [clO_mem, rlO_mem]
  constructor
  · rintro ⟨p, c, hp, hc, hpc, ha, rfl⟩
    unfold chG at ha ⊢
    by_cases hh : hsB g c p = true
    · rw [if_pos hh] at ha ⊢
      rw [xor_comm2] at ha ⊢
      exact ⟨c, p, hc, hp, fun z => hpc z.symm, Or.inr ⟨hh, ha, rfl⟩⟩
    · rw [if_neg hh] at ha ⊢
      exact ⟨p, c, hp, hc, hpc, Or.inl ⟨ha, rfl⟩⟩
  · rintro ⟨p, c, hp, hc, hpc, ⟨ha, rfl⟩ | ⟨hh, ha, rfl⟩⟩
    · by_cases hh : hsB g c p = true
      · exfalso
        have hok := xor_ok hN h hp hc hpc
        have hg2 : (gro (fun k => parN (g ^^^ 2 ^ (5 * p + c)) k 5) N N).isSome = true := by
          unfold acB at ha
          rw [Bool.and_eq_true, isG_gro hok] at ha
          exact ha.1
        have n1 : ¬ hsB g p c = true := fun z => no_two hN hr hp hc z hh
        refine no_two hN hg2 hp hc ?_ ?_
        · unfold hsB
          rw [xor_bit, decide_eq_true rfl]
          unfold hsB at n1
          cases hx : g.testBit (5 * p + c) with
          | false => rfl
          | true => exact absurd hx n1
        · unfold hsB
          rw [xor_bit, decide_eq_false (fun z => hpc ((tb_arc p (by omega) c (by omega) c (by omega) p (by omega)).mp z).1)]
          unfold hsB at hh
          rw [hh]
          rfl
      · exact ⟨p, c, hp, hc, hpc, by unfold chG; rw [if_neg hh]; exact ha, by unfold chG; rw [if_neg hh]⟩
    · refine ⟨c, p, hc, hp, fun z => hpc z.symm, ?_, ?_⟩
      · unfold chG; rw [if_pos hh, xor_comm2]; exact ha
      · unfold chG; rw [if_pos hh, xor_comm2]
theorem cl_ok (hN : N ≤ 5) (h : g < 2 ^ 25 ∧ okA N g) {p : Nat} (hp : p < N) {l : List Nat} (hl : ∀ x ∈ l, x < 2 ^ 25 ∧ okA N x) {n : Nat} (hn : n ≤ N) : ∀ x ∈ clI N ms g p l n, x < 2 ^ 25 ∧ okA N x := by
  intro x hx
  rcases (clI_mem n).mp hx with q | ⟨c, h1, h2, h3, rfl⟩
  · exact hl x q
  · exact chG_ok hN h hp (by omega) h2
end CL
