/-! kin: all ways to direct the ties -/
def cnN (g : Nat) : Nat → Nat
  | 0 => 0
  | k + 1 => cnN g k + (if tcB g (pa k) (pb k) = true then 1 else 0)
def arN (t : Nat) (a b : Nat) : Nat := if t = 0 then 2 ^ (5 * a + b) else 2 ^ (5 * b + a)
def drN (g way : Nat) : Nat → Nat
  | 0 => 0
  | k + 1 => drN g way k ||| (if tcB g (pa k) (pb k) = true then arN (way / 2 ^ cnN g k % 2) (pa k) (pb k) else 0)
theorem cnN_le {g : Nat} : ∀ n, cnN g n ≤ n := by
  intro n
  induction n with
  | zero => exact Nat.le_refl _
  | succ n ih => unfold cnN; split <;> omega
theorem cnN_mono {g m : Nat} : ∀ n, m ≤ n → cnN g m ≤ cnN g n := by
  intro n
  induction n with
  | zero => intro h; rw [show m = 0 by omega]; exact Nat.le_refl _
  | succ n ih =>
    intro h
    by_cases e : m = n + 1
    · rw [e]; exact Nat.le_refl _
    · exact Nat.le_trans (ih (by omega)) (Nat.le_add_right _ _)
theorem cnN_lt {g m n : Nat} (h : m < n) (ht : tcB g (pa m) (pb m) = true) : cnN g m < cnN g n := by
  have h1 := cnN_mono (g := g) (m := m + 1) n (by omega)
  have h2 : cnN g (m + 1) = cnN g m + 1 := by show cnN g m + _ = _; rw [if_pos ht]
  omega
theorem tb_and1 : ∀ w, w < 1024 → ((nI w &&& 1) = 0 ↔ w % 2 = 0) ∧ nI w >>> (1 &&& 31) = nI (w / 2) := by decide +kernel
theorem t_directed {g way : Nat} (hw : way < 1024) : m_X4_directed (nI (tiN g 10)) (nI way) = some (nI (drN g way 10)) := by
  have L := lp_pr (outer := b_X4_directed_7 (nI (tiN g 10))) (inner := fun a => b_X4_directed_19 (nI (tiN g 10)) (nI a)) (fun (s : Int32 × Int32) (c : Int32) => (s.1, s.2, c)) (fun k s => s.1 = nI (drN g way k) ∧ s.2 = nI (way / 2 ^ cnN g k)) (fun s => by rw [eb_X4_directed_7, if_pos (by decide)]) (fun a s ha s' e => by
    rw [eb_X4_directed_7, if_neg (show ¬ (5 : Int32) ≤ nI a from fun z => by have := (nle (a := 5) (by omega) (by omega)).mp z; omega)]
    simp only [lt]
    rw [nI_1, e]
    rfl) (fun a s ha => by rw [eb_X4_directed_19, if_pos (by decide)]) (fun a b s hab hb hI => by
    obtain ⟨s1, s2⟩ := s
    obtain ⟨i1, i2⟩ := hI
    dsimp only at i1 i2 ⊢
    subst i1 i2
    obtain ⟨q1, q2, q3⟩ := tb_pp a (by omega) b hb hab
    generalize hkk : bs a + (b - a - 1) = k at *
    have hti : hsB (tiN g 10) a b = tcB g a b := by
      have := tiN_bit (g := g) 10 (Nat.le_refl _) k q3
      rw [q1, q2, decide_eq_true q3, Bool.true_and] at this
      exact this
    have n1 : drN g way (k + 1) = drN g way k ||| (if tcB g a b = true then arN (way / 2 ^ cnN g k % 2) a b else 0) := by rw [show drN g way (k + 1) = drN g way k ||| (if tcB g (pa k) (pb k) = true then arN (way / 2 ^ cnN g k % 2) (pa k) (pb k) else 0) from rfl, q1, q2]
    have n2 : cnN g (k + 1) = cnN g k + (if tcB g a b = true then 1 else 0) := by rw [show cnN g (k + 1) = cnN g k + (if tcB g (pa k) (pb k) = true then 1 else 0) from rfl, q1, q2]
    rw [eb_X4_directed_19, if_neg (show ¬ (5 : Int32) ≤ nI b from fun z => by have := (nle (a := 5) (by omega) (by omega)).mp z; omega), c_has (by omega) hb, hti]
    simp only [Option.bind_some]
    have hwl : way / 2 ^ cnN g k < 1024 := Nat.lt_of_le_of_lt (Nat.div_le_self _ _) hw
    cases ht : tcB g a b with
    | false =>
      rw [ht, if_neg (by decide)] at n1 n2
      rw [if_pos (show (if false = true then (1 : Int32) else 0) = 0 from rfl), lt, nI_1]
      exact ⟨(_, _), rfl, by rw [n1, Nat.or_zero]; rfl, by rw [n2, Nat.add_zero]; rfl⟩
    | true =>
      rw [ht, if_pos rfl] at n1 n2
      obtain ⟨b1, b2⟩ := tb_and1 _ hwl
      have e2 : nI (way / 2 ^ cnN g k) >>> ((1 : Int32) &&& 31) = nI (way / 2 ^ cnN g (k + 1)) := by rw [b2, n2, Nat.pow_succ, Nat.div_div_eq_div_mul]
      rw [if_neg (show ¬ (if true = true then (1 : Int32) else 0) = 0 by decide)]
      by_cases hz : way / 2 ^ cnN g k % 2 = 0
      · rw [if_pos (b1.mpr hz), arcI (by omega)]
        simp only [Option.bind_some, lt]
        rw [e2, nI_1, nI_lor]
        exact ⟨(_, _), rfl, by rw [n1, hz]; rfl, rfl⟩
      · rw [if_neg (fun z => hz (b1.mp z)), arcI (by omega)]
        simp only [Option.bind_some, lt]
        rw [e2, nI_1, nI_lor]
        refine ⟨(_, _), rfl, ?_, rfl⟩
        rw [n1]
        unfold arN
        rw [if_neg hz]
        rfl) (s0 := ((0 : Int32), nI way)) ⟨rfl, by show nI way = nI (way / 2 ^ 0); rw [Nat.pow_zero, Nat.div_one]⟩
  obtain ⟨s1, e, h1, -⟩ := L
  dsimp only at e
  rw [em_X4_directed, show ((0 : Int32), nI way, (0 : Int32)) = (0, nI way, nI 0) from rfl, e]
  simp only [Option.bind_some]
  rw [h1]
/-- the reference's list of the ties -/
def FS (g : Nat) (n : Nat) (f s : Nat → Int32) : Prop := ∀ k, k < n → tcB g (pa k) (pb k) = true → f (cnN g k) = nI (pa k) ∧ s (cnN g k) = nI (pb k)
theorem t_kin24 {g : Nat} (hg : g < 2 ^ 25) {f s : Nat → Int32} : ∃ f' s', lp (b_X11_kin_24 (nI g)) FU (0, 0, f, s) = some (nI (cnN g 10), 5, f', s') ∧ FS g 10 f' s' := by
  have L := lp_pr (outer := b_X11_kin_24 (nI g)) (inner := fun a => b_X11_kin_36 (nI g) (nI a)) (fun (s : Int32 × (Nat → Int32) × (Nat → Int32)) (c : Int32) => (s.1, c, s.2.1, s.2.2)) (fun k s => s.1 = nI (cnN g k) ∧ FS g k s.2.1 s.2.2) (fun s => by rw [eb_X11_kin_24, if_pos (by decide)]) (fun a s ha s' e => by
    rw [eb_X11_kin_24, if_neg (show ¬ (5 : Int32) ≤ nI a from fun z => by have := (nle (a := 5) (by omega) (by omega)).mp z; omega)]
    simp only [lt]
    rw [nI_1, e]
    rfl) (fun a s ha => by rw [eb_X11_kin_36, if_pos (by decide)]) (fun a b s hab hb hI => by
    obtain ⟨s1, s2, s3⟩ := s
    obtain ⟨i1, i2⟩ := hI
    dsimp only at i1 i2 ⊢
    subst i1
    obtain ⟨q1, q2, q3⟩ := tb_pp a (by omega) b hb hab
    generalize hkk : bs a + (b - a - 1) = k at *
    have n2 : cnN g (k + 1) = cnN g k + (if tcB g a b = true then 1 else 0) := by rw [show cnN g (k + 1) = cnN g k + (if tcB g (pa k) (pb k) = true then 1 else 0) from rfl, q1, q2]
    have hcl := cnN_le (g := g) k
    rw [eb_X11_kin_36, if_neg (show ¬ (5 : Int32) ≤ nI b from fun z => by have := (nle (a := 5) (by omega) (by omega)).mp z; omega), t_touch hg (by omega) hb]
    simp only [Option.bind_some]
    cases ht : tcB g a b with
    | false =>
      rw [ht, if_neg (by decide)] at n2
      rw [if_pos (show (if false = true then (1 : Int32) else 0) = 0 from rfl), lt, nI_1]
      refine ⟨(_, _, _), rfl, by rw [n2, Nat.add_zero]; rfl, fun j hj hjt => ?_⟩
      by_cases e : j = k
      · rw [e, q1, q2, ht] at hjt; cases hjt
      · exact i2 j (by omega) hjt
    | true =>
      rw [ht, if_pos rfl] at n2
      rw [if_neg (show ¬ (if true = true then (1 : Int32) else 0) = 0 by decide), if_pos (ixn (by omega) (by omega))]
      simp only [lt]
      rw [if_pos (ixn (by omega) (by omega)), cl (by omega), nI_1, nI_1]
      refine ⟨(_, _, _), rfl, by rw [n2]; rfl, fun j hj hjt => ?_⟩
      by_cases e : j = k
      · rw [e, q1, q2]
        exact ⟨pk_us, pk_us⟩
      · have hlt := cnN_lt (g := g) (show j < k by omega) hjt
        have := i2 j (by omega) hjt
        exact ⟨(pk_un (by omega)).trans this.1, (pk_un (by omega)).trans this.2⟩) (s0 := ((0 : Int32), f, s)) ⟨rfl, fun j hj => by omega⟩
  obtain ⟨⟨s1, s2, s3⟩, e, h1, h2⟩ := L
  dsimp only at e h1 h2
  subst h1
  exact ⟨s2, s3, by rw [show ((0 : Int32), (0 : Int32), f, s) = (0, nI 0, f, s) from rfl, e]; rfl, h2⟩
theorem t_kin116 {g way : Nat} (hw : way < 1024) {f s : Nat → Int32} (hF : FS g 10 f s) : ∃ z, lp (b_X11_kin_116 (nI (cnN g 10), 5, f, s) (nI way)) FU (0, 0) = some (nI (drN g way 10), z) := by
  have hc10 := cnN_le (g := g) 10
  have tbs : ∀ a, a < 5 → ∀ b, b < 5 → (1 : Int32) <<< ((5 * nI a + nI b) &&& 31) = nI (2 ^ (5 * a + b)) := by decide +kernel
  have key : ∀ m, m ≤ 10 → ∃ fu, fu ≤ m ∧ ∀ d b, lp (b_X11_kin_116 (nI (cnN g 10), 5, f, s) (nI way)) d (nI (drN g way m), nI (cnN g m)) = some b → lp (b_X11_kin_116 (nI (cnN g 10), 5, f, s) (nI way)) (d + fu) (0, 0) = some b := by
    intro m
    induction m with
    | zero => intro _; exact ⟨0, by omega, fun d b h => h⟩
    | succ m ih =>
      intro hm
      obtain ⟨fu, hfu, h⟩ := ih (by omega)
      have n1 : drN g way (m + 1) = drN g way m ||| (if tcB g (pa m) (pb m) = true then arN (way / 2 ^ cnN g m % 2) (pa m) (pb m) else 0) := rfl
      have n2 : cnN g (m + 1) = cnN g m + (if tcB g (pa m) (pb m) = true then 1 else 0) := rfl
      cases ht : tcB g (pa m) (pb m) with
      | false =>
        rw [ht, if_neg (by decide)] at n1 n2
        rw [Nat.or_zero] at n1
        have n3 : cnN g (m + 1) = cnN g m := by omega
        exact ⟨fu, by omega, fun d b hb => h d b (by rw [n1, n3] at hb; exact hb)⟩
      | true =>
        rw [ht, if_pos rfl] at n1 n2
        obtain ⟨a1, a2⟩ := hF m (by omega) ht
        have hlt := cnN_lt (g := g) (show m < 10 by omega) ht
        obtain ⟨p1, p2, p3⟩ := tb_pk m (by omega)
        have hstep : b_X11_kin_116 (nI (cnN g 10), 5, f, s) (nI way) (nI (drN g way m), nI (cnN g m)) = some (.inl (nI (drN g way (m + 1)), nI (cnN g (m + 1)))) := by
          rw [eb_X11_kin_116, if_neg (fun z => by have := (nle (by omega) (by omega)).mp z; omega)]
          have hbit : ((nI way >>> (nI (cnN g m) &&& 31)) &&& 1 = 0) ↔ way / 2 ^ cnN g m % 2 = 0 := by
            have h1 : way / 2 ^ cnN g m < 2 ^ 32 := Nat.lt_of_le_of_lt (Nat.div_le_self _ _) (by omega)
            rw [pk_shrN (by omega) (nI (cnN g m) &&& 31) (cnN g m) (s_ll _ (by omega)), show nI (way / 2 ^ cnN g m) &&& 1 = nI (way / 2 ^ cnN g m % 2) from pk_andN h1 1 (by decide), show (0 : Int32) = nI 0 from rfl, neq (by have := Nat.mod_lt (way / 2 ^ cnN g m) (show 0 < 2 by decide); omega) (by omega)]
          rw [if_pos (ixn (show cnN g m < 10 by omega) (by omega)), if_pos (ixn (show cnN g m < 10 by omega) (by omega)), if_pos (ixn (show cnN g m < 10 by omega) (by omega)), cl (by omega)]
          dsimp only
          rw [a1, a2]
          by_cases hz : way / 2 ^ cnN g m % 2 = 0
          · rw [if_pos (hbit.mpr hz)]
            simp only [Option.bind_some, lt]
            rw [tbs _ p3 _ p2, nI_lor, nI_1, n1, n2, hz]
            rfl
          · rw [if_neg (fun z => hz (hbit.mp z)), if_pos (ixn (show cnN g m < 10 by omega) (by omega))]
            simp only [Option.bind_some, lt]
            rw [tbs _ p2 _ p3, nI_lor, nI_1, n1, n2]
            unfold arN
            rw [if_neg hz]
        have hcm := cnN_le (g := g) m
        refine ⟨fu + 1, ?_, fun d b hb => ?_⟩
        · omega
        · have := h (d + 1) b (by rw [lp, hstep]; exact hb)
          rw [show d + (fu + 1) = d + 1 + fu by omega]
          exact this
  obtain ⟨fu, hfu, h⟩ := key 10 (Nat.le_refl _)
  refine ⟨nI (cnN g 10), lp_fu (1 + fu) (h 1 _ ?_) (by omega)⟩
  rw [lp, eb_X11_kin_116, if_pos ((nle (by omega) (by omega)).mpr (Nat.le_refl _))]
  rfl
