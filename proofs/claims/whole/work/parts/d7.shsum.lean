/-! Shares: sums of weights over subsets; sums over graphs -/
def zL (k s : Nat) : List Nat := (List.range 16).filter (fun u => Nat.beq (u &&& s) u && Nat.blt (s - u) (2 ^ k))
theorem ssum_perm {f : Nat → Nat} {L L' : List Nat} (h : L.Perm L') : ssum f L = ssum f L' := by
  induction h with
  | nil => rfl
  | cons x _ ih => unfold ssum; rw [ih]
  | swap x y l => unfold ssum; unfold ssum; omega
  | trans _ _ i1 i2 => exact i1.trans i2
theorem tb_z1 : ∀ k, k < 4 → ∀ s, s < 16 → s / 2 ^ k % 2 = 1 → isoN (zL (k + 1) s) = isoN (zL k s ++ zL k (s - 2 ^ k)) := by decide +kernel
theorem tb_z2 : ∀ k, k < 4 → ∀ s, s < 16 → s / 2 ^ k % 2 = 0 → zL (k + 1) s = zL k s := by decide +kernel
theorem tb_z0 : ∀ s, s < 16 → zL 0 s = [s] := by decide +kernel
theorem tb_z4 : ∀ n, n < 5 → ∀ s, s < 2 ^ n → zL n s = subL s := by decide +kernel
theorem z_step {f : Nat → Nat} {k s : Nat} (hk : k < 4) (hs : s < 16) (hb : s / 2 ^ k % 2 = 1) : ssum f (zL (k + 1) s) = ssum f (zL k s) + ssum f (zL k (s - 2 ^ k)) := by
  rw [← ssum_app, ← ssum_perm (isoN_perm (zL (k + 1) s)), tb_z1 k hk s hs hb]
  exact ssum_perm (isoN_perm _)
theorem zL_len (k s : Nat) : (zL k s).length ≤ 16 := Nat.le_trans (List.length_filter_le _ _) (by rw [List.length_range]; omega)
theorem ssz_le {f : Nat → Nat} {a k s : Nat} (h : ∀ u, f u ≤ a) : ssum f (zL k s) ≤ 16 * a := Nat.le_trans (ssum_le h _) (Nat.mul_le_mul_right _ (zL_len k s))
theorem W33 : 16 * WM < BB ^ 33 := by decide +kernel
theorem tb_del2 : ∀ s, s < 16 → ∀ p, p < 4 → s / 2 ^ p % 2 = 1 → nI s &&& ((1 <<< (nI p &&& 31)) ^^^ (-1)) = nI (s - 2 ^ p) := by decide +kernel
theorem tb_del3 : ∀ s, s < 16 → ∀ p, p < 4 → s / 2 ^ p % 2 = 1 → (s - 2 ^ p) / 2 ^ p % 2 = 0 ∧ 2 ^ p ≤ s := by decide +kernel
theorem tb_del4 : ∀ s, s < 16 → ∀ p, p < 4 → ∀ c, c < 4 → (s / 2 ^ p % 2 = 1 ∧ c ≠ p) → (s - 2 ^ p) / 2 ^ c % 2 = s / 2 ^ c % 2 := by decide +kernel
section SS
variable {N ms : Nat} {c : Nat} {sf st rw0 sg : Int32}
/-- the weights of a name under way: sums over the subsets that differ in the first k names alone -/
def ZW (N c k : Nat) (t : Nat → Nat) (v : Nat → Nat) : Prop := ∀ s, s < 2 ^ N → s / 2 ^ c % 2 = 0 → v (16 * c + s) = ssum t (zL k s)
theorem t_addSmaller (hN4 : N ≤ 4) (hc : c < N) {k : Nat} (hk : k < N) (hkc : k ≠ c) {t v : Nat → Nat} (ht : ∀ u, t u ≤ WM) (hZ : ZW N c k t v) :
    ∃ v', m_X7_addSmaller sf st (nI N) rw0 sg (nI ms) v (nI c) (nI k) = some v' ∧ ZW N c (k + 1) t v' ∧ FRw c v v' := by
  have h16 : 2 ^ N ≤ 2 ^ 4 := Nat.pow_le_pow_right (by decide) hN4
  have L := lp_cnt (body := b_X7_addSmaller_2 (nI N) (nI c) (nI k)) (fun j z => (∀ s, s < j → s / 2 ^ c % 2 = 0 → z (16 * c + s) = ssum t (zL (k + 1) s)) ∧ (∀ s, j ≤ s → s < 2 ^ N → s / 2 ^ c % 2 = 0 → z (16 * c + s) = ssum t (zL k s)) ∧ (∀ s, s < 2 ^ N → s / 2 ^ c % 2 = 0 → s / 2 ^ k % 2 = 0 → z (16 * c + s) = ssum t (zL k s)) ∧ FRw c v z) (n0 := 0) (n1 := 2 ^ N) (Nat.zero_le _) (by omega) ?_ ?_ (s0 := v) ⟨fun s hs => by omega, fun s _ hs hb => hZ s hs hb, fun s hs hb _ => hZ s hs hb, fun j _ _ => rfl⟩
  · obtain ⟨s1, e1, h1, -, -, h2⟩ := L
    rw [em_X7_addSmaller, show (0 : Int32) = nI 0 from rfl, e1]
    exact ⟨_, rfl, h1, h2⟩
  · intro z _
    rw [eb_X7_addSmaller_2, tb_pow N (by omega), if_pos ((nle (by omega) (by omega)).mpr (Nat.le_refl _))]
  · intro j z _ hj ⟨h1, h2, h3, h4⟩
    rw [eb_X7_addSmaller_2, tb_pow N (by omega), if_neg (fun z => by have := (nle (by omega) (by omega)).mp z; omega), isIn01 (by omega) (by omega)]
    simp only [Option.bind_some]
    have keep : (j / 2 ^ c % 2 = 0 → j / 2 ^ k % 2 = 0) → (∀ s, s < j + 1 → s / 2 ^ c % 2 = 0 → z (16 * c + s) = ssum t (zL (k + 1) s)) ∧ (∀ s, j + 1 ≤ s → s < 2 ^ N → s / 2 ^ c % 2 = 0 → z (16 * c + s) = ssum t (zL k s)) ∧ (∀ s, s < 2 ^ N → s / 2 ^ c % 2 = 0 → s / 2 ^ k % 2 = 0 → z (16 * c + s) = ssum t (zL k s)) ∧ FRw c v z := by
      intro hb
      refine ⟨fun s hs hsb => ?_, fun s hs => h2 s (by omega), h3, h4⟩
      by_cases hsj : s = j
      · rw [hsj] at hsb ⊢
        rw [tb_z2 k (by omega) j (by omega) (hb hsb)]
        exact h2 j (Nat.le_refl _) hj hsb
      · exact h1 s (by omega) hsb
    by_cases hb : j / 2 ^ k % 2 = 1
    · rw [if_pos hb, if_neg (show ¬ (1 : Int32) = 0 by decide), isIn01 (by omega) (by omega)]
      simp only [Option.bind_some]
      by_cases hcb : j / 2 ^ c % 2 = 1
      · rw [if_pos hcb, if_neg (show ¬ (1 : Int32) = 0 by decide)]
        simp only [lt]
        rw [if_pos trivial, nI_1]
        exact ⟨_, rfl, keep (fun z => by omega)⟩
      · have hcb0 : j / 2 ^ c % 2 = 0 := by omega
        rw [if_neg hcb, if_pos rfl]
        simp only [lt]
        obtain ⟨q1, q2⟩ := tb_del3 j (by omega) k (by omega) hb
        have q3 := tb_del4 j (by omega) k (by omega) c (by omega) ⟨hb, fun z => hkc z.symm⟩
        have hp2 : 0 < 2 ^ k := Nat.pow_pos (by decide)
        have q4 : j - 2 ^ k < j := Nat.sub_lt (by omega) hp2
        rw [if_neg (show ¬ (1 : Int32) = 0 by decide), tb_del2 j (by omega) k (by omega) hb, wix_e (by omega) (by omega), wix_e (by omega) (by omega)]
        obtain ⟨w1, w2⟩ := (tb_wi c (by omega) j (by omega)).1 hcb0
        obtain ⟨x1, x2⟩ := (tb_wi c (by omega) (j - 2 ^ k) (by omega)).1 (by rw [q3]; exact hcb0)
        simp only [Option.bind_some]
        rw [w2, x2]
        have v1 := h2 j (Nat.le_refl _) hj hcb0
        have v2 := h3 (j - 2 ^ k) (by omega) (by rw [q3]; exact hcb0) q1
        have b1 : z (16 * c + j) < BB ^ 33 := by rw [v1]; exact Nat.lt_of_le_of_lt (ssz_le ht) W33
        have b2 : z (16 * c + (j - 2 ^ k)) < BB ^ 33 := by rw [v2]; exact Nat.lt_of_le_of_lt (ssz_le ht) W33
        rw [fAdd_e w1 x1 (by omega) (by have := wlen_le b1; rw [show nwJ (16 * c + j) = 42 from if_pos (by omega)]; omega) (by have := wlen_le b2; rw [show nwJ (16 * c + j) = 42 from if_pos (by omega)]; omega)]
        simp only [Option.bind_some]
        rw [nI_1]
        refine ⟨_, rfl, fun s hs hsb => ?_, fun s hs1 hs2 hsb => ?_, fun s hs hsb hsk => ?_, fun i hi hi2 => ?_⟩
        · by_cases hsj : s = j
          · rw [hsj, uN_s, v1, v2, z_step (by omega) (by omega) hb]
          · rw [uN_n (by omega)]
            exact h1 s (by omega) hsb
        · rw [uN_n (by omega)]
          exact h2 s (by omega) hs2 hsb
        · rw [uN_n (fun z => by have : s = j := by omega
                                rw [this] at hsk; omega)]
          exact h3 s hs hsb hsk
        · rw [uN_n (by omega)]
          exact h4 i hi hi2
    · rw [if_neg hb, if_pos rfl]
      rw [lt, nI_1]
      exact ⟨_, rfl, keep (fun _ => by omega)⟩
theorem FRw.tr {a b d : Nat → Nat} (h1 : FRw c a b) (h2 : FRw c b d) : FRw c a d := fun j x y => (h2 j x y).trans (h1 j x y)
theorem t_weigh3 (hN4 : N ≤ 4) (hc : c < N) {t v : Nat → Nat} (ht : ∀ u, t u ≤ WM) (hZ : ZW N c 0 t v) :
    ∃ z, lp (b_X7_weigh_172 sf st (nI N) rw0 sg (nI ms) (nI c)) FU (0, v) = some z ∧ ZW N c N t z.2 ∧ FRw c v z.2 := by
  have h16 : 2 ^ N ≤ 2 ^ 4 := Nat.pow_le_pow_right (by decide) hN4
  have L := lp_cnt (body := b_X7_weigh_172 sf st (nI N) rw0 sg (nI ms) (nI c)) (fun k z => ZW N c k t z ∧ FRw c v z) (n0 := 0) (n1 := N) (Nat.zero_le _) (by omega) ?_ ?_ (s0 := v) ⟨hZ, fun j _ _ => rfl⟩
  · obtain ⟨s1, e1, h1⟩ := L
    exact ⟨_, e1, h1⟩
  · intro z _
    rw [eb_X7_weigh_172, if_pos ((nle (by omega) (by omega)).mpr (Nat.le_refl _))]
  · intro k z _ hk ⟨h1, h2⟩
    rw [eb_X7_weigh_172, if_neg (fun z => by have := (nle (by omega) (by omega)).mp z; omega)]
    by_cases hkc : k = c
    · rw [if_pos (by rw [hkc]), lt, nI_1]
      refine ⟨_, rfl, fun s hs hsb => ?_, h2⟩
      rw [h1 s hs hsb, tb_z2 k (by omega) s (by omega) (by rw [hkc]; exact hsb)]
    · rw [if_neg (fun q => hkc ((neq (by omega) (by omega)).mp q))]
      obtain ⟨v', e, h3, h4⟩ := t_addSmaller (sf := sf) (st := st) (rw0 := rw0) (sg := sg) (ms := ms) hN4 hc hk hkc ht h1
      rw [e]
      simp only [Option.bind_some, lt]
      rw [nI_1]
      exact ⟨_, rfl, h3, h2.tr h4⟩
end SS
section SW
variable {N R w ms : Nat} {vals : Nat → Nat} {cell : Nat → Nat → Nat} {fsv fsc : Nat → Int32} {c : Nat} {sf st : Int32}
/-- the weights of one name: a scale, the weights, and their sums in the numbers -/
def WGT (cell : Nat → Nat → Nat) (vals : Nat → Nat) (N R w ms c A B : Nat) (t : Nat → Nat) : Prop := 0 < A ∧ 0 < B ∧ (∀ u, t u ≤ WM) ∧ (∀ s, s < 2 ^ N → s / 2 ^ c % 2 = 0 → PW cell vals N R w ms c A B s (t s)) ∧ ∀ s, ¬ (s < 2 ^ N ∧ s / 2 ^ c % 2 = 0) → t s = 0
theorem t_weigh (h : CS N R w vals cell fsv fsc) (hN4 : N ≤ 4) (hms : ms ≤ 4) (hc : c < N) {pe el : Nat → Int} {f fl : Nat → Int32} {l ll : Nat} (v : Nat → Nat) (hE : PE pe f l) (hL : PE el fl ll) :
    ∃ (l' ll' : Nat) (f' fl' : Nat → Int32) (pe' el' : Nat → Int) (v' : Nat → Nat) (A B : Nat) (t : Nat → Nat), m_X7_weigh sf st (nI N) (nI R) (nI w) (nI ms) 5 fsv 16 fsc (nI l) f (nI ll) fl v (nI c) = some (nI l', f', nI ll', fl', v') ∧ PE pe' f' l' ∧ PE el' fl' ll' ∧ WGT cell vals N R w ms c A B t ∧ (∀ s, s < 2 ^ N → s / 2 ^ c % 2 = 0 → v' (16 * c + s) = ssum t (subL s)) ∧ FRw c v v' := by
  have h16 : 2 ^ N ≤ 2 ^ 4 := Nat.pow_le_pow_right (by decide) hN4
  obtain ⟨⟨q1, q2, q3, q4, q5⟩, e1, ⟨pe1, l1, x1, x2⟩, el1, ll1, y1, y2, y3⟩ := t_weigh1 (sf := sf) (st := st) h hN4 hms hc hE hL
  dsimp only at x1 x2 y1 y2
  subst x1 y1
  obtain ⟨⟨z1, z2, z3, z4⟩, e2, ⟨pe2, l2, u1, u2⟩, hF, hP⟩ := t_weigh2 (sf := sf) (st := st) (v := v) (q := (q1, nI l1, q3, nI ll1, q5)) h hN4 hms hc x2 rfl y2 y3
  dsimp only at u1 u2 hF hP
  subst u1
  let t : Nat → Nat := fun s => if s < 2 ^ N ∧ s / 2 ^ c % 2 = 0 then z4 (16 * c + s) else 0
  have hB := Nat.le_trans y3.2.2 (prP_WM h hN4 hms hc h16)
  have ht : ∀ u, t u ≤ WM := fun u => by
    show (if u < 2 ^ N ∧ u / 2 ^ c % 2 = 0 then z4 (16 * c + u) else 0) ≤ WM
    split
    · rename_i q
      obtain ⟨p1, p2⟩ := hP u q.1 q.2
      cases ho : opn ms c u with
      | true => exact Nat.le_trans (p1 ho).2 hB
      | false => rw [p2 ho]; exact Nat.zero_le _
    · exact Nat.zero_le _
  have hZ : ZW N c 0 t z4 := fun s hs hsb => by
    rw [tb_z0 s (by omega)]
    show z4 (16 * c + s) = t s + 0
    show z4 (16 * c + s) = (if s < 2 ^ N ∧ s / 2 ^ c % 2 = 0 then z4 (16 * c + s) else 0) + 0
    rw [if_pos ⟨hs, hsb⟩]
    rfl
  obtain ⟨⟨r1, r2⟩, e3, hZ3, hF3⟩ := t_weigh3 (sf := sf) (st := st) (rw0 := nI R) (sg := nI w) (ms := ms) hN4 hc ht hZ
  refine ⟨l2, ll1, z3, q5, pe2, el1, r2, ppw el1 3673, ppw (ngv el1) 3673, t, ?_, u2, y2, ⟨ppw_pos y2.two 3673, ppw_pos (two_ng y2.two) 3673, ht, fun s hs hsb => ?_, fun s hs => if_neg hs⟩, fun s hs hsb => ?_, hF.tr hF3⟩
  · rw [em_X7_weigh, e1]
    simp only [Option.bind_some]
    rw [e2]
    simp only [Option.bind_some]
    rw [e3]
    rfl
  · show PW cell vals N R w ms c _ _ s (if s < 2 ^ N ∧ s / 2 ^ c % 2 = 0 then z4 (16 * c + s) else 0)
    rw [if_pos ⟨hs, hsb⟩]
    exact hP s hs hsb
  · have := hZ3 s hs hsb
    dsimp only at this
    rw [this, tb_z4 N (by omega) s hs]
/-- the weights of all names -/
def WAL (N : Nat) (t : Nat → Nat → Nat) (v : Nat → Nat) : Prop := ∀ c s, c < N → s < 2 ^ N → s / 2 ^ c % 2 = 0 → v (16 * c + s) = ssum (t c) (subL s)
theorem t_weighs {body : Int32 × Int32 × (Nat → Int32) × Int32 × (Nat → Int32) × (Nat → Nat) → Option ((Int32 × Int32 × (Nat → Int32) × Int32 × (Nat → Int32) × (Nat → Nat)) ⊕ (Int32 × Int32 × (Nat → Int32) × Int32 × (Nat → Int32) × (Nat → Nat)))} (hbody : ∀ x, body x = b_X7_of_46 sf st (nI N) (nI R) (nI w) (nI ms) 5 fsv 16 fsc x) (h : CS N R w vals cell fsv fsc) (hN4 : N ≤ 4) (hms : ms ≤ 4) {pe el : Nat → Int} {f fl : Nat → Int32} {l ll : Nat} (v : Nat → Nat) (hE : PE pe f l) (hL : PE el fl ll) :
    ∃ (i : Int32) (l' ll' : Nat) (f' fl' : Nat → Int32) (pe' el' : Nat → Int) (v' : Nat → Nat) (A B : Nat → Nat) (t : Nat → Nat → Nat), lp body FU (0, nI l, f, nI ll, fl, v) = some (i, nI l', f', nI ll', fl', v') ∧ PE pe' f' l' ∧ PE el' fl' ll' ∧ (∀ c, c < N → WGT cell vals N R w ms c (A c) (B c) (t c)) ∧ WAL N t v' := by
  have L := lp_cnt (body := body) (fun k z => (∃ pe l, z.1 = nI l ∧ PE pe z.2.1 l) ∧ (∃ el l, z.2.2.1 = nI l ∧ PE el z.2.2.2.1 l) ∧ ∃ (A B : Nat → Nat) (t : Nat → Nat → Nat), (∀ c, c < k → WGT cell vals N R w ms c (A c) (B c) (t c)) ∧ ∀ c s, c < k → s < 2 ^ N → s / 2 ^ c % 2 = 0 → z.2.2.2.2 (16 * c + s) = ssum (t c) (subL s)) (n0 := 0) (n1 := N) (Nat.zero_le _) (by omega) ?_ ?_ (s0 := (nI l, f, nI ll, fl, v)) ⟨⟨pe, l, rfl, hE⟩, ⟨el, ll, rfl, hL⟩, fun _ => 0, fun _ => 0, fun _ _ => 0, fun c hc => by omega, fun c s hc => by omega⟩
  · obtain ⟨⟨a1, a2, a3, a4, a5⟩, e1, ⟨pe1, l1, x1, x2⟩, ⟨el1, ll1, y1, y2⟩, A, B, t, h1, h2⟩ := L
    dsimp only at x1 x2 y1 y2 h2
    subst x1 y1
    exact ⟨_, _, _, _, _, _, _, _, A, B, t, e1, x2, y2, h1, h2⟩
  · rintro ⟨a1, a2, a3, a4, a5⟩ -
    rw [hbody, eb_X7_of_46, if_pos ((nle (by omega) (by omega)).mpr (Nat.le_refl _))]
  · rintro k ⟨a1, a2, a3, a4, a5⟩ - hk ⟨⟨pe1, l1, x1, x2⟩, ⟨el1, ll1, y1, y2⟩, A, B, t, h1, h2⟩
    dsimp only at x1 x2 y1 y2 h2
    subst x1 y1
    obtain ⟨l', ll', f', fl', pe', el', v', A1, B1, t1, e, p1, p2, p3, p4, p5⟩ := t_weigh (sf := sf) (st := st) h hN4 hms hk a5 x2 y2
    rw [hbody, eb_X7_of_46, if_neg (fun z => by have := (nle (by omega) (by omega)).mp z; omega), e]
    simp only [Option.bind_some, lt]
    rw [nI_1]
    refine ⟨_, rfl, ⟨_, _, rfl, p1⟩, ⟨_, _, rfl, p2⟩, fun c => if c = k then A1 else A c, fun c => if c = k then B1 else B c, fun c => if c = k then t1 else t c, fun c hc => ?_, fun c s hc hs hsb => ?_⟩
    · by_cases hck : c = k
      · subst hck; simp only [if_true]; exact p3
      · simp only [if_neg hck]; exact h1 c (by omega)
    · by_cases hck : c = k
      · subst hck; simp only [if_true]; exact p4 s hs hsb
      · simp only [if_neg hck]
        have h16 : 2 ^ N ≤ 2 ^ 4 := Nat.pow_le_pow_right (by decide) hN4
        rw [p5 _ (by omega) (by omega)]
        exact h2 c s (by omega) hs hsb
end SW
