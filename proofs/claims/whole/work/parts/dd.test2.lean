/-! test: the sums over tables -/
section TS
variable {a0 a1 b0 b1 b2 : Nat} {own : Int64}
def W4 (a0 a1 b0 b1 b2 i j l m : Nat) : Int64 := (dl i j (a0 - i - j) * dl l m (a1 - l - m)) * dl (b0 - i - l) (b1 - j - m) (b2 - (a0 - i - j) - (a1 - l - m))
def vl (a0 a1 b0 b1 b2 : Nat) (own : Int64) (i j l m : Nat) : Int64 := if (a0 - i - j) + (a1 - l - m) ≤ b2 then (if 0 < lg_cmp (W4 a0 a1 b0 b1 b2 i j l m) own then 0 else W4 a0 a1 b0 b1 b2 i j l m) else 0
def S2 (a0 a1 b0 b1 b2 : Nat) (own : Int64) (i j l : Nat) : Int64 := sI (vl a0 a1 b0 b1 b2 own i j l) (min (a1 - l) (b1 - j) + 1)
def S3 (a0 a1 b0 b1 b2 : Nat) (own : Int64) (i j : Nat) : Int64 := sI (S2 a0 a1 b0 b1 b2 own i j) (min a1 (b0 - i) + 1)
def F4 (a0 a1 b0 b1 b2 : Nat) (own : Int64) (i j : Nat) : Int64 := if i ≤ b0 ∧ j ≤ b1 then S3 a0 a1 b0 b1 b2 own i j else 0
def S5 (a0 a1 b0 b1 b2 : Nat) (own : Int64) (i : Nat) : Int64 := sI (F4 a0 a1 b0 b1 b2 own i) (a0 - i + 1)
def S6 (a0 a1 b0 b1 b2 : Nat) (own : Int64) : Int64 := sI (S5 a0 a1 b0 b1 b2 own) (a0 + 1)
theorem t_lesser {x y : Nat} (hx : x ≤ 100000) (hy : y ≤ 100000) : m_X11_lesser (nI x) (nI y) = some (nI (min x y)) := by
  rw [em_X11_lesser]
  by_cases h : y ≤ x
  · rw [if_pos ((nle hy hx).mpr h), Nat.min_eq_right h]; rfl
  · rw [if_neg (fun z => h ((nle hy hx).mp z)), Nat.min_eq_left (by omega)]; rfl
theorem ix13 : ix (1 : Int32) 3 = true := by decide
theorem ix03 : ix (0 : Int32) 3 = true := by decide
theorem ix23 : ix (2 : Int32) 3 = true := by decide
theorem c2' : (2 : Int32).toNatClampNeg = 2 := rfl
abbrev QT : Type := Int32 × (Nat → Int32) × (Nat → Int32) × (Nat → Int32)
section RR
variable {q : QT} (hA : q.2.1 0 = nI a0 ∧ q.2.1 1 = nI a1) (hB : q.2.2.1 0 = nI b0 ∧ q.2.2.1 1 = nI b1 ∧ q.2.2.1 2 = nI b2) (sa : a0 + a1 ≤ 16) (sb : b0 + b1 + b2 ≤ 16)
theorem r_427 (hA : q.2.1 0 = nI a0 ∧ q.2.1 1 = nI a1) (hB : q.2.2.1 0 = nI b0 ∧ q.2.2.1 1 = nI b1 ∧ q.2.2.1 2 = nI b2) (sa : a0 + a1 ≤ 16) (sb : b0 + b1 + b2 ≤ 16) {i j l : Nat} (hi : i ≤ b0) (hj : j ≤ b1) (hij : i + j ≤ a0) (hk : a0 - i - j ≤ b2) (hl : l ≤ a1) (hl2 : l ≤ b0 - i) (s : Int64) :
    lp (b_X11_test_427 q own (nI i) (nI j) (nI (a0 - i - j)) (nI l)) FU (s, 0) = some (s + S2 a0 a1 b0 b1 b2 own i j l, nI (min (a1 - l) (b1 - j) + 1)) := by
  refine lp_add (vl a0 a1 b0 b1 b2 own i j l) (by omega) (fun s => ?_) (fun m s hm => ?_) s
  · rw [eb_X11_test_427, if_pos ix13, if_pos ix13, c1, hA.2, hB.2.1, nI_subm hl, nI_subm hj, t_lesser (by omega) (by omega)]
    simp only [Option.bind_some]
    rw [if_pos ((nlt (by omega) (by omega)).mpr (by omega))]
  · rw [eb_X11_test_427, if_pos ix13, if_pos ix13, c1, c0, c2', hA.2, hB.2.1, hB.2.2, hB.1, nI_subm hl, nI_subm hj, t_lesser (by omega) (by omega)]
    simp only [Option.bind_some]
    rw [if_neg (fun z => by have := (nlt (by omega) (by omega)).mp z; omega), if_pos ix13]
    simp only [lt]
    rw [if_pos ix23, nI_subm (show m ≤ a1 - l by omega), nI_subm hk]
    unfold vl
    by_cases hn : b2 - (a0 - i - j) < a1 - l - m
    · rw [if_pos ((nlt (by omega) (by omega)).mpr hn), if_neg (by omega), nI_1, Int64.add_zero]
    · rw [if_neg (fun z => hn ((nlt (by omega) (by omega)).mp z)), if_pos (by omega), t_ways (by omega)]
      simp only [Option.bind_some]
      rw [t_ways (by omega)]
      simp only [Option.bind_some]
      rw [if_pos ix03, if_pos ix13, if_pos ix23, nI_subm (show i ≤ b0 by omega), nI_subm hl2, nI_subm (show m ≤ b1 - j by omega), nI_subm (show a1 - l - m ≤ b2 - (a0 - i - j) by omega), t_ways (by omega)]
      simp only [Option.bind_some]
      rw [nI_1]
      show (if 0 < lg_cmp (W4 a0 a1 b0 b1 b2 i j l m) own then some (0 : Int64) else some (W4 a0 a1 b0 b1 b2 i j l m)).bind (fun y => some (Sum.inl (s + y, nI (m + 1)))) = _
      by_cases hc : 0 < lg_cmp (W4 a0 a1 b0 b1 b2 i j l m) own
      · rw [if_pos hc, if_pos hc]; rfl
      · rw [if_neg hc, if_neg hc]; rfl
theorem S3_zero {i j : Nat} (h : b2 < a0 - i - j) : S3 a0 a1 b0 b1 b2 own i j = 0 := by
  unfold S3
  rw [sI_congr (g := fun _ => 0) _ (fun l _ => ?_), sI_zero]
  unfold S2
  rw [sI_congr (g := fun _ => 0) _ (fun m _ => ?_), sI_zero]
  unfold vl
  rw [if_neg (by omega)]
theorem r_390 (hA : q.2.1 0 = nI a0 ∧ q.2.1 1 = nI a1) (hB : q.2.2.1 0 = nI b0 ∧ q.2.2.1 1 = nI b1 ∧ q.2.2.1 2 = nI b2) (sa : a0 + a1 ≤ 16) (sb : b0 + b1 + b2 ≤ 16) {i j : Nat} (hi : i ≤ b0) (hj : j ≤ b1) (hij : i + j ≤ a0) (s : Int64) :
    ∃ z, lp (b_X11_test_390 q own (nI i) (nI j) (nI (a0 - i - j))) FU (s, 0) = some (s + S3 a0 a1 b0 b1 b2 own i j, z) := by
  by_cases hk : b2 < a0 - i - j
  · refine ⟨0, lp_fu 1 ?_ (by omega)⟩
    rw [lp, eb_X11_test_390, if_pos ix23, c2', hB.2.2, if_pos ((nlt (by omega) (by omega)).mpr hk), S3_zero hk, Int64.add_zero]
    rfl
  · refine ⟨_, lp_add (S2 a0 a1 b0 b1 b2 own i j) (n1 := min a1 (b0 - i) + 1) (by omega) (fun s => ?_) (fun l s hl => ?_) s⟩
    · rw [eb_X11_test_390, if_pos ix23, c2', hB.2.2, if_neg (fun z => hk ((nlt (by omega) (by omega)).mp z)), if_pos ix13, if_pos ix03, c1, c0, hA.2, hB.1, nI_subm hi, t_lesser (by omega) (by omega)]
      simp only [Option.bind_some]
      rw [if_pos ((nlt (by omega) (by omega)).mpr (by omega))]
    · rw [eb_X11_test_390, if_pos ix23, c2', hB.2.2, if_neg (fun z => hk ((nlt (by omega) (by omega)).mp z)), if_pos ix13, if_pos ix03, c1, c0, hA.2, hB.1, nI_subm hi, t_lesser (by omega) (by omega)]
      simp only [Option.bind_some]
      rw [if_neg (fun z => by have := (nlt (by omega) (by omega)).mp z; omega), r_427 hA hB sa sb hi hj hij (by omega) (by omega) (by omega) s]
      simp only [Option.bind_some, lt]
      rw [nI_1]
theorem r_350 (hA : q.2.1 0 = nI a0 ∧ q.2.1 1 = nI a1) (hB : q.2.2.1 0 = nI b0 ∧ q.2.2.1 1 = nI b1 ∧ q.2.2.1 2 = nI b2) (sa : a0 + a1 ≤ 16) (sb : b0 + b1 + b2 ≤ 16) {i : Nat} (hi : i ≤ b0) (hi2 : i ≤ a0) (s : Int64) :
    ∃ z, lp (b_X11_test_350 q own (nI i)) FU (s, 0) = some (s + S5 a0 a1 b0 b1 b2 own i, z) := by
  have e : S5 a0 a1 b0 b1 b2 own i = sI (S3 a0 a1 b0 b1 b2 own i) (min (a0 - i) b1 + 1) := by
    unfold S5
    rw [sI_cut (m := min (a0 - i) b1 + 1) (a0 - i + 1) (by omega) (fun k h1 h2 => by unfold F4; rw [if_neg (by omega)])]
    exact sI_congr _ (fun k hk => by unfold F4; rw [if_pos ⟨hi, by omega⟩])
  rw [e]
  refine ⟨_, lp_add (S3 a0 a1 b0 b1 b2 own i) (n1 := min (a0 - i) b1 + 1) (by omega) (fun s => ?_) (fun j s hj => ?_) s⟩
  · rw [eb_X11_test_350, if_pos ix03, if_pos ix13, c1, c0, hA.1, hB.2.1, nI_subm hi2, t_lesser (by omega) (by omega)]
    simp only [Option.bind_some]
    rw [if_pos ((nlt (by omega) (by omega)).mpr (by omega))]
  · rw [eb_X11_test_350, if_pos ix03, if_pos ix13, c1, c0, hA.1, hB.2.1, nI_subm hi2, t_lesser (by omega) (by omega)]
    simp only [Option.bind_some]
    rw [if_neg (fun z => by have := (nlt (by omega) (by omega)).mp z; omega), if_pos ix03]
    simp only [lt]
    rw [nI_subm (show j ≤ a0 - i by omega)]
    obtain ⟨z, ez⟩ := r_390 (own := own) hA hB sa sb hi (show j ≤ b1 by omega) (by omega) s
    rw [ez]
    simp only [Option.bind_some]
    rw [nI_1]
theorem r_327 (hA : q.2.1 0 = nI a0 ∧ q.2.1 1 = nI a1) (hB : q.2.2.1 0 = nI b0 ∧ q.2.2.1 1 = nI b1 ∧ q.2.2.1 2 = nI b2) (sa : a0 + a1 ≤ 16) (sb : b0 + b1 + b2 ≤ 16) :
    ∃ z, lp (b_X11_test_327 q own) FU (0, 0) = some (S6 a0 a1 b0 b1 b2 own, z) := by
  have e : S6 a0 a1 b0 b1 b2 own = sI (S5 a0 a1 b0 b1 b2 own) (min a0 b0 + 1) := by
    unfold S6
    refine sI_cut _ (by omega) (fun k h1 h2 => ?_)
    unfold S5
    rw [sI_congr (g := fun _ => 0) _ (fun j _ => ?_), sI_zero]
    unfold F4
    rw [if_neg (by omega)]
  rw [e]
  have L := lp_add (body := b_X11_test_327 q own) (S5 a0 a1 b0 b1 b2 own) (n1 := min a0 b0 + 1) (by omega) (fun s => ?_) (fun i s hi => ?_) 0
  · rw [Int64.zero_add] at L
    exact ⟨_, L⟩
  · rw [eb_X11_test_327, if_pos ix03, if_pos ix03, c0, hA.1, hB.1, t_lesser (by omega) (by omega)]
    simp only [Option.bind_some]
    rw [if_pos ((nlt (by omega) (by omega)).mpr (by omega))]
  · rw [eb_X11_test_327, if_pos ix03, if_pos ix03, c0, hA.1, hB.1, t_lesser (by omega) (by omega)]
    simp only [Option.bind_some]
    obtain ⟨z, ez⟩ := r_350 (own := own) hA hB sa sb (show i ≤ b0 by omega) (show i ≤ a0 by omega) s
    rw [if_neg (fun z => by have := (nlt (by omega) (by omega)).mp z; omega), ez]
    simp only [Option.bind_some, lt]
    rw [nI_1]
end RR
theorem same_427 : b_X11_test_427v1 = b_X11_test_427 := rfl
theorem same_390 : b_X11_test_390v1 = b_X11_test_390 := rfl
theorem same_350 : b_X11_test_350v1 = b_X11_test_350 := rfl
theorem same_327 : b_X11_test_327v1 = b_X11_test_327 := rfl
theorem s_first {f : Nat → Int32} {k : Nat} (hk : k < 3) : m_X9_first 3 f (nI k) = some (f k) := by
  rw [em_X9_first, if_neg (nI_pos (by omega)), if_neg (fun z => by have := (nle (by omega) (by omega)).mp z; omega), if_pos (ixn hk (by omega)), cl (by omega)]
  rfl
theorem s_second {f : Nat → Int32} {k : Nat} (hk : k < 3) : m_X9_second 3 f (nI k) = some (f k) := by
  rw [em_X9_second, if_neg (nI_pos (by omega)), if_neg (fun z => by have := (nle (by omega) (by omega)).mp z; omega), if_pos (ixn hk (by omega)), cl (by omega)]
  rfl
theorem sub_sub3 (x y z : Int32) : x - y - z = x - (y + z) := Int32.sub_sub x y z
theorem s_77 {f : Nat → Int32} (h1 : f 1 = nI a1) (sa : a0 + a1 ≤ 16) (sb : b0 + b1 + b2 ≤ 16) {i j l : Nat} (hi : i ≤ b0) (hj : j ≤ b1) (hij : i + j ≤ a0) (hl : l ≤ a1) (hl2 : l ≤ b0 - i) (s : Int64) :
    lp (b_X9_waysWith_77 3 f own (nI (b0 - i)) (nI (b1 - j)) (nI b2 - nI (a0 - i - j)) (dl i j (a0 - i - j)) (nI l)) FU (s, 0) = some (s + S2 a0 a1 b0 b1 b2 own i j l, nI (min (a1 - l) (b1 - j) + 1)) := by
  have f1 : m_X9_first 3 f 1 = some (nI a1) := by rw [← h1]; exact s_first (k := 1) (by omega)
  refine lp_add (vl a0 a1 b0 b1 b2 own i j l) (by omega) (fun s => ?_) (fun m s hm => ?_) s
  · rw [eb_X9_waysWith_77, f1]
    simp only [Option.bind_some]
    rw [nI_add]
    by_cases hq : a1 < l + (min (a1 - l) (b1 - j) + 1)
    · rw [if_pos ((nlt (by omega) (by omega)).mpr hq)]
    · rw [if_neg (fun z => hq ((nlt (by omega) (by omega)).mp z)), if_pos ((nlt (by omega) (by omega)).mpr (by omega))]
  · rw [eb_X9_waysWith_77, f1]
    simp only [Option.bind_some]
    rw [nI_add, if_neg (fun z => by have := (nlt (by omega) (by omega)).mp z; omega), if_neg (fun z => by have := (nlt (by omega) (by omega)).mp z; omega)]
    simp only [lt]
    rw [nI_subm hl, nI_subm (show m ≤ a1 - l by omega), t_deals (by omega)]
    simp only [Option.bind_some]
    rw [nI_subm hl2, nI_subm (show m ≤ b1 - j by omega), sub_sub3, nI_add]
    unfold vl
    by_cases hn : (a0 - i - j) + (a1 - l - m) ≤ b2
    · rw [if_pos hn, nI_subm hn, show b2 - ((a0 - i - j) + (a1 - l - m)) = b2 - (a0 - i - j) - (a1 - l - m) by omega, t_deals (by omega)]
      simp only [Option.bind_some]
      rw [nI_1]
      show (if 0 < lg_cmp (W4 a0 a1 b0 b1 b2 i j l m) own then some s else some (s + W4 a0 a1 b0 b1 b2 i j l m)).bind (fun y => some (Sum.inl (y, nI (m + 1)))) = _
      by_cases hc : 0 < lg_cmp (W4 a0 a1 b0 b1 b2 i j l m) own
      · rw [if_pos hc, if_pos hc, Int64.add_zero]; rfl
      · rw [if_neg hc, if_neg hc]; rfl
    · rw [if_neg hn, t_dneg (by omega) (by omega) (nI_neg (by omega) (by omega))]
      simp only [Option.bind_some]
      rw [Int64.mul_zero, nI_1, Int64.add_zero]
      by_cases hc : 0 < lg_cmp 0 own
      · rw [if_pos hc]; rfl
      · rw [if_neg hc]; rfl
theorem s_waysWith {f g : Nat → Int32} (hf : f 0 = nI a0 ∧ f 1 = nI a1) (hg : g 0 = nI b0 ∧ g 1 = nI b1 ∧ g 2 = nI b2) (sa : a0 + a1 ≤ 16) (sb : b0 + b1 + b2 ≤ 16) {i j : Nat} (hij : i + j ≤ a0) :
    m_X9_waysWith 3 f 3 g (nI i) (nI j) own = some (F4 a0 a1 b0 b1 b2 own i j) := by
  have f0 : m_X9_first 3 f 0 = some (nI a0) := by rw [← hf.1]; exact s_first (k := 0) (by omega)
  have f1 : m_X9_first 3 f 1 = some (nI a1) := by rw [← hf.2]; exact s_first (k := 1) (by omega)
  have g0 : m_X9_second 3 g 0 = some (nI b0) := by rw [← hg.1]; exact s_second (k := 0) (by omega)
  have g1 : m_X9_second 3 g 1 = some (nI b1) := by rw [← hg.2.1]; exact s_second (k := 1) (by omega)
  have g2 : m_X9_second 3 g 2 = some (nI b2) := by rw [← hg.2.2]; exact s_second (k := 2) (by omega)
  have ek : (nI a0 - nI i) - nI j = nI (a0 - i - j) := by rw [nI_subm (by omega), nI_subm (by omega)]
  rw [em_X9_waysWith, g0, g1, g2, f0]
  simp only [Option.bind_some, lt]
  rw [ek, t_deals (by omega)]
  simp only [Option.bind_some]
  unfold F4
  by_cases hi : i ≤ b0
  · rw [nI_subm hi]
    by_cases hj : j ≤ b1
    · rw [if_pos ⟨hi, hj⟩, nI_subm hj]
      have L := lp_add (body := b_X9_waysWith_57 3 f own (nI (b0 - i)) (nI (b1 - j)) (nI b2 - nI (a0 - i - j)) (dl i j (a0 - i - j))) (S2 a0 a1 b0 b1 b2 own i j) (n1 := min a1 (b0 - i) + 1) (by omega) (fun s => ?_) (fun l s hl => ?_) 0
      · rw [Int64.zero_add] at L
        rw [L]
        rfl
      · rw [eb_X9_waysWith_57, f1]
        simp only [Option.bind_some]
        by_cases hq : a1 < min a1 (b0 - i) + 1
        · rw [if_pos ((nlt (by omega) (by omega)).mpr hq)]
        · rw [if_neg (fun z => hq ((nlt (by omega) (by omega)).mp z)), if_pos ((nlt (by omega) (by omega)).mpr (by omega))]
      · rw [eb_X9_waysWith_57, f1]
        simp only [Option.bind_some]
        rw [if_neg (fun z => by have := (nlt (by omega) (by omega)).mp z; omega), if_neg (fun z => by have := (nlt (by omega) (by omega)).mp z; omega), s_77 hf.2 sa sb hi hj hij (by omega) (by omega) s]
        simp only [Option.bind_some, lt]
        rw [nI_1]
    · rw [if_neg (fun z => hj z.2)]
      have hneg := nI_neg (show b1 < j by omega) (by omega)
      have L := lp_add (body := b_X9_waysWith_57 3 f own (nI (b0 - i)) (nI b1 - nI j) (nI b2 - nI (a0 - i - j)) (dl i j (a0 - i - j))) (fun _ => 0) (n1 := min a1 (b0 - i) + 1) (by omega) (fun s => ?_) (fun l s hl => ?_) 0
      · rw [sI_zero] at L
        rw [L]
        rfl
      · rw [eb_X9_waysWith_57, f1]
        simp only [Option.bind_some]
        by_cases hq : a1 < min a1 (b0 - i) + 1
        · rw [if_pos ((nlt (by omega) (by omega)).mpr hq)]
        · rw [if_neg (fun z => hq ((nlt (by omega) (by omega)).mp z)), if_pos ((nlt (by omega) (by omega)).mpr (by omega))]
      · have e1 : lp (b_X9_waysWith_77 3 f own (nI (b0 - i)) (nI b1 - nI j) (nI b2 - nI (a0 - i - j)) (dl i j (a0 - i - j)) (nI l)) FU (s, 0) = some (s, 0) := by
          refine lp_fu 1 ?_ (by omega)
          rw [lp, eb_X9_waysWith_77, f1]
          simp only [Option.bind_some]
          rw [if_neg (show ¬ nI a1 < nI l + 0 from fun z => by rw [Int32.add_zero] at z; have := (nlt (by omega) (by omega)).mp z; omega), if_pos hneg]
          rfl
        rw [eb_X9_waysWith_57, f1]
        simp only [Option.bind_some]
        rw [if_neg (fun z => by have := (nlt (by omega) (by omega)).mp z; omega), if_neg (fun z => by have := (nlt (by omega) (by omega)).mp z; omega), e1]
        simp only [Option.bind_some, lt]
        rw [nI_1, Int64.add_zero]
  · rw [if_neg (fun z => hi z.1)]
    have hneg := nI_neg (show b0 < i by omega) (by omega)
    have e1 : lp (b_X9_waysWith_57 3 f own (nI b0 - nI i) (nI b1 - nI j) (nI b2 - nI (a0 - i - j)) (dl i j (a0 - i - j))) FU (0, 0) = some (0, 0) := by
      refine lp_fu 1 ?_ (by omega)
      rw [lp, eb_X9_waysWith_57, f1]
      simp only [Option.bind_some]
      rw [if_neg (nI_pos (by omega)), if_pos hneg]
      rfl
    rw [e1]
    rfl
theorem s_notAbove {fc f g : Nat → Int32} (hf : f 0 = nI a0 ∧ f 1 = nI a1) (hg : g 0 = nI b0 ∧ g 1 = nI b1 ∧ g 2 = nI b2) (sa : a0 + a1 ≤ 16) (sb : b0 + b1 + b2 ≤ 16) {c : Nat → Nat → Nat} (hc : ∀ x y, x < 3 → y < 3 → fc (3 * x + y) = nI (c x y)) (hs : ∀ x, x < 3 → c x 0 + c x 1 + c x 2 ≤ 16) :
    m_X9_waysNotAbove 9 fc 3 f 3 g = some (S6 a0 a1 b0 b1 b2 ((dl (c 0 0) (c 0 1) (c 0 2) * dl (c 1 0) (c 1 1) (c 1 2)) * dl (c 2 0) (c 2 1) (c 2 2))) := by
  have f0 : m_X9_first 3 f 0 = some (nI a0) := by rw [← hf.1]; exact s_first (k := 0) (by omega)
  have cell_e : ∀ x y, x < 3 → y < 3 → m_X9_cell 9 fc (nI x) (nI y) = some (nI (c x y)) := by
    intro x y hx hy
    rw [em_X9_cell, show (3 : Int32) = nI 3 from rfl, nI_mulm, nI_add]
    simp only [lt]
    rw [if_neg (nI_pos (by omega)), if_neg (fun z => by have := (nle (by omega) (by omega)).mp z; omega), if_pos (ixn (by omega) (by omega)), cl (by omega), hc x y hx hy]
    rfl
  have st : ∀ (x : Nat) (s : Int64), x < 3 → b_X9_waysNotAbove_4 9 fc (s, nI x) = some (.inl (s * dl (c x 0) (c x 1) (c x 2), nI (x + 1))) := by
    intro x s hx
    rw [eb_X9_waysNotAbove_4, if_neg (show ¬ (3 : Int32) ≤ nI x from fun z => by have := (nle (a := 3) (by omega) (by omega)).mp z; omega), show m_X9_cell 9 fc (nI x) 0 = _ from cell_e x 0 hx (by omega), show m_X9_cell 9 fc (nI x) 1 = _ from cell_e x 1 hx (by omega), show m_X9_cell 9 fc (nI x) 2 = _ from cell_e x 2 hx (by omega)]
    simp only [Option.bind_some]
    rw [t_deals (hs x hx)]
    simp only [Option.bind_some, lt]
    rw [nI_1]
  have e4 : lp (b_X9_waysNotAbove_4 9 fc) FU (1, 0) = some ((dl (c 0 0) (c 0 1) (c 0 2) * dl (c 1 0) (c 1 1) (c 1 2)) * dl (c 2 0) (c 2 1) (c 2 2), nI 3) := by
    refine lp_fu 4 ?_ (by omega)
    rw [lp, show ((1 : Int64), (0 : Int32)) = (1, nI 0) from rfl, st 0 1 (by omega)]
    simp only [lpk]
    rw [lp, st 1 _ (by omega)]
    simp only [lpk]
    rw [lp, st 2 _ (by omega)]
    simp only [lpk]
    rw [lp, eb_X9_waysNotAbove_4, if_pos (by decide), Int64.one_mul]
    rfl
  rw [em_X9_waysNotAbove, e4]
  simp only [Option.bind_some]
  generalize (dl (c 0 0) (c 0 1) (c 0 2) * dl (c 1 0) (c 1 1) (c 1 2)) * dl (c 2 0) (c 2 1) (c 2 2) = own
  have L := lp_add (body := b_X9_waysNotAbove_44 3 f 3 g (own, nI 3)) (S5 a0 a1 b0 b1 b2 own) (n1 := a0 + 1) (by omega) (fun s => ?_) (fun i s hi => ?_) 0
  · rw [Int64.zero_add] at L
    rw [L]
    rfl
  · rw [eb_X9_waysNotAbove_44, f0]
    simp only [Option.bind_some]
    rw [if_pos ((nlt (by omega) (by omega)).mpr (by omega))]
  · have L2 := lp_add (body := b_X9_waysNotAbove_57 3 f 3 g (own, nI 3) (nI i)) (F4 a0 a1 b0 b1 b2 own i) (n1 := a0 - i + 1) (by omega) (fun s => ?_) (fun j s hj => ?_) s
    · rw [eb_X9_waysNotAbove_44, f0]
      simp only [Option.bind_some]
      rw [if_neg (fun z => by have := (nlt (by omega) (by omega)).mp z; omega), L2]
      simp only [Option.bind_some, lt]
      rw [nI_1]
      rfl
    · rw [eb_X9_waysNotAbove_57, f0]
      simp only [Option.bind_some]
      rw [nI_add, if_pos ((nlt (by omega) (by omega)).mpr (by omega))]
    · rw [eb_X9_waysNotAbove_57, f0]
      simp only [Option.bind_some]
      rw [nI_add, if_neg (fun z => by have := (nlt (by omega) (by omega)).mp z; omega), s_waysWith hf hg sa sb (by omega)]
      simp only [Option.bind_some, lt]
      rw [nI_1]
end TS
