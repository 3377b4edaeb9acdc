/-! the better of two graphs; the best graph of all -/
section OR
variable (T L : Nat → Nat)
/-- x is better than y, or the same: greater FIT, or the same and not a greater number -/
def BE (T L : Nat → Nat) (x y : Nat) : Prop := T y * L x < T x * L y ∨ (T y * L x = T x * L y ∧ x ≤ y)
theorem BE_refl {T L : Nat → Nat} (x : Nat) : BE T L x x := Or.inr ⟨rfl, Nat.le_refl _⟩
theorem BE_anti {T L : Nat → Nat} {x y : Nat} (h1 : BE T L x y) (h2 : BE T L y x) : x = y := by
  rcases h1 with a | ⟨a, b⟩ <;> rcases h2 with c | ⟨c, d⟩
  · omega
  · omega
  · omega
  · omega
theorem BE_trans {T L : Nat → Nat} {x y z : Nat} (hx : 0 < L x) (hy : 0 < L y) (hz : 0 < L z) (h1 : BE T L x y) (h2 : BE T L y z) : BE T L x z := by
  have key : T y * L x ≤ T x * L y → T z * L y ≤ T y * L z → T z * L x ≤ T x * L z := by
    intro a b
    refine Nat.le_of_mul_le_mul_right (c := L y) ?_ hy
    calc T z * L x * L y = T z * L y * L x := by ac_rfl
      _ ≤ T y * L z * L x := Nat.mul_le_mul_right _ b
      _ = T y * L x * L z := by ac_rfl
      _ ≤ T x * L y * L z := Nat.mul_le_mul_right _ a
      _ = T x * L z * L y := by ac_rfl
  have strict : (T y * L x < T x * L y ∧ T z * L y ≤ T y * L z) ∨ (T y * L x ≤ T x * L y ∧ T z * L y < T y * L z) → T z * L x < T x * L z := by
    intro hh
    refine Nat.lt_of_mul_lt_mul_right (a := L y) ?_
    rcases hh with ⟨a, b⟩ | ⟨a, b⟩
    · calc T z * L x * L y = T z * L y * L x := by ac_rfl
        _ ≤ T y * L z * L x := Nat.mul_le_mul_right _ b
        _ = T y * L x * L z := by ac_rfl
        _ < T x * L y * L z := Nat.mul_lt_mul_of_pos_right a hz
        _ = T x * L z * L y := by ac_rfl
    · calc T z * L x * L y = T z * L y * L x := by ac_rfl
        _ < T y * L z * L x := Nat.mul_lt_mul_of_pos_right b hx
        _ = T y * L x * L z := by ac_rfl
        _ ≤ T x * L y * L z := Nat.mul_le_mul_right _ a
        _ = T x * L z * L y := by ac_rfl
  rcases h1 with a | ⟨a, a2⟩ <;> rcases h2 with b | ⟨b, b2⟩
  · exact Or.inl (strict (Or.inl ⟨a, Nat.le_of_lt b⟩))
  · exact Or.inl (strict (Or.inl ⟨a, Nat.le_of_eq b⟩))
  · exact Or.inl (strict (Or.inr ⟨Nat.le_of_eq a, b⟩))
  · have h := key (Nat.le_of_eq a) (Nat.le_of_eq b)
    rcases Nat.lt_or_eq_of_le h with q | q
    · exact Or.inl q
    · exact Or.inr ⟨q, by omega⟩
/-- the better one -/
def pkB (T L : Nat → Nat) (g : Nat) : Option Nat → Nat
  | none => g
  | some b => if T b * L g < T g * L b ∨ (T b * L g = T g * L b ∧ g < b) then g else b
/-- the best of a list -/
def bsL (T L : Nat → Nat) : List Nat → Option Nat
  | [] => none
  | g :: l => some (pkB T L g (bsL T L l))
theorem pkB_or (T L : Nat → Nat) (g : Nat) (b : Nat) : pkB T L g (some b) = g ∨ pkB T L g (some b) = b := by
  show (if _ then g else b) = g ∨ (if _ then g else b) = b
  split
  · exact Or.inl rfl
  · exact Or.inr rfl
theorem pkB_be {T L : Nat → Nat} {g b : Nat} : BE T L (pkB T L g (some b)) g ∧ BE T L (pkB T L g (some b)) b := by
  show BE T L (if T b * L g < T g * L b ∨ (T b * L g = T g * L b ∧ g < b) then g else b) g ∧ BE T L (if T b * L g < T g * L b ∨ (T b * L g = T g * L b ∧ g < b) then g else b) b
  by_cases h : T b * L g < T g * L b ∨ (T b * L g = T g * L b ∧ g < b)
  · rw [if_pos h]
    refine ⟨BE_refl g, ?_⟩
    rcases h with h | h
    · exact Or.inl h
    · exact Or.inr ⟨h.1, Nat.le_of_lt h.2⟩
  · rw [if_neg h]
    refine ⟨?_, BE_refl b⟩
    unfold BE
    rcases Nat.lt_trichotomy (T b * L g) (T g * L b) with q | q | q
    · exact absurd (Or.inl q) h
    · exact Or.inr ⟨q.symm, by have : ¬ g < b := fun z => h (Or.inr ⟨q, z⟩); omega⟩
    · exact Or.inl q
theorem bsL_spec {T L : Nat → Nat} : ∀ l : List Nat, (∀ x ∈ l, 0 < L x) → (bsL T L l = none ↔ l = []) ∧ ∀ m, bsL T L l = some m → m ∈ l ∧ ∀ x ∈ l, BE T L m x := by
  intro l
  induction l with
  | nil => intro _; exact ⟨⟨fun _ => rfl, fun _ => rfl⟩, fun m h => (by cases h)⟩
  | cons g l ih =>
    intro hp
    obtain ⟨i1, i2⟩ := ih (fun x hx => hp x (List.mem_cons_of_mem _ hx))
    refine ⟨⟨fun h => (by cases h), fun h => (by cases h)⟩, fun m hm0 => ?_⟩
    have hm : pkB T L g (bsL T L l) = m := Option.some.inj hm0
    clear hm0
    cases hb : bsL T L l with
    | none =>
      rw [hb] at hm
      have hl := i1.mp hb
      subst hl
      have : m = g := hm.symm
      subst this
      exact ⟨List.mem_cons_self, fun x hx => by rcases List.mem_cons.mp hx with rfl | hx; exact BE_refl _; cases hx⟩
    | some b =>
      rw [hb] at hm
      obtain ⟨j1, j2⟩ := i2 b hb
      obtain ⟨k1, k2⟩ := pkB_be (T := T) (L := L) (g := g) (b := b)
      rw [hm] at k1 k2
      have hmem : m ∈ g :: l := by
        rcases pkB_or T L g b with q | q
        · rw [hm] at q; rw [q]; exact List.mem_cons_self
        · rw [hm] at q; rw [q]; exact List.mem_cons_of_mem _ j1
      refine ⟨hmem, fun x hx => ?_⟩
      rcases List.mem_cons.mp hx with rfl | hx
      · exact k1
      · exact BE_trans (hp m hmem) (hp b (List.mem_cons_of_mem _ j1)) (hp x (List.mem_cons_of_mem _ hx)) k2 (j2 x hx)
/-- the same graphs in another order: the same best one -/
theorem bsL_same {T L : Nat → Nat} {l l' : List Nat} (hp : ∀ x ∈ l, 0 < L x) (h : ∀ x, x ∈ l ↔ x ∈ l') : bsL T L l = bsL T L l' := by
  obtain ⟨a1, a2⟩ := bsL_spec (T := T) l hp
  obtain ⟨b1, b2⟩ := bsL_spec (T := T) l' (fun x hx => hp x ((h x).mpr hx))
  cases hl : bsL T L l with
  | none =>
    have e := a1.mp hl
    have : l' = [] := by
      cases l' with
      | nil => rfl
      | cons y t => have := (h y).mpr List.mem_cons_self; rw [e] at this; cases this
    exact (b1.mpr this).symm
  | some m =>
    cases hl' : bsL T L l' with
    | none =>
      have e := b1.mp hl'
      have : m ∈ l' := (h m).mp (a2 m hl).1
      rw [e] at this
      cases this
    | some m' =>
      obtain ⟨x1, x2⟩ := a2 m hl
      obtain ⟨y1, y2⟩ := b2 m' hl'
      rw [BE_anti (x2 m' ((h m').mpr y1)) (y2 m ((h m).mp x1))]
end OR
/-- none as -1 -/
def oI : Option Nat → Int32
  | none => -1
  | some g => nI g
section BG
variable {N R w ms : Nat} {vals : Nat → Nat} {cell : Nat → Nat → Nat} {fvalues fcells fsv fsc : Nat → Int32} {i5 i6 : Int32} {fk ftops flows fsmall flarge fone ftwo frest ff fm tA lA tB lB lf rt : Nat → Int32}
abbrev gTo (cell : Nat → Nat → Nat) (vals : Nat → Nat) (N R w : Nat) (g : Nat) : Nat := grT cell vals N R w g N
abbrev gLo (cell : Nat → Nat → Nat) (vals : Nat → Nat) (N R w : Nat) (g : Nat) : Nat := grL cell vals N R w g N
/-- a number whose arcs tell parents: none of itself -/
def okG (N g : Nat) : Prop := g < 2 ^ 25 ∧ ∀ c, c < N → parN g c 5 / 2 ^ c % 2 = 0
theorem okG_W {g : Nat} (h : okG N g) : okW N (nI g) = true := by
  unfold okW
  rw [u3_nI (by simp only [BB]; have := h.1; omega)]
  exact decide_eq_true h
theorem wgh_G {g o : Nat} (hg : okG N g) (ho : okG N o) : wgh cell vals N R w (nI g) (nI o) = some (sg3 (gTo cell vals N R w g * gLo cell vals N R w o) (gTo cell vals N R w o * gLo cell vals N R w g)) := by
  unfold wgh
  rw [if_pos (okG_W hg), if_pos (okG_W ho), u3_nI (by simp only [BB]; have := hg.1; omega), u3_nI (by simp only [BB]; have := ho.1; omega)]
  rfl
theorem chs {s : Int32} {g b T1 T2 : Nat} (hg : g < 2 ^ 25) (hb : b < 2 ^ 25) (h1 : 0 < s ↔ T2 < T1) (h2 : s = 0 ↔ T1 = T2) :
    (if 0 < s then some (nI g) else (if s = 0 then (if nI b ≤ nI g then some (nI b) else some (nI g)).bind (fun y : Int32 => some (y : Int32)) else some (nI b)).bind (fun y : Int32 => some (y : Int32))) = some (nI (if T2 < T1 ∨ (T2 = T1 ∧ g < b) then g else b)) := by
  by_cases c1 : T2 < T1
  · rw [if_pos (h1.mpr c1), if_pos (Or.inl c1)]
  · rw [if_neg (fun z => c1 (h1.mp z))]
    by_cases c2 : T1 = T2
    · rw [if_pos (h2.mpr c2)]
      by_cases c3 : b ≤ g
      · rw [if_pos ((nle3 (by omega) (by omega)).mpr c3), if_neg (fun z => by omega)]; rfl
      · rw [if_neg (fun z => c3 ((nle3 (by omega) (by omega)).mp z)), if_pos (Or.inr ⟨c2.symm, by omega⟩)]; rfl
    · rw [if_neg (fun z => c2 (h2.mp z)), if_neg (fun z => by omega)]; rfl
theorem c_better {g : Nat} {b : Option Nat} (hg : okG N g) (hb : ∀ x, b = some x → okG N x) : m_X6_better cell vals N R w (nI ms) (nI g) (oI b) = some (nI (pkB (gTo cell vals N R w) (gLo cell vals N R w) g b)) := by
  rw [em_X6_better]
  cases b with
  | none => rw [if_neg (show ¬ (0 : Int32) ≤ oI none by decide)]; rfl
  | some x =>
    have hx := hb x rfl
    rw [if_pos (show (0 : Int32) ≤ oI (some x) from nI_pos' (by have := hx.1; omega)), show oI (some x) = nI x from rfl, wgh_G hg hx]
    simp only [Option.bind_some]
    rw [chs hg.1 hx.1 (T1 := gTo cell vals N R w g * gLo cell vals N R w x) (T2 := gTo cell vals N R w x * gLo cell vals N R w g) sg3_pos sg3_zero]
    rfl
theorem okG_of {g : Nat} (hN : N ≤ 5) (h : g < 2 ^ 25 ∧ okA N g) : okG N g := ⟨h.1, self_ok hN h.2⟩
theorem t_better (h : MS N R w vals cell fvalues fcells) (hK : MK cell vals N R w fk ftops flows) {i4 : Int32} {g : Nat} {b : Option Nat} (hg : g < 2 ^ 25) (hb : ∀ x, b = some x → x < 2 ^ 25 ∧ okA N x) (bd : Bool) (hbd : isG N (nI g) = true → m_X11_isBounded (nI N) (nI R) (nI w) i4 i5 i6 (nI g) = some (if bd = true then 1 else 0)) :
    ∃ q, m_X11_better (nI N) (nI R) (nI w) i4 i5 i6 fvalues fcells fk ftops flows fsmall flarge fone ftwo frest ff fm tA lA tB lB lf rt (oI b) (nI g) = some q ∧ q.1 = oI (if isG N (nI g) = true ∧ bd = true then some (pkB (gTo cell vals N R w) (gLo cell vals N R w) g b) else b) ∧ MK cell vals N R w q.2.1 q.2.2.1 q.2.2.2.1 := by
  have hN := h.1
  rw [em_X11_better, t_isGraph hN]
  simp only [Option.bind_some]
  cases hG : isG N (nI g) with
  | false =>
    rw [if_pos (show (if false = true then (1 : Int32) else 0) = 0 from rfl)]
    exact ⟨_, rfl, by rw [if_neg (fun z => by cases z.1)], hK⟩
  | true =>
    rw [if_neg (show ¬ (if true = true then (1 : Int32) else 0) = 0 by decide), hbd hG]
    simp only [Option.bind_some]
    cases bd with
    | false =>
      rw [if_pos (show (if false = true then (1 : Int32) else 0) = 0 from rfl)]
      exact ⟨_, rfl, by rw [if_neg (fun z => by cases z.2)], hK⟩
    | true =>
      have hgo := (isG_lt hG)
      rw [u3_nI (by simp only [BB]; omega)] at hgo
      rw [if_neg (show ¬ (if true = true then (1 : Int32) else 0) = 0 by decide), if_pos (show True ∧ true = true from ⟨trivial, rfl⟩)]
      cases b with
      | none =>
        rw [if_neg (show ¬ (0 : Int32) ≤ oI none by decide)]
        exact ⟨_, rfl, rfl, hK⟩
      | some x =>
        have hx := hb x rfl
        obtain ⟨q, e, K, s1, s2, s3⟩ := t_signOf (i4 := i4) (i5 := i5) (i6 := i6) (fsmall := fsmall) (flarge := flarge) (fone := fone) (ftwo := ftwo) (frest := frest) (ff := ff) (fm := fm) (tA := tA) (lA := lA) (tB := tB) (lB := lB) (lf := lf) (rt := rt) h hK hg hgo.2 hx.1 hx.2
        rw [if_pos (show (0 : Int32) ≤ oI (some x) from nI_pos' (by have := hx.1; omega)), show oI (some x) = nI x from rfl, e]
        simp only [Option.bind_some]
        rw [chs hg hx.1 (T1 := gTo cell vals N R w g * gLo cell vals N R w x) (T2 := gTo cell vals N R w x * gLo cell vals N R w g) s3 s2]
        exact ⟨_, rfl, rfl, K⟩
end BG
