/-! test: ways and deals; sums of longs; counts of rows -/
theorem lp_cn2 {σ : Type} {body : σ × Int32 → Option ((σ × Int32) ⊕ (σ × Int32))} (I : Nat → σ → Prop) {n0 n1 : Nat} (h01 : n0 ≤ n1) (hn : n1 ≤ 100000)
    (stop : ∀ s, I n1 s → body (s, nI n1) = some (.inr (s, nI n1))) (step : ∀ k s, n0 ≤ k → k < n1 → I k s → ∃ s', body (s, nI k) = some (.inl (s', nI (k + 1))) ∧ I (k + 1) s') {s0 : σ} (h0 : I n0 s0) :
    ∃ s1, lp body FU (s0, nI n0) = some (s1, nI n1) ∧ I n1 s1 := by
  have L := lp_inv (body := body) (fun a => ∃ k, a.2 = nI k ∧ n0 ≤ k ∧ k ≤ n1 ∧ I k a.1) (fun b => b.2 = nI n1 ∧ I n1 b.1) (fun a => n1 - u3 a.2) ?_ FU (s0, nI n0) ⟨n0, rfl, Nat.le_refl _, h01, h0⟩ (Nat.lt_of_le_of_lt (Nat.sub_le _ _) (FU_big (by omega)))
  · obtain ⟨⟨s1, c⟩, e, e1, h1⟩ := L
    dsimp only at e1 h1
    subst e1
    exact ⟨s1, e, h1⟩
  · rintro ⟨s, c⟩ ⟨k, e1, hk0, hk, hI⟩
    dsimp only at e1 hI
    subst e1
    by_cases hkn : k = n1
    · subst hkn
      exact Or.inr ⟨_, stop s hI, rfl, hI⟩
    · obtain ⟨s', es, hs'⟩ := step k s hk0 (by omega) hI
      refine Or.inl ⟨_, es, ⟨k + 1, rfl, by omega, by omega, hs'⟩, ?_⟩
      show n1 - u3 (nI (k + 1)) < n1 - u3 (nI k)
      rw [u3n (by omega), u3n (by omega)]; omega
/-- a loop that adds longs -/
def sI (f : Nat → Int64) : Nat → Int64
  | 0 => 0
  | n + 1 => sI f n + f n
theorem sI_congr {f g : Nat → Int64} : ∀ n, (∀ k, k < n → f k = g k) → sI f n = sI g n := by
  intro n
  induction n with
  | zero => intro _; rfl
  | succ n ih => intro h; unfold sI; rw [ih (fun k hk => h k (by omega)), h n (by omega)]
theorem sI_zero : ∀ n, sI (fun _ => 0) n = 0 := by
  intro n
  induction n with
  | zero => rfl
  | succ n ih => unfold sI; rw [ih]; rfl
theorem sI_cut {f : Nat → Int64} {m : Nat} : ∀ n, m ≤ n → (∀ k, m ≤ k → k < n → f k = 0) → sI f n = sI f m := by
  intro n
  induction n with
  | zero => intro h _; rw [show m = 0 by omega]
  | succ n ih =>
    intro h hp
    by_cases e : m = n + 1
    · rw [e]
    · show sI f n + f n = sI f m
      rw [hp n (by omega) (by omega), ih (by omega) (fun k a b => hp k a (by omega)), Int64.add_zero]
theorem lp_add {body : Int64 × Int32 → Option ((Int64 × Int32) ⊕ (Int64 × Int32))} (f : Nat → Int64) {n1 : Nat} (hn : n1 ≤ 100000) (stop : ∀ s, body (s, nI n1) = some (.inr (s, nI n1))) (step : ∀ k s, k < n1 → body (s, nI k) = some (.inl (s + f k, nI (k + 1)))) (s0 : Int64) :
    lp body FU (s0, 0) = some (s0 + sI f n1, nI n1) := by
  have L := lp_cn2 (body := body) (fun k s => s = s0 + sI f k) (n0 := 0) (n1 := n1) (Nat.zero_le _) hn (fun s _ => stop s) (fun k s _ hk hs => ⟨s + f k, step k s hk, by rw [hs]; show _ = s0 + (sI f k + f k); rw [Int64.add_assoc]⟩) (s0 := s0) (by show s0 = s0 + 0; rw [Int64.add_zero])
  obtain ⟨s1, e, h⟩ := L
  rw [show (0 : Int32) = nI 0 from rfl, e, h]
def chN : Nat → Nat → Nat
  | _, 0 => 1
  | 0, _ + 1 => 0
  | n + 1, k + 1 => chN n k + chN n (k + 1)
theorem tb_choose : ∀ n, n < 17 → ∀ k, k < n + 1 → lp (b_X11_choose_5 (nI n) (nI k)) 20 (1, 1) = some (lN (chN n k), nI (k + 1)) := by decide +kernel
def dl (x y z : Nat) : Int64 := lN (chN (x + y + z) x) * lN (chN (y + z) y)
theorem t_choose {n k : Nat} (hn : n < 17) (hk : k ≤ n) : m_X11_choose (nI n) (nI k) = some (lN (chN n k)) := by
  rw [em_X11_choose, lp_fu 20 (tb_choose n hn k (by omega)) (by omega)]
  rfl
theorem t_ways {x y z : Nat} (h : x + y + z ≤ 16) : m_X11_ways (nI x) (nI y) (nI z) = some (dl x y z) := by
  rw [em_X11_ways, nI_add, nI_add, nI_add, t_choose (by omega) (by omega)]
  simp only [Option.bind_some]
  rw [t_choose (by omega) (by omega)]
  rfl
noncomputable def dlB (x y z : Nat) : Bool := Nat.blt 16 (x + y + z) || decide (m_X9_deals (nI x) (nI y) (nI z) = some (dl x y z))
theorem tb_deals : ∀ x, x < 17 → ∀ y, y < 17 → ∀ z, z < 17 → dlB x y z = true := by decide +kernel
theorem t_deals {x y z : Nat} (h : x + y + z ≤ 16) : m_X9_deals (nI x) (nI y) (nI z) = some (dl x y z) := by
  have h1 := tb_deals x (by omega) y (by omega) z (by omega)
  unfold dlB at h1
  rw [Bool.or_eq_true] at h1
  rcases h1 with h1 | h1
  · have : 16 < x + y + z := Nat.lt_of_succ_le (Nat.le_of_ble_eq_true h1)
    omega
  · exact of_decide_eq_true h1
theorem t_dneg {x y : Nat} {z : Int32} (hx : x ≤ 16) (hy : y ≤ 16) (hz : z < 0) : m_X9_deals (nI x) (nI y) z = some 0 := by
  rw [em_X9_deals, if_neg (nI_pos (by omega)), if_neg (nI_pos (by omega)), if_pos hz]
theorem nI_neg {a b : Nat} (h : a < b) (hb : b ≤ 100000) : nI a - nI b < 0 := by
  rw [Int32.lt_iff_toInt_lt, Int32.toInt_sub, nI_toInt (by omega), nI_toInt (by omega)]
  have : ((a : Int) - (b : Int)).bmod (2 ^ 32) = (a : Int) - (b : Int) := Int.bmod_eq_of_le (by omega) (by omega)
  rw [this]
  show (a : Int) - (b : Int) < 0
  omega
/-- how many of the first n rows that count have these two values -/
def cF (cell : Nat → Nat → Nat) (ps : Nat → Bool) (a b x y : Nat) : Nat → Nat
  | 0 => 0
  | n + 1 => cF cell ps a b x y n + (if (ps n = true ∧ cell n a = x) ∧ cell n b = y then 1 else 0)
/-- which rows count -/
def psF (cell : Nat → Nat → Nat) (p2 v : Int32) (r : Nat) : Bool := decide (p2 = -1 ∨ nI (cell r (u3 p2)) = v)
theorem inc3 (p : Prop) [Decidable p] (B : Nat) : (if p ∧ B = 0 then 1 else 0) + (if p ∧ B = 1 then 1 else 0) + (if p ∧ B = 2 then 1 else 0) ≤ if p then 1 else 0 := by
  by_cases hp : p
  · simp only [hp, true_and, if_true]
    split <;> split <;> split <;> omega
  · simp [hp]
theorem inc3' (q : Prop) [Decidable q] (A : Nat) : (if q ∧ A = 0 then 1 else 0) + (if q ∧ A = 1 then 1 else 0) + (if q ∧ A = 2 then 1 else 0) ≤ 1 := Nat.le_trans (inc3 q A) (by split <;> omega)
theorem cF_le {cell : Nat → Nat → Nat} {ps : Nat → Bool} {a b : Nat} : ∀ n, (cF cell ps a b 0 0 n + cF cell ps a b 0 1 n + cF cell ps a b 0 2 n) + (cF cell ps a b 1 0 n + cF cell ps a b 1 1 n + cF cell ps a b 1 2 n) + (cF cell ps a b 2 0 n + cF cell ps a b 2 1 n + cF cell ps a b 2 2 n) ≤ n := by
  intro n
  induction n with
  | zero => exact Nat.le_refl _
  | succ n ih =>
    unfold cF
    have h0 := inc3 (ps n = true ∧ cell n a = 0) (cell n b)
    have h1 := inc3 (ps n = true ∧ cell n a = 1) (cell n b)
    have h2 := inc3 (ps n = true ∧ cell n a = 2) (cell n b)
    have h3 := inc3' (ps n = true) (cell n a)
    omega
