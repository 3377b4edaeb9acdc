/-! numbers: words of 32 bits, the value of a row of words, loops -/
abbrev BB : Nat := 4294967296
def u3 (x : Int32) : Nat := x.toBitVec.toNat
theorem u3_lt (x : Int32) : u3 x < BB := x.toBitVec.isLt
theorem u3_nI {n : Nat} (h : n < BB) : u3 (nI n) = n := pk_tn h
theorem u3_0 : u3 0 = 0 := rfl
theorem u3_eq0 {x : Int32} : u3 x = 0 ↔ x = 0 := by
  constructor
  · intro h
    apply Int32.toBitVec_inj.mp
    apply BitVec.eq_of_toNat_eq
    exact h
  · intro h
    rw [h]; rfl
theorem nI_u3 (x : Int32) : nI (u3 x) = x := by
  apply Int32.toBitVec_inj.mp
  apply BitVec.eq_of_toNat_eq
  rw [show (nI (u3 x)).toBitVec.toNat = u3 x from pk_tn (u3_lt x)]
  rfl
/-- the value of n words, the lowest first -/
def dv (d : Nat → Nat) : Nat → Nat
  | 0 => 0
  | n + 1 => dv d n + d n * BB ^ n
theorem dv_congr {d e : Nat → Nat} {n : Nat} (h : ∀ k, k < n → d k = e k) : dv d n = dv e n := by
  induction n with
  | zero => rfl
  | succ n ih => rw [dv, dv, ih (fun k hk => h k (Nat.lt_succ_of_lt hk)), h n (Nat.lt_succ_self n)]
theorem dv_lt {d : Nat → Nat} {n : Nat} (h : ∀ k, k < n → d k < BB) : dv d n < BB ^ n := by
  induction n with
  | zero => exact Nat.one_pos
  | succ n ih =>
    have h1 := ih (fun k hk => h k (Nat.lt_succ_of_lt hk))
    have h2 := h n (Nat.lt_succ_self n)
    have h3 : (d n + 1) * BB ^ n ≤ BB * BB ^ n := Nat.mul_le_mul_right _ h2
    rw [dv, Nat.pow_succ, Nat.mul_comm (BB ^ n) BB]
    rw [Nat.add_mul, Nat.one_mul] at h3
    omega
def du (d : Nat → Nat) (p e : Nat) : Nat → Nat := fun k => if k = p then e else d k
theorem dv_du {d : Nat → Nat} {p e n : Nat} (h : p < n) : dv (du d p e) n + d p * BB ^ p = dv d n + e * BB ^ p := by
  induction n with
  | zero => omega
  | succ n ih =>
    by_cases hp : p = n
    · subst hp
      rw [dv, dv, dv_congr (d := du d p e) (e := d) (fun k hk => by simp [du, Nat.ne_of_lt hk])]
      simp only [du, if_true]
      omega
    · have h1 := ih (by omega)
      rw [dv, dv, show du d p e n = d n by simp [du, Ne.symm hp]]
      omega
theorem dv_du_out {d : Nat → Nat} {p e n : Nat} (h : n ≤ p) : dv (du d p e) n = dv d n := dv_congr fun k hk => by simp [du, Nat.ne_of_lt (Nat.lt_of_lt_of_le hk h)]
/-- leading words 0 -/
theorem dv_zeros {d : Nat → Nat} {m n : Nat} (hm : m ≤ n) (h : ∀ k, m ≤ k → k < n → d k = 0) : dv d n = dv d m := by
  induction n with
  | zero => rw [Nat.le_zero.mp hm]
  | succ n ih =>
    by_cases hn : m = n + 1
    · rw [hn]
    · rw [dv, h n (by omega) (Nat.lt_succ_self n), Nat.zero_mul, Nat.add_zero, ih (by omega) (fun k h1 h2 => h k h1 (by omega))]
theorem dv_pos {d : Nat → Nat} {n : Nat} (h0 : 0 < n) (h : d (n - 1) ≠ 0) : BB ^ (n - 1) ≤ dv d n := by
  obtain ⟨m, rfl⟩ : ∃ m, n = m + 1 := ⟨n - 1, by omega⟩
  rw [dv]
  have : 1 * BB ^ m ≤ d m * BB ^ m := Nat.mul_le_mul_right _ (Nat.one_le_iff_ne_zero.mpr h)
  simp only [Nat.add_sub_cancel] at *
  omega
/-- a row of words without a leading 0 is told by its value -/
theorem dv_len {d e : Nat → Nat} {m n : Nat} (hd : ∀ k, k < m → d k < BB) (he : ∀ k, k < n → e k < BB) (h1 : 0 < m → d (m - 1) ≠ 0) (h2 : 0 < n → e (n - 1) ≠ 0) (h : dv d m = dv e n) : m = n := by
  have key : ∀ {d e : Nat → Nat} {m n : Nat}, (∀ k, k < m → d k < BB) → (0 < n → e (n - 1) ≠ 0) → dv d m = dv e n → ¬ m < n := by
    intro d e m n hd h2 h hlt
    have a := dv_lt hd
    have b := dv_pos (d := e) (n := n) (by omega) (h2 (by omega))
    have c : BB ^ m ≤ BB ^ (n - 1) := Nat.pow_le_pow_right (by decide) (by omega)
    omega
  have a := key hd h2 h
  have b := key he h1 h.symm
  omega
theorem dv_inj {d e : Nat → Nat} {n : Nat} (hd : ∀ k, k < n → d k < BB) (he : ∀ k, k < n → e k < BB) (h : dv d n = dv e n) : ∀ k, k < n → d k = e k := by
  induction n with
  | zero => intro k hk; omega
  | succ n ih =>
    have a := dv_lt (d := d) (n := n) (fun k hk => hd k (by omega))
    have b := dv_lt (d := e) (n := n) (fun k hk => he k (by omega))
    rw [dv, dv] at h
    have hn : d n = e n := by
      rcases Nat.lt_trichotomy (d n) (e n) with q | q | q
      · have : (d n + 1) * BB ^ n ≤ e n * BB ^ n := Nat.mul_le_mul_right _ q
        rw [Nat.add_mul, Nat.one_mul] at this
        omega
      · exact q
      · have : (e n + 1) * BB ^ n ≤ d n * BB ^ n := Nat.mul_le_mul_right _ q
        rw [Nat.add_mul, Nat.one_mul] at this
        omega
    intro k hk
    by_cases hkn : k = n
    · rw [hkn]; exact hn
    · exact ih (fun k hk => hd k (by omega)) (fun k hk => he k (by omega)) (by rw [hn] at h; omega) k (by omega)
/-- a loop ends: an invariant and a measure -/
theorem lp_inv {α β : Type} {body : α → Option (α ⊕ β)} (I : α → Prop) (Q : β → Prop) (μ : α → Nat)
    (step : ∀ a, I a → (∃ a', body a = some (.inl a') ∧ I a' ∧ μ a' < μ a) ∨ ∃ b, body a = some (.inr b) ∧ Q b) :
    ∀ (n : Nat) (a : α), I a → μ a < n → ∃ b, lp body n a = some b ∧ Q b := by
  intro n
  induction n with
  | zero => intro a _ h; omega
  | succ n ih =>
    intro a ha hm
    rcases step a ha with ⟨a', e, h1, h2⟩ | ⟨b, e, h1⟩
    · obtain ⟨b, e2, hq⟩ := ih a' h1 (by omega)
      exact ⟨b, by rw [lp, e]; exact e2, hq⟩
    · exact ⟨b, by rw [lp, e]; rfl, h1⟩
/-- an invariant alone: what holds of a loop's answer, if it has one -/
theorem lp_post {α β : Type} {body : α → Option (α ⊕ β)} (I : α → Prop) (Q : β → Prop)
    (step : ∀ a, I a → (∀ a', body a = some (.inl a') → I a') ∧ ∀ b, body a = some (.inr b) → Q b) :
    ∀ (n : Nat) (a : α) (b : β), I a → lp body n a = some b → Q b := by
  intro n
  induction n with
  | zero => intro a b _ h; cases h
  | succ n ih =>
    intro a b ha h
    rw [lp] at h
    obtain ⟨h1, h2⟩ := step a ha
    match e : body a with
    | none => rw [e] at h; cases h
    | some (.inl a') => rw [e] at h; exact ih a' b (h1 a' e) h
    | some (.inr b') => rw [e] at h; cases h; exact h2 _ e
theorem lN_mask (x : Int32) : x.toInt64 &&& 4294967295 = lN (u3 x) := by
  apply Int64.toBitVec_inj.mp
  apply BitVec.eq_of_toNat_eq
  show (x.toInt64.toBitVec &&& (4294967295 : Int64).toBitVec).toNat = (Int64.ofNat (u3 x)).toBitVec.toNat
  rw [BitVec.toNat_and, show ((4294967295 : Int64).toBitVec).toNat = 2 ^ 32 - 1 from rfl, Nat.and_two_pow_sub_one_eq_mod]
  show (x.toBitVec.signExtend 64).toNat % 2 ^ 32 = (BitVec.ofNat 64 (u3 x)).toNat
  have h := u3_lt x
  rw [BitVec.toNat_signExtend, BitVec.toNat_ofNat, Nat.mod_eq_of_lt (show u3 x < 2 ^ 64 by unfold BB at h; omega)]
  have e : (BitVec.setWidth 64 x.toBitVec).toNat = u3 x := by
    rw [BitVec.toNat_setWidth]
    exact Nat.mod_eq_of_lt (by show u3 x < _; unfold BB at h; omega)
  rw [e]
  split <;> unfold BB at h <;> omega
theorem u3_l2i (v : Nat) : u3 (lN v).toInt32 = v % BB := by
  rw [lN_i]
  show (BitVec.ofNat 32 v).toNat = v % BB
  rw [BitVec.toNat_ofNat]
theorem lN_shr32 {v : Nat} (h : v < 2 ^ 64) : ((lN v).toUInt64 >>> ((32 : Int32).toInt64.toUInt64 &&& Int64.toUInt64 63)).toInt64 = lN (v / BB) := by
  apply Int64.toBitVec_inj.mp
  apply BitVec.eq_of_toNat_eq
  show ((BitVec.ofNat 64 v) >>> ((32 : BitVec 64) % 64)).toNat = (BitVec.ofNat 64 (v / BB)).toNat
  show ((BitVec.ofNat 64 v) >>> (32 : Nat)).toNat = (BitVec.ofNat 64 (v / BB)).toNat
  rw [BitVec.toNat_ushiftRight, BitVec.toNat_ofNat, BitVec.toNat_ofNat, Nat.mod_eq_of_lt h, Nat.shiftRight_eq_div_pow]
  have : v / BB < 2 ^ 64 := Nat.lt_of_le_of_lt (Nat.div_le_self _ _) h
  rw [Nat.mod_eq_of_lt this]
