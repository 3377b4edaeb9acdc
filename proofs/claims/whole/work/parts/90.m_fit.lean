/-! the factors of a FIT, as numbers; agree and work of the reference -/
def agr (cell : Nat → Nat → Nat) (se r k : Nat) : Nat → Bool
  | 0 => true
  | n + 1 => agr cell se r k n && (se / 2 ^ n % 2 == 0 || cell r n == cell k n)
def byF (vals : Nat → Nat) (se nm : Nat) : Nat → Nat
  | 0 => vals nm
  | n + 1 => byF vals se nm n * (if se / 2 ^ n % 2 = 1 then vals n else 1)
/-- how many rows before row r, among the first k, agree with it on the set; and have the name's value too -/
def waysF (cell : Nat → Nat → Nat) (N se r : Nat) : Nat → Nat
  | 0 => 0
  | k + 1 => waysF cell N se r k + (if agr cell se r k N = true then 1 else 0)
def likeF (cell : Nat → Nat → Nat) (N se nm r : Nat) : Nat → Nat
  | 0 => 0
  | k + 1 => likeF cell N se nm r k + (if agr cell se r k N = true ∧ cell r nm = cell k nm then 1 else 0)
def facT (cell : Nat → Nat → Nat) (vals : Nat → Nat) (N w se nm r : Nat) : Nat := w + likeF cell N se nm r r * byF vals se nm N
def facL (cell : Nat → Nat → Nat) (vals : Nat → Nat) (N w se nm r : Nat) : Nat := vals nm * w + waysF cell N se r r * byF vals se nm N
def prF (f : Nat → Nat) : Nat → Nat
  | 0 => 1
  | r + 1 => prF f r * f r
/-- the rows and names of the reference hold these numbers -/
def MS (N R w : Nat) (vals : Nat → Nat) (cell : Nat → Nat → Nat) (fvalues fcells : Nat → Int32) : Prop :=
  N ≤ 5 ∧ R ≤ 16 ∧ 1 ≤ w ∧ w ≤ 9 ∧ (∀ p, p < N → fvalues p = nI (vals p) ∧ 2 ≤ vals p ∧ vals p ≤ 3) ∧ ∀ r p, r < R → p < N → fcells (5 * r + p) = nI (cell r p) ∧ cell r p < 3
theorem five (r p : Nat) : (5 : Int32) * nI r + nI p = nI (5 * r + p) := by
  rw [show (5 : Int32) = nI 5 from rfl, pk_mul, nI_add]
theorem bitI {se p : Nat} (hs : se < 32) (hp : p < 32) : (nI se >>> (nI p &&& 31)) &&& 1 = nI (se / 2 ^ p % 2) := by
  rw [pk_shrN (by omega) (nI p &&& 31) p (s_ll p hp)]
  have h : se / 2 ^ p < 2 ^ 32 := Nat.lt_of_le_of_lt (Nat.div_le_self _ _) (by omega)
  exact pk_andN h 1 (by decide)
section FT
variable {N R w : Nat} {vals : Nat → Nat} {cell : Nat → Nat → Nat} {fvalues fcells : Nat → Int32} {i2 i3 i4 i5 i6 : Int32} {se : Nat}
theorem t_agree (h : MS N R w vals cell fvalues fcells) (hse : se < 32) {r k : Nat} (hr : r < R) (hk : k < R) :
    m_X11_agree (nI N) i2 i3 i4 i5 i6 fcells (nI r) (nI k) (nI se) = some (if agr cell se r k N = true then 1 else 0) := by
  obtain ⟨hN, hR, -, -, -, hcell⟩ := h
  have L := lp_inv (body := b_X11_agree_6 (nI N) fcells (nI r) (nI k) (nI se)) (fun s => ∃ p, s.2 = nI p ∧ p ≤ N ∧ s.1 = if agr cell se r k p = true then 1 else 0) (fun s => s.1 = if agr cell se r k N = true then 1 else 0) (fun s => N - u3 s.2) ?_ FU (1, 0) ⟨0, rfl, Nat.zero_le N, rfl⟩ (Nat.lt_of_le_of_lt (Nat.sub_le _ _) (FU_big (by omega)))
  · obtain ⟨q, e, hq⟩ := L
    unfold m_X11_agree
    rw [e]
    simp only [Option.bind_some]
    rw [hq]
    by_cases ha : agr cell se r k N = true
    · rw [if_pos ha]; rfl
    · rw [if_neg ha]; rfl
  · rintro ⟨sm, pw⟩ ⟨p, e1, hp, e2⟩
    dsimp only at e1 e2
    subst e1
    rw [eb_X11_agree_6]
    by_cases hpN : N ≤ p
    · right
      rw [if_pos ((nle (by omega) (by omega)).mpr hpN)]
      have : p = N := by omega
      subst this
      exact ⟨_, rfl, e2⟩
    · left
      rw [if_neg (fun h => hpN ((nle (by omega) (by omega)).mp h)), five, five, if_pos (ixn (by omega) (by omega)), if_pos (ixn (by omega) (by omega)), cl (by omega), cl (by omega), (hcell r p hr (by omega)).1, (hcell k p hk (by omega)).1, bitI hse (by omega)]
      have hb2 : se / 2 ^ p % 2 < 2 := Nat.mod_lt _ (by decide)
      have hb : nI (se / 2 ^ p % 2) = 0 ↔ se / 2 ^ p % 2 = 0 := neq (b := 0) (by omega) (by omega)
      have hc : nI (cell r p) = nI (cell k p) ↔ cell r p = cell k p := neq (by have := (hcell r p hr (by omega)).2; omega) (by have := (hcell k p hk (by omega)).2; omega)
      refine ⟨(if agr cell se r k (p + 1) = true then 1 else 0, nI (p + 1)), ?_, ⟨p + 1, rfl, by omega, rfl⟩, ?_⟩
      · rw [e2, ← nI_1]
        by_cases ha : agr cell se r k p = true
        · rw [if_pos ha, if_neg (by decide)]
          by_cases h1 : se / 2 ^ p % 2 = 0
          · rw [if_pos (hb.mpr h1), if_pos (by simp [agr, ha, h1])]; rfl
          · rw [if_neg (fun q => h1 (hb.mp q))]
            by_cases h2 : cell r p = cell k p
            · rw [if_pos (hc.mpr h2), if_pos (by simp [agr, ha, h2])]; rfl
            · rw [if_neg (fun q => h2 (hc.mp q)), if_neg (by simp [agr, h1, h2])]; rfl
        · rw [if_neg ha, if_pos rfl, if_neg (by simp [agr, ha])]; rfl
      · show N - u3 (nI (p + 1)) < N - u3 (nI p)
        rw [u3n (by omega), u3n (by omega)]; omega
theorem byF_le (h : ∀ p, p < N → 2 ≤ vals p ∧ vals p ≤ 3) {nm : Nat} (hnm : nm < N) : ∀ n, n ≤ N → 1 ≤ byF vals se nm n ∧ byF vals se nm n ≤ 3 ^ (n + 1) := by
  intro n
  induction n with
  | zero => intro _; have := h nm hnm; exact ⟨by show 1 ≤ vals nm; omega, by show vals nm ≤ 3; omega⟩
  | succ n ih =>
    intro hn
    obtain ⟨a, b⟩ := ih (by omega)
    have hv := h n (by omega)
    unfold byF
    rw [Nat.pow_succ 3 (n + 1)]
    split
    · exact ⟨Nat.le_trans a (Nat.le_mul_of_pos_right _ (by omega)), Nat.mul_le_mul b (by omega)⟩
    · rw [Nat.mul_one]; exact ⟨a, Nat.le_trans b (Nat.le_mul_of_pos_right _ (by omega))⟩
theorem cnt_le {r : Nat} {nm : Nat} : ∀ k, waysF cell N se r k ≤ k ∧ likeF cell N se nm r k ≤ k := by
  intro k
  induction k with
  | zero => exact ⟨Nat.le_refl 0, Nat.le_refl 0⟩
  | succ k ih =>
    unfold waysF likeF
    constructor
    · split <;> omega
    · split <;> omega
theorem fac_ok (h : MS N R w vals cell fvalues fcells) {nm r : Nat} (hnm : nm < N) (hr : r < R) : 1 ≤ facT cell vals N w se nm r ∧ facT cell vals N w se nm r ≤ 11000 ∧ 1 ≤ facL cell vals N w se nm r ∧ facL cell vals N w se nm r ≤ 11000 := by
  obtain ⟨hN, hR, hw1, hw2, hv, -⟩ := h
  have hv2 : ∀ p, p < N → 2 ≤ vals p ∧ vals p ≤ 3 := fun p hp => (hv p hp).2
  obtain ⟨b1, b2⟩ := byF_le (se := se) hv2 hnm N (Nat.le_refl N)
  have b3 : byF vals se nm N ≤ 729 := Nat.le_trans b2 (Nat.le_trans (Nat.pow_le_pow_right (by decide) (show N + 1 ≤ 6 by omega)) (by decide))
  obtain ⟨c1, c2⟩ := cnt_le (cell := cell) (N := N) (se := se) (r := r) (nm := nm) r
  have d1 : likeF cell N se nm r r * byF vals se nm N ≤ 15 * 729 := Nat.mul_le_mul (by omega) b3
  have d2 : waysF cell N se r r * byF vals se nm N ≤ 15 * 729 := Nat.mul_le_mul (by omega) b3
  have d3 : vals nm * w ≤ 3 * 9 := Nat.mul_le_mul (hv2 nm hnm).2 hw2
  have d4 : 1 * 1 ≤ vals nm * w := Nat.mul_le_mul (by have := (hv2 nm hnm).1; omega) hw1
  unfold facT facL
  omega
end FT
