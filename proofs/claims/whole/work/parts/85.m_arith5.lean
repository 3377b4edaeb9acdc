/-! halve, twice, isEven -/
theorem u3_or {x y : Int32} {i m : Nat} (hx : u3 x < 2 ^ i) (hy : u3 y = 2 ^ i * m) : u3 (x ||| y) = u3 x + u3 y := by
  show (x.toBitVec ||| y.toBitVec).toNat = _
  rw [BitVec.toNat_or]
  show u3 x ||| u3 y = u3 x + u3 y
  rw [hy, Nat.or_comm, ← Nat.two_pow_add_eq_or_of_lt hx, Nat.add_comm]
theorem u3_shr1 (x : Int32) : u3 (x.toUInt32 >>> ((1 : Int32).toUInt32 &&& Int32.toUInt32 31)).toInt32 = u3 x / 2 := pk_ushr x 1 1 (by decide)
theorem u3_shr31 (x : Int32) : u3 (x.toUInt32 >>> ((31 : Int32).toUInt32 &&& Int32.toUInt32 31)).toInt32 = u3 x / 2147483648 := pk_ushr x 31 31 (by decide)
theorem u3_shl31 (x : Int32) : u3 (x <<< ((31 : Int32) &&& 31)) = u3 x * 2147483648 % 4294967296 := pk_shl x (31 &&& 31) 31 (by decide)
theorem u3_shl1 (x : Int32) : u3 (x <<< ((1 : Int32) &&& 31)) = u3 x * 2 % 4294967296 := pk_shl x (1 &&& 31) 1 (by decide)
theorem and1_0 (x : Int32) : (x &&& 1 = 0) ↔ u3 x % 2 = 0 := by
  rw [pk_and x 1 (by decide), show x.toBitVec.toNat = u3 x from rfl]
  have := neq (a := u3 x % 2 ^ 1) (b := 0) (by omega) (by omega)
  exact this
/-- half of a row of words -/
def hf (e : Nat → Nat) : Nat → Nat := fun j => e j / 2 + e (j + 1) % 2 * 2147483648
theorem dv_hf (e : Nat → Nat) (n : Nat) : 2 * dv (hf e) n + e 0 % 2 = dv e n + e n % 2 * BB ^ n := by
  induction n with
  | zero => simp [dv]
  | succ n ih =>
    rw [dv, dv]
    have h1 : 2 * (hf e n * BB ^ n) = 2 * (e n / 2) * BB ^ n + e (n + 1) % 2 * BB ^ (n + 1) := by
      unfold hf
      rw [Nat.add_mul, Nat.mul_add, Nat.pow_succ, ← Nat.mul_assoc, ← Nat.mul_assoc]
      congr 1
      rw [Nat.mul_comm 2, Nat.mul_assoc (e (n + 1) % 2), Nat.mul_assoc (e (n + 1) % 2 )]
      simp only [BB]
      rw [Nat.mul_assoc]
      congr 1
      omega
    have h2 : e n * BB ^ n = 2 * (e n / 2) * BB ^ n + e n % 2 * BB ^ n := by
      rw [← Nat.add_mul]
      congr 1
      omega
    omega
theorem dv_mod2 {d : Nat → Nat} {n : Nat} (h : 0 < n) : dv d n % 2 = d 0 % 2 := by
  induction n with
  | zero => omega
  | succ n ih =>
    rw [dv]
    by_cases h0 : n = 0
    · subst h0
      rw [Nat.pow_zero, Nat.mul_one, dv, Nat.zero_add]
    · have := ih (by omega)
      obtain ⟨m, rfl⟩ : ∃ m, n = m + 1 := ⟨n - 1, by omega⟩
      have h2 : d (m + 1) * BB ^ (m + 1) = 2 * (d (m + 1) * (BB ^ m * 2147483648)) := by
        rw [Nat.pow_succ]
        simp only [BB]
        rw [show (4294967296 : Nat) = 2147483648 * 2 from rfl, ← Nat.mul_assoc, ← Nat.mul_assoc, Nat.mul_comm _ 2]
        simp only [Nat.mul_assoc]
      omega
section HV
variable {nx : Nat} {fx : Nat → Int32} {a : Nat}
theorem t_halve {X : Nat} (hX : MR fx a X) (ha : a < nx) (hx : nx ≤ 100000) :
    ∃ f' c, m_X11_halve nx fx = some f' ∧ c ≤ a ∧ MR f' c (X / 2) ∧ ∀ k, a < k → f' k = fx k := by
  obtain ⟨hx0, hxv, hxt⟩ := hX
  have L := lp_inv (body := b_X11_halve_2 nx) (fun s => ∃ k, s.1 = nI k ∧ 1 ≤ k ∧ k ≤ a + 1 ∧ (∀ j, j < k - 1 → md s.2 j = hf (ext (md fx) a) j) ∧ s.2 0 = nI a ∧ ∀ j, k ≤ j → s.2 j = fx j)
    (fun s => dv (md s.2) a = X / 2 ∧ s.2 0 = nI a ∧ ∀ j, a < j → s.2 j = fx j) (fun s => a + 1 - u3 s.1) ?_ FU (1, fx) ⟨1, rfl, Nat.le_refl 1, by omega, fun j h => by omega, hx0, fun j _ => rfl⟩ (Nat.lt_of_le_of_lt (Nat.sub_le _ _) (FU_big (by omega)))
  · obtain ⟨q, e, hv, hq0, hqr⟩ := L
    obtain ⟨f', c', e', hc', hM, hr⟩ := t_trim (nx := nx) (fx := q.2) (n := a) ha hx
    refine ⟨f', c', ?_, hc', by rw [hv] at hM; exact hM, fun k hk => (hr k (by omega)).trans (hqr k hk)⟩
    unfold m_X11_halve
    rw [e]
    show (if ix 0 nx = true then _ else none) = _
    rw [if_pos (ix_0 (by omega) hx), c0, hq0, e']
    rfl
  · rintro ⟨kw, g⟩ ⟨k, e1, hk1, hk2, hv, hg0, hgr⟩
    dsimp only at e1 hv hg0 hgr
    subst e1
    rw [eb_X11_halve_2, if_pos (ix_0 (by omega) hx), c0, hg0]
    by_cases hka : a < k
    · right
      rw [if_pos ((nlt (by omega) (by omega)).mpr hka)]
      have hk : k = a + 1 := by omega
      subst hk
      refine ⟨_, rfl, ?_, hg0, fun j hj => hgr j (by omega)⟩
      show dv (md g) a = X / 2
      rw [dv_congr (e := hf (ext (md fx) a)) (fun j hj => hv j (by omega))]
      have h1 := dv_hf (ext (md fx) a) a
      rw [dv_ext (Nat.le_refl a), hxv] at h1
      have h2 : ext (md fx) a a = 0 := by unfold ext; rw [if_neg (by omega)]
      rw [h2] at h1
      rcases Nat.eq_zero_or_pos a with h0 | h0
      · subst h0
        have : X = 0 := by rw [← hxv]; rfl
        subst this
        rfl
      · have h3 := dv_mod2 (d := ext (md fx) a) (n := a) h0
        rw [dv_ext (Nat.le_refl a), hxv] at h3
        omega
    · left
      rw [if_neg (fun h => hka ((nlt (by omega) (by omega)).mp h)), if_pos (ixn (by omega) hx), if_pos (ix_0 (by omega) hx), cl (by omega), hgr k (Nat.le_refl k), nI_1]
      have hp : k - 1 + 1 = k := by omega
      have hkx : ext (md fx) a (k - 1) = u3 (fx k) := by unfold ext md; rw [if_pos (by omega), hp]
      have ez : ∃ z : Int32, (if nI a ≤ nI k then some (0 : Int32) else if ix (nI (k + 1)) nx = true then some (g (nI (k + 1)).toNatClampNeg <<< ((31 : Int32) &&& 31)) else none) = some z ∧ u3 z = 2 ^ 31 * (ext (md fx) a k % 2) := by
        by_cases h : a ≤ k
        · refine ⟨0, by rw [if_pos ((nle (by omega) (by omega)).mpr h)], ?_⟩
          unfold ext
          rw [if_neg (by omega)]; rfl
        · refine ⟨fx (k + 1) <<< ((31 : Int32) &&& 31), ?_, ?_⟩
          · rw [if_neg (fun q => h ((nle (by omega) (by omega)).mp q)), if_pos (ixn (by omega) hx), cl (by omega), hgr (k + 1) (by omega)]
          · rw [u3_shl31]
            unfold ext md
            rw [if_pos (by omega)]
            omega
      obtain ⟨z, ez1, ez2⟩ := ez
      rw [ez1]
      simp only [Option.bind_some, lt]
      rw [if_pos (ixn (by omega) hx)]
      refine ⟨(nI (k + 1), upd g k (((fx k).toUInt32 >>> ((1 : Int32).toUInt32 &&& Int32.toUInt32 31)).toInt32 ||| z)), rfl, ⟨k + 1, rfl, by omega, by omega, fun j hj => ?_, (pk_un (by omega)).trans hg0, fun j hj => (pk_un (by omega)).trans (hgr j (by omega))⟩, ?_⟩
      · by_cases hjk : j = k - 1
        · subst hjk
          show u3 (upd g k _ (k - 1 + 1)) = _
          rw [hp, pk_us]
          unfold hf
          rw [hp, hkx, u3_or (i := 31) (by rw [u3_shr1]; have := u3_lt (fx k); simp only [BB] at this; omega) ez2, u3_shr1, ez2]
          omega
        · show u3 (upd g k _ (j + 1)) = _
          rw [pk_un (by omega)]
          exact hv j (by omega)
      · show a + 1 - u3 (nI (k + 1)) < a + 1 - u3 (nI k)
        rw [u3n (by omega), u3n (by omega)]; omega
theorem t_isEven {X : Nat} (hX : MR fx a X) (h0 : 0 < a) (ha : a < nx) (hx : nx ≤ 100000) : m_X11_isEven nx fx = some (if X % 2 = 0 then 1 else 0) := by
  obtain ⟨hx0, hxv, hxt⟩ := hX
  unfold m_X11_isEven
  rw [if_pos (ix_1 (by omega) hx), c1]
  have h : (fx 1 &&& 1 = 0) ↔ X % 2 = 0 := by
    rw [and1_0, ← hxv, dv_mod2 h0]; rfl
  by_cases hp : X % 2 = 0
  · rw [if_pos (h.mpr hp), if_pos hp]; rfl
  · rw [if_neg (fun q => hp (h.mp q)), if_neg hp]; rfl
theorem t_twice {X bit : Nat} (hX : MR fx a X) (hbit : bit ≤ 1) (ha : a + 1 < nx) (hx : nx ≤ 100000) :
    ∃ f' c, m_X11_twice nx fx (nI bit) = some f' ∧ c ≤ a + 1 ∧ MR f' c (2 * X + bit) ∧ ∀ k, a + 1 < k → f' k = fx k := by
  obtain ⟨hx0, hxv, hxt⟩ := hX
  have L := lp_inv (body := b_X11_twice_4 nx) (fun s => ∃ k w, s.1 = nI w ∧ s.2.1 = nI k ∧ 1 ≤ k ∧ k ≤ a + 1 ∧ w ≤ 1 ∧ dv (md s.2.2) (k - 1) + w * BB ^ (k - 1) = 2 * dv (md fx) (k - 1) + bit ∧ s.2.2 0 = nI a ∧ ∀ j, k ≤ j → s.2.2 j = fx j)
    (fun s => ∃ w, s.1 = nI w ∧ w ≤ 1 ∧ dv (md s.2.2) a + w * BB ^ a = 2 * X + bit ∧ s.2.2 0 = nI a ∧ ∀ j, a < j → s.2.2 j = fx j) (fun s => a + 1 - u3 s.2.1) ?_ FU (nI bit, 1, fx) ⟨1, bit, rfl, rfl, Nat.le_refl 1, by omega, hbit, by simp [dv], hx0, fun j _ => rfl⟩ (Nat.lt_of_le_of_lt (Nat.sub_le _ _) (FU_big (by omega)))
  · obtain ⟨q, e, w, hw1, hw, hv, hq0, hqr⟩ := L
    obtain ⟨f', c', e', hc', hM, hr⟩ := t_trim (nx := nx) (fx := upd q.2.2 (a + 1) (nI w)) (n := a + 1) ha hx
    refine ⟨f', c', ?_, hc', ?_, fun k hk => (hr k (by omega)).trans ((pk_un (by omega)).trans (hqr k (by omega)))⟩
    · unfold m_X11_twice
      rw [e]
      show (if ix 0 nx = true then _ else none) = _
      rw [if_pos (ix_0 (by omega) hx), c0, hq0, nI_1, if_pos (ixn ha hx), cl (by omega), hw1]
      show (if ix 0 nx = true then _ else none) = _
      rw [if_pos (ix_0 (by omega) hx), pk_un (by omega), hq0, nI_1, e']
      rfl
    · rw [md_upd_last, u3n (by omega), hv] at hM
      exact hM
  · rintro ⟨ww, kw, g⟩ ⟨k, w, e1, e2, hk1, hk2, hw, hv, hg0, hgr⟩
    dsimp only at e1 e2 hv hg0 hgr
    subst e1
    subst e2
    rw [eb_X11_twice_4, if_pos (ix_0 (by omega) hx), c0, hg0]
    by_cases hka : a < k
    · right
      rw [if_pos ((nlt (by omega) (by omega)).mpr hka)]
      have hk : k = a + 1 := by omega
      subst hk
      refine ⟨_, rfl, w, rfl, hw, ?_, hg0, fun j hj => hgr j (by omega)⟩
      rw [show a + 1 - 1 = a by omega, hxv] at hv
      exact hv
    · left
      rw [if_neg (fun h => hka ((nlt (by omega) (by omega)).mp h)), if_pos (ixn (by omega) hx), cl (by omega), hgr k (Nat.le_refl k)]
      simp only [lt]
      rw [if_pos (ixn (by omega) hx), if_pos (ixn (by omega) hx), nI_1]
      have hfx := u3_lt (fx k)
      simp only [BB] at hfx
      have eo : (((fx k).toUInt32 >>> ((31 : Int32).toUInt32 &&& Int32.toUInt32 31)).toInt32) = nI (u3 (fx k) / 2147483648) := by
        rw [← u3_shr31, nI_u3]
      rw [eo]
      refine ⟨_, rfl, ⟨k + 1, u3 (fx k) / 2147483648, rfl, rfl, by omega, by omega, by omega, ?_, (pk_un (by omega)).trans hg0, fun j hj => (pk_un (by omega)).trans (hgr j (by omega))⟩, ?_⟩
      · show dv (md (upd g k ((fx k <<< ((1 : Int32) &&& 31)) ||| nI w))) (k + 1 - 1) + _ = _
        have hd : u3 ((fx k <<< ((1 : Int32) &&& 31)) ||| nI w) = u3 (fx k) * 2 % 4294967296 + w := by
          have e1 : (fx k <<< ((1 : Int32) &&& 31)) ||| nI w = nI w ||| (fx k <<< ((1 : Int32) &&& 31)) := Int32.or_comm ..
          rw [e1, u3_or (i := 1) (m := u3 (fx k) % 2147483648) (by rw [u3n (by omega)]; omega) (by rw [u3_shl1]; omega), u3n (by omega), u3_shl1, Nat.add_comm]
        obtain ⟨p, rfl⟩ : ∃ p, k = p + 1 := ⟨k - 1, by omega⟩
        simp only [Nat.add_sub_cancel] at *
        rw [md_upd_last, hd, dv, Nat.pow_succ]
        have e2 : (u3 (fx (p + 1)) * 2 % 4294967296 + w) * BB ^ p + u3 (fx (p + 1)) / 2147483648 * (BB ^ p * BB) = 2 * (md fx p * BB ^ p) + w * BB ^ p := by
          rw [Nat.mul_comm (BB ^ p) BB, ← Nat.mul_assoc, ← Nat.mul_assoc, ← Nat.add_mul, ← Nat.add_mul]
          congr 1
          show _ = 2 * u3 (fx (p + 1)) + w
          simp only [BB]
          omega
        omega
      · show a + 1 - u3 (nI (k + 1)) < a + 1 - u3 (nI k)
        rw [u3n (by omega), u3n (by omega)]; omega
end HV
