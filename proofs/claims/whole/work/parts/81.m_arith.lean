/-! the reference's arithmetic: rows of words with their number at place 0 -/
def md (f : Nat → Int32) (k : Nat) : Nat := u3 (f (k + 1))
theorem md_lt (f : Nat → Int32) (k : Nat) : md f k < BB := u3_lt _
/-- f holds the number v in n words -/
def MR (f : Nat → Int32) (n v : Nat) : Prop := f 0 = nI n ∧ dv (md f) n = v ∧ (0 < n → md f (n - 1) ≠ 0)
theorem c0 : (0 : Int32).toNatClampNeg = 0 := rfl
theorem c1 : (1 : Int32).toNatClampNeg = 1 := rfl
theorem ix_0 {n : Nat} (h : 0 < n) (hn : n ≤ 100000) : ix 0 n = true := ix_nI (j := 0) h (by omega)
theorem ix_1 {n : Nat} (h : 1 < n) (hn : n ≤ 100000) : ix 1 n = true := ix_nI (j := 1) h (by omega)
theorem ixn {j n : Nat} (h : j < n) (hn : n ≤ 100000) : ix (nI j) n = true := ix_nI h (by omega)
theorem cl {j : Nat} (h : j ≤ 100000) : (nI j).toNatClampNeg = j := nI_clamp (by omega)
theorem nle0 {k : Nat} (h : k ≤ 100000) : nI k ≤ 0 ↔ k = 0 := by
  constructor
  · intro hk
    rcases Nat.eq_zero_or_pos k with h0 | h0
    · exact h0
    · exact absurd hk (nI_nle h0 (by omega))
  · rintro rfl; exact Int32.le_refl 0
theorem nlt {a b : Nat} (ha : a ≤ 100000) (hb : b ≤ 100000) : nI a < nI b ↔ a < b := nI_ltI (by omega) (by omega)
theorem nle {a b : Nat} (ha : a ≤ 100000) (hb : b ≤ 100000) : nI a ≤ nI b ↔ a ≤ b := nI_leI (by omega) (by omega)
theorem neq {a b : Nat} (ha : a ≤ 100000) (hb : b ≤ 100000) : nI a = nI b ↔ a = b := nI_eq (by omega) (by omega)
theorem nm1 {k : Nat} (h : 0 < k) : nI k + (-1) = nI (k - 1) := by
  obtain ⟨m, rfl⟩ : ∃ m, k = m + 1 := ⟨k - 1, by omega⟩
  rw [pk_m1]; rfl
theorem u3n {k : Nat} (h : k ≤ 100000) : u3 (nI k) = k := u3_nI (by simp only [BB]; omega)
theorem md_upd {f : Nat → Int32} {p : Nat} {x : Int32} : md (upd f (p + 1) x) = du (md f) p (u3 x) := by
  funext k
  unfold md du
  by_cases h : k = p
  · subst h; rw [if_pos rfl, pk_us]
  · rw [if_neg h, pk_un (by omega)]
theorem md_upd0 {f : Nat → Int32} {x : Int32} : md (upd f 0 x) = md f := by
  funext k
  unfold md
  rw [pk_un (by omega)]
theorem FU_big {k : Nat} (h : k ≤ 200000) : k < FU := by rw [FU_eq]; omega
/-- trim: leading words 0 go -/
theorem t_trim {nx : Nat} {fx : Nat → Int32} {n : Nat} (hn : n < nx) (hx : nx ≤ 100000) : ∃ f' c, m_X11_trim nx fx (nI n) = some f' ∧ c ≤ n ∧ MR f' c (dv (md fx) n) ∧ ∀ k, 0 < k → f' k = fx k := by
  have L := lp_inv (body := b_X11_trim_2 nx fx) (fun i => ∃ k, i = nI k ∧ k ≤ n ∧ dv (md fx) k = dv (md fx) n) (fun i => ∃ k, i = nI k ∧ k ≤ n ∧ dv (md fx) k = dv (md fx) n ∧ (0 < k → md fx (k - 1) ≠ 0)) u3 ?_ FU (nI n) ⟨n, rfl, Nat.le_refl n, rfl⟩ (by rw [u3n (by omega)]; exact FU_big (by omega))
  · obtain ⟨q, e, k, rfl, hk, hv, h0⟩ := L
    refine ⟨upd fx 0 (nI k), k, ?_, hk, ⟨pk_us, by rw [md_upd0]; exact hv, by rw [md_upd0]; exact h0⟩, fun j hj => pk_un (by omega)⟩
    unfold m_X11_trim
    rw [e]
    show (if ix 0 nx = true then _ else none) = _
    rw [if_pos (ix_0 (by omega) hx)]
    rfl
  · rintro i ⟨k, rfl, hk, hv⟩
    rw [eb_X11_trim_2]
    by_cases h0 : k = 0
    · right
      exact ⟨_, by rw [if_pos ((nle0 (by omega)).mpr h0)], k, rfl, hk, hv, fun h => by omega⟩
    · rw [if_neg (fun h => h0 ((nle0 (by omega)).mp h)), if_pos (ixn (by omega) hx), cl (by omega)]
      by_cases hz : fx k = 0
      · left
        rw [if_pos hz]
        refine ⟨nI (k - 1), by rw [nm1 (by omega)]; rfl, ⟨k - 1, rfl, by omega, ?_⟩, by rw [u3n (by omega), u3n (by omega)]; omega⟩
        rw [← hv]
        refine (dv_zeros (by omega) (fun j h1 h2 => ?_)).symm
        have : j = k - 1 := by omega
        subst this
        unfold md
        rw [show k - 1 + 1 = k by omega, hz]; rfl
      · right
        rw [if_neg hz]
        refine ⟨_, rfl, k, rfl, hk, hv, fun _ => ?_⟩
        unfold md
        rw [show k - 1 + 1 = k by omega]
        exact fun h => hz (u3_eq0.mp h)
/-- put: a small number -/
theorem t_put {nx : Nat} {fx : Nat → Int32} {v : Nat} (hv : v ≤ 100000) (h1 : 1 < nx) (hx : nx ≤ 100000) : ∃ f', m_X11_put nx fx (nI v) = some f' ∧ MR f' (if v = 0 then 0 else 1) v ∧ ∀ k, 1 < k → f' k = fx k := by
  have h0 : (nI v = 0) ↔ v = 0 := neq (b := 0) hv (by omega)
  refine ⟨upd (upd fx 0 (if nI v = 0 then 0 else 1)) 1 (nI v), ?_, ?_, fun k hk => by rw [pk_un (by omega), pk_un (by omega)]⟩
  · unfold m_X11_put
    show (if ix 0 nx = true then _ else none) = _
    rw [if_pos (ix_0 (by omega) hx)]
    show (if ix 1 nx = true then _ else none) = _
    rw [if_pos (ix_1 h1 hx)]
    rfl
  · by_cases hz : v = 0
    · subst hz
      exact ⟨rfl, rfl, fun h => by simp at h⟩
    · rw [if_neg hz, if_neg (fun h => hz (h0.mp h))]
      refine ⟨rfl, ?_, fun _ => ?_⟩
      · show 0 + u3 (nI v) * BB ^ 0 = v
        rw [u3n hv, Nat.pow_zero]; omega
      · show u3 (nI v) ≠ 0
        rw [u3n hv]; exact hz
/-- copy -/
theorem t_copy {nx : Nat} {fx : Nat → Int32} {ny : Nat} {fy : Nat → Int32} {n : Nat} (h0 : fx 0 = nI n) (hn : n < nx) (hy : n < ny) (hx : nx ≤ 100000) (hy2 : ny ≤ 100000) : ∃ f', m_X11_copy nx fx ny fy = some f' ∧ (∀ k, k ≤ n → f' k = fx k) ∧ ∀ k, n < k → f' k = fy k := by
  have L := lp_inv (body := b_X11_copy_2 nx fx ny) (fun a => ∃ k, a.1 = nI k ∧ k ≤ n + 1 ∧ (∀ j, j < k → a.2 j = fx j) ∧ ∀ j, k ≤ j → a.2 j = fy j) (fun b => (∀ k, k ≤ n → b.2 k = fx k) ∧ ∀ k, n < k → b.2 k = fy k) (fun a => n + 1 - u3 a.1) ?_ FU (0, fy) ⟨0, rfl, by omega, fun j h => by omega, fun j _ => rfl⟩ (Nat.lt_of_le_of_lt (Nat.sub_le _ _) (FU_big (by omega)))
  · obtain ⟨q, e, h1, h2⟩ := L
    exact ⟨q.2, by unfold m_X11_copy; rw [e]; rfl, h1, h2⟩
  · rintro ⟨i, g⟩ ⟨k, rfl, hk, hlo, hhi⟩
    rw [eb_X11_copy_2, if_pos (ix_0 (by omega) hx), c0, h0]
    by_cases hkn : n < k
    · right
      rw [if_pos ((nlt (by omega) (by omega)).mpr hkn)]
      exact ⟨_, rfl, fun j hj => hlo j (by omega), fun j hj => hhi j (by omega)⟩
    · left
      rw [if_neg (fun h => hkn ((nlt (by omega) (by omega)).mp h)), if_pos (ixn (by omega) hx), if_pos (ixn (by omega) hy2), cl (by omega)]
      refine ⟨(nI (k + 1), upd g k (fx k)), by rw [← nI_1]; rfl, ⟨k + 1, rfl, by omega, fun j hj => ?_, fun j hj => ?_⟩, ?_⟩
      · by_cases hjk : j = k
        · subst hjk; exact pk_us
        · exact (pk_un hjk).trans (hlo j (by omega))
      · exact (pk_un (by omega)).trans (hhi j (by omega))
      · show n + 1 - u3 (nI (k + 1)) < n + 1 - u3 (nI k)
        rw [u3n (by omega), u3n (by omega)]; omega
