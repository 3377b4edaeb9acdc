/-! rows of words inside a longer array: load, store, grow -/
def sh (f : Nat → Int32) (p : Nat) : Nat → Int32 := fun k => f (p + k)
theorem sh_upd {f : Nat → Int32} {p k : Nat} {x : Int32} : sh (upd f (p + k) x) p = upd (sh f p) k x := by
  funext j
  unfold sh
  by_cases h : j = k
  · subst h; rw [pk_us, pk_us]
  · rw [pk_un (by omega), pk_un h]
theorem t_load {nx : Nat} {fx : Nat → Int32} {ny : Nat} {fy : Nat → Int32} {n p : Nat} (h0 : fx p = nI n) (hn : p + n < nx) (hy : n < ny) (hx : nx ≤ 50000) (hy2 : ny ≤ 50000) : ∃ f', m_X11_load nx fx ny fy (nI p) = some f' ∧ (∀ k, k ≤ n → f' k = fx (p + k)) ∧ ∀ k, n < k → f' k = fy k := by
  have L := lp_inv (body := b_X11_load_2 nx fx ny (nI p)) (fun a => ∃ k, a.1 = nI k ∧ k ≤ n + 1 ∧ (∀ j, j < k → a.2 j = fx (p + j)) ∧ ∀ j, k ≤ j → a.2 j = fy j) (fun b => (∀ k, k ≤ n → b.2 k = fx (p + k)) ∧ ∀ k, n < k → b.2 k = fy k) (fun a => n + 1 - u3 a.1) ?_ FU (0, fy) ⟨0, rfl, by omega, fun j h => by omega, fun j _ => rfl⟩ (Nat.lt_of_le_of_lt (Nat.sub_le _ _) (FU_big (by omega)))
  · obtain ⟨q, e, h1, h2⟩ := L
    exact ⟨q.2, by unfold m_X11_load; rw [e]; rfl, h1, h2⟩
  · rintro ⟨i, g⟩ ⟨k, e1, hk, hlo, hhi⟩
    dsimp only at e1 hlo hhi
    subst e1
    rw [eb_X11_load_2, if_pos (ixn (by omega) (by omega)), cl (by omega), h0]
    by_cases hkn : n < k
    · right
      rw [if_pos ((nlt (by omega) (by omega)).mpr hkn)]
      exact ⟨_, rfl, fun j hj => hlo j (by omega), fun j hj => hhi j (by omega)⟩
    · left
      rw [if_neg (fun h => hkn ((nlt (by omega) (by omega)).mp h)), nI_add, if_pos (ixn (by omega) (by omega)), if_pos (ixn (by omega) (by omega)), cl (by omega), cl (by omega)]
      refine ⟨(nI (k + 1), upd g k (fx (p + k))), by rw [← nI_1]; rfl, ⟨k + 1, rfl, by omega, fun j hj => ?_, fun j hj => ?_⟩, ?_⟩
      · by_cases hjk : j = k
        · subst hjk; exact pk_us
        · exact (pk_un hjk).trans (hlo j (by omega))
      · exact (pk_un (by omega)).trans (hhi j (by omega))
      · show n + 1 - u3 (nI (k + 1)) < n + 1 - u3 (nI k)
        rw [u3n (by omega), u3n (by omega)]; omega
theorem t_store {nx : Nat} {fx : Nat → Int32} {ny : Nat} {fy : Nat → Int32} {n p : Nat} (h0 : fx 0 = nI n) (hn : n < nx) (hy : p + n < ny) (hx : nx ≤ 50000) (hy2 : ny ≤ 50000) : ∃ f', m_X11_store nx fx ny fy (nI p) = some f' ∧ (∀ k, k ≤ n → f' (p + k) = fx k) ∧ ∀ j, j < p ∨ p + n < j → f' j = fy j := by
  have L := lp_inv (body := b_X11_store_2 nx fx ny (nI p)) (fun a => ∃ k, a.1 = nI k ∧ k ≤ n + 1 ∧ (∀ j, j < k → a.2 (p + j) = fx j) ∧ ∀ j, j < p ∨ p + k ≤ j → a.2 j = fy j) (fun b => (∀ k, k ≤ n → b.2 (p + k) = fx k) ∧ ∀ j, j < p ∨ p + n < j → b.2 j = fy j) (fun a => n + 1 - u3 a.1) ?_ FU (0, fy) ⟨0, rfl, by omega, fun j h => by omega, fun j _ => rfl⟩ (Nat.lt_of_le_of_lt (Nat.sub_le _ _) (FU_big (by omega)))
  · obtain ⟨q, e, h1, h2⟩ := L
    exact ⟨q.2, by unfold m_X11_store; rw [e]; rfl, h1, h2⟩
  · rintro ⟨i, g⟩ ⟨k, e1, hk, hlo, hhi⟩
    dsimp only at e1 hlo hhi
    subst e1
    rw [eb_X11_store_2, if_pos (ix_0 (by omega) (by omega)), c0, h0]
    by_cases hkn : n < k
    · right
      rw [if_pos ((nlt (by omega) (by omega)).mpr hkn)]
      exact ⟨_, rfl, fun j hj => hlo j (by omega), fun j hj => hhi j (by omega)⟩
    · left
      rw [if_neg (fun h => hkn ((nlt (by omega) (by omega)).mp h)), if_pos (ixn (by omega) (by omega)), nI_add, if_pos (ixn (by omega) (by omega)), cl (by omega), cl (by omega)]
      refine ⟨(nI (k + 1), upd g (p + k) (fx k)), by rw [← nI_1]; rfl, ⟨k + 1, rfl, by omega, fun j hj => ?_, fun j hj => ?_⟩, ?_⟩
      · by_cases hjk : j = k
        · subst hjk; exact pk_us
        · exact (pk_un (by omega)).trans (hlo j (by omega))
      · exact (pk_un (by omega)).trans (hhi j (by omega))
      · show n + 1 - u3 (nI (k + 1)) < n + 1 - u3 (nI k)
        rw [u3n (by omega), u3n (by omega)]; omega
theorem lg_cmp_0 {c : Nat} (h : c < BB) : lg_cmp (lN c) 0 = 0 ↔ c = 0 := by
  simp only [BB] at h
  have h2 := pk_lEQ (a := c) (b := 0) (by omega) (by omega)
  have h3 : ¬ (lN c) < 0 := by
    rw [Int64.lt_iff_toInt_lt, pk_lT (by omega)]
    show ¬ (c : Int) < 0
    omega
  unfold lg_cmp
  by_cases q1 : lN c > 0
  · rw [if_pos q1]
    constructor
    · intro q; exact absurd q (by decide)
    · intro q; subst q; exact absurd q1 Int64.lt_irrefl
  · rw [if_neg q1]
    by_cases q2 : lN c = 0
    · rw [if_pos q2]
      exact ⟨fun _ => h2.mp q2, fun _ => rfl⟩
    · rw [if_neg q2]
      constructor
      · intro q; exact absurd q (by decide)
      · intro q; exact absurd (h2.mpr q) q2
/-- grow: a row times a small number above 0, in its place -/
theorem t_grow {nx : Nat} {fx : Nat → Int32} {n p v m : Nat} (hM : MR (sh fx p) n v) (h0 : 0 < v) (hm0 : 0 < m) (hm : m ≤ 50000) (hn : p + n + 1 < nx) (hx : nx ≤ 50000) :
    ∃ f' n', m_X11_grow nx fx (nI p) (nI m) = some f' ∧ MR (sh f' p) n' (v * m) ∧ n' ≤ n + 1 ∧ ∀ j, j < p ∨ p + n + 1 < j → f' j = fx j := by
  obtain ⟨hx0, hxv, hxt⟩ := hM
  have hx0' : fx p = nI n := hx0
  have L := lp_inv (body := b_X11_grow_10 nx (nI p) (nI m) (nI n)) (fun s => ∃ k c, s.1 = lN c ∧ s.2.1 = nI k ∧ 1 ≤ k ∧ k ≤ n + 1 ∧ c ≤ m ∧ dv (md (sh s.2.2 p)) (k - 1) + c * BB ^ (k - 1) = dv (md (sh fx p)) (k - 1) * m ∧ ∀ j, j ≤ p ∨ p + k ≤ j → s.2.2 j = fx j)
    (fun s => ∃ c, s.1 = lN c ∧ c ≤ m ∧ dv (md (sh s.2.2 p)) n + c * BB ^ n = v * m ∧ ∀ j, j ≤ p ∨ p + n < j → s.2.2 j = fx j) (fun s => n + 1 - u3 s.2.1) ?_ FU (0, 1, fx) ⟨1, 0, rfl, rfl, Nat.le_refl 1, by omega, by omega, by simp [dv], fun j _ => rfl⟩ (Nat.lt_of_le_of_lt (Nat.sub_le _ _) (FU_big (by omega)))
  · obtain ⟨q, e, c, hc1, hc, hv, hqr⟩ := L
    have hcB : c < BB := by simp only [BB]; omega
    have hpos : 0 < n := (MR_pos ⟨hx0, hxv, hxt⟩).mpr h0
    have hvm : v ≤ v * m := Nat.le_mul_of_pos_right v hm0
    have hge := dv_pos (d := md (sh fx p)) (n := n) hpos (hxt hpos)
    have start : m_X11_grow nx fx (nI p) (nI m) = if lg_cmp q.1 0 = 0 then some q.2.2 else if ix (nI p) nx = true then lt (upd q.2.2 p (nI n + 1)) (fun fx_10 : Nat → Int32 => if ix ((nI p + nI n) + 1) nx = true then lt (upd fx_10 ((nI p + nI n) + 1).toNatClampNeg q.1.toInt32) (fun fx_11 : Nat → Int32 => some fx_11) else none) else none := by
      unfold m_X11_grow
      rw [if_pos (ixn (by omega) (by omega)), cl (by omega)]
      show ((lp (b_X11_grow_10 nx (nI p) (nI m) (fx p)) FU (0, 1, fx)).bind _) = _
      rw [hx0', e]
      rfl
    rw [start, hc1]
    by_cases hz : c = 0
    · rw [if_pos ((lg_cmp_0 hcB).mpr hz)]
      subst hz
      rw [Nat.zero_mul, Nat.add_zero] at hv
      refine ⟨q.2.2, n, rfl, ⟨?_, hv, fun _ hz => ?_⟩, by omega, fun j hj => hqr j (by omega)⟩
      · show q.2.2 (p + 0) = nI n
        rw [hqr _ (by omega)]; exact hx0
      · obtain ⟨w, rfl⟩ : ∃ w, n = w + 1 := ⟨n - 1, by omega⟩
        simp only [Nat.add_sub_cancel] at hz hge
        rw [dv, hz, Nat.zero_mul, Nat.add_zero] at hv
        have := dv_lt (d := md (sh q.2.2 p)) (n := w) (fun k _ => md_lt _ k)
        omega
    · rw [if_neg (fun h => hz ((lg_cmp_0 hcB).mp h)), if_pos (ixn (by omega) (by omega))]
      simp only [lt]
      rw [nI_add, nI_1, nI_1, if_pos (ixn (by omega) (by omega)), cl (by omega)]
      refine ⟨_, n + 1, rfl, ⟨?_, ?_, fun _ => ?_⟩, by omega, fun j hj => ?_⟩
      · show upd (upd q.2.2 p (nI (n + 1))) (p + n + 1) (lN c).toInt32 (p + 0) = nI (n + 1)
        rw [pk_un (by omega)]; exact pk_us
      · rw [show p + n + 1 = p + (n + 1) by omega, sh_upd, md_upd_last, u3_l2i, Nat.mod_eq_of_lt hcB]
        rw [show upd q.2.2 p (nI (n + 1)) = upd q.2.2 (p + 0) (nI (n + 1)) from rfl, sh_upd, md_upd0]
        exact hv
      · show u3 (upd (upd q.2.2 p (nI (n + 1))) (p + n + 1) (lN c).toInt32 (p + (n + 1 - 1 + 1))) ≠ 0
        rw [show p + (n + 1 - 1 + 1) = p + n + 1 by omega, pk_us, u3_l2i, Nat.mod_eq_of_lt hcB]
        exact hz
      · rw [pk_un (by omega), pk_un (by omega)]
        exact hqr j (by omega)
  · rintro ⟨cw, kw, g⟩ ⟨k, c, e1, e2, hk1, hk2, hc, hv, hgr⟩
    dsimp only at e1 e2 hv hgr
    subst e1
    subst e2
    rw [eb_X11_grow_10]
    by_cases hkn : n < k
    · right
      rw [if_pos ((nlt (by omega) (by omega)).mpr hkn)]
      have hk : k = n + 1 := by omega
      subst hk
      refine ⟨_, rfl, c, rfl, hc, ?_, fun j hj => hgr j (by omega)⟩
      rw [show n + 1 - 1 = n by omega, hxv] at hv
      exact hv
    · left
      rw [if_neg (fun h => hkn ((nlt (by omega) (by omega)).mp h)), nI_add, if_pos (ixn (by omega) (by omega)), cl (by omega), hgr (p + k) (by omega), lN_mask, nI_l (by omega), lN_mul, lN_add]
      have hfx := u3_lt (fx (p + k))
      have hmul : u3 (fx (p + k)) * m ≤ 4294967295 * 50000 := Nat.mul_le_mul (by simp only [BB] at hfx; omega) hm
      have hmul2 : u3 (fx (p + k)) * m ≤ 4294967295 * m := Nat.mul_le_mul_right m (by simp only [BB] at hfx; omega)
      generalize hvv : c + u3 (fx (p + k)) * m = w
      have hw64 : w < 2 ^ 64 := by omega
      simp only [lt]
      rw [if_pos (ixn (by omega) (by omega)), lN_shr32 hw64, nI_1]
      refine ⟨_, rfl, ⟨k + 1, w / BB, rfl, rfl, by omega, by omega, ?_, ?_, fun j hj => (pk_un (by omega)).trans (hgr j (by omega))⟩, ?_⟩
      · have h1 : w < (m + 1) * BB := by simp only [BB]; omega
        have := (Nat.div_lt_iff_lt_mul (by decide : 0 < BB)).mpr h1
        omega
      · show dv (md (sh (upd g (p + k) (lN w).toInt32) p)) (k + 1 - 1) + w / BB * BB ^ (k + 1 - 1) = _
        obtain ⟨i, rfl⟩ : ∃ i, k = i + 1 := ⟨k - 1, by omega⟩
        simp only [Nat.add_sub_cancel] at *
        rw [sh_upd, md_upd_last, u3_l2i, dv, Nat.pow_succ]
        have e1 := mod_div_BB w (BB ^ i)
        have e2 : w * BB ^ i = c * BB ^ i + md (sh fx p) i * BB ^ i * m := by
          rw [← hvv, Nat.add_mul]
          congr 1
          show u3 (fx (p + (i + 1))) * m * BB ^ i = u3 (fx (p + (i + 1))) * BB ^ i * m
          rw [Nat.mul_assoc, Nat.mul_comm m, ← Nat.mul_assoc]
        rw [Nat.add_mul]
        omega
      · show n + 1 - u3 (nI (k + 1)) < n + 1 - u3 (nI k)
        rw [u3n (by omega), u3n (by omega)]; omega
