/-! plus and less -/
def ext (d : Nat → Nat) (a : Nat) : Nat → Nat := fun p => if p < a then d p else 0
theorem ext_lt {d : Nat → Nat} {a : Nat} (h : ∀ k, d k < BB) (p : Nat) : ext d a p < BB := by
  unfold ext
  split
  · exact h p
  · decide
theorem dv_ext {d : Nat → Nat} {a n : Nat} (h : a ≤ n) : dv (ext d a) n = dv d a := by
  rw [dv_zeros (d := ext d a) h (fun k h1 _ => by unfold ext; rw [if_neg (by omega)])]
  exact dv_congr (fun k hk => by unfold ext; rw [if_pos hk])
theorem md_upd_last {f : Nat → Int32} {n : Nat} {x : Int32} : dv (md (upd f (n + 1) x)) (n + 1) = dv (md f) n + u3 x * BB ^ n := by
  rw [md_upd, dv, dv_du_out (Nat.le_refl n)]
  simp [du]
section PL
variable {nx : Nat} {fx : Nat → Int32} {ny : Nat} {fy : Nat → Int32} {a b : Nat}
theorem t_plus {X Y : Nat} (hX : MR fx a X) (hY : MR fy b Y) (n : Nat) (hn : n = max a b) (h1 : n + 1 < nx) (hb : b < ny) (hx : nx ≤ 100000) (hy : ny ≤ 100000) :
    ∃ f' c, m_X11_plus nx fx ny fy = some f' ∧ c ≤ n + 1 ∧ MR f' c (X + Y) ∧ ∀ k, n + 1 < k → f' k = fx k := by
  obtain ⟨hx0, hxv, hxt⟩ := hX
  obtain ⟨hy0, hyv, hyt⟩ := hY
  have ha : a ≤ n := by omega
  have hbn : b ≤ n := by omega
  have L := lp_inv (body := b_X11_plus_24 nx ny fy (nI n)) (fun s => ∃ k c, s.1 = lN c ∧ s.2.1 = nI k ∧ 1 ≤ k ∧ k ≤ n + 1 ∧ c ≤ 1 ∧ dv (md s.2.2) (k - 1) + c * BB ^ (k - 1) = dv (ext (md fx) a) (k - 1) + dv (ext (md fy) b) (k - 1) ∧ s.2.2 0 = nI a ∧ ∀ j, k ≤ j → s.2.2 j = fx j)
    (fun s => ∃ c, s.1 = lN c ∧ c ≤ 1 ∧ dv (md s.2.2) n + c * BB ^ n = X + Y ∧ s.2.2 0 = nI a ∧ ∀ j, n + 1 ≤ j → s.2.2 j = fx j) (fun s => n + 1 - u3 s.2.1) ?_ FU (0, 1, fx) ⟨1, 0, rfl, rfl, Nat.le_refl 1, by omega, by omega, by simp [dv], hx0, fun j _ => rfl⟩ (Nat.lt_of_le_of_lt (Nat.sub_le _ _) (FU_big (by omega)))
  · obtain ⟨q, e, c, hc1, hc, hv, hq0, hqr⟩ := L
    obtain ⟨f', c', e', hc', hM, hr⟩ := t_trim (nx := nx) (fx := upd q.2.2 (n + 1) (lN c).toInt32) (n := n + 1) h1 hx
    refine ⟨f', c', ?_, hc', ?_, fun k hk => (hr k (by omega)).trans ((pk_un (by omega)).trans (hqr k (by omega)))⟩
    · unfold m_X11_plus
      rw [if_pos (ix_0 (by omega) hx), if_pos (ix_0 (by omega) hy), c0, hx0, hy0]
      have e1 : (if nI a ≤ nI b then if ix (0 : Int32) ny = true then some (nI b) else none else if ix (0 : Int32) nx = true then some (nI a) else none) = some (nI n) := by
        rw [if_pos (ix_0 (by omega) hy), if_pos (ix_0 (by omega) hx)]
        by_cases hab : a ≤ b
        · rw [if_pos ((nle (by omega) (by omega)).mpr hab), hn, Nat.max_eq_right hab]
        · rw [if_neg (fun h => hab ((nle (by omega) (by omega)).mp h)), hn, Nat.max_eq_left (by omega)]
      rw [e1]
      show ((lp (b_X11_plus_24 nx ny fy (nI n)) FU (0, 1, fx)).bind _) = _
      rw [e]
      show (if ix (nI n + 1) nx = true then _ else none) = _
      rw [nI_1, if_pos (ixn h1 hx), cl (by omega), hc1]
      show ((m_X11_trim nx (upd q.2.2 (n + 1) (lN c).toInt32) (nI (n + 1))).bind _) = _
      rw [e']
      rfl
    · rw [md_upd_last, u3_l2i, Nat.mod_eq_of_lt (show c < BB by simp only [BB]; omega), hv] at hM
      exact hM
  · rintro ⟨cw, kw, g⟩ ⟨k, c, e1, e2, hk1, hk2, hc, hv, hg0, hgr⟩
    dsimp only at e1 e2 hv hg0 hgr
    subst e1
    subst e2
    rw [eb_X11_plus_24]
    by_cases hkn : n < k
    · right
      rw [if_pos ((nlt (by omega) (by omega)).mpr hkn)]
      have hk : k = n + 1 := by omega
      subst hk
      refine ⟨_, rfl, c, rfl, hc, ?_, hg0, hgr⟩
      rw [show n + 1 - 1 = n by omega, dv_ext ha, dv_ext hbn, hxv, hyv] at hv
      exact hv
    · left
      rw [if_neg (fun h => hkn ((nlt (by omega) (by omega)).mp h)), if_pos (ix_0 (by omega) hx), c0, hg0, hy0, if_pos (ixn (by omega) hx), cl (by omega), hgr k (Nat.le_refl k)]
      have hp : k - 1 + 1 = k := by omega
      have ex1 : (if nI a < nI k then some (0 : Int64) else some ((fx k).toInt64 &&& 4294967295)) = some (lN (ext (md fx) a (k - 1))) := by
        unfold ext md
        by_cases h : a < k
        · rw [if_pos ((nlt (by omega) (by omega)).mpr h), if_neg (by omega)]; rfl
        · rw [if_neg (fun q => h ((nlt (by omega) (by omega)).mp q)), if_pos (by omega), lN_mask, hp]
      have ex2 : (if nI b < nI k then some (0 : Int64) else if ix (nI k) ny = true then some ((fy k).toInt64 &&& 4294967295) else none) = some (lN (ext (md fy) b (k - 1))) := by
        unfold ext md
        by_cases h : b < k
        · rw [if_pos ((nlt (by omega) (by omega)).mpr h), if_neg (by omega)]; rfl
        · rw [if_neg (fun q => h ((nlt (by omega) (by omega)).mp q)), if_pos (ixn (by omega) hy), if_pos (show k - 1 < b by omega), lN_mask, hp]
      rw [ex1]
      show ∃ a', (if ix 0 ny = true then _ else none) = _ ∧ _
      rw [if_pos (ix_0 (by omega) hy), ex2]
      simp only [Option.bind_some, lt]
      rw [lN_add, lN_add]
      have hX2 := ext_lt (a := a) (fun k => md_lt fx k) (k - 1)
      have hY2 := ext_lt (a := b) (fun k => md_lt fy k) (k - 1)
      generalize hvv : c + (ext (md fx) a (k - 1) + ext (md fy) b (k - 1)) = v
      have hv64 : v < 2 ^ 64 := by simp only [BB] at hX2 hY2; omega
      refine ⟨(lN (v / BB), nI (k + 1), upd g k (lN v).toInt32), ?_, ⟨k + 1, v / BB, rfl, rfl, by omega, by omega, ?_, ?_, ?_, ?_⟩, ?_⟩
      · rw [lN_shr32 hv64, nI_1, if_pos (ixn (by omega) hx)]
      · simp only [BB] at hX2 hY2 ⊢; omega
      · show dv (md (upd g k (lN v).toInt32)) (k + 1 - 1) + v / BB * BB ^ (k + 1 - 1) = _
        obtain ⟨p, rfl⟩ : ∃ p, k = p + 1 := ⟨k - 1, by omega⟩
        simp only [Nat.add_sub_cancel] at *
        rw [md_upd_last, u3_l2i, dv, dv, Nat.pow_succ]
        have e1 := mod_div_BB v (BB ^ p)
        have e2 : v * BB ^ p = c * BB ^ p + (ext (md fx) a p * BB ^ p + ext (md fy) b p * BB ^ p) := by rw [← hvv, Nat.add_mul, Nat.add_mul]
        omega
      · exact (pk_un (by omega)).trans hg0
      · exact fun j hj => (pk_un (by omega)).trans (hgr j (by omega))
      · show n + 1 - u3 (nI (k + 1)) < n + 1 - u3 (nI k)
        rw [u3n (by omega), u3n (by omega)]; omega
theorem t_less {X Y : Nat} (hX : MR fx a X) (hY : MR fy b Y) (hYX : Y ≤ X) (ha : a < nx) (hb : b < ny) (hx : nx ≤ 100000) (hy : ny ≤ 100000) :
    ∃ f' c, m_X11_less nx fx ny fy = some f' ∧ c ≤ a ∧ MR f' c (X - Y) ∧ ∀ k, a < k → f' k = fx k := by
  obtain ⟨hx0, hxv, hxt⟩ := hX
  obtain ⟨hy0, hyv, hyt⟩ := hY
  have hba : b ≤ a := by
    rcases Nat.lt_or_ge a b with h | h
    · have q1 := dv_lt (d := md fx) (n := a) (fun k _ => md_lt fx k)
      have q2 := dv_pos (d := md fy) (n := b) (by omega) (hyt (by omega))
      have q3 : BB ^ a ≤ BB ^ (b - 1) := Nat.pow_le_pow_right (by decide) (by omega)
      omega
    · exact h
  have L := lp_inv (body := b_X11_less_5 nx ny fy) (fun s => ∃ k w, s.1 = lN w ∧ s.2.1 = nI k ∧ 1 ≤ k ∧ k ≤ a + 1 ∧ w ≤ 1 ∧ dv (md s.2.2) (k - 1) + dv (ext (md fy) b) (k - 1) = dv (md fx) (k - 1) + w * BB ^ (k - 1) ∧ s.2.2 0 = nI a ∧ ∀ j, k ≤ j → s.2.2 j = fx j)
    (fun s => dv (md s.2.2) a = X - Y ∧ s.2.2 0 = nI a ∧ ∀ j, a < j → s.2.2 j = fx j) (fun s => a + 1 - u3 s.2.1) ?_ FU (0, 1, fx) ⟨1, 0, rfl, rfl, Nat.le_refl 1, by omega, by omega, by simp [dv], hx0, fun j _ => rfl⟩ (Nat.lt_of_le_of_lt (Nat.sub_le _ _) (FU_big (by omega)))
  · obtain ⟨q, e, hv, hq0, hqr⟩ := L
    obtain ⟨f', c', e', hc', hM, hr⟩ := t_trim (nx := nx) (fx := q.2.2) (n := a) ha hx
    refine ⟨f', c', ?_, hc', by rw [hv] at hM; exact hM, fun k hk => (hr k (by omega)).trans (hqr k hk)⟩
    unfold m_X11_less
    rw [e]
    show (if ix 0 nx = true then _ else none) = _
    rw [if_pos (ix_0 (by omega) hx), c0, hq0, e']
    rfl
  · rintro ⟨ww, kw, g⟩ ⟨k, w, e1, e2, hk1, hk2, hw, hv, hg0, hgr⟩
    dsimp only at e1 e2 hv hg0 hgr
    subst e1
    subst e2
    rw [eb_X11_less_5, if_pos (ix_0 (by omega) hx), c0, hg0]
    by_cases hka : a < k
    · right
      rw [if_pos ((nlt (by omega) (by omega)).mpr hka)]
      have hk : k = a + 1 := by omega
      subst hk
      refine ⟨_, rfl, ?_, hg0, fun j hj => hgr j (by omega)⟩
      rw [show a + 1 - 1 = a by omega, dv_ext hba, hxv, hyv] at hv
      show dv (md g) a = X - Y
      have q1 := dv_lt (d := md g) (n := a) (fun k _ => md_lt g k)
      rcases (show w = 0 ∨ w = 1 by omega) with rfl | rfl
      · omega
      · rw [Nat.one_mul] at hv; omega
    · left
      rw [if_neg (fun h => hka ((nlt (by omega) (by omega)).mp h)), if_pos (ixn (by omega) hx), cl (by omega), hy0, if_pos (ix_0 (by omega) hy), hgr k (Nat.le_refl k)]
      have hp : k - 1 + 1 = k := by omega
      have ex2 : (if nI b < nI k then some (0 : Int64) else if ix (nI k) ny = true then some ((fy k).toInt64 &&& 4294967295) else none) = some (lN (ext (md fy) b (k - 1))) := by
        unfold ext md
        by_cases h : b < k
        · rw [if_pos ((nlt (by omega) (by omega)).mpr h), if_neg (by omega)]; rfl
        · rw [if_neg (fun q => h ((nlt (by omega) (by omega)).mp q)), if_pos (ixn (by omega) hy), if_pos (show k - 1 < b by omega), lN_mask, hp]
      rw [ex2]
      simp only [Option.bind_some, lt]
      rw [if_pos (ixn (by omega) hx), lN_mask]
      have hY2 := ext_lt (a := b) (fun k => md_lt fy k) (k - 1)
      obtain ⟨s1, s2⟩ := l_sub3 (u3_lt (fx k)) hY2 hw
      generalize hD : lN (u3 (fx k)) - lN (ext (md fy) b (k - 1)) - lN w = D at s1 s2 ⊢
      have hge : 0 ≤ lg_cmp D 0 ↔ ¬ u3 (fx k) < ext (md fy) b (k - 1) + w := by
        rw [lg_cmp_ge, ← s1]
        exact Int64.not_lt.symm
      have hxk : u3 (fx k) = md fx (k - 1) := by unfold md; rw [hp]
      have fin : ∀ w' : Nat, w' ≤ 1 → u3 D.toInt32 + ext (md fy) b (k - 1) + w = u3 (fx k) + w' * BB → (∃ a', some (Sum.inl (lN w', nI (k + 1), upd g k D.toInt32)) = some (Sum.inl a' : (Int64 × Int32 × (Nat → Int32)) ⊕ (Int64 × Int32 × (Nat → Int32))) ∧ (∃ k w, a'.1 = lN w ∧ a'.2.1 = nI k ∧ 1 ≤ k ∧ k ≤ a + 1 ∧ w ≤ 1 ∧ dv (md a'.2.2) (k - 1) + dv (ext (md fy) b) (k - 1) = dv (md fx) (k - 1) + w * BB ^ (k - 1) ∧ a'.2.2 0 = nI a ∧ ∀ j, k ≤ j → a'.2.2 j = fx j) ∧ a + 1 - u3 a'.2.1 < a + 1 - u3 (nI k)) := by
        intro w' hw' hD'
        refine ⟨_, rfl, ⟨k + 1, w', rfl, rfl, by omega, by omega, hw', ?_, (pk_un (by omega)).trans hg0, fun j hj => (pk_un (by omega)).trans (hgr j (by omega))⟩, ?_⟩
        · show dv (md (upd g k D.toInt32)) (k + 1 - 1) + _ = _
          obtain ⟨p, rfl⟩ : ∃ p, k = p + 1 := ⟨k - 1, by omega⟩
          simp only [Nat.add_sub_cancel] at *
          rw [md_upd_last, dv, dv, Nat.pow_succ]
          have e2 : u3 D.toInt32 * BB ^ p + ext (md fy) b p * BB ^ p + w * BB ^ p = md fx p * BB ^ p + w' * (BB ^ p * BB) := by
            rw [← Nat.add_mul, ← Nat.add_mul, hD', hxk, Nat.add_mul, Nat.mul_assoc, Nat.mul_comm BB]
          omega
        · show a + 1 - u3 (nI (k + 1)) < a + 1 - u3 (nI k)
          rw [u3n (by omega), u3n (by omega)]; omega
      have hfx := u3_lt (fx k)
      by_cases hlt : u3 (fx k) < ext (md fy) b (k - 1) + w
      · have hn : ¬ 0 ≤ lg_cmp D 0 := fun q => (hge.mp q) hlt
        rw [if_neg hn]
        rw [if_pos hlt] at s2
        obtain ⟨r, h1, h2⟩ := fin 1 (Nat.le_refl 1) (by rw [s2]; simp only [BB] at *; omega)
        refine ⟨r, ?_, h2⟩
        rw [← h1, nI_1]; rfl
      · rw [if_pos (hge.mpr hlt)]
        rw [if_neg hlt] at s2
        obtain ⟨r, h1, h2⟩ := fin 0 (by omega) (by rw [s2]; omega)
        refine ⟨r, ?_, h2⟩
        rw [← h1, nI_1]; rfl
end PL
