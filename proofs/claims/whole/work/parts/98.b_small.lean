section BM
variable {n u X m : Nat} {f : Nat → Int64}
theorem s_timesSmall (hX : BR n f u X) (hm : m < BB) (hm0 : 0 < m) (hcap : X * m < BB ^ n) (hn : n ≤ 50000) :
    ∃ g c, m_X1_timesSmall (nI u) n f (lN m) = some (nI c, g) ∧ BR n g c (X * m) := by
  obtain ⟨hu, hd, hxv, hxt⟩ := hX
  have L := lp_inv (body := b_X1_timesSmall_5 (nI u) n (lN m)) (fun s => ∃ k c, s.1 = lN c ∧ s.2.1 = nI k ∧ c < BB ∧ k ≤ u ∧ (∀ j, j < u → bd s.2.2 j < BB) ∧ dv (bd s.2.2) k + c * BB ^ k = dv (bd f) k * m ∧ ∀ j, k ≤ j → s.2.2 j = f j) (fun s => ∃ c, s.1 = lN c ∧ c < BB ∧ (∀ j, j < u → bd s.2.2 j < BB) ∧ dv (bd s.2.2) u + c * BB ^ u = X * m) (fun s => u - u3 s.2.1) ?_ FU (0, 0, f) ⟨0, 0, rfl, rfl, by decide, Nat.zero_le u, hd, by simp [dv], fun j _ => rfl⟩ (Nat.lt_of_le_of_lt (Nat.sub_le _ _) (FU_big (by omega)))
  · obtain ⟨q, e, c, hc1, hc, hgd, hgv⟩ := L
    have start : m_X1_timesSmall (nI u) n f (lN m) = if lg_cmp q.1 0 = 0 then some (nI u, q.2.2) else if nI u < 0 then some (nI u, q.2.2) else if nI n ≤ nI u then some (nI u, q.2.2) else if ix (nI u) n = true then some (nI u + 1, vp_updL q.2.2 (nI u).toNatClampNeg q.1) else none := by
      unfold m_X1_timesSmall
      simp only [lt]
      rw [e]
      rfl
    rw [start, hc1]
    by_cases hz : c = 0
    · rw [if_pos ((lg_cmp_0 hc).mpr hz)]
      subst hz
      rw [Nat.zero_mul, Nat.add_zero] at hgv
      refine ⟨q.2.2, u, rfl, hu, hgd, hgv, fun h0 hz => ?_⟩
      have hge := dv_pos (d := bd f) (n := u) h0 (hxt h0)
      have hvm : X ≤ X * m := Nat.le_mul_of_pos_right X hm0
      obtain ⟨w, rfl⟩ : ∃ w, u = w + 1 := ⟨u - 1, by omega⟩
      simp only [Nat.add_sub_cancel] at hz hge
      rw [dv, hz, Nat.zero_mul, Nat.add_zero] at hgv
      have := dv_lt (d := bd q.2.2) (n := w) (fun k hk => hgd k (by omega))
      omega
    · have hun : u < n := by
        rcases Nat.lt_or_ge u n with h | h
        · exact h
        · have hun : u = n := by omega
          subst hun
          have := Nat.le_mul_of_pos_left (BB ^ u) (show 0 < c by omega)
          omega
      rw [if_neg (fun h => hz ((lg_cmp_0 hc).mp h)), if_neg (nI_pos (by omega)), if_neg (fun h => by have := (nle (by omega) (by omega)).mp h; omega), if_pos (ixn (by omega) (by omega)), cl (by omega), nI_1]
      have hb : bd (vp_updL q.2.2 u (lN c)) = du (bd q.2.2) u c := bd_upd (by simp only [BB] at hc; omega)
      refine ⟨_, u + 1, rfl, by omega, fun k hk => ?_, ?_, fun _ => ?_⟩
      · rw [hb]
        unfold du
        split
        · exact hc
        · exact hgd k (by omega)
      · rw [hb, dv, dv_du_out (Nat.le_refl u)]
        simp only [du, if_true]
        exact hgv
      · rw [hb]
        simp only [Nat.add_sub_cancel, du, if_true]
        exact hz
  · rintro ⟨cw, kw, g⟩ ⟨k, c, e1, e2, hc, hk, hgd, hgv, hgl⟩
    dsimp only at e1 e2 hgd hgv hgl
    subst e1
    subst e2
    rw [eb_X1_timesSmall_5]
    by_cases hku : u ≤ k
    · right
      rw [if_pos ((nle (by omega) (by omega)).mpr hku)]
      have : k = u := by omega
      subst this
      rw [hxv] at hgv
      exact ⟨_, rfl, c, rfl, hc, hgd, hgv⟩
    · left
      rw [if_neg (fun h => hku ((nle (by omega) (by omega)).mp h)), if_neg (fun h => by have := (nle (by omega) (by omega)).mp h; omega), if_pos (ixn (by omega) (by omega)), cl (by omega)]
      simp only [lt]
      rw [if_pos (ixn (by omega) (by omega)), lN_bd g k, lN_mul, lN_add]
      have hgk : bd g k = bd f k := by unfold bd; rw [hgl k (Nat.le_refl k)]
      have hv64 : bd g k * m + c < 2 ^ 64 := by
        have := mac_lt (hgd k (by omega)) hm (show 0 < BB by decide) hc
        omega
      rw [lN_maskL hv64, lN_shr32 hv64, nI_1]
      generalize hvv : bd g k * m + c = v at hv64 ⊢
      have hmod : v % BB < BB := Nat.mod_lt _ (by decide)
      have hm64 : v % BB < 2 ^ 64 := Nat.lt_of_le_of_lt (Nat.mod_le v BB) hv64
      refine ⟨_, rfl, ⟨k + 1, v / BB, rfl, rfl, div_BB hv64, by omega, fun j hj => ?_, ?_, fun j hj => (pk_uLn (by omega)).trans (hgl j (by omega))⟩, ?_⟩
      · show bd (vp_updL g k (lN (v % BB))) j < BB
        rw [bd_upd hm64]
        unfold du
        split
        · exact hmod
        · exact hgd j hj
      · show dv (bd (vp_updL g k (lN (v % BB)))) (k + 1) + v / BB * BB ^ (k + 1) = _
        rw [bd_upd hm64, dv, dv_du_out (Nat.le_refl k), dv, Nat.pow_succ]
        simp only [du, if_true]
        have e1 := mod_div_BB v (BB ^ k)
        have e2 : v * BB ^ k = bd f k * BB ^ k * m + c * BB ^ k := by
          rw [← hvv, hgk, Nat.add_mul]
          congr 1
          rw [Nat.mul_assoc, Nat.mul_comm m, ← Nat.mul_assoc]
        rw [Nat.add_mul]
        omega
      · show u - u3 (nI (k + 1)) < u - u3 (nI k)
        rw [u3n (by omega), u3n (by omega)]; omega
end BM
