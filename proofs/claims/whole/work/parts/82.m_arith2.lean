theorem dv_gt {d e : Nat → Nat} {p n : Nat} (hp : p < n) (he : ∀ k, k < n → e k < BB) (hab : ∀ j, p < j → j < n → d j = e j) (h : e p < d p) : dv e n < dv d n := by
  induction n with
  | zero => omega
  | succ n ih =>
    rw [dv, dv]
    by_cases hpn : p = n
    · subst hpn
      have a := dv_lt (d := e) (n := p) (fun k hk => he k (by omega))
      have b : (e p + 1) * BB ^ p ≤ d p * BB ^ p := Nat.mul_le_mul_right _ h
      rw [Nat.add_mul, Nat.one_mul] at b
      omega
    · have a := ih (by omega) (fun k hk => he k (by omega)) (fun j h1 h2 => hab j h1 (by omega))
      rw [hab n (by omega) (by omega)]
      omega
/-- a difference of small numbers -/
theorem l_sub3 {a b w : Nat} (ha : a < BB) (hb : b < BB) (hw : w ≤ 1) : (lN a - lN b - lN w < 0 ↔ a < b + w) ∧ u3 (lN a - lN b - lN w).toInt32 = if a < b + w then a + BB - b - w else a - b - w := by
  simp only [BB] at ha hb
  by_cases h : a < b + w
  · have e : lN a - lN b - lN w = lN (18446744073709551616 + a - b - w) := by
      apply Int64.toBitVec_inj.mp
      apply BitVec.eq_of_toNat_eq
      show (BitVec.ofNat 64 a - BitVec.ofNat 64 b - BitVec.ofNat 64 w).toNat = (BitVec.ofNat 64 (18446744073709551616 + a - b - w)).toNat
      simp only [BitVec.toNat_sub, BitVec.toNat_ofNat]
      omega
    have hneg : lN (18446744073709551616 + a - b - w) < 0 := by
      rw [Int64.lt_iff_toInt_lt]
      show (BitVec.ofNat 64 (18446744073709551616 + a - b - w)).toInt < 0
      rw [BitVec.toInt_eq_toNat_cond, BitVec.toNat_ofNat]
      split <;> omega
    rw [e]
    refine ⟨⟨fun _ => h, fun _ => hneg⟩, ?_⟩
    rw [if_pos h, u3_l2i]
    simp only [BB]
    omega
  · have e : lN a - lN b - lN w = lN (a - b - w) := by rw [lN_sub (by omega), lN_sub (by omega)]
    have hpos : ¬ lN (a - b - w) < 0 := by
      rw [Int64.lt_iff_toInt_lt, pk_lT (by omega)]
      show ¬ ((a - b - w : Nat) : Int) < 0
      omega
    rw [e]
    refine ⟨⟨fun q => absurd q hpos, fun q => absurd q h⟩, ?_⟩
    rw [if_neg h, u3_l2i]
    simp only [BB]
    omega
theorem l_sub2 {a b : Nat} (ha : a < BB) (hb : b < BB) : (lN a - lN b < 0 ↔ a < b) ∧ (lN a - lN b = 0 ↔ a = b) := by
  have h := l_sub3 ha hb (Nat.zero_le 1)
  rw [show lN a - lN b - lN 0 = lN a - lN b from by
    apply Int64.toBitVec_inj.mp
    show (BitVec.ofNat 64 a - BitVec.ofNat 64 b - BitVec.ofNat 64 0) = BitVec.ofNat 64 a - BitVec.ofNat 64 b
    exact BitVec.sub_zero _] at h
  refine ⟨h.1, fun e => ?_, fun e => ?_⟩
  · simp only [BB] at ha hb
    have h2 : ¬ lN a - lN b < 0 := by rw [e]; exact Int64.lt_irrefl
    have h3 : ¬ a < b := fun q => h2 (h.1.mpr (by omega))
    rw [lN_sub (by omega)] at e
    have := (pk_lEQ (a := a - b) (b := 0) (by omega) (by omega)).mp e
    omega
  · rw [e, lN_sub (Nat.le_refl _), Nat.sub_self]; rfl
/-- compareTo: the order of the numbers -/
theorem t_compareTo {nx : Nat} {fx : Nat → Int32} {ny : Nat} {fy : Nat → Int32} {a b X Y : Nat} (hX : MR fx a X) (hY : MR fy b Y) (ha : a < nx) (hb : b < ny) (hx : nx ≤ 100000) (hy : ny ≤ 100000) :
    ∃ c, m_X11_compareTo nx fx ny fy = some c ∧ (c < 0 ↔ X < Y) ∧ (c = 0 ↔ X = Y) ∧ (0 < c ↔ Y < X) := by
  obtain ⟨hx0, hxv, hxt⟩ := hX
  obtain ⟨hy0, hyv, hyt⟩ := hY
  have S : ∀ {c : Int32}, (c < 0 ∧ X < Y) ∨ (c = 0 ∧ X = Y) ∨ (0 < c ∧ Y < X) → (c < 0 ↔ X < Y) ∧ (c = 0 ↔ X = Y) ∧ (0 < c ↔ Y < X) := by
    intro c h
    have e0 : (0 : Int32).toInt = 0 := rfl
    have e1 : c = 0 ↔ c.toInt = 0 := by rw [← e0, Int32.toInt_inj]
    simp only [e1, Int32.lt_iff_toInt_lt, e0] at h ⊢
    omega
  have L := lp_inv (body := b_X11_compareTo_12 nx fx ny fy) (fun q => ∃ k, q.2 = nI k ∧ k ≤ a ∧ (((q.1 < 0 ∧ X < Y) ∨ (0 < q.1 ∧ Y < X)) ∨ (q.1 = 0 ∧ a = b ∧ ∀ j, k ≤ j → j < a → md fx j = md fy j))) (fun q => (q.1 < 0 ∧ X < Y) ∨ (q.1 = 0 ∧ X = Y) ∨ (0 < q.1 ∧ Y < X)) (fun q => u3 q.2) ?_ FU (nI a - nI b, nI a) ⟨a, rfl, Nat.le_refl a, ?_⟩ (by show u3 (nI a) < FU; rw [u3n (by omega)]; exact FU_big (by omega))
  · obtain ⟨q, e, hq⟩ := L
    refine ⟨q.1, ?_, S hq⟩
    unfold m_X11_compareTo
    rw [if_pos (ix_0 (by omega) hx), if_pos (ix_0 (by omega) hy)]
    show (if ix 0 nx = true then _ else none) = _
    rw [if_pos (ix_0 (by omega) hx)]
    show ((lp (b_X11_compareTo_12 nx fx ny fy) FU (fx 0 - fy 0, fx 0)).bind _) = _
    rw [hx0, hy0, e]
    rfl
  · rintro ⟨c, i⟩ ⟨k, hi, hk, hc⟩
    dsimp only at hi hc
    subst hi
    rw [eb_X11_compareTo_12]
    have e0 : (0 : Int32).toInt = 0 := rfl
    by_cases h0 : k = 0
    · right
      rw [if_pos ((nle0 (by omega)).mpr h0)]
      refine ⟨_, rfl, ?_⟩
      rcases hc with (h | h) | ⟨h1, h2, h3⟩
      · exact Or.inl h
      · exact Or.inr (Or.inr h)
      · refine Or.inr (Or.inl ⟨h1, ?_⟩)
        rw [← hxv, ← hyv, ← h2]
        exact dv_congr (fun j hj => h3 j (by omega) hj)
    · rw [if_neg (fun h => h0 ((nle0 (by omega)).mp h))]
      by_cases hz : c = 0
      · rw [if_pos hz, if_pos (ixn (by omega) hx)]
        rcases hc with (h | h) | ⟨h1, h2, h3⟩
        · rw [hz] at h; exact absurd h.1 Int32.lt_irrefl
        · rw [hz] at h; exact absurd h.1 Int32.lt_irrefl
        · subst h2
          rw [if_pos (ixn (by omega) hy), cl (by omega), lN_mask, lN_mask]
          have hxk : u3 (fx k) = md fx (k - 1) := by unfold md; rw [show k - 1 + 1 = k by omega]
          have hyk : u3 (fy k) = md fy (k - 1) := by unfold md; rw [show k - 1 + 1 = k by omega]
          obtain ⟨g1, g2⟩ := l_sub2 (u3_lt (fx k)) (u3_lt (fy k))
          left
          simp only [lt]
          have hge : 0 ≤ lg_cmp (lN (u3 (fx k)) - lN (u3 (fy k))) 0 ↔ u3 (fy k) ≤ u3 (fx k) := by
            rw [lg_cmp_ge]
            constructor
            · intro h
              rcases Nat.lt_or_ge (u3 (fx k)) (u3 (fy k)) with q | q
              · exact absurd (g1.mpr q) (Int64.not_lt.mpr h)
              · exact q
            · intro h
              exact Int64.not_lt.mp (fun q => by have := g1.mp q; omega)
          have hmu : u3 (nI (k - 1)) < u3 (nI k) := by rw [u3n (by omega), u3n (by omega)]; omega
          by_cases hle : u3 (fy k) ≤ u3 (fx k)
          · rw [if_pos (hge.mpr hle)]
            have heq : lg_cmp (lN (u3 (fx k)) - lN (u3 (fy k))) 0 = 0 ↔ u3 (fx k) = u3 (fy k) := by
              rw [← g2]
              unfold lg_cmp
              constructor
              · intro h
                by_cases q1 : lN (u3 (fx k)) - lN (u3 (fy k)) > 0
                · rw [if_pos q1] at h; exact absurd h (by decide)
                · rw [if_neg q1] at h
                  by_cases q2 : lN (u3 (fx k)) - lN (u3 (fy k)) = 0
                  · exact q2
                  · rw [if_neg q2] at h; exact absurd h (by decide)
              · intro h
                rw [h]; rfl
            by_cases he : u3 (fx k) = u3 (fy k)
            · refine ⟨(0, nI (k - 1)), ?_, ⟨k - 1, rfl, by omega, Or.inr ⟨rfl, trivial, fun j h4 h5 => ?_⟩⟩, hmu⟩
              · rw [if_pos (heq.mpr he), nm1 (by omega)]; rfl
              · by_cases hjk : j = k - 1
                · rw [hjk, ← hxk, ← hyk, he]
                · exact h3 j (by omega) h5
            · refine ⟨(1, nI (k - 1)), ?_, ⟨k - 1, rfl, by omega, Or.inl (Or.inr ⟨show (0 : Int32) < 1 by decide, ?_⟩)⟩, hmu⟩
              · rw [if_neg (fun q => he (heq.mp q)), nm1 (by omega)]; rfl
              · rw [← hxv, ← hyv]
                exact dv_gt (p := k - 1) (by omega) (fun j _ => md_lt fy j) (fun j h4 h5 => h3 j (by omega) h5) (by rw [← hxk, ← hyk]; omega)
          · rw [if_neg (fun q => hle (hge.mp q))]
            refine ⟨(-1, nI (k - 1)), ?_, ⟨k - 1, rfl, by omega, Or.inl (Or.inl ⟨show (-1 : Int32) < 0 by decide, ?_⟩)⟩, hmu⟩
            · rw [nm1 (by omega)]; rfl
            · rw [← hxv, ← hyv]
              exact dv_gt (p := k - 1) (by omega) (fun j _ => md_lt fx j) (fun j h4 h5 => (h3 j (by omega) h5).symm) (by rw [← hxk, ← hyk]; omega)
      · right
        rw [if_neg hz]
        refine ⟨_, rfl, ?_⟩
        rcases hc with (h | h) | ⟨h1, _⟩
        · exact Or.inl h
        · exact Or.inr (Or.inr h)
        · exact absurd h1 hz
  · rcases Nat.lt_trichotomy a b with h | h | h
    · left; left
      refine ⟨pk_sneg (by omega) h, ?_⟩
      have q1 := dv_lt (d := md fx) (n := a) (fun k _ => md_lt fx k)
      have q2 := dv_pos (d := md fy) (n := b) (by omega) (hyt (by omega))
      have q3 : BB ^ a ≤ BB ^ (b - 1) := Nat.pow_le_pow_right (by decide) (by omega)
      omega
    · right
      refine ⟨?_, h, fun j h1 h2 => by omega⟩
      rw [h, pk_sub (Nat.le_refl _), Nat.sub_self]; rfl
    · left; right
      refine ⟨?_, ?_⟩
      · rw [pk_sub (by omega)]
        exact (nlt (a := 0) (by omega) (by omega)).mpr (by omega)
      · have q1 := dv_lt (d := md fy) (n := b) (fun k _ => md_lt fy k)
        have q2 := dv_pos (d := md fx) (n := a) (by omega) (hxt (by omega))
        have q3 : BB ^ b ≤ BB ^ (a - 1) := Nat.pow_le_pow_right (by decide) (by omega)
        omega
