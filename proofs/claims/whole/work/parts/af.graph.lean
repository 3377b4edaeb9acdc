/-! ofGraph of the class: the FIT of a graph in least terms -/
def lsT (cell : Nat → Nat → Nat) (vals : Nat → Nat) (N R w g : Nat) : Nat := grT cell vals N R w g N / Nat.gcd (grT cell vals N R w g N) (grL cell vals N R w g N)
def lsL (cell : Nat → Nat → Nat) (vals : Nat → Nat) (N R w g : Nat) : Nat := grL cell vals N R w g N / Nat.gcd (grT cell vals N R w g N) (grL cell vals N R w g N)
/-- what is kept of a graph is right -/
def WV (cell : Nat → Nat → Nat) (vals : Nat → Nat) (N R w : Nat) (wg rdw ua : Int32) (fa : Nat → Int64) (ub : Int32) (fb : Nat → Int64) : Prop := rdw = 0 ∨ (rdw = 1 ∧ isG N wg = true ∧ ∃ ca cb, ua = nI ca ∧ ub = nI cb ∧ BR 30 fa ca (lsT cell vals N R w (u3 wg)) ∧ BR 30 fb cb (lsL cell vals N R w (u3 wg)))
section OG
variable {N R w : Nat} {vals : Nat → Nat} {cell : Nat → Nat → Nat} {fsv fsc : Nat → Int32} {ms : Int32}
theorem ls_cap (h : CS N R w vals cell fsv fsc) {g : Nat} (hs : ∀ c, c < N → parN g c 5 / 2 ^ c % 2 = 0) : (0 < grT cell vals N R w g N ∧ 0 < grL cell vals N R w g N ∧ 0 < puT cell vals N R w g N ∧ 0 < puL cell vals N R w g N) ∧ lsT cell vals N R w g = puT cell vals N R w g N / Nat.gcd (puT cell vals N R w g N) (puL cell vals N R w g N) ∧ lsL cell vals N R w g = puL cell vals N R w g N / Nat.gcd (puT cell vals N R w g N) (puL cell vals N R w g N) ∧ lsT cell vals N R w g < BB ^ 30 ∧ lsL cell vals N R w g < BB ^ 30 := by
  obtain ⟨a1, a2⟩ := prF_30 (f := fun c => fitT cell vals N R w c (parN g c 5)) (n := N) (fun r hr => (fit_pos h.ms hr (hs r hr)).1) h.1
  obtain ⟨b1, b2⟩ := prF_30 (f := fun c => fitL cell vals N R w c (parN g c 5)) (n := N) (fun r hr => (fit_pos h.ms hr (hs r hr)).2) h.1
  obtain ⟨c1, _⟩ := prF_30 (f := fun c => numT cell vals N R w c (parN g c 5)) (n := N) (fun r hr => (num_pos h.ms hr (hs r hr)).1) h.1
  obtain ⟨d1, _⟩ := prF_30 (f := fun c => numL cell vals N R w c (parN g c 5)) (n := N) (fun r hr => (num_pos h.ms hr (hs r hr)).2) h.1
  have e := gr_pu h hs N (Nat.le_refl N)
  obtain ⟨l1, l2⟩ := least_same e a1 b1 c1
  exact ⟨⟨a1, b1, c1, d1⟩, l1, l2, Nat.lt_of_le_of_lt (Nat.div_le_self _ _) a2, Nat.lt_of_le_of_lt (Nat.div_le_self _ _) b2⟩
theorem t_ofGraph_in (h : CS N R w vals cell fsv fsc) {g : Nat} (hg : g < 2 ^ 25) (hs : ∀ c, c < N → parN g c 5 / 2 ^ c % 2 = 0) {f : Nat → Int32} (hE : PE zE f 0) :
    ∃ q l e, lp (b_X2_ofGraph_32 (nI N) (nI R) (nI w) ms 5 fsv 16 fsc 3673 (nI g)) FU (0, 0, f) = some q ∧ q.2.1 = nI l ∧ PE e q.2.2 l ∧ Rt2 zE e (puT cell vals N R w g N) (puL cell vals N R w g N) := by
  have hN := h.1
  have L := lp_inv (body := b_X2_ofGraph_32 (nI N) (nI R) (nI w) ms 5 fsv 16 fsc 3673 (nI g)) (fun s => ∃ c l e, s.1 = nI c ∧ c ≤ N ∧ s.2.1 = nI l ∧ PE e s.2.2 l ∧ Rt2 zE e (puT cell vals N R w g c) (puL cell vals N R w g c)) (fun s => ∃ l e, s.2.1 = nI l ∧ PE e s.2.2 l ∧ Rt2 zE e (puT cell vals N R w g N) (puL cell vals N R w g N)) (fun s => N - u3 s.1) ?_ FU (0, 0, f) ⟨0, 0, zE, rfl, Nat.zero_le N, rfl, hE, rt2_one⟩ (Nat.lt_of_le_of_lt (Nat.sub_le _ _) (FU_big (by omega)))
  · obtain ⟨q, eq, l, e, h1, h2, h3⟩ := L
    exact ⟨q, l, e, eq, h1, h2, h3⟩
  · rintro ⟨s1, s2, s3⟩ ⟨c, l, e, e1, hc, e2, hPE, hRt⟩
    dsimp only at e1 e2 hPE
    subst e1 e2
    rw [eb_X2_ofGraph_32]
    by_cases hcN : N ≤ c
    · right
      rw [if_pos ((nle (by omega) (by omega)).mpr hcN)]
      have : c = N := by omega
      subst this
      exact ⟨_, rfl, l, e, rfl, hPE, hRt⟩
    · left
      obtain ⟨l2, f2, e2, m1, m2, m3⟩ := t_pour (i4 := ms) h (parN_lt g c 5) (show c < N by omega) (hs c (by omega)) hPE
      rw [if_neg (fun z => hcN ((nle (by omega) (by omega)).mp z)), t_parentsIn (by omega) (by omega)]
      simp only [Option.bind_some]
      rw [m1]
      simp only [Option.bind_some, lt]
      rw [nI_1]
      refine ⟨_, rfl, ⟨c + 1, l2, e2, rfl, by omega, rfl, m2, ?_⟩, ?_⟩
      · unfold puT puL
        rw [prF, prF]
        exact rt2_comp hRt m3 hPE.two
      · show N - u3 (nI (c + 1)) < N - u3 (nI c)
        rw [u3n (by omega), u3n (by omega)]
        omega
theorem t_ofGraph (h : CS N R w vals cell fsv fsc) {pe : Nat → Int} {pwf : Nat → Int32} {lg : Nat} (hE : PE pe pwf lg) {wg rdw ua ub : Int32} {fa fb : Nat → Int64} (hW : WV cell vals N R w wg rdw ua fa ub fb) {x : Int32} (hx : isG N x = true) :
    ∃ lg' pwf' pe' ca ga cb gb, m_X2_ofGraph wg (nI N) (nI R) (nI w) ms 5 fsv 16 fsc (nI lg) 3673 pwf rdw ua 30 fa ub 30 fb x = some (x, nI lg', pwf', 1, nI ca, ga, nI cb, gb) ∧ PE pe' pwf' lg' ∧ BR 30 ga ca (lsT cell vals N R w (u3 x)) ∧ BR 30 gb cb (lsL cell vals N R w (u3 x)) := by
  have hN := h.1
  obtain ⟨⟨hg, hgo⟩, -⟩ := isG_iff.mp hx
  have hs := self_ok hN hgo
  obtain ⟨⟨p1, p2, p3, p4⟩, e1, e2, c1, c2⟩ := ls_cap h hs
  have hnew : ∃ lg' pwf' pe' ca ga cb gb, (m_X5_forget (nI lg) 3673 pwf).bind (fun r_1 : Int32 × (Nat → Int32) => (lp (b_X2_ofGraph_32 (nI N) (nI R) (nI w) ms 5 fsv 16 fsc 3673 x) FU (0, r_1.1, r_1.2)).bind (fun q_8 : Int32 × Int32 × (Nat → Int32) => (m_X5_write q_8.2.1 3673 q_8.2.2 ua 30 fa 1).bind (fun r_9 : Int32 × (Nat → Int64) => (m_X5_write q_8.2.1 3673 q_8.2.2 ub 30 fb (-1)).bind (fun r_10 : Int32 × (Nat → Int64) => some (x, q_8.2.1, q_8.2.2, (1 : Int32), r_9.1, r_9.2, r_10.1, r_10.2))))) = some (x, nI lg', pwf', 1, nI ca, ga, nI cb, gb) ∧ PE pe' pwf' lg' ∧ BR 30 ga ca (lsT cell vals N R w (u3 x)) ∧ BR 30 gb cb (lsL cell vals N R w (u3 x)) := by
    obtain ⟨f1, m1, q1⟩ := t_pforget hE
    obtain ⟨q, l2, pe2, m2, q2, q3, q4⟩ := t_ofGraph_in (ms := ms) h hg hs q1
    rw [nI_u3] at m2
    obtain ⟨⟨ca, ga, w1, b1⟩, cb, gb, w2, b2⟩ := t_lst (nw := 30) (iu := ua) (iu2 := ub) (fw := fa) (fw2 := fb) q3 q4 p3 p4 (by rw [← e1]; exact c1) (by rw [← e2]; exact c2) (by omega) (by omega)
    refine ⟨l2, q.2.2, pe2, ca, ga, cb, gb, ?_, q3, by rw [e1]; exact b1, by rw [e2]; exact b2⟩
    rw [m1]
    simp only [Option.bind_some]
    rw [m2]
    simp only [Option.bind_some]
    rw [q2, w1]
    simp only [Option.bind_some]
    rw [w2]
    rfl
  rw [em_X2_ofGraph]
  by_cases h0 : rdw = 0
  · rw [if_pos h0]
    exact hnew
  · rw [if_neg h0]
    by_cases hq : wg = x
    · rw [if_pos hq]
      rcases hW with z | ⟨z, _, ca, cb, z1, z2, z3, z4⟩
      · exact absurd z h0
      · subst hq z z1 z2
        exact ⟨lg, pwf, pe, ca, fa, cb, fb, rfl, hE, z3, z4⟩
    · rw [if_neg hq]
      exact hnew
end OG
