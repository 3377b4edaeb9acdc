/-! climbing: the loops -/
section CM
variable {N R w ms : Nat} {vals : Nat → Nat} {cell : Nat → Nat → Nat} {fvalues fcells fsv fsc : Nat → Int32} {i5 i6 : Int32} {fk ftops flows fsmall flarge fone ftwo frest ff fm tA lA tB lB lf rt : Nat → Int32} {g : Nat}
abbrev bsG (cell : Nat → Nat → Nat) (vals : Nat → Nat) (N R w : Nat) (l : List Nat) : Option Nat := bsL (gTo cell vals N R w) (gLo cell vals N R w) l
theorem gL_pos (h : MS N R w vals cell fvalues fcells) {x : Nat} (hx : x < 2 ^ 25 ∧ okA N x) : 0 < gLo cell vals N R w x := (g_cap h (self_ok h.1 hx.2) N (Nat.le_refl N)).2.1
theorem bsG_ok (h : MS N R w vals cell fvalues fcells) {l : List Nat} (hl : ∀ x ∈ l, x < 2 ^ 25 ∧ okA N x) {y : Nat} (hy : bsG cell vals N R w l = some y) : y < 2 ^ 25 ∧ okA N y := hl y ((bsL_spec l (fun x hx => gL_pos h (hl x hx))).2 y hy).1
theorem c_nearI (hC : CS N R w vals cell fsv fsc) (hms : ms ≤ 4) (hg : g < 2 ^ 25 ∧ okA N g) {p : Nat} (hp : p < N) {l : List Nat} (hl : ∀ x ∈ l, x < 2 ^ 25 ∧ okA N x) :
    ∃ z, lp (b_X6_bestNear_18 cell vals N R w (nI ms) (nI g) (nI p)) FU (oI (bsG cell vals N R w l), 0) = some (oI (bsG cell vals N R w (clI N ms g p l N)), z) := by
  have hN := hC.1
  have hM := CS.ms hC
  have L := lp_cn2 (body := b_X6_bestNear_18 cell vals N R w (nI ms) (nI g) (nI p)) (fun n s => s = oI (bsG cell vals N R w (clI N ms g p l n))) (n0 := 0) (n1 := N) (Nat.zero_le _) (by omega) ?_ ?_ (s0 := oI (bsG cell vals N R w l)) rfl
  · obtain ⟨s1, e, h1⟩ := L
    subst h1
    exact ⟨_, e⟩
  · intro s _
    rw [eb_X6_bestNear_18, if_pos ((nle (by omega) (by omega)).mpr (Nat.le_refl _))]
  · intro c s _ hc hs
    subst hs
    have hcl := cl_ok (ms := ms) hN hg hp hl (show c ≤ N by omega)
    have nx : clI N ms g p l (c + 1) = if p ≠ c ∧ acB N ms (chG g p c) = true then chG g p c :: clI N ms g p l c else clI N ms g p l c := rfl
    rw [eb_X6_bestNear_18, if_neg (fun z => by have := (nle (by omega) (by omega)).mp z; omega)]
    by_cases hpc : p = c
    · rw [if_pos (by rw [hpc]), lt, nI_1]
      exact ⟨_, rfl, by rw [nx, if_neg (fun z => z.1 hpc)]⟩
    · have hok := chG_ok hN hg hp hc hpc
      rw [if_neg (fun z => hpc ((neq (by omega) (by omega)).mp z)), arcI (by omega)]
      simp only [Option.bind_some, lt]
      rw [nI_lxor, c_has (by omega) (by omega)]
      simp only [Option.bind_some]
      have fin : ((m_X6_isOpen (nI N) (nI R) (nI w) (nI ms) (nI (chG g p c))).bind (fun r_8 : Int32 => if r_8 = 0 then some (Sum.inl (β := Int32 × Int32) (oI (bsG cell vals N R w (clI N ms g p l c)), nI c + 1)) else (m_X6_better cell vals N R w (nI ms) (nI (chG g p c)) (oI (bsG cell vals N R w (clI N ms g p l c)))).bind (fun r_10 : Int32 => some (.inl (r_10, nI c + 1))))) = some (.inl (oI (bsG cell vals N R w (clI N ms g p l (c + 1))), nI (c + 1))) := by
        rw [c_open hN hms hok]
        simp only [Option.bind_some]
        cases ha : acB N ms (chG g p c) with
        | false =>
          rw [if_pos (show (if false = true then (1 : Int32) else 0) = 0 from rfl), nI_1, nx, if_neg (fun z => by rw [ha] at z; cases z.2)]
        | true =>
          rw [if_neg (show ¬ (if true = true then (1 : Int32) else 0) = 0 by decide), c_better (okG_of hN hok) (fun x hx => okG_of hN (bsG_ok hM hcl hx))]
          simp only [Option.bind_some]
          rw [nI_1, nx, if_pos ⟨hpc, ha⟩]
          rfl
      cases hh : hsB g c p with
      | false =>
        have ech : chG g p c = g ^^^ 2 ^ (5 * p + c) := by unfold chG; rw [hh]; rfl
        rw [if_pos (show (if false = true then (1 : Int32) else 0) = 0 from rfl), ← ech]
        exact ⟨_, fin, rfl⟩
      | true =>
        have ech : chG g p c = (g ^^^ 2 ^ (5 * p + c)) ^^^ 2 ^ (5 * c + p) := by unfold chG; rw [hh]; rfl
        rw [if_neg (show ¬ (if true = true then (1 : Int32) else 0) = 0 by decide), arcI (by omega)]
        simp only [Option.bind_some]
        rw [nI_lxor, ← ech]
        exact ⟨_, fin, rfl⟩
theorem clO_ok (hN : N ≤ 5) (hg : g < 2 ^ 25 ∧ okA N g) {n : Nat} (hn : n ≤ N) : ∀ x ∈ clO N ms g n, x < 2 ^ 25 ∧ okA N x := by
  intro x hx
  obtain ⟨p, c, h1, h2, h3, h4, rfl⟩ := (clO_mem n).mp hx
  exact chG_ok hN hg (by omega) h2 h3
theorem rlO_ok (hN : N ≤ 5) (hg : g < 2 ^ 25 ∧ okA N g) {n : Nat} (hn : n ≤ N) : ∀ x ∈ rlO N ms g n, x < 2 ^ 25 ∧ okA N x := by
  intro x hx
  obtain ⟨p, c, h1, h2, h3, ⟨h4, rfl⟩ | ⟨h4, h5, rfl⟩⟩ := (rlO_mem n).mp hx
  · exact xor_ok hN hg (by omega) h2 h3
  · exact xor_ok hN (xor_ok hN hg (by omega) h2 h3) h2 (by omega) (fun z => h3 z.symm)
theorem rlI_ok (hN : N ≤ 5) (hg : g < 2 ^ 25 ∧ okA N g) {p : Nat} (hp : p < N) {l : List Nat} (hl : ∀ x ∈ l, x < 2 ^ 25 ∧ okA N x) {n : Nat} (hn : n ≤ N) : ∀ x ∈ rlI N ms g p l n, x < 2 ^ 25 ∧ okA N x := by
  intro x hx
  rcases (rlI_mem n).mp hx with q | ⟨c, h2, h3, ⟨h4, rfl⟩ | ⟨h4, h5, rfl⟩⟩
  · exact hl x q
  · exact xor_ok hN hg hp (by omega) h3
  · exact xor_ok hN (xor_ok hN hg hp (by omega) h3) (by omega) hp (fun z => h3 z.symm)
theorem c_near (hC : CS N R w vals cell fsv fsc) (hms : ms ≤ 4) (hg : g < 2 ^ 25 ∧ okA N g) : m_X6_bestNear cell vals N R w (nI ms) (nI g) = some (oI (bsG cell vals N R w (clO N ms g N))) := by
  have hN := hC.1
  have L := lp_cn2 (body := b_X6_bestNear_4 cell vals N R w (nI ms) (nI g)) (fun n s => s = oI (bsG cell vals N R w (clO N ms g n))) (n0 := 0) (n1 := N) (Nat.zero_le _) (by omega) (fun s _ => by rw [eb_X6_bestNear_4, if_pos ((nle (by omega) (by omega)).mpr (Nat.le_refl _))]) (fun p s _ hp hs => by
    subst hs
    obtain ⟨z, ez⟩ := c_nearI hC hms hg hp (clO_ok (ms := ms) hN hg (show p ≤ N by omega))
    rw [eb_X6_bestNear_4, if_neg (fun z => by have := (nle (by omega) (by omega)).mp z; omega), ez]
    simp only [Option.bind_some, lt]
    rw [nI_1]
    exact ⟨_, rfl, rfl⟩) (s0 := (-1 : Int32)) rfl
  obtain ⟨s1, e, h1⟩ := L
  rw [em_X6_bestNear, show ((-1 : Int32), (0 : Int32)) = (-1, nI 0) from rfl, e, h1]
  rfl
abbrev T16 : Type := (Nat → Int32) × (Nat → Int32) × (Nat → Int32) × (Nat → Int32) × (Nat → Int32) × (Nat → Int32) × (Nat → Int32) × (Nat → Int32) × (Nat → Int32) × (Nat → Int32) × (Nat → Int32) × (Nat → Int32) × (Nat → Int32) × (Nat → Int32) × (Nat → Int32) × (Nat → Int32)
theorem tb_arcI : ∀ p, p < 5 → ∀ c, c < 5 → (1 : Int32) <<< (((5 * nI p) + nI c) &&& 31) = nI (2 ^ (5 * p + c)) := by decide +kernel
theorem t_btr (h : MS N R w vals cell fvalues fcells) (hms : ms ≤ 4) (t : T16) (hK : MK cell vals N R w t.1 t.2.1 t.2.2.1) {l : List Nat} (hl : ∀ x ∈ l, x < 2 ^ 25 ∧ okA N x) {x : Nat} (hx : x < 2 ^ 25 ∧ okA N x) :
    ∃ t' : T16, m_X11_better (nI N) (nI R) (nI w) (nI ms) i5 i6 fvalues fcells t.1 t.2.1 t.2.2.1 t.2.2.2.1 t.2.2.2.2.1 t.2.2.2.2.2.1 t.2.2.2.2.2.2.1 t.2.2.2.2.2.2.2.1 t.2.2.2.2.2.2.2.2.1 t.2.2.2.2.2.2.2.2.2.1 t.2.2.2.2.2.2.2.2.2.2.1 t.2.2.2.2.2.2.2.2.2.2.2.1 t.2.2.2.2.2.2.2.2.2.2.2.2.1 t.2.2.2.2.2.2.2.2.2.2.2.2.2.1 t.2.2.2.2.2.2.2.2.2.2.2.2.2.2.1 t.2.2.2.2.2.2.2.2.2.2.2.2.2.2.2 (oI (bsG cell vals N R w l)) (nI x) = some (oI (bsG cell vals N R w ((if acB N ms x = true then [x] else []) ++ l)), t') ∧ MK cell vals N R w t'.1 t'.2.1 t'.2.2.1 := by
  have hN := h.1
  have hx1 := hx.1
  obtain ⟨⟨q1, t'⟩, e, hq1, hK2⟩ := t_better (i5 := i5) (i6 := i6) (fk := t.1) (ftops := t.2.1) (flows := t.2.2.1) (fsmall := t.2.2.2.1) (flarge := t.2.2.2.2.1) (fone := t.2.2.2.2.2.1) (ftwo := t.2.2.2.2.2.2.1) (frest := t.2.2.2.2.2.2.2.1) (ff := t.2.2.2.2.2.2.2.2.1) (fm := t.2.2.2.2.2.2.2.2.2.1) (tA := t.2.2.2.2.2.2.2.2.2.2.1) (lA := t.2.2.2.2.2.2.2.2.2.2.2.1) (tB := t.2.2.2.2.2.2.2.2.2.2.2.2.1) (lB := t.2.2.2.2.2.2.2.2.2.2.2.2.2.1) (lf := t.2.2.2.2.2.2.2.2.2.2.2.2.2.2.1) (rt := t.2.2.2.2.2.2.2.2.2.2.2.2.2.2.2) (i4 := nI ms) (g := x) (b := bsG cell vals N R w l) h hK hx.1 (fun y hy => bsG_ok h hl hy) (bdN x ms N) (fun _ => t_bnd hN (by omega) hms)
  dsimp only at hq1 hK2
  refine ⟨t', ?_, hK2⟩
  rw [e, hq1]
  unfold acB
  by_cases ha : isG N (nI x) = true ∧ bdN x ms N = true
  · rw [if_pos ha, ha.1, ha.2]; rfl
  · rw [if_neg ha, if_neg (fun z => ha (by rw [Bool.and_eq_true] at z; exact z))]; rfl
theorem r_nearI (h : MS N R w vals cell fvalues fcells) (hms : ms ≤ 4) (hg : g < 2 ^ 25 ∧ okA N g) {p : Nat} (hp : p < N) {l : List Nat} (hl : ∀ x ∈ l, x < 2 ^ 25 ∧ okA N x) (t : T16) (hK : MK cell vals N R w t.1 t.2.1 t.2.2.1) :
    ∃ (z : Int32) (t' : T16), lp (b_X11_climb_65 (nI N) (nI R) (nI w) (nI ms) i5 i6 fvalues fcells (nI g) (nI p)) FU (oI (bsG cell vals N R w l), 0, t) = some (oI (bsG cell vals N R w (rlI N ms g p l N)), z, t') ∧ MK cell vals N R w t'.1 t'.2.1 t'.2.2.1 := by
  have hN := h.1
  have L := lp_cg (body := b_X11_climb_65 (nI N) (nI R) (nI w) (nI ms) i5 i6 fvalues fcells (nI g) (nI p)) (fun (s : Int32 × T16) (c : Int32) => (s.1, c, s.2)) (fun n s => s.1 = oI (bsG cell vals N R w (rlI N ms g p l n)) ∧ MK cell vals N R w s.2.1 s.2.2.1 s.2.2.2.1) (n0 := 0) (n1 := N) (Nat.zero_le _) (by omega) ?_ ?_ (s0 := (oI (bsG cell vals N R w l), t)) ⟨rfl, hK⟩
  · obtain ⟨⟨s1, t'⟩, e, h1, h2⟩ := L
    dsimp only at e h1 h2
    subst h1
    exact ⟨_, t', e, h2⟩
  · rintro s -
    rw [eb_X11_climb_65, if_pos ((nle (by omega) (by omega)).mpr (Nat.le_refl _))]
  · rintro c ⟨s1, a1, a2, a3, a4, a5, a6, a7, a8, a9, a10, a11, a12, a13, a14, a15, a16⟩ - hc ⟨hs, hKs⟩
    dsimp only at hs hKs ⊢
    subst hs
    have hcl := rlI_ok (ms := ms) hN hg hp hl (show c ≤ N by omega)
    have nx : rlI N ms g p l (c + 1) = (if (p ≠ c ∧ hsB g p c = true) ∧ acB N ms ((g ^^^ 2 ^ (5 * p + c)) ^^^ 2 ^ (5 * c + p)) = true then [(g ^^^ 2 ^ (5 * p + c)) ^^^ 2 ^ (5 * c + p)] else []) ++ ((if p ≠ c ∧ acB N ms (g ^^^ 2 ^ (5 * p + c)) = true then [g ^^^ 2 ^ (5 * p + c)] else []) ++ rlI N ms g p l c) := rfl
    rw [eb_X11_climb_65, if_neg (fun z => by have := (nle (by omega) (by omega)).mp z; omega)]
    simp only [lt]
    by_cases hpc : p = c
    · rw [if_pos (by rw [hpc]), nI_1]
      refine ⟨(_, _), rfl, ?_, hKs⟩
      rw [nx, if_neg (fun z => z.1.1 hpc), if_neg (fun z => z.1 hpc), List.nil_append, List.nil_append]
      rfl
    · have hok := xor_ok hN hg hp hc hpc
      obtain ⟨t1, e1, K1⟩ := t_btr (i5 := i5) (i6 := i6) h hms (a1, a2, a3, a4, a5, a6, a7, a8, a9, a10, a11, a12, a13, a14, a15, a16) hKs hcl hok
      have n1 : (if p ≠ c ∧ acB N ms (g ^^^ 2 ^ (5 * p + c)) = true then [g ^^^ 2 ^ (5 * p + c)] else []) = if acB N ms (g ^^^ 2 ^ (5 * p + c)) = true then [g ^^^ 2 ^ (5 * p + c)] else [] := by
        by_cases ha : acB N ms (g ^^^ 2 ^ (5 * p + c)) = true
        · rw [if_pos ⟨hpc, ha⟩, if_pos ha]
        · rw [if_neg (fun z => ha z.2), if_neg ha]
      rw [n1] at nx
      dsimp only at e1
      rw [if_neg (fun z => hpc ((neq (by omega) (by omega)).mp z)), tb_arcI p (by omega) c (by omega), tb_arcI c (by omega) p (by omega), nI_lxor, e1]
      simp only [Option.bind_some]
      have hl1 : ∀ x ∈ (if acB N ms (g ^^^ 2 ^ (5 * p + c)) = true then [g ^^^ 2 ^ (5 * p + c)] else []) ++ rlI N ms g p l c, x < 2 ^ 25 ∧ okA N x := by
        intro x hx
        rcases List.mem_append.mp hx with q | q
        · rw [(ite_mem.mp q).2]; exact hok
        · exact hcl x q
      have hbit : (nI g &&& nI (2 ^ (5 * p + c)) = 0) ↔ hsB g p c = false := by
        rw [nI_land, and_pow]
        unfold hsB
        cases hx : g.testBit (5 * p + c) with
        | false => rw [if_neg (by decide)]; exact ⟨fun _ => rfl, fun _ => rfl⟩
        | true =>
          rw [if_pos rfl]
          have tb : ∀ k, k < 25 → ¬ nI (2 ^ k) = (0 : Int32) := by decide
          exact ⟨fun z => absurd z (tb _ (by omega)), fun z => absurd z (by decide)⟩
      cases hh : hsB g p c with
      | false =>
        rw [if_pos (hbit.mpr hh), nI_1]
        refine ⟨(_, _), rfl, ?_, K1⟩
        have z0 : (if (p ≠ c ∧ hsB g p c = true) ∧ acB N ms ((g ^^^ 2 ^ (5 * p + c)) ^^^ 2 ^ (5 * c + p)) = true then [(g ^^^ 2 ^ (5 * p + c)) ^^^ 2 ^ (5 * c + p)] else []) = [] := if_neg (fun z => by rw [hh] at z; exact absurd z.1.2 (by decide))
        rw [nx, z0, List.nil_append]
        rfl
      | true =>
        have hok2 := xor_ok hN hok hc hp (fun z => hpc z.symm)
        obtain ⟨t2, e2, K2⟩ := t_btr (i5 := i5) (i6 := i6) h hms t1 K1 hl1 hok2
        rw [if_neg (fun z => by have := hbit.mp z; rw [hh] at this; cases this), nI_lxor, e2]
        simp only [Option.bind_some]
        rw [nI_1]
        refine ⟨(_, _), rfl, ?_, K2⟩
        have n2 : (if (p ≠ c ∧ hsB g p c = true) ∧ acB N ms ((g ^^^ 2 ^ (5 * p + c)) ^^^ 2 ^ (5 * c + p)) = true then [(g ^^^ 2 ^ (5 * p + c)) ^^^ 2 ^ (5 * c + p)] else []) = if acB N ms ((g ^^^ 2 ^ (5 * p + c)) ^^^ 2 ^ (5 * c + p)) = true then [(g ^^^ 2 ^ (5 * p + c)) ^^^ 2 ^ (5 * c + p)] else [] := by
          by_cases ha : acB N ms ((g ^^^ 2 ^ (5 * p + c)) ^^^ 2 ^ (5 * c + p)) = true
          · rw [if_pos ⟨⟨hpc, hh⟩, ha⟩, if_pos ha]
          · rw [if_neg (fun z => ha z.2), if_neg ha]
        rw [nx, n2]
        rfl
theorem r_near (h : MS N R w vals cell fvalues fcells) (hms : ms ≤ 4) (hg : g < 2 ^ 25 ∧ okA N g) (t : T16) (hK : MK cell vals N R w t.1 t.2.1 t.2.2.1) :
    ∃ (z : Int32) (t' : T16), lp (b_X11_climb_53 (nI N) (nI R) (nI w) (nI ms) i5 i6 fvalues fcells (nI g)) FU (-1, 0, t) = some (oI (bsG cell vals N R w (rlO N ms g N)), z, t') ∧ MK cell vals N R w t'.1 t'.2.1 t'.2.2.1 := by
  have hN := h.1
  have L := lp_cg (body := b_X11_climb_53 (nI N) (nI R) (nI w) (nI ms) i5 i6 fvalues fcells (nI g)) (fun (s : Int32 × T16) (c : Int32) => (s.1, c, s.2)) (fun n s => s.1 = oI (bsG cell vals N R w (rlO N ms g n)) ∧ MK cell vals N R w s.2.1 s.2.2.1 s.2.2.2.1) (n0 := 0) (n1 := N) (Nat.zero_le _) (by omega) ?_ ?_ (s0 := ((-1 : Int32), t)) ⟨rfl, hK⟩
  · obtain ⟨⟨s1, t'⟩, e, h1, h2⟩ := L
    dsimp only at e h1 h2
    subst h1
    exact ⟨_, t', e, h2⟩
  · rintro s -
    rw [eb_X11_climb_53, if_pos ((nle (by omega) (by omega)).mpr (Nat.le_refl _))]
  · rintro p ⟨s1, t1⟩ - hp ⟨hs, hKs⟩
    dsimp only at hs hKs ⊢
    subst hs
    obtain ⟨z, t', e, K⟩ := r_nearI (i5 := i5) (i6 := i6) h hms hg hp (rlO_ok (ms := ms) hN hg (show p ≤ N by omega)) t1 hKs
    have e' : lp (b_X11_climb_65 (nI N) (nI R) (nI w) (nI ms) i5 i6 fvalues fcells (nI g) (nI p)) FU (oI (bsG cell vals N R w (rlO N ms g p)), 0, t1.1, t1.2.1, t1.2.2.1, t1.2.2.2.1, t1.2.2.2.2.1, t1.2.2.2.2.2.1, t1.2.2.2.2.2.2.1, t1.2.2.2.2.2.2.2.1, t1.2.2.2.2.2.2.2.2.1, t1.2.2.2.2.2.2.2.2.2.1, t1.2.2.2.2.2.2.2.2.2.2.1, t1.2.2.2.2.2.2.2.2.2.2.2.1, t1.2.2.2.2.2.2.2.2.2.2.2.2.1, t1.2.2.2.2.2.2.2.2.2.2.2.2.2.1, t1.2.2.2.2.2.2.2.2.2.2.2.2.2.2.1, t1.2.2.2.2.2.2.2.2.2.2.2.2.2.2.2) = _ := e
    show ∃ s', b_X11_climb_53 (nI N) (nI R) (nI w) (nI ms) i5 i6 fvalues fcells (nI g) (oI (bsG cell vals N R w (rlO N ms g p)), nI p, t1.1, t1.2.1, t1.2.2.1, t1.2.2.2.1, t1.2.2.2.2.1, t1.2.2.2.2.2.1, t1.2.2.2.2.2.2.1, t1.2.2.2.2.2.2.2.1, t1.2.2.2.2.2.2.2.2.1, t1.2.2.2.2.2.2.2.2.2.1, t1.2.2.2.2.2.2.2.2.2.2.1, t1.2.2.2.2.2.2.2.2.2.2.2.1, t1.2.2.2.2.2.2.2.2.2.2.2.2.1, t1.2.2.2.2.2.2.2.2.2.2.2.2.2.1, t1.2.2.2.2.2.2.2.2.2.2.2.2.2.2.1, t1.2.2.2.2.2.2.2.2.2.2.2.2.2.2.2) = _ ∧ _
    rw [eb_X11_climb_53, if_neg (fun z => by have := (nle (by omega) (by omega)).mp z; omega), e']
    simp only [Option.bind_some, lt]
    rw [nI_1]
    exact ⟨(_, _), rfl, rfl, K⟩
/-- a step -/
def stG (cell : Nat → Nat → Nat) (vals : Nat → Nat) (N R w ms g : Nat) : Option Nat := match bsG cell vals N R w (clO N ms g N) with
  | none => none
  | some n => if gTo cell vals N R w g * gLo cell vals N R w n < gTo cell vals N R w n * gLo cell vals N R w g then some n else none
def clm (cell : Nat → Nat → Nat) (vals : Nat → Nat) (N R w ms g : Nat) : Nat → Nat
  | 0 => g
  | k + 1 => (stG cell vals N R w ms (clm cell vals N R w ms g k)).getD (clm cell vals N R w ms g k)
theorem stG_ac (h : MS N R w vals cell fvalues fcells) {x y : Nat} (hx : x < 2 ^ 25 ∧ okA N x) (he : stG cell vals N R w ms x = some y) : acB N ms y = true ∧ y < 2 ^ 25 ∧ okA N y := by
  unfold stG at he
  cases hb : bsG cell vals N R w (clO N ms x N) with
  | none => rw [hb] at he; cases he
  | some n =>
    rw [hb] at he
    dsimp only at he
    by_cases hq : gTo cell vals N R w x * gLo cell vals N R w n < gTo cell vals N R w n * gLo cell vals N R w x
    · rw [if_pos hq] at he
      cases he
      have hok := clO_ok (ms := ms) h.1 hx (Nat.le_refl N)
      have hm := ((bsL_spec (clO N ms x N) (fun z hz => gL_pos h (hok z hz))).2 y hb).1
      obtain ⟨p, c, h1, h2, h3, h4, rfl⟩ := (clO_mem N).mp hm
      exact ⟨h4, hok _ hm⟩
    · rw [if_neg hq] at he; cases he
theorem clm_ok (h : MS N R w vals cell fvalues fcells) (hg : g < 2 ^ 25 ∧ okA N g) (hgr : (gro (fun c => parN g c 5) N N).isSome = true) : ∀ k, (clm cell vals N R w ms g k < 2 ^ 25 ∧ okA N (clm cell vals N R w ms g k)) ∧ (gro (fun c => parN (clm cell vals N R w ms g k) c 5) N N).isSome = true := by
  intro k
  induction k with
  | zero => exact ⟨hg, hgr⟩
  | succ k ih =>
    show ((stG cell vals N R w ms (clm cell vals N R w ms g k)).getD (clm cell vals N R w ms g k) < 2 ^ 25 ∧ _) ∧ _
    rw [show clm cell vals N R w ms g (k + 1) = (stG cell vals N R w ms (clm cell vals N R w ms g k)).getD (clm cell vals N R w ms g k) from rfl]
    cases hs : stG cell vals N R w ms (clm cell vals N R w ms g k) with
    | none => exact ih
    | some y =>
      obtain ⟨a1, a2⟩ := stG_ac h ih.1 hs
      refine ⟨a2, ?_⟩
      unfold acB at a1
      rw [Bool.and_eq_true, isG_gro a2] at a1
      exact a1.1
theorem clm_stay {k : Nat} (hs : stG cell vals N R w ms (clm cell vals N R w ms g k) = none) : ∀ m, k ≤ m → clm cell vals N R w ms g m = clm cell vals N R w ms g k := by
  intro m
  induction m with
  | zero => intro h; rw [show k = 0 by omega]
  | succ m ih =>
    intro h
    by_cases e : k = m + 1
    · rw [e]
    · rw [show clm cell vals N R w ms g (m + 1) = (stG cell vals N R w ms (clm cell vals N R w ms g m)).getD (clm cell vals N R w ms g m) from rfl, ih (by omega), hs]
      rfl
end CM
