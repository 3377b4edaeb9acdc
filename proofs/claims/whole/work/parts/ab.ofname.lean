/-! Fits: what is kept of names; ofName -/
abbrev En : Type := Nat × (Nat × Nat × Nat × Nat × Nat) × Int32 × (Int32 × (Nat → Int64)) × Int32 × (Nat → Int64)
/-- the five cells of what is kept of a name with a set -/
def ec (G : GG) (e : En) : va_W := [(e.2.1.1, .inr (2, [.ref e.2.1.2.1, .ref e.2.1.2.2.2.1, .int e.2.2.1])), (e.2.1.2.1, .inr (0, [.ref e.2.1.2.2.1, .int e.2.2.2.1.1])), (e.2.1.2.2.1, .inl (gJ G, 6, .inr (.inl e.2.2.2.1.2))), (e.2.1.2.2.2.1, .inr (0, [.ref e.2.1.2.2.2.2, .int e.2.2.2.2.1])), (e.2.1.2.2.2.2, .inl (gJ G, 6, .inr (.inl e.2.2.2.2.2)))]
def EV (cell : Nat → Nat → Nat) (vals : Nat → Nat) (N R w : Nat) (e : En) : Prop := e.2.2.1 = 0 ∨ (e.2.2.1 = 1 ∧ ∃ nm se ca cb, e.1 = 32 * nm + se ∧ nm < N ∧ se < 32 ∧ se / 2 ^ nm % 2 = 0 ∧ e.2.2.2.1.1 = nI ca ∧ e.2.2.2.2.1 = nI cb ∧ BR 6 e.2.2.2.1.2 ca (fitT cell vals N R w nm se) ∧ BR 6 e.2.2.2.2.2 cb (fitL cell vals N R w nm se))
/-- the array of what is kept, and the list of it -/
def MO (M : List En) (h : Nat → Option Nat) : Prop := (∀ e ∈ M, h e.1 = some e.2.1.1 ∧ e.1 < 160) ∧ (∀ i f, h i = some f → ∃ e ∈ M, e.1 = i ∧ e.2.1.1 = f) ∧ (M.map (fun e => e.1)).Nodup
theorem pm_ent {α : Type} {L : va_W} {f : α → va_W} {s t : List α} {e : α} : (L ++ (s ++ e :: t).flatMap f).Perm ((L ++ f e) ++ (s ++ t).flatMap f) := by
  rw [List.flatMap_append, List.flatMap_cons, List.flatMap_append, List.append_assoc]
  refine List.Perm.append_left L ?_
  rw [← List.append_assoc, ← List.append_assoc]
  exact List.Perm.append_right _ List.perm_append_comm
abbrev rm_X2_ofName : Room := { frames := 3, cells := 5, slots := 19, locals := 150 }
/-- the cells that ofName reads and writes, but for those of what is kept -/
def fx (G : GG) (A : Nat → Nat) (N R w : Nat) (ms wg : Int32) (fsv fsc : Nat → Int32) (lg : Int32) (pwf : Nat → Int32) (h : Nat → Option Nat) : va_W := [((A 0), .inr (1, [.ref (A 14), .ref (A 1), .ref (A 3), .ref (A 4), .ref (A 5), .int wg, .ref (A 10), .ref (A 12)])), ((A 14), .inr (7, [.int (nI N), .int (nI R), .int (nI w), .int ms, .ref (A 15), .ref (A 16)])), ((A 15), .inl (gI G, 5, .inl fsv)), ((A 16), .inl (gI G, 16, .inl fsc)), ((A 1), .inr (4, [.ref (A 2), .int lg])), ((A 2), .inl (gI G, 3673, .inl pwf)), ((A 3), .inl (gF G, 160, .inr (.inr (.inr (.inr h)))))]
def OP (G : GG) (A : Nat → Nat) (cell : Nat → Nat → Nat) (vals : Nat → Nat) (N R w : Nat) (ms wg : Int32) (fsv fsc : Nat → Int32) (M : List En) (nm se : Nat) : Option Value → va_W → Nat → Nat → Prop := fun v w' dc ds =>
  ∃ (e : En) (M' : List En) (h' : Nat → Option Nat) (lg' : Nat) (pe' : Nat → Int) (pwf' : Nat → Int32), v = some (.ref e.2.1.1) ∧ w' = fx G A N R w ms wg fsv fsc (nI lg') pwf' h' ++ M'.flatMap (ec G) ∧ PE pe' pwf' lg' ∧ MO M' h' ∧ (∀ e ∈ M', EV cell vals N R w e) ∧ e ∈ M' ∧ e.1 = 32 * nm + se ∧ e.2.2.1 = 1 ∧ (∀ e0 ∈ M, e0.2.2.1 ≠ 0 → e0 ∈ M') ∧ M.length ≤ M'.length ∧ dc = 5 * (M'.length - M.length) ∧ ds = 19 * (M'.length - M.length)
theorem MO.put {s t : List En} {h : Nat → Option Nat} {e e' : En} (hM : MO (s ++ e :: t) h) (h1 : e'.1 = e.1) (h2 : e'.2.1.1 = e.2.1.1) : MO (s ++ e' :: t) h := by
  obtain ⟨m1, m2, m3⟩ := hM
  refine ⟨fun x hx => ?_, fun i f hf => ?_, ?_⟩
  · rcases List.mem_append.mp hx with q | q
    · exact m1 x (List.mem_append_left _ q)
    · rcases List.mem_cons.mp q with q | q
      · subst q
        rw [h1, h2]
        exact m1 e (List.mem_append_right _ List.mem_cons_self)
      · exact m1 x (List.mem_append_right _ (List.mem_cons_of_mem _ q))
  · obtain ⟨x, hx, a1, a2⟩ := m2 i f hf
    rcases List.mem_append.mp hx with q | q
    · exact ⟨x, List.mem_append_left _ q, a1, a2⟩
    · rcases List.mem_cons.mp q with q | q
      · subst q
        exact ⟨e', List.mem_append_right _ List.mem_cons_self, by rw [h1, a1], by rw [h2, a2]⟩
      · exact ⟨x, List.mem_append_right _ (List.mem_cons_of_mem _ q), a1, a2⟩
  · rw [List.map_append, List.map_cons] at m3 ⊢
    rw [h1]
    exact m3
theorem MO.cons {M : List En} {h : Nat → Option Nat} {e : En} (hM : MO M h) (h0 : h e.1 = none) (h1 : e.1 < 160) : MO (e :: M) (va_up h e.1 (some e.2.1.1)) := by
  obtain ⟨m1, m2, m3⟩ := hM
  have hne : ∀ x ∈ M, x.1 ≠ e.1 := fun x hx z => by
    have := (m1 x hx).1
    rw [z, h0] at this
    cases this
  refine ⟨fun x hx => ?_, fun i f hf => ?_, ?_⟩
  · rcases List.mem_cons.mp hx with q | q
    · subst q
      exact ⟨va_up_self _ _ _, h1⟩
    · exact ⟨by rw [va_up_ne _ _ (hne x q)]; exact (m1 x q).1, (m1 x q).2⟩
  · by_cases z : i = e.1
    · subst z
      rw [va_up_self] at hf
      exact ⟨e, List.mem_cons_self, rfl, Option.some.inj hf⟩
    · rw [va_up_ne _ _ z] at hf
      obtain ⟨x, hx, a1, a2⟩ := m2 i f hf
      exact ⟨x, List.mem_cons_of_mem _ hx, a1, a2⟩
  · rw [List.map_cons, List.nodup_cons]
    refine ⟨fun z => ?_, m3⟩
    obtain ⟨x, hx, hxe⟩ := List.mem_map.mp z
    exact hne x hx hxe
set_option maxRecDepth 100000 in
theorem c_X2_ofName (l : Launch) (G : GG) (A : Nat → Nat) (ms wg : Int32) {N R w : Nat} {vals : Nat → Nat} {cell : Nat → Nat → Nat} {fsv fsc pwf : Nat → Int32} {lg : Nat} {pe : Nat → Int} {h : Nat → Option Nat} {M : List En} {nm se : Nat} (hCS : CS N R w vals cell fsv fsc) (hE : PE pe pwf lg) (hM : MO M h) (hV : ∀ e ∈ M, EV cell vals N R w e) (hnm : nm < N) (hse : se < 32) (hb : se / 2 ^ nm % 2 = 0) :
    CtrU l G yX2_ofName w2_X2_ofName rm_X2_ofName [.ref (A 0), .int (nI nm), .int (nI se)] (fx G A N R w ms wg fsv fsc (nI lg) pwf h ++ M.flatMap (ec G)) (OP G A cell vals N R w ms wg fsv fsc M nm se) := by
  have hN := hCS.1
  refine ctrU_entry (cc := cX2_ofName) (maxL := 5) (ret := some (.object "StructureSearch$Fraction")) (lv0 := [(0, .ref (A 0)), (1, .int (nI nm)), (2, .int (nI se))]) (by decide) rfl (Nat.le_of_ble_eq_true rfl) rfl ?_
  intro K hl9 hG9 hk hn9 hrt
  subst hl9
  subst hG9
  have J49 : ∀ (M1 : List En) (h1 : Nat → Option Nat) (ce sl : Nat), MO M1 h1 → (∀ e ∈ M1, EV cell vals N R w e) → (∀ e0 ∈ M, e0.2.2.1 ≠ 0 → e0 ∈ M1) → (∃ e ∈ M1, e.1 = 32 * nm + se) → M.length ≤ M1.length → ce = 5 * (M1.length - M.length) → sl = 19 * (M1.length - M.length) → ce ≤ 5 → sl ≤ 19 → V K 5 ([((A 0), .inr (1, [.ref (A 14), .ref (A 1), .ref (A 3), .ref (A 4), .ref (A 5), .int wg, .ref (A 10), .ref (A 12)])), ((A 14), .inr (7, [.int (nI N), .int (nI R), .int (nI w), .int ms, .ref (A 15), .ref (A 16)])), ((A 15), .inl (gI (kG K), 5, .inl fsv)), ((A 16), .inl (gI (kG K), 16, .inl fsc)), ((A 1), .inr (4, [.ref (A 2), .int (nI lg)])), ((A 2), .inl (gI (kG K), 3673, .inl pwf)), ((A 3), .inl (gF (kG K), 160, .inr (.inr (.inr (.inr h1)))))] ++ M1.flatMap (ec (kG K))) ce sl 49 [(0, .ref (A 0)), (1, .int (nI nm)), (2, .int (nI se)), (3, .int (nI (32 * nm + se)))] [] := by
    intro M1 h1 ce sl hM1 hV1 hin ⟨e, he, hei⟩ hlen hce hsl hc5 hs19
    obtain ⟨s1, t1, rfl⟩ := List.append_of_mem he
    obtain ⟨i0, ⟨aF, aA, aAw, aB, aBw⟩, rd, ⟨ua, fa⟩, ub, fb⟩ := e
    have hei : i0 = 32 * nm + se := hei
    subst hei
    have hh : h1 (32 * nm + se) = some aF := (hM1.1 _ he).1
    refine v_lperm (ws' := [((A 0), .inr (1, [.ref (A 14), .ref (A 1), .ref (A 3), .ref (A 4), .ref (A 5), .int wg, .ref (A 10), .ref (A 12)])), ((A 14), .inr (7, [.int (nI N), .int (nI R), .int (nI w), .int ms, .ref (A 15), .ref (A 16)])), ((A 15), .inl (gI (kG K), 5, .inl fsv)), ((A 16), .inl (gI (kG K), 16, .inl fsc)), ((A 1), .inr (4, [.ref (A 2), .int (nI lg)])), ((A 2), .inl (gI (kG K), 3673, .inl pwf)), ((A 3), .inl (gF (kG K), 160, .inr (.inr (.inr (.inr h1))))), (aF, .inr (2, [.ref aA, .ref aB, .int rd])), (aA, .inr (0, [.ref aAw, .int ua])), (aAw, .inl (gJ (kG K), 6, .inr (.inl fa))), (aB, .inr (0, [.ref aBw, .int ub])), (aBw, .inl (gJ (kG K), 6, .inr (.inl fb)))] ++ (s1 ++ t1).flatMap (ec (kG K))) pm_ent ?_
    refine v_aload_n hk dX2_ofName_49 rfl ?_
    refine v_get (C := RX2) (T := TX2) (N := 8) (ci := 1) (v := .ref (A 3)) hk dX2_ofName_50 w2i_X2_ofName_X20 0 rfl rfl 2 (by decide) (by decide +kernel) rfl rfl ?_
    refine v_iload_n hk dX2_ofName_53 rfl ?_
    refine v_aaldF (v := .ref aF) hk dX2_ofName_54 6 rfl (ix_in (ixn (by omega) (by omega))) (by rw [nI_clamp (by omega), hh]; rfl) ?_
    refine v_astore hk dX2_ofName_55 (by decide) [1, 2, 3, 4, 0] (lv' := [(0, .ref (A 0)), (1, .int (nI nm)), (2, .int (nI se)), (3, .int (nI (32 * nm + se))), (4, .ref aF)]) rfl ?_
    refine v_aload hk dX2_ofName_57 rfl ?_
    refine v_get (C := RX3) (T := TX3) (N := 3) (ci := 2) (v := .int rd) hk dX2_ofName_59 w2i_X2_ofName_X30 7 rfl rfl 2 (by decide) (by decide +kernel) rfl rfl ?_
    refine v_if_ne (tgt := 117) hk dX2_ofName_62 (by decide) (fun hc => ?_) (fun hc => ?_)
    · rcases hV1 _ he with hv | ⟨hv, -⟩
      · exact absurd hv hc
      · refine v_aload hk dX2_ofName_117 rfl ?_
        have hpm : List.Perm (α := Nat × va_E) ([((A 0), .inr (1, [.ref (A 14), .ref (A 1), .ref (A 3), .ref (A 4), .ref (A 5), .int wg, .ref (A 10), .ref (A 12)])), ((A 14), .inr (7, [.int (nI N), .int (nI R), .int (nI w), .int ms, .ref (A 15), .ref (A 16)])), ((A 15), .inl (gI (kG K), 5, .inl fsv)), ((A 16), .inl (gI (kG K), 16, .inl fsc)), ((A 1), .inr (4, [.ref (A 2), .int (nI lg)])), ((A 2), .inl (gI (kG K), 3673, .inl pwf)), ((A 3), .inl (gF (kG K), 160, .inr (.inr (.inr (.inr h1)))))] ++ (s1 ++ ((32 * nm + se, (aF, aA, aAw, aB, aBw), rd, (ua, fa), ub, fb) : En) :: t1).flatMap (ec (kG K))) ([((A 0), .inr (1, [.ref (A 14), .ref (A 1), .ref (A 3), .ref (A 4), .ref (A 5), .int wg, .ref (A 10), .ref (A 12)])), ((A 14), .inr (7, [.int (nI N), .int (nI R), .int (nI w), .int ms, .ref (A 15), .ref (A 16)])), ((A 15), .inl (gI (kG K), 5, .inl fsv)), ((A 16), .inl (gI (kG K), 16, .inl fsc)), ((A 1), .inr (4, [.ref (A 2), .int (nI lg)])), ((A 2), .inl (gI (kG K), 3673, .inl pwf)), ((A 3), .inl (gF (kG K), 160, .inr (.inr (.inr (.inr h1))))), (aF, .inr (2, [.ref aA, .ref aB, .int rd])), (aA, .inr (0, [.ref aAw, .int ua])), (aAw, .inl (gJ (kG K), 6, .inr (.inl fa))), (aB, .inr (0, [.ref aBw, .int ub])), (aBw, .inl (gJ (kG K), 6, .inr (.inl fb)))] ++ (s1 ++ t1).flatMap (ec (kG K))) := pm_ent
        refine v_lperm hpm.symm ?_
        exact hrt (some (.ref aF)) _ _ _ _ _ ⟨(32 * nm + se, (aF, aA, aAw, aB, aBw), rd, (ua, fa), ub, fb), _, h1, lg, pe, pwf, rfl, rfl, hE, hM1, hV1, he, rfl, hv, hin, hlen, hce, hsl⟩ (show ce ≤ 5 by omega) (show sl ≤ 19 by omega) dX2_ofName_119
    · obtain ⟨f1, l2, f2, e2, p1, p2, p3, p4⟩ := t_oname (i4 := ms) hCS hse hnm hb hE
      obtain ⟨⟨ca, ga, w1, b1⟩, cb, gb, w2, b2⟩ := p4 ua ub fa fb
      refine v_aload_n hk dX2_ofName_65 rfl ?_
      refine v_get (C := RX2) (T := TX2) (N := 8) (ci := 1) (v := .ref (A 1)) hk dX2_ofName_66 w2i_X2_ofName_X20 0 rfl rfl 1 (by decide) (by decide +kernel) rfl rfl ?_
      refine v_callVGT (L := [((A 0), .inr (1, [.ref (A 14), .ref (A 1), .ref (A 3), .ref (A 4), .ref (A 5), .int wg, .ref (A 10), .ref (A 12)])), ((A 14), .inr (7, [.int (nI N), .int (nI R), .int (nI w), .int ms, .ref (A 15), .ref (A 16)])), ((A 15), .inl (gI (kG K), 5, .inl fsv)), ((A 16), .inl (gI (kG K), 16, .inl fsc)), ((A 1), .inr (4, [.ref (A 2), .int (nI lg)])), ((A 2), .inl (gI (kG K), 3673, .inl pwf)), ((A 3), .inl (gF (kG K), 160, .inr (.inr (.inr (.inr h1))))), (aF, .inr (2, [.ref aA, .ref aB, .int rd])), (aA, .inr (0, [.ref aAw, .int ua])), (aAw, .inl (gJ (kG K), 6, .inr (.inl fa))), (aB, .inr (0, [.ref aBw, .int ub])), (aBw, .inl (gJ (kG K), 6, .inr (.inl fb)))]) (wx := (s1 ++ t1).flatMap (ec (kG K))) (n := 0) (st := []) (b := (A 1)) (T := TX5) (N := 2) hk dX2_ofName_69 (c_X5_forget (kl K) (kG K) (A 1) (A 2) (nI lg) 3673 pwf (0, f1) p1) rfl gd_X2_ofName_X5_forget rfl (by decide +kernel) ⟨Nat.le_of_ble_eq_true rfl, Nat.le_of_ble_eq_true rfl⟩ ⟨show ce + 0 ≤ 5 by omega, show sl + 0 ≤ 19 by omega⟩ rfl rfl (Nat.le_of_ble_eq_true rfl) 4 rfl rfl (wr := [((A 0), .inr (1, [.ref (A 14), .ref (A 1), .ref (A 3), .ref (A 4), .ref (A 5), .int wg, .ref (A 10), .ref (A 12)])), ((A 14), .inr (7, [.int (nI N), .int (nI R), .int (nI w), .int ms, .ref (A 15), .ref (A 16)])), ((A 15), .inl (gI (kG K), 5, .inl fsv)), ((A 16), .inl (gI (kG K), 16, .inl fsc)), ((A 3), .inl (gF (kG K), 160, .inr (.inr (.inr (.inr h1))))), (aF, .inr (2, [.ref aA, .ref aB, .int rd])), (aA, .inr (0, [.ref aAw, .int ua])), (aAw, .inl (gJ (kG K), 6, .inr (.inl fa))), (aB, .inr (0, [.ref aBw, .int ub])), (aBw, .inl (gJ (kG K), 6, .inr (.inl fb)))]) [0, 1, 2, 3, 6, 7, 8, 9, 10, 11] [4, 5] 12 rfl (by decide) rfl rfl ?_
      intro v9 w9 hp9
      obtain ⟨rfl, rfl⟩ := hp9
      show V K 5 ([((A 0), .inr (1, [.ref (A 14), .ref (A 1), .ref (A 3), .ref (A 4), .ref (A 5), .int wg, .ref (A 10), .ref (A 12)])), ((A 14), .inr (7, [.int (nI N), .int (nI R), .int (nI w), .int ms, .ref (A 15), .ref (A 16)])), ((A 15), .inl (gI (kG K), 5, .inl fsv)), ((A 16), .inl (gI (kG K), 16, .inl fsc)), ((A 3), .inl (gF (kG K), 160, .inr (.inr (.inr (.inr h1))))), (aF, .inr (2, [.ref aA, .ref aB, .int rd])), (aA, .inr (0, [.ref aAw, .int ua])), (aAw, .inl (gJ (kG K), 6, .inr (.inl fa))), (aB, .inr (0, [.ref aBw, .int ub])), (aBw, .inl (gJ (kG K), 6, .inr (.inl fb))), ((A 1), .inr (4, [.ref (A 2), .int 0])), ((A 2), .inl (gI (kG K), 3673, .inl f1))] ++ (s1 ++ t1).flatMap (ec (kG K))) ce sl 72 [(0, .ref (A 0)), (1, .int (nI nm)), (2, .int (nI se)), (3, .int (nI (32 * nm + se))), (4, .ref aF)] []
      refine v_aload_n hk dX2_ofName_72 rfl ?_
      refine v_get (C := RX2) (T := TX2) (N := 8) (ci := 1) (v := .ref (A 14)) hk dX2_ofName_73 w2i_X2_ofName_X20 0 rfl rfl 0 (by decide) (by decide +kernel) rfl rfl ?_
      refine v_iload_n hk dX2_ofName_76 rfl ?_
      refine v_iload_n hk dX2_ofName_77 rfl ?_
      refine v_aload_n hk dX2_ofName_78 rfl ?_
      refine v_get (C := RX2) (T := TX2) (N := 8) (ci := 1) (v := .ref (A 1)) hk dX2_ofName_79 w2i_X2_ofName_X20 0 rfl rfl 1 (by decide) (by decide +kernel) rfl rfl ?_
      refine v_callVGT (L := [((A 0), .inr (1, [.ref (A 14), .ref (A 1), .ref (A 3), .ref (A 4), .ref (A 5), .int wg, .ref (A 10), .ref (A 12)])), ((A 14), .inr (7, [.int (nI N), .int (nI R), .int (nI w), .int ms, .ref (A 15), .ref (A 16)])), ((A 15), .inl (gI (kG K), 5, .inl fsv)), ((A 16), .inl (gI (kG K), 16, .inl fsc)), ((A 3), .inl (gF (kG K), 160, .inr (.inr (.inr (.inr h1))))), (aF, .inr (2, [.ref aA, .ref aB, .int rd])), (aA, .inr (0, [.ref aAw, .int ua])), (aAw, .inl (gJ (kG K), 6, .inr (.inl fa))), (aB, .inr (0, [.ref aBw, .int ub])), (aBw, .inl (gJ (kG K), 6, .inr (.inl fb))), ((A 1), .inr (4, [.ref (A 2), .int 0])), ((A 2), .inl (gI (kG K), 3673, .inl f1))]) (wx := (s1 ++ t1).flatMap (ec (kG K))) (n := 3) (st := []) (b := (A 14)) (T := TX8) (N := 6) hk dX2_ofName_82 (c_X8_pourFit (kl K) (kG K) (A 14) (A 15) (A 16) (A 1) (A 2) (nI N) (nI R) (nI w) ms 5 fsv 16 fsc 0 3673 f1 (nI nm) (nI se) (nI l2, f2) p2) rfl gd_X2_ofName_X8_pourFit rfl (by decide +kernel) ⟨Nat.le_of_ble_eq_true rfl, Nat.le_of_ble_eq_true rfl⟩ ⟨show ce + 0 ≤ 5 by omega, show sl + 0 ≤ 19 by omega⟩ rfl rfl (Nat.le_of_ble_eq_true rfl) 1 rfl rfl (wr := [((A 0), .inr (1, [.ref (A 14), .ref (A 1), .ref (A 3), .ref (A 4), .ref (A 5), .int wg, .ref (A 10), .ref (A 12)])), ((A 3), .inl (gF (kG K), 160, .inr (.inr (.inr (.inr h1))))), (aF, .inr (2, [.ref aA, .ref aB, .int rd])), (aA, .inr (0, [.ref aAw, .int ua])), (aAw, .inl (gJ (kG K), 6, .inr (.inl fa))), (aB, .inr (0, [.ref aBw, .int ub])), (aBw, .inl (gJ (kG K), 6, .inr (.inl fb)))]) [0, 4, 5, 6, 7, 8, 9] [1, 2, 3, 10, 11] 12 rfl (by decide) rfl rfl ?_
      intro v9 w9 hp9
      obtain ⟨rfl, rfl⟩ := hp9
      show V K 5 ([((A 0), .inr (1, [.ref (A 14), .ref (A 1), .ref (A 3), .ref (A 4), .ref (A 5), .int wg, .ref (A 10), .ref (A 12)])), ((A 3), .inl (gF (kG K), 160, .inr (.inr (.inr (.inr h1))))), (aF, .inr (2, [.ref aA, .ref aB, .int rd])), (aA, .inr (0, [.ref aAw, .int ua])), (aAw, .inl (gJ (kG K), 6, .inr (.inl fa))), (aB, .inr (0, [.ref aBw, .int ub])), (aBw, .inl (gJ (kG K), 6, .inr (.inl fb))), ((A 14), .inr (7, [.int (nI N), .int (nI R), .int (nI w), .int ms, .ref (A 15), .ref (A 16)])), ((A 15), .inl (gI (kG K), 5, .inl fsv)), ((A 16), .inl (gI (kG K), 16, .inl fsc)), ((A 1), .inr (4, [.ref (A 2), .int (nI l2)])), ((A 2), .inl (gI (kG K), 3673, .inl f2))] ++ (s1 ++ t1).flatMap (ec (kG K))) ce sl 85 [(0, .ref (A 0)), (1, .int (nI nm)), (2, .int (nI se)), (3, .int (nI (32 * nm + se))), (4, .ref aF)] []
      refine v_aload_n hk dX2_ofName_85 rfl ?_
      refine v_get (C := RX2) (T := TX2) (N := 8) (ci := 1) (v := .ref (A 1)) hk dX2_ofName_86 w2i_X2_ofName_X20 0 rfl rfl 1 (by decide) (by decide +kernel) rfl rfl ?_
      refine v_iconst (v := 1) hk dX2_ofName_89 (by decide) ?_
      refine v_aload hk dX2_ofName_90 rfl ?_
      refine v_get (C := RX3) (T := TX3) (N := 3) (ci := 2) (v := .ref aA) hk dX2_ofName_92 w2i_X2_ofName_X30 2 rfl rfl 0 (by decide) (by decide +kernel) rfl rfl ?_
      refine v_callVGT (L := [((A 0), .inr (1, [.ref (A 14), .ref (A 1), .ref (A 3), .ref (A 4), .ref (A 5), .int wg, .ref (A 10), .ref (A 12)])), ((A 3), .inl (gF (kG K), 160, .inr (.inr (.inr (.inr h1))))), (aF, .inr (2, [.ref aA, .ref aB, .int rd])), (aA, .inr (0, [.ref aAw, .int ua])), (aAw, .inl (gJ (kG K), 6, .inr (.inl fa))), (aB, .inr (0, [.ref aBw, .int ub])), (aBw, .inl (gJ (kG K), 6, .inr (.inl fb))), ((A 14), .inr (7, [.int (nI N), .int (nI R), .int (nI w), .int ms, .ref (A 15), .ref (A 16)])), ((A 15), .inl (gI (kG K), 5, .inl fsv)), ((A 16), .inl (gI (kG K), 16, .inl fsc)), ((A 1), .inr (4, [.ref (A 2), .int (nI l2)])), ((A 2), .inl (gI (kG K), 3673, .inl f2))]) (wx := (s1 ++ t1).flatMap (ec (kG K))) (n := 2) (st := []) (b := (A 1)) (T := TX5) (N := 2) hk dX2_ofName_95 (c_X5_write (kl K) (kG K) (A 1) (A 2) aA aAw (nI l2) 3673 f2 ua 6 fa 1 (nI ca, ga) w1) rfl gd_X2_ofName_X5_write rfl (by decide +kernel) ⟨Nat.le_of_ble_eq_true rfl, Nat.le_of_ble_eq_true rfl⟩ ⟨show ce + 0 ≤ 5 by omega, show sl + 0 ≤ 19 by omega⟩ rfl rfl (Nat.le_of_ble_eq_true rfl) 10 rfl rfl (wr := [((A 0), .inr (1, [.ref (A 14), .ref (A 1), .ref (A 3), .ref (A 4), .ref (A 5), .int wg, .ref (A 10), .ref (A 12)])), ((A 3), .inl (gF (kG K), 160, .inr (.inr (.inr (.inr h1))))), (aF, .inr (2, [.ref aA, .ref aB, .int rd])), (aB, .inr (0, [.ref aBw, .int ub])), (aBw, .inl (gJ (kG K), 6, .inr (.inl fb))), ((A 14), .inr (7, [.int (nI N), .int (nI R), .int (nI w), .int ms, .ref (A 15), .ref (A 16)])), ((A 15), .inl (gI (kG K), 5, .inl fsv)), ((A 16), .inl (gI (kG K), 16, .inl fsc))]) [0, 1, 2, 5, 6, 7, 8, 9] [10, 11, 3, 4] 12 rfl (by decide) rfl rfl ?_
      intro v9 w9 hp9
      obtain ⟨rfl, rfl⟩ := hp9
      show V K 5 ([((A 0), .inr (1, [.ref (A 14), .ref (A 1), .ref (A 3), .ref (A 4), .ref (A 5), .int wg, .ref (A 10), .ref (A 12)])), ((A 3), .inl (gF (kG K), 160, .inr (.inr (.inr (.inr h1))))), (aF, .inr (2, [.ref aA, .ref aB, .int rd])), (aB, .inr (0, [.ref aBw, .int ub])), (aBw, .inl (gJ (kG K), 6, .inr (.inl fb))), ((A 14), .inr (7, [.int (nI N), .int (nI R), .int (nI w), .int ms, .ref (A 15), .ref (A 16)])), ((A 15), .inl (gI (kG K), 5, .inl fsv)), ((A 16), .inl (gI (kG K), 16, .inl fsc)), ((A 1), .inr (4, [.ref (A 2), .int (nI l2)])), ((A 2), .inl (gI (kG K), 3673, .inl f2)), (aA, .inr (0, [.ref aAw, .int (nI ca)])), (aAw, .inl (gJ (kG K), 6, .inr (.inl ga)))] ++ (s1 ++ t1).flatMap (ec (kG K))) ce sl 98 [(0, .ref (A 0)), (1, .int (nI nm)), (2, .int (nI se)), (3, .int (nI (32 * nm + se))), (4, .ref aF)] []
      refine v_aload_n hk dX2_ofName_98 rfl ?_
      refine v_get (C := RX2) (T := TX2) (N := 8) (ci := 1) (v := .ref (A 1)) hk dX2_ofName_99 w2i_X2_ofName_X20 0 rfl rfl 1 (by decide) (by decide +kernel) rfl rfl ?_
      refine v_iconst (v := (-1)) hk dX2_ofName_102 (by decide) ?_
      refine v_aload hk dX2_ofName_103 rfl ?_
      refine v_get (C := RX3) (T := TX3) (N := 3) (ci := 2) (v := .ref aB) hk dX2_ofName_105 w2i_X2_ofName_X30 2 rfl rfl 1 (by decide) (by decide +kernel) rfl rfl ?_
      refine v_callVGT (L := [((A 0), .inr (1, [.ref (A 14), .ref (A 1), .ref (A 3), .ref (A 4), .ref (A 5), .int wg, .ref (A 10), .ref (A 12)])), ((A 3), .inl (gF (kG K), 160, .inr (.inr (.inr (.inr h1))))), (aF, .inr (2, [.ref aA, .ref aB, .int rd])), (aB, .inr (0, [.ref aBw, .int ub])), (aBw, .inl (gJ (kG K), 6, .inr (.inl fb))), ((A 14), .inr (7, [.int (nI N), .int (nI R), .int (nI w), .int ms, .ref (A 15), .ref (A 16)])), ((A 15), .inl (gI (kG K), 5, .inl fsv)), ((A 16), .inl (gI (kG K), 16, .inl fsc)), ((A 1), .inr (4, [.ref (A 2), .int (nI l2)])), ((A 2), .inl (gI (kG K), 3673, .inl f2)), (aA, .inr (0, [.ref aAw, .int (nI ca)])), (aAw, .inl (gJ (kG K), 6, .inr (.inl ga)))]) (wx := (s1 ++ t1).flatMap (ec (kG K))) (n := 2) (st := []) (b := (A 1)) (T := TX5) (N := 2) hk dX2_ofName_108 (c_X5_write (kl K) (kG K) (A 1) (A 2) aB aBw (nI l2) 3673 f2 ub 6 fb (-1) (nI cb, gb) w2) rfl gd_X2_ofName_X5_write rfl (by decide +kernel) ⟨Nat.le_of_ble_eq_true rfl, Nat.le_of_ble_eq_true rfl⟩ ⟨show ce + 0 ≤ 5 by omega, show sl + 0 ≤ 19 by omega⟩ rfl rfl (Nat.le_of_ble_eq_true rfl) 8 rfl rfl (wr := [((A 0), .inr (1, [.ref (A 14), .ref (A 1), .ref (A 3), .ref (A 4), .ref (A 5), .int wg, .ref (A 10), .ref (A 12)])), ((A 3), .inl (gF (kG K), 160, .inr (.inr (.inr (.inr h1))))), (aF, .inr (2, [.ref aA, .ref aB, .int rd])), ((A 14), .inr (7, [.int (nI N), .int (nI R), .int (nI w), .int ms, .ref (A 15), .ref (A 16)])), ((A 15), .inl (gI (kG K), 5, .inl fsv)), ((A 16), .inl (gI (kG K), 16, .inl fsc)), (aA, .inr (0, [.ref aAw, .int (nI ca)])), (aAw, .inl (gJ (kG K), 6, .inr (.inl ga)))]) [0, 1, 2, 5, 6, 7, 10, 11] [8, 9, 3, 4] 12 rfl (by decide) rfl rfl ?_
      intro v9 w9 hp9
      obtain ⟨rfl, rfl⟩ := hp9
      show V K 5 ([((A 0), .inr (1, [.ref (A 14), .ref (A 1), .ref (A 3), .ref (A 4), .ref (A 5), .int wg, .ref (A 10), .ref (A 12)])), ((A 3), .inl (gF (kG K), 160, .inr (.inr (.inr (.inr h1))))), (aF, .inr (2, [.ref aA, .ref aB, .int rd])), ((A 14), .inr (7, [.int (nI N), .int (nI R), .int (nI w), .int ms, .ref (A 15), .ref (A 16)])), ((A 15), .inl (gI (kG K), 5, .inl fsv)), ((A 16), .inl (gI (kG K), 16, .inl fsc)), (aA, .inr (0, [.ref aAw, .int (nI ca)])), (aAw, .inl (gJ (kG K), 6, .inr (.inl ga))), ((A 1), .inr (4, [.ref (A 2), .int (nI l2)])), ((A 2), .inl (gI (kG K), 3673, .inl f2)), (aB, .inr (0, [.ref aBw, .int (nI cb)])), (aBw, .inl (gJ (kG K), 6, .inr (.inl gb)))] ++ (s1 ++ t1).flatMap (ec (kG K))) ce sl 111 [(0, .ref (A 0)), (1, .int (nI nm)), (2, .int (nI se)), (3, .int (nI (32 * nm + se))), (4, .ref aF)] []
      refine v_aload hk dX2_ofName_111 rfl ?_
      refine v_iconst (v := 1) hk dX2_ofName_113 (by decide) ?_
      refine v_put (C := RX3) (T := TX3) (N := 3) (ci := 2) (v := .int 1) (ty := .boolean) hk dX2_ofName_114 w2i_X2_ofName_X30 tyX3 tyX3_ok nmX3 2 rfl rfl 2 (by decide) (by decide +kernel) rfl rfl (by decide +kernel) rfl rfl (Nat.le_of_ble_eq_true rfl) (ws' := [((A 0), .inr (1, [.ref (A 14), .ref (A 1), .ref (A 3), .ref (A 4), .ref (A 5), .int wg, .ref (A 10), .ref (A 12)])), ((A 3), .inl (gF (kG K), 160, .inr (.inr (.inr (.inr h1))))), (aF, .inr (2, [.ref aA, .ref aB, .int 1])), ((A 14), .inr (7, [.int (nI N), .int (nI R), .int (nI w), .int ms, .ref (A 15), .ref (A 16)])), ((A 15), .inl (gI (kG K), 5, .inl fsv)), ((A 16), .inl (gI (kG K), 16, .inl fsc)), (aA, .inr (0, [.ref aAw, .int (nI ca)])), (aAw, .inl (gJ (kG K), 6, .inr (.inl ga))), ((A 1), .inr (4, [.ref (A 2), .int (nI l2)])), ((A 2), .inl (gI (kG K), 3673, .inl f2)), (aB, .inr (0, [.ref aBw, .int (nI cb)])), (aBw, .inl (gJ (kG K), 6, .inr (.inl gb)))] ++ (s1 ++ t1).flatMap (ec (kG K))) rfl ?_
      refine v_aload hk dX2_ofName_117 rfl ?_
      refine v_lperm (ws' := [((A 0), .inr (1, [.ref (A 14), .ref (A 1), .ref (A 3), .ref (A 4), .ref (A 5), .int wg, .ref (A 10), .ref (A 12)])), ((A 14), .inr (7, [.int (nI N), .int (nI R), .int (nI w), .int ms, .ref (A 15), .ref (A 16)])), ((A 15), .inl (gI (kG K), 5, .inl fsv)), ((A 16), .inl (gI (kG K), 16, .inl fsc)), ((A 1), .inr (4, [.ref (A 2), .int (nI l2)])), ((A 2), .inl (gI (kG K), 3673, .inl f2)), ((A 3), .inl (gF (kG K), 160, .inr (.inr (.inr (.inr h1))))), (aF, .inr (2, [.ref aA, .ref aB, .int 1])), (aA, .inr (0, [.ref aAw, .int (nI ca)])), (aAw, .inl (gJ (kG K), 6, .inr (.inl ga))), (aB, .inr (0, [.ref aBw, .int (nI cb)])), (aBw, .inl (gJ (kG K), 6, .inr (.inl gb)))] ++ (s1 ++ t1).flatMap (ec (kG K))) (List.Perm.append_right _ (perm_ixn [0, 3, 4, 5, 8, 9, 1, 2, 6, 7, 10, 11] 12 rfl (by decide) rfl)) ?_
      have hpm : List.Perm (α := Nat × va_E) ([((A 0), .inr (1, [.ref (A 14), .ref (A 1), .ref (A 3), .ref (A 4), .ref (A 5), .int wg, .ref (A 10), .ref (A 12)])), ((A 14), .inr (7, [.int (nI N), .int (nI R), .int (nI w), .int ms, .ref (A 15), .ref (A 16)])), ((A 15), .inl (gI (kG K), 5, .inl fsv)), ((A 16), .inl (gI (kG K), 16, .inl fsc)), ((A 1), .inr (4, [.ref (A 2), .int (nI l2)])), ((A 2), .inl (gI (kG K), 3673, .inl f2)), ((A 3), .inl (gF (kG K), 160, .inr (.inr (.inr (.inr h1)))))] ++ (s1 ++ ((32 * nm + se, (aF, aA, aAw, aB, aBw), 1, (nI ca, ga), nI cb, gb) : En) :: t1).flatMap (ec (kG K))) ([((A 0), .inr (1, [.ref (A 14), .ref (A 1), .ref (A 3), .ref (A 4), .ref (A 5), .int wg, .ref (A 10), .ref (A 12)])), ((A 14), .inr (7, [.int (nI N), .int (nI R), .int (nI w), .int ms, .ref (A 15), .ref (A 16)])), ((A 15), .inl (gI (kG K), 5, .inl fsv)), ((A 16), .inl (gI (kG K), 16, .inl fsc)), ((A 1), .inr (4, [.ref (A 2), .int (nI l2)])), ((A 2), .inl (gI (kG K), 3673, .inl f2)), ((A 3), .inl (gF (kG K), 160, .inr (.inr (.inr (.inr h1))))), (aF, .inr (2, [.ref aA, .ref aB, .int 1])), (aA, .inr (0, [.ref aAw, .int (nI ca)])), (aAw, .inl (gJ (kG K), 6, .inr (.inl ga))), (aB, .inr (0, [.ref aBw, .int (nI cb)])), (aBw, .inl (gJ (kG K), 6, .inr (.inl gb)))] ++ (s1 ++ t1).flatMap (ec (kG K))) := pm_ent
      refine v_lperm hpm.symm ?_
      refine hrt (some (.ref aF)) _ _ _ _ _ ⟨((32 * nm + se, (aF, aA, aAw, aB, aBw), 1, (nI ca, ga), nI cb, gb) : En), s1 ++ ((32 * nm + se, (aF, aA, aAw, aB, aBw), 1, (nI ca, ga), nI cb, gb) : En) :: t1, h1, l2, e2, f2, rfl, rfl, p3, hM1.put rfl rfl, ?_, List.mem_append_right _ List.mem_cons_self, rfl, rfl, ?_, ?_, ?_, ?_⟩ (show ce ≤ 5 by omega) (show sl ≤ 19 by omega) dX2_ofName_119
      · intro x hx
        rcases List.mem_append.mp hx with q | q
        · exact hV1 x (List.mem_append_left _ q)
        · rcases List.mem_cons.mp q with q | q
          · subst q
            exact Or.inr ⟨rfl, nm, se, ca, cb, rfl, hnm, hse, hb, rfl, rfl, b1, b2⟩
          · exact hV1 x (List.mem_append_right _ (List.mem_cons_of_mem _ q))
      · intro e0 he0 hr0
        rcases List.mem_append.mp (hin e0 he0 hr0) with q | q
        · exact List.mem_append_left _ q
        · rcases List.mem_cons.mp q with q | q
          · subst q
            exact absurd hc hr0
          · exact List.mem_append_right _ (List.mem_cons_of_mem _ q)
      · rw [List.length_append, List.length_cons] at hlen ⊢
        exact hlen
      · rw [hce, List.length_append, List.length_append, List.length_cons, List.length_cons]
      · rw [hsl, List.length_append, List.length_append, List.length_cons, List.length_cons]
  show V K 5 ([((A 0), .inr (1, [.ref (A 14), .ref (A 1), .ref (A 3), .ref (A 4), .ref (A 5), .int wg, .ref (A 10), .ref (A 12)])), ((A 14), .inr (7, [.int (nI N), .int (nI R), .int (nI w), .int ms, .ref (A 15), .ref (A 16)])), ((A 15), .inl (gI (kG K), 5, .inl fsv)), ((A 16), .inl (gI (kG K), 16, .inl fsc)), ((A 1), .inr (4, [.ref (A 2), .int (nI lg)])), ((A 2), .inl (gI (kG K), 3673, .inl pwf)), ((A 3), .inl (gF (kG K), 160, .inr (.inr (.inr (.inr h)))))] ++ M.flatMap (ec (kG K))) 0 0 0 [(0, .ref (A 0)), (1, .int (nI nm)), (2, .int (nI se))] []
  refine v_iload_n hk dX2_ofName_0 rfl ?_
  refine v_bipush (v := 32) hk dX2_ofName_1 (by decide) ?_
  refine v_imul hk dX2_ofName_3 ?_
  refine v_iload_n hk dX2_ofName_4 rfl ?_
  refine v_iadd hk dX2_ofName_5 ?_
  refine v_topi (y := nI (32 * nm + se)) (by rw [show (32 : Int32) = nI 32 from rfl, nI_mulm, nI_add, Nat.mul_comm]) ?_
  refine v_istore_n hk dX2_ofName_6 rfl (by decide) [1, 2, 3, 0] (lv' := [(0, .ref (A 0)), (1, .int (nI nm)), (2, .int (nI se)), (3, .int (nI (32 * nm + se)))]) rfl ?_
  refine v_iload_n hk dX2_ofName_7 rfl ?_
  refine v_if_lt (tgt := 20) hk dX2_ofName_8 (by decide) (fun hc => absurd hc (nI_pos (by omega))) (fun _ => ?_)
  refine v_iload_n hk dX2_ofName_11 rfl ?_
  refine v_aload_n hk dX2_ofName_12 rfl ?_
  refine v_get (C := RX2) (T := TX2) (N := 8) (ci := 1) (v := .ref (A 3)) hk dX2_ofName_13 w2i_X2_ofName_X20 0 rfl rfl 2 (by decide) (by decide +kernel) rfl rfl ?_
  refine v_alenF hk dX2_ofName_16 6 rfl rfl ?_
  refine v_icmp_lt (tgt := 25) hk dX2_ofName_17 (by decide) (fun _ => ?_) (fun hc => absurd ((nlt (by omega) (by omega)).mpr (by omega)) hc)
  refine v_aload_n hk dX2_ofName_25 rfl ?_
  refine v_get (C := RX2) (T := TX2) (N := 8) (ci := 1) (v := .ref (A 3)) hk dX2_ofName_26 w2i_X2_ofName_X20 0 rfl rfl 2 (by decide) (by decide +kernel) rfl rfl ?_
  refine v_iload_n hk dX2_ofName_29 rfl ?_
  cases hh : h (32 * nm + se) with
  | none =>
    refine v_aaldF (v := .null) hk dX2_ofName_30 6 rfl (ix_in (ixn (by omega) (by omega))) (by rw [nI_clamp (by omega), hh]; rfl) ?_
    refine v_ifnonnullN hk dX2_ofName_31 ?_
    refine v_aload_n hk dX2_ofName_34 rfl ?_
    refine v_get (C := RX2) (T := TX2) (N := 8) (ci := 1) (v := .ref (A 3)) hk dX2_ofName_35 w2i_X2_ofName_X20 0 rfl rfl 2 (by decide) (by decide +kernel) rfl rfl ?_
    refine v_iload_n hk dX2_ofName_38 rfl ?_
    refine v_newT (ci := 2) (fs := [.null, .null, .int 0]) (L := [((A 0), .inr (1, [.ref (A 14), .ref (A 1), .ref (A 3), .ref (A 4), .ref (A 5), .int wg, .ref (A 10), .ref (A 12)])), ((A 14), .inr (7, [.int (nI N), .int (nI R), .int (nI w), .int ms, .ref (A 15), .ref (A 16)])), ((A 15), .inl (gI (kG K), 5, .inl fsv)), ((A 16), .inl (gI (kG K), 16, .inl fsc)), ((A 1), .inr (4, [.ref (A 2), .int (nI lg)])), ((A 2), .inl (gI (kG K), 3673, .inl pwf)), ((A 3), .inl (gF (kG K), 160, .inr (.inr (.inr (.inr h)))))]) (wx := M.flatMap (ec (kG K))) hk dX2_ofName_39 w2i_X2_ofName_X30 tyX3 tyX3_ok (by decide +kernel) (by decide +kernel) (by decide +kernel) rfl (by decide) (show 0 + 1 ≤ 5 by omega) (show 0 + 3 ≤ 19 by omega) (fun q1 => ?_)
    show V K 5 ([((A 0), .inr (1, [.ref (A 14), .ref (A 1), .ref (A 3), .ref (A 4), .ref (A 5), .int wg, .ref (A 10), .ref (A 12)])), ((A 14), .inr (7, [.int (nI N), .int (nI R), .int (nI w), .int ms, .ref (A 15), .ref (A 16)])), ((A 15), .inl (gI (kG K), 5, .inl fsv)), ((A 16), .inl (gI (kG K), 16, .inl fsc)), ((A 1), .inr (4, [.ref (A 2), .int (nI lg)])), ((A 2), .inl (gI (kG K), 3673, .inl pwf)), ((A 3), .inl (gF (kG K), 160, .inr (.inr (.inr (.inr h))))), (q1, .inr (2, [.null, .null, .int 0]))] ++ M.flatMap (ec (kG K))) (0 + 1) (0 + 3) 42 [(0, .ref (A 0)), (1, .int (nI nm)), (2, .int (nI se)), (3, .int (nI (32 * nm + se)))] [.ref q1, .int (nI (32 * nm + se)), .ref (A 3)]
    refine v_dup hk dX2_ofName_42 rfl ?_
    refine v_bipush (v := 6) hk dX2_ofName_43 (by decide) ?_
    refine v_callIGT (L := [((A 0), .inr (1, [.ref (A 14), .ref (A 1), .ref (A 3), .ref (A 4), .ref (A 5), .int wg, .ref (A 10), .ref (A 12)])), ((A 14), .inr (7, [.int (nI N), .int (nI R), .int (nI w), .int ms, .ref (A 15), .ref (A 16)])), ((A 15), .inl (gI (kG K), 5, .inl fsv)), ((A 16), .inl (gI (kG K), 16, .inl fsc)), ((A 1), .inr (4, [.ref (A 2), .int (nI lg)])), ((A 2), .inl (gI (kG K), 3673, .inl pwf)), ((A 3), .inl (gF (kG K), 160, .inr (.inr (.inr (.inr h))))), (q1, .inr (2, [.null, .null, .int 0]))]) (wx := M.flatMap (ec (kG K))) (n := 1) (st := [.ref q1, .int (nI (32 * nm + se)), .ref (A 3)]) (b := q1) hk dX2_ofName_45 (c_X3_init (kl K) (kG K) q1 6 (by omega) (by omega)) rfl gd_X2_ofName_X3_init rfl (by decide +kernel) (by decide +kernel) (by decide +kernel) rfl (by decide +kernel) ⟨Nat.le_of_ble_eq_true rfl, Nat.le_of_ble_eq_true rfl⟩ ⟨show 0 + 1 + 4 ≤ 5 by omega, show 0 + 3 + (2 * (2 + 6)) ≤ 19 by omega⟩ rfl rfl (Nat.le_of_ble_eq_true rfl) (wr := [((A 0), .inr (1, [.ref (A 14), .ref (A 1), .ref (A 3), .ref (A 4), .ref (A 5), .int wg, .ref (A 10), .ref (A 12)])), ((A 14), .inr (7, [.int (nI N), .int (nI R), .int (nI w), .int ms, .ref (A 15), .ref (A 16)])), ((A 15), .inl (gI (kG K), 5, .inl fsv)), ((A 16), .inl (gI (kG K), 16, .inl fsc)), ((A 1), .inr (4, [.ref (A 2), .int (nI lg)])), ((A 2), .inl (gI (kG K), 3673, .inl pwf)), ((A 3), .inl (gF (kG K), 160, .inr (.inr (.inr (.inr h)))))]) [0, 1, 2, 3, 4, 5, 6] [7] 8 rfl (by decide) rfl rfl ?_
    intro v9 w9 hp9
    obtain ⟨rfl, aA, aAw, aB, aBw, rfl⟩ := hp9
    show V K 5 ([((A 0), .inr (1, [.ref (A 14), .ref (A 1), .ref (A 3), .ref (A 4), .ref (A 5), .int wg, .ref (A 10), .ref (A 12)])), ((A 14), .inr (7, [.int (nI N), .int (nI R), .int (nI w), .int ms, .ref (A 15), .ref (A 16)])), ((A 15), .inl (gI (kG K), 5, .inl fsv)), ((A 16), .inl (gI (kG K), 16, .inl fsc)), ((A 1), .inr (4, [.ref (A 2), .int (nI lg)])), ((A 2), .inl (gI (kG K), 3673, .inl pwf)), ((A 3), .inl (gF (kG K), 160, .inr (.inr (.inr (.inr h))))), (q1, .inr (2, [.ref aA, .ref aB, .int 0])), (aA, .inr (0, [.ref aAw, .int 0])), (aAw, .inl (gJ (kG K), 6, .inr (.inl (fun _ => 0)))), (aB, .inr (0, [.ref aBw, .int 0])), (aBw, .inl (gJ (kG K), 6, .inr (.inl (fun _ => 0))))] ++ M.flatMap (ec (kG K))) (0 + 1 + 4) (0 + 3 + (2 * (2 + 6))) 48 [(0, .ref (A 0)), (1, .int (nI nm)), (2, .int (nI se)), (3, .int (nI (32 * nm + se)))] [.ref q1, .int (nI (32 * nm + se)), .ref (A 3)]
    refine v_aastF hk dX2_ofName_48 6 7 rfl rfl rfl (ix_in (ixn (by omega) (by omega))) (ws' := [((A 0), .inr (1, [.ref (A 14), .ref (A 1), .ref (A 3), .ref (A 4), .ref (A 5), .int wg, .ref (A 10), .ref (A 12)])), ((A 14), .inr (7, [.int (nI N), .int (nI R), .int (nI w), .int ms, .ref (A 15), .ref (A 16)])), ((A 15), .inl (gI (kG K), 5, .inl fsv)), ((A 16), .inl (gI (kG K), 16, .inl fsc)), ((A 1), .inr (4, [.ref (A 2), .int (nI lg)])), ((A 2), .inl (gI (kG K), 3673, .inl pwf)), ((A 3), .inl (gF (kG K), 160, .inr (.inr (.inr (.inr (va_up h (32 * nm + se) (some q1))))))), (q1, .inr (2, [.ref aA, .ref aB, .int 0])), (aA, .inr (0, [.ref aAw, .int 0])), (aAw, .inl (gJ (kG K), 6, .inr (.inl (fun _ => 0)))), (aB, .inr (0, [.ref aBw, .int 0])), (aBw, .inl (gJ (kG K), 6, .inr (.inl (fun _ => 0))))] ++ M.flatMap (ec (kG K))) (by rw [nI_clamp (by omega)]; rfl) ?_
    exact J49 (((32 * nm + se, (q1, aA, aAw, aB, aBw), 0, (0, fun _ => 0), 0, fun _ => 0) : En) :: M) _ 5 19 (hM.cons hh (by omega)) (fun e he => by
      rcases List.mem_cons.mp he with z | z
      · subst z; exact Or.inl rfl
      · exact hV e z) (fun e0 he0 _ => List.mem_cons_of_mem _ he0) ⟨_, List.mem_cons_self, rfl⟩ (by rw [List.length_cons]; omega) (by rw [List.length_cons]; omega) (by rw [List.length_cons]; omega) (by omega) (by omega)
  | some f9 =>
    refine v_aaldF (v := .ref f9) hk dX2_ofName_30 6 rfl (ix_in (ixn (by omega) (by omega))) (by rw [nI_clamp (by omega), hh]; rfl) ?_
    refine v_ifnonnull (tgt := 49) hk dX2_ofName_31 (by decide) ?_
    obtain ⟨e0, he0, a1, a2⟩ := hM.2.1 _ _ hh
    exact J49 M h 0 0 hM hV (fun e0 he0 _ => he0) ⟨e0, he0, a1⟩ (Nat.le_refl _) (by omega) (by omega) (by omega) (by omega)
