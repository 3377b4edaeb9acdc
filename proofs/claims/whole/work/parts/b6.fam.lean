/-! the numbers of Shares as a family: cells by index, values by a function -/
def uN (v : Nat → Nat) (i x : Nat) : Nat → Nat := fun j => if j = i then x else v j
theorem uN_s (v : Nat → Nat) (i x : Nat) : uN v i x i = x := if_pos rfl
theorem uN_n {v : Nat → Nat} {i j x : Nat} (h : j ≠ i) : uN v i x j = v j := if_neg h
def pJ (j : Nat) : Bool := (decide (64 ≤ j) && decide (j < 86)) || (decide (j < 64) && !((j % 16).testBit (j / 16)))
def J0 : List Nat := (List.range 86).filter pJ
def nwJ (j : Nat) : Nat := if j < 64 then 42 else if j = 64 then 1 else 168
theorem nwJ_ok (j : Nat) : 1 ≤ nwJ j ∧ nwJ j ≤ 168 := by
  unfold nwJ
  split
  · omega
  · split <;> omega
theorem J0_mem {j : Nat} (h : pJ j = true) : j ∈ J0 := by
  refine List.mem_filter.mpr ⟨List.mem_range.mpr ?_, h⟩
  unfold pJ at h
  simp only [Bool.or_eq_true, Bool.and_eq_true, decide_eq_true_eq] at h
  omega
theorem J0_nd : J0.Nodup := List.Pairwise.filter _ List.nodup_range
/-- as many words as a number has -/
def wlen (x : Nat) : Nat := if x = 0 then 0 else x.log2 / 32 + 1
theorem wlen_lt (x : Nat) : x < BB ^ wlen x := by
  unfold wlen
  split
  · rename_i h; rw [h]; decide
  · rw [show BB = 2 ^ 32 from rfl, ← Nat.pow_mul]
    refine Nat.lt_of_lt_of_le (Nat.lt_log2_self (n := x)) ?_
    exact Nat.pow_le_pow_right (by decide) (by omega)
theorem BR_wlen {n u x : Nat} {f : Nat → Int64} (h : BR n f u x) : u ≤ wlen x := BR_len h (wlen_lt x)
def bcF (G : GG) (ad aw : Nat → Nat) (U : Nat → Int32 × (Nat → Int64)) (j : Nat) : va_W := [(ad j, .inr (0, [.ref (aw j), .int (U j).1])), (aw j, .inl (gJ G, nwJ j, .inr (.inl (U j).2)))]
def SB (G : GG) (ad aw : Nat → Nat) (v : Nat → Nat) : va_W → Nat → Prop := fun wx n => n = 0 ∧ ∃ U : Nat → Int32 × (Nat → Int64), (∀ j ∈ J0, ∃ c, (U j).1 = nI c ∧ BR (nwJ j) (U j).2 c (v j)) ∧ wx = J0.flatMap (bcF G ad aw U)
theorem SB.z {G : GG} {ad aw : Nat → Nat} {v : Nat → Nat} : ∀ wx n, SB G ad aw v wx n → n = 0 := fun _ _ h => h.1
theorem SB.recv {G : GG} {ad aw : Nat → Nat} {v : Nat → Nat} {L : va_W} {i : Nat} (hi : pJ i = true) : ∀ wx n, SB G ad aw v wx n → ∃ fs, ((ad i, .inr (0, fs)) : Nat × va_E) ∈ L ++ wx := by
  rintro wx n ⟨-, U, -, rfl⟩
  exact ⟨_, List.mem_append_right _ (List.mem_flatMap.mpr ⟨i, J0_mem hi, List.mem_cons_self⟩)⟩
theorem fm_congr {r : List Nat} {B B' : Nat → va_W} (h : ∀ k ∈ r, B' k = B k) : r.flatMap B' = r.flatMap B := by
  induction r with
  | nil => rfl
  | cons a r ih => rw [List.flatMap_cons, List.flatMap_cons, h a List.mem_cons_self, ih (fun k hk => h k (List.mem_cons_of_mem _ hk))]
def CtrF (l : Launch) (G : GG) (FB FB' : va_W → Nat → Prop) (y : MethodName) (wsy : List Cond) (rm : Room) (av : List Value) (w : va_W) (post : Option Value → va_W → Prop) : Prop :=
  ∀ (wx : va_W) (n : Nat), FB wx n → Ctr l G y wsy rm av (w ++ wx) (fun v w' => ∃ (w1 wx' : va_W), post v w1 ∧ w' = w1 ++ wx' ∧ FB' wx' n)
section CF
variable {l : Launch} {G : GG} {ad aw : Nat → Nat} {v : Nat → Nat} {y : MethodName} {wsy : List Cond} {rm : Room}
/-- a method that changes one number -/
theorem cf_one {i X : Nat} {av : List Value} {w : va_W} (hi : pJ i = true) (hM : ∀ (u : Nat) (f : Nat → Int64), BR (nwJ i) f u (v i) → ∃ c g, BR (nwJ i) g c X ∧ Ctr l G y wsy rm av (w ++ [(ad i, .inr (0, [.ref (aw i), .int (nI u)])), (aw i, .inl (gJ G, nwJ i, .inr (.inl f)))]) (fun r w' => r = none ∧ w' = w ++ [(ad i, .inr (0, [.ref (aw i), .int (nI c)])), (aw i, .inl (gJ G, nwJ i, .inr (.inl g)))])) :
    CtrF l G (SB G ad aw v) (SB G ad aw (uN v i X)) y wsy rm av w (fun r w' => r = none ∧ w' = w) := by
  rintro wx n ⟨rfl, U, hU, rfl⟩
  obtain ⟨s, t, hst⟩ := List.append_of_mem (J0_mem hi)
  have hpm : J0.Perm (i :: (s ++ t)) := by rw [hst]; exact List.perm_middle
  generalize s ++ t = r at hpm
  have hnd : (i :: r).Nodup := hpm.nodup_iff.mp J0_nd
  have hir := (List.nodup_cons.mp hnd).1
  obtain ⟨c1, e1, b1⟩ := hU i (J0_mem hi)
  obtain ⟨c, g, hg, hC⟩ := hM c1 (U i).2 b1
  have p1 : (w ++ J0.flatMap (bcF G ad aw U)).Perm (r.flatMap (bcF G ad aw U) ++ (w ++ bcF G ad aw U i)) := by
    refine (List.Perm.append_left w (hpm.flatMap_right _)).trans ?_
    rw [List.flatMap_cons, ← List.append_assoc]
    exact List.perm_append_comm
  have e2 : bcF G ad aw U i = [(ad i, .inr (0, [.ref (aw i), .int (nI c1)])), (aw i, .inl (gJ G, nwJ i, .inr (.inl (U i).2)))] := by unfold bcF; rw [e1]
  rw [e2] at p1
  refine ctr_conv p1 hC ?_
  rintro r' w1 ⟨rfl, rfl⟩
  let U' : Nat → Int32 × (Nat → Int64) := fun k => if k = i then (nI c, g) else U k
  have hr' : r.flatMap (bcF G ad aw U') = r.flatMap (bcF G ad aw U) := fm_congr fun k hk => by
    have : k ≠ i := fun z => hir (z ▸ hk)
    unfold bcF
    rw [show U' k = U k from if_neg this]
  have hi' : bcF G ad aw U' i = [(ad i, .inr (0, [.ref (aw i), .int (nI c)])), (aw i, .inl (gJ G, nwJ i, .inr (.inl g)))] := by
    unfold bcF
    rw [show U' i = (nI c, g) from if_pos rfl]
  refine ⟨w ++ J0.flatMap (bcF G ad aw U'), ?_, w, J0.flatMap (bcF G ad aw U'), ⟨rfl, rfl⟩, rfl, rfl, U', fun k hk => ?_, rfl⟩
  · refine List.Perm.trans ?_ (List.Perm.append_left w (hpm.flatMap_right _)).symm
    rw [List.flatMap_cons, hr', hi']
    exact (List.perm_append_comm).trans (by rw [List.append_assoc])
  · by_cases z : k = i
    · subst z
      rw [show U' k = (nI c, g) from if_pos rfl, uN_s]
      exact ⟨c, rfl, hg⟩
    · rw [show U' k = U k from if_neg z, uN_n z]
      exact hU k hk
/-- a method that changes one number by another -/
theorem cf_two {i j X : Nat} {av : List Value} (hi : pJ i = true) (hj : pJ j = true) (hij : i ≠ j) (hM : ∀ (u : Nat) (f : Nat → Int64) (u2 : Nat) (f2 : Nat → Int64), BR (nwJ i) f u (v i) → BR (nwJ j) f2 u2 (v j) → ∃ c g, BR (nwJ i) g c X ∧ Ctr l G y wsy rm av [(ad i, .inr (0, [.ref (aw i), .int (nI u)])), (aw i, .inl (gJ G, nwJ i, .inr (.inl f))), (ad j, .inr (0, [.ref (aw j), .int (nI u2)])), (aw j, .inl (gJ G, nwJ j, .inr (.inl f2)))] (fun r w' => r = none ∧ w' = [(ad i, .inr (0, [.ref (aw i), .int (nI c)])), (aw i, .inl (gJ G, nwJ i, .inr (.inl g))), (ad j, .inr (0, [.ref (aw j), .int (nI u2)])), (aw j, .inl (gJ G, nwJ j, .inr (.inl f2)))])) :
    CtrF l G (SB G ad aw v) (SB G ad aw (uN v i X)) y wsy rm av [] (fun r w' => r = none ∧ w' = []) := by
  rintro wx n ⟨rfl, U, hU, rfl⟩
  obtain ⟨r, hpm⟩ := two_of (J0_mem hi) (J0_mem hj) hij
  have hnd : (i :: j :: r).Nodup := hpm.nodup_iff.mp J0_nd
  have hir := (List.nodup_cons.mp hnd).1
  obtain ⟨c1, e1, b1⟩ := hU i (J0_mem hi)
  obtain ⟨c2, e2, b2⟩ := hU j (J0_mem hj)
  obtain ⟨c, g, hg, hC⟩ := hM c1 (U i).2 c2 (U j).2 b1 b2
  have p1 : ([] ++ J0.flatMap (bcF G ad aw U)).Perm (r.flatMap (bcF G ad aw U) ++ (bcF G ad aw U i ++ bcF G ad aw U j)) := by
    refine (hpm.flatMap_right _).trans ?_
    rw [List.flatMap_cons, List.flatMap_cons, ← List.append_assoc]
    exact List.perm_append_comm
  have e3 : bcF G ad aw U i ++ bcF G ad aw U j = [(ad i, .inr (0, [.ref (aw i), .int (nI c1)])), (aw i, .inl (gJ G, nwJ i, .inr (.inl (U i).2))), (ad j, .inr (0, [.ref (aw j), .int (nI c2)])), (aw j, .inl (gJ G, nwJ j, .inr (.inl (U j).2)))] := by
    unfold bcF
    rw [e1, e2]
    rfl
  rw [e3] at p1
  refine ctr_conv p1 hC ?_
  rintro r' w1 ⟨rfl, rfl⟩
  let U' : Nat → Int32 × (Nat → Int64) := fun k => if k = i then (nI c, g) else U k
  have hr' : r.flatMap (bcF G ad aw U') = r.flatMap (bcF G ad aw U) := fm_congr fun k hk => by
    have : k ≠ i := fun z => hir (by rw [← z]; exact List.mem_cons_of_mem _ hk)
    unfold bcF
    rw [show U' k = U k from if_neg this]
  have hi' : bcF G ad aw U' i ++ bcF G ad aw U' j = [(ad i, .inr (0, [.ref (aw i), .int (nI c)])), (aw i, .inl (gJ G, nwJ i, .inr (.inl g))), (ad j, .inr (0, [.ref (aw j), .int (nI c2)])), (aw j, .inl (gJ G, nwJ j, .inr (.inl (U j).2)))] := by
    unfold bcF
    rw [show U' i = (nI c, g) from if_pos rfl, show U' j = U j from if_neg (fun z => hij z.symm), e2]
    rfl
  refine ⟨J0.flatMap (bcF G ad aw U'), ?_, [], J0.flatMap (bcF G ad aw U'), ⟨rfl, rfl⟩, rfl, rfl, U', fun k hk => ?_, rfl⟩
  · refine List.Perm.trans ?_ (hpm.flatMap_right _).symm
    rw [List.flatMap_cons, List.flatMap_cons, hr', ← List.append_assoc, hi']
    exact List.perm_append_comm
  · by_cases z : k = i
    · subst z
      rw [show U' k = (nI c, g) from if_pos rfl, uN_s]
      exact ⟨c, rfl, hg⟩
    · rw [show U' k = U k from if_neg z, uN_n z]
      exact hU k hk
end CF
def fBec (v : Nat → Nat) (i : Nat) (s : Int32) : Option (Nat → Nat) := if (pJ i && decide (u3 s ≤ 50000)) = true then some (uN v i (u3 s)) else none
def fCop (v : Nat → Nat) (i j : Nat) : Option (Nat → Nat) := if (pJ i && (pJ j && (decide (i ≠ j) && decide (wlen (v j) ≤ nwJ i)))) = true then some (uN v i (v j)) else none
def fMul (v : Nat → Nat) (i j : Nat) : Option (Nat → Nat) := if (pJ i && (pJ j && (decide (i ≠ j) && decide (wlen (v i) + wlen (v j) ≤ nwJ i)))) = true then some (uN v i (v i * v j)) else none
def fAdd (v : Nat → Nat) (i j : Nat) : Option (Nat → Nat) := if (pJ i && (pJ j && (decide (i ≠ j) && decide (max (wlen (v i)) (wlen (v j)) + 1 ≤ nwJ i)))) = true then some (uN v i (v i + v j)) else none
def fSub (v : Nat → Nat) (i j : Nat) : Option (Nat → Nat) := if (pJ i && (pJ j && (decide (i ≠ j) && decide (v j ≤ v i)))) = true then some (uN v i (v i - v j)) else none
theorem ifs {α : Type} {c : Prop} [Decidable c] {a r : α} (h : (if c then some a else none) = some r) : c ∧ a = r := by
  by_cases hc : c
  · rw [if_pos hc] at h; exact ⟨hc, Option.some.inj h⟩
  · rw [if_neg hc] at h; cases h
theorem c_fBec (l : Launch) (G : GG) (ad aw : Nat → Nat) {v v' : Nat → Nat} {i : Nat} {s : Int32} (h : fBec v i s = some v') : pJ i = true ∧ CtrF l G (SB G ad aw v) (SB G ad aw v') yX1_become w2_X1_become rm_X1_become [.ref (ad i), .int s] [] (fun r w' => r = none ∧ w' = []) := by
  obtain ⟨hc, rfl⟩ := ifs h
  simp only [Bool.and_eq_true, decide_eq_true_eq] at hc
  refine ⟨hc.1, cf_one hc.1 ?_⟩
  intro u f hB
  have hn := nwJ_ok i
  obtain ⟨g, m1, m2⟩ := s_become (n := nwJ i) (f := f) (s := u3 s) (iu := nI u) hc.2 hn.1 (by omega)
  rw [nI_u3] at m1
  exact ⟨_, g, m2, c_X1_become l G (ad i) (aw i) (nI u) (nwJ i) f s _ m1⟩
theorem c_fCop (l : Launch) (G : GG) (ad aw : Nat → Nat) {v v' : Nat → Nat} {i j : Nat} (h : fCop v i j = some v') : pJ i = true ∧ CtrF l G (SB G ad aw v) (SB G ad aw v') yX1_copy w2_X1_copy rm_X1_copy [.ref (ad i), .ref (ad j)] [] (fun r w' => r = none ∧ w' = []) := by
  obtain ⟨hc, rfl⟩ := ifs h
  simp only [Bool.and_eq_true, decide_eq_true_eq] at hc
  refine ⟨hc.1, cf_two hc.1 hc.2.1 hc.2.2.1 ?_⟩
  intro u f u2 f2 hB hB2
  have hn := nwJ_ok i
  have hn2 := nwJ_ok j
  obtain ⟨g, m1, m2⟩ := s_copy (n := nwJ i) (f := f) (u := u) hB2 (by have := BR_wlen hB2; omega) (by omega) (by omega)
  exact ⟨_, g, m2, c_X1_copy l G (ad i) (aw i) (ad j) (aw j) (nI u) (nwJ i) f (nI u2) (nwJ j) f2 _ m1⟩
theorem c_fMul (l : Launch) (G : GG) (ad aw : Nat → Nat) {v v' : Nat → Nat} {i j : Nat} (h : fMul v i j = some v') : pJ i = true ∧ CtrF l G (SB G ad aw v) (SB G ad aw v') yX1_times w2_X1_times rm_X1_times [.ref (ad i), .ref (ad j)] [] (fun r w' => r = none ∧ w' = []) := by
  obtain ⟨hc, rfl⟩ := ifs h
  simp only [Bool.and_eq_true, decide_eq_true_eq] at hc
  refine ⟨hc.1, cf_two hc.1 hc.2.1 hc.2.2.1 ?_⟩
  intro u f u2 f2 hB hB2
  have hn := nwJ_ok i
  have hn2 := nwJ_ok j
  obtain ⟨g, c, m1, m2, -⟩ := s_times hB hB2 (by have := BR_wlen hB; have := BR_wlen hB2; omega) (by omega) (by omega)
  exact ⟨_, g, m2, c_X1_times l G (ad i) (aw i) (ad j) (aw j) (nI u) (nwJ i) f (nI u2) (nwJ j) f2 _ m1⟩
theorem c_fAdd (l : Launch) (G : GG) (ad aw : Nat → Nat) {v v' : Nat → Nat} {i j : Nat} (h : fAdd v i j = some v') : pJ i = true ∧ CtrF l G (SB G ad aw v) (SB G ad aw v') yX1_plus w2_X1_plus rm_X1_plus [.ref (ad i), .ref (ad j)] [] (fun r w' => r = none ∧ w' = []) := by
  obtain ⟨hc, rfl⟩ := ifs h
  simp only [Bool.and_eq_true, decide_eq_true_eq] at hc
  refine ⟨hc.1, cf_two hc.1 hc.2.1 hc.2.2.1 ?_⟩
  intro u f u2 f2 hB hB2
  have hn := nwJ_ok i
  have hn2 := nwJ_ok j
  obtain ⟨g, c, m1, m2, -⟩ := s_plus hB hB2 (by have := BR_wlen hB; have := BR_wlen hB2; omega) (by omega) (by omega)
  exact ⟨_, g, m2, c_X1_plus l G (ad i) (aw i) (ad j) (aw j) (nI u) (nwJ i) f (nI u2) (nwJ j) f2 _ m1⟩
theorem c_fSub (l : Launch) (G : GG) (ad aw : Nat → Nat) {v v' : Nat → Nat} {i j : Nat} (h : fSub v i j = some v') : pJ i = true ∧ CtrF l G (SB G ad aw v) (SB G ad aw v') yX1_minus w2_X1_minus rm_X1_minus [.ref (ad i), .ref (ad j)] [] (fun r w' => r = none ∧ w' = []) := by
  obtain ⟨hc, rfl⟩ := ifs h
  simp only [Bool.and_eq_true, decide_eq_true_eq] at hc
  refine ⟨hc.1, cf_two hc.1 hc.2.1 hc.2.2.1 ?_⟩
  intro u f u2 f2 hB hB2
  have hn := nwJ_ok i
  have hn2 := nwJ_ok j
  obtain ⟨g, c, m1, m2, -⟩ := s_minus hB hB2 hc.2.2.2 (by omega) (by omega)
  exact ⟨_, g, m2, c_X1_minus l G (ad i) (aw i) (ad j) (aw j) (nI u) (nwJ i) f (nI u2) (nwJ j) f2 _ m1⟩
