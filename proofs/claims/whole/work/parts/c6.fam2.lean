/-! the family: methods that change several numbers -/
theorem J0_pm {is : List Nat} (h : ∀ j ∈ is, pJ j = true) (hn : is.Nodup) : ∃ r, J0.Perm (is ++ r) ∧ ∀ k ∈ r, k ∉ is := by
  have key : ∀ (L : List Nat), L.Nodup → ∀ (is : List Nat), is.Nodup → (∀ j ∈ is, j ∈ L) → ∃ r, L.Perm (is ++ r) := by
    intro L hL is
    induction is generalizing L with
    | nil => intro _ _; exact ⟨L, List.Perm.refl L⟩
    | cons a is ih =>
      intro hnd hm
      obtain ⟨s, t, hst⟩ := List.append_of_mem (hm a List.mem_cons_self)
      have hp : L.Perm (a :: (s ++ t)) := by rw [hst]; exact List.perm_middle
      have hnd2 := hp.nodup_iff.mp hL
      obtain ⟨r, hr⟩ := ih (s ++ t) (List.nodup_cons.mp hnd2).2 (List.nodup_cons.mp hnd).2 (fun j hj => by
        have h1 := hp.mem_iff.mp (hm j (List.mem_cons_of_mem _ hj))
        rcases List.mem_cons.mp h1 with q | q
        · exact absurd (q ▸ hj) (List.nodup_cons.mp hnd).1
        · exact q)
      exact ⟨r, hp.trans (List.Perm.cons a hr)⟩
  obtain ⟨r, hr⟩ := key J0 J0_nd is hn (fun j hj => J0_mem (h j hj))
  refine ⟨r, hr, fun k hk hki => ?_⟩
  have hnd := hr.nodup_iff.mp J0_nd
  exact (List.nodup_append.mp hnd).2.2 k hki k hk rfl
theorem cf_gen {l : Launch} {G : GG} {ad aw : Nat → Nat} {y : MethodName} {wsy : List Cond} {rm : Room} {is : List Nat} {v v2 : Nat → Nat} {av : List Value} {rv : Option Value} (h : ∀ j ∈ is, pJ j = true) (hn : is.Nodup) (hout : ∀ k, k ∉ is → v2 k = v k)
    (hM : ∀ U : Nat → Int32 × (Nat → Int64), (∀ j ∈ is, ∃ c, (U j).1 = nI c ∧ BR (nwJ j) (U j).2 c (v j)) → Ctr l G y wsy rm av (is.flatMap (bcF G ad aw U)) (fun r w' => r = rv ∧ ∃ U2 : Nat → Int32 × (Nat → Int64), (∀ j ∈ is, ∃ c, (U2 j).1 = nI c ∧ BR (nwJ j) (U2 j).2 c (v2 j)) ∧ w' = is.flatMap (bcF G ad aw U2))) :
    CtrF l G (SB G ad aw v) (SB G ad aw v2) y wsy rm av [] (fun r w' => r = rv ∧ w' = []) := by
  rintro wx n ⟨rfl, U, hU, rfl⟩
  obtain ⟨r, hpm, hr⟩ := J0_pm h hn
  have hC := hM U (fun j hj => hU j (J0_mem (h j hj)))
  have p1 : ([] ++ J0.flatMap (bcF G ad aw U)).Perm (r.flatMap (bcF G ad aw U) ++ is.flatMap (bcF G ad aw U)) := by
    refine (hpm.flatMap_right _).trans ?_
    rw [List.flatMap_append]
    exact List.perm_append_comm
  refine ctr_conv p1 hC ?_
  rintro r' w1 ⟨rfl, U2, hU2, rfl⟩
  let U' : Nat → Int32 × (Nat → Int64) := fun k => if k ∈ is then U2 k else U k
  have hr' : r.flatMap (bcF G ad aw U') = r.flatMap (bcF G ad aw U) := fm_congr fun k hk => by
    unfold bcF
    rw [show U' k = U k from if_neg (hr k hk)]
  have hi' : is.flatMap (bcF G ad aw U') = is.flatMap (bcF G ad aw U2) := fm_congr fun k hk => by
    unfold bcF
    rw [show U' k = U2 k from if_pos hk]
  refine ⟨J0.flatMap (bcF G ad aw U'), ?_, [], J0.flatMap (bcF G ad aw U'), ⟨rfl, rfl⟩, rfl, rfl, U', fun k hk => ?_, rfl⟩
  · refine List.Perm.trans ?_ (hpm.flatMap_right _).symm
    rw [List.flatMap_append, hr', hi']
    exact List.perm_append_comm
  · by_cases z : k ∈ is
    · rw [show U' k = U2 k from if_pos z]
      exact hU2 k z
    · rw [show U' k = U k from if_neg z, hout k z]
      exact hU k hk
abbrev NW : Type := Int32 × (Nat → Int64)
def sel (i : Nat) (x : NW) (f : Nat → NW) : Nat → NW := fun k => if k = i then x else f k
theorem sel_s (i : Nat) (x : NW) (f : Nat → NW) : sel i x f i = x := if_pos rfl
theorem sel_n {i k : Nat} {x : NW} {f : Nat → NW} (h : k ≠ i) : sel i x f k = f k := if_neg h
def fGcd (v : Nat → Nat) (i j : Nat) : Option (Nat × (Nat → Nat)) := if (pJ i && (pJ j && decide (i ≠ j))) = true then some (if who (v i) (v j) = true then i else j, uN (uN v i (if who (v i) (v j) = true then Nat.gcd (v i) (v j) else 0)) j (if who (v i) (v j) = true then 0 else Nat.gcd (v i) (v j))) else none
theorem c_fGcd (l : Launch) (G : GG) (ad aw : Nat → Nat) {v : Nat → Nat} {i j : Nat} {q : Nat × (Nat → Nat)} (h : fGcd v i j = some q) : CtrF l G (SB G ad aw v) (SB G ad aw q.2) yX1_commonDivisor w2_X1_commonDivisor rm_X1_commonDivisor [.ref (ad i), .ref (ad j)] [] (fun r w' => r = some (.ref (ad q.1)) ∧ w' = []) := by
  obtain ⟨hc, rfl⟩ := ifs h
  simp only [Bool.and_eq_true, decide_eq_true_eq] at hc
  obtain ⟨hi, hj, hij⟩ := hc
  refine cf_gen (is := [i, j]) (by simp [hi, hj]) (by simp [hij]) (fun k hk => ?_) ?_
  · simp only [List.mem_cons, List.not_mem_nil, or_false, not_or] at hk
    dsimp only
    rw [uN_n hk.2, uN_n hk.1]
  · dsimp only
    intro U hU
    obtain ⟨c1, e1, b1⟩ := hU i List.mem_cons_self
    obtain ⟨c2, e2, b2⟩ := hU j (List.mem_cons_of_mem _ List.mem_cons_self)
    have hC := c_X1_commonDivisor l G (ad i) (aw i) (ad j) (aw j) (nwJ i) (nwJ j) c1 c2 (v i) (v j) (U i).2 (U j).2 b1 b2 (nwJ_ok i).2 (nwJ_ok j).2
    have ew : ([i, j].flatMap (bcF G ad aw U) : va_W) = [(ad i, .inr (0, [.ref (aw i), .int (nI c1)])), (aw i, .inl (gJ G, nwJ i, .inr (.inl (U i).2))), (ad j, .inr (0, [.ref (aw j), .int (nI c2)])), (aw j, .inl (gJ G, nwJ j, .inr (.inl (U j).2)))] := by
      show bcF G ad aw U i ++ (bcF G ad aw U j ++ []) = _
      unfold bcF
      rw [e1, e2]
      rfl
    rw [ew]
    refine ctr_conv (wr := []) (List.Perm.refl _) hC ?_
    rintro r w1 ⟨rfl, c1', f1', c2', f2', rfl, b3, b4⟩
    refine ⟨_, List.Perm.refl _, by split <;> rfl, sel i (nI c1', f1') (fun _ => (nI c2', f2')), fun k hk => ?_, ?_⟩
    · rcases List.mem_cons.mp hk with z | z
      · subst z
        rw [sel_s, uN_n hij, uN_s]
        exact ⟨c1', rfl, b3⟩
      · have z := List.mem_singleton.mp z
        subst z
        rw [sel_n (fun q => hij q.symm), uN_s]
        exact ⟨c2', rfl, b4⟩
    · show _ = bcF G ad aw (sel i (nI c1', f1') (fun _ => (nI c2', f2'))) i ++ (bcF G ad aw (sel i (nI c1', f1') (fun _ => (nI c2', f2'))) j ++ [])
      unfold bcF
      rw [sel_s, sel_n (fun q => hij q.symm)]
      rfl
def fRed (v : Nat → Nat) (i j k : Nat) : Option (Nat → Nat) := if (pJ i && (pJ j && (pJ k && (decide (i ≠ j) && (decide (i ≠ k) && (decide (j ≠ k) && (decide (0 < v j) && (decide (v k = 0) && decide (v i < BB ^ (nwJ k - 1)))))))))) = true then some (uN (uN v i (v i % v j)) k (v i / v j)) else none
theorem c_fRed (l : Launch) (G : GG) (ad aw : Nat → Nat) {v v' : Nat → Nat} {i j k : Nat} (h : fRed v i j k = some v') : pJ i = true ∧ CtrF l G (SB G ad aw v) (SB G ad aw v') yX1_reduceBy w2_X1_reduceBy rm_X1_reduceBy [.ref (ad i), .ref (ad j), .ref (ad k)] [] (fun r w' => r = none ∧ w' = []) := by
  obtain ⟨hc, rfl⟩ := ifs h
  simp only [Bool.and_eq_true, decide_eq_true_eq] at hc
  obtain ⟨hi, hj, hk, hij, hik, hjk, h0, hz, hcap⟩ := hc
  refine ⟨hi, cf_gen (is := [i, j, k]) (by simp [hi, hj, hk]) (by simp [hij, hik, hjk]) (fun q hq => ?_) ?_⟩
  · simp only [List.mem_cons, List.not_mem_nil, or_false, not_or] at hq
    rw [uN_n hq.2.2, uN_n hq.1]
  · intro U hU
    obtain ⟨c1, e1, b1⟩ := hU i List.mem_cons_self
    obtain ⟨c2, e2, b2⟩ := hU j (List.mem_cons_of_mem _ List.mem_cons_self)
    obtain ⟨c3, e3, b3⟩ := hU k (List.mem_cons_of_mem _ (List.mem_cons_of_mem _ List.mem_cons_self))
    rw [hz] at b3
    obtain ⟨g, c', g3, c3', m1, m2, m3⟩ := s_reduceBy b1 b2 h0 b3 hcap (nwJ_ok i).2 (nwJ_ok j).2 (nwJ_ok k).2
    have hC := c_X1_reduceBy l G (ad i) (aw i) (ad j) (aw j) (ad k) (aw k) (nI c1) (nwJ i) (U i).2 (nI c2) (nwJ j) (U j).2 (nI c3) (nwJ k) (U k).2 _ m1
    have ew : ([i, j, k].flatMap (bcF G ad aw U) : va_W) = [(ad i, .inr (0, [.ref (aw i), .int (nI c1)])), (aw i, .inl (gJ G, nwJ i, .inr (.inl (U i).2))), (ad j, .inr (0, [.ref (aw j), .int (nI c2)])), (aw j, .inl (gJ G, nwJ j, .inr (.inl (U j).2))), (ad k, .inr (0, [.ref (aw k), .int (nI c3)])), (aw k, .inl (gJ G, nwJ k, .inr (.inl (U k).2)))] := by
      show bcF G ad aw U i ++ (bcF G ad aw U j ++ (bcF G ad aw U k ++ [])) = _
      unfold bcF
      rw [e1, e2, e3]
      rfl
    rw [ew]
    refine ctr_conv (wr := []) (List.Perm.refl _) hC ?_
    rintro r w1 ⟨rfl, rfl⟩
    refine ⟨_, List.Perm.refl _, rfl, sel i (nI c', g) (sel j (nI c2, (U j).2) (fun _ => (nI c3', g3))), fun q hq => ?_, ?_⟩
    · rcases List.mem_cons.mp hq with z | z
      · subst z
        rw [sel_s, uN_n hik, uN_s]
        exact ⟨c', rfl, m2⟩
      · rcases List.mem_cons.mp z with z | z
        · subst z
          rw [sel_n (fun q => hij q.symm), sel_s, uN_n hjk, uN_n (fun q => hij q.symm)]
          exact ⟨c2, rfl, b2⟩
        · have z := List.mem_singleton.mp z
          subst z
          rw [sel_n (fun q => hik q.symm), sel_n (fun q => hjk q.symm), uN_s]
          exact ⟨c3', rfl, m3⟩
    · generalize hU9 : sel i (nI c', g) (sel j (nI c2, (U j).2) (fun _ => (nI c3', g3))) = U9
      show _ = bcF G ad aw U9 i ++ (bcF G ad aw U9 j ++ (bcF G ad aw U9 k ++ []))
      unfold bcF
      rw [← hU9, sel_s, sel_n (fun q => hij q.symm), sel_s, sel_n (fun q => hik q.symm), sel_n (fun q => hjk q.symm)]
      rfl
