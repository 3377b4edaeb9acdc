/-! Search beside the block of Fits -/
noncomputable def b_X6_bestParents_5 (cell : Nat → Nat → Nat) (vals : Nat → Nat) (N : Nat) (R : Nat) (w : Nat) (ms : Int32) (nm : Int32) (of0 : Int32) : (Int32 × Int32) → Option ((Int32 × Int32) ⊕ ((Int32 × Int32)))
  | (i3_1, i4_2) => if of0 < i4_2 then some (.inr (i3_1, i4_2)) else if (32 : Int32) ≤ i4_2 then some (.inr (i3_1, i4_2)) else if (i4_2 &&& (of0 ^^^ (-1))) = 0 then (m_J6_bitCount_0f7a4 i4_2).bind (fun r_4 : Int32 => if r_4 ≤ ms then (m_X0_fromAll i4_2 nm).bind (fun r_5 : Int32 => (m_X0_fromAll i3_1 nm).bind (fun r_6 : Int32 => (wgh cell vals N R w r_5 r_6).bind (fun r_7 : Int32 => (if r_7 ≤ 0 then some (i3_1 : Int32) else some (i4_2 : Int32)).bind (fun y_8 : Int32 => lt (i4_2 + 1 : Int32) (fun x4_9 : Int32 => some (.inl (y_8, x4_9))))))) else lt (i4_2 + 1 : Int32) (fun x4_10 : Int32 => some (.inl (i3_1, x4_10)))) else lt (i4_2 + 1 : Int32) (fun x4_3 : Int32 => some (.inl (i3_1, x4_3)))
theorem eb_X6_bestParents_5 (cell : Nat → Nat → Nat) (vals : Nat → Nat) (N : Nat) (R : Nat) (w : Nat) (ms : Int32) (nm : Int32) (of0 : Int32) (i3_1 : Int32) (i4_2 : Int32) : b_X6_bestParents_5 cell vals N R w ms nm of0 (i3_1, i4_2) = if of0 < i4_2 then some (.inr (i3_1, i4_2)) else if (32 : Int32) ≤ i4_2 then some (.inr (i3_1, i4_2)) else if (i4_2 &&& (of0 ^^^ (-1))) = 0 then (m_J6_bitCount_0f7a4 i4_2).bind (fun r_4 : Int32 => if r_4 ≤ ms then (m_X0_fromAll i4_2 nm).bind (fun r_5 : Int32 => (m_X0_fromAll i3_1 nm).bind (fun r_6 : Int32 => (wgh cell vals N R w r_5 r_6).bind (fun r_7 : Int32 => (if r_7 ≤ 0 then some (i3_1 : Int32) else some (i4_2 : Int32)).bind (fun y_8 : Int32 => lt (i4_2 + 1 : Int32) (fun x4_9 : Int32 => some (.inl (y_8, x4_9))))))) else lt (i4_2 + 1 : Int32) (fun x4_10 : Int32 => some (.inl (i3_1, x4_10)))) else lt (i4_2 + 1 : Int32) (fun x4_3 : Int32 => some (.inl (i3_1, x4_3))) := rfl
noncomputable def m_X6_bestParents (cell : Nat → Nat → Nat) (vals : Nat → Nat) (N : Nat) (R : Nat) (w : Nat) (ms : Int32) (nm : Int32) (of0 : Int32) : Option Int32 := (lp (b_X6_bestParents_5 cell vals N R w ms nm of0) FU (0, 1)).bind (fun q_11 : Int32 × Int32 => some q_11.1)
theorem em_X6_bestParents (cell : Nat → Nat → Nat) (vals : Nat → Nat) (N : Nat) (R : Nat) (w : Nat) (ms : Int32) (nm : Int32) (of0 : Int32) : m_X6_bestParents cell vals N R w ms nm of0 = (lp (b_X6_bestParents_5 cell vals N R w ms nm of0) FU (0, 1)).bind (fun q_11 : Int32 × Int32 => some q_11.1) := rfl
noncomputable def m_X6_better (cell : Nat → Nat → Nat) (vals : Nat → Nat) (N : Nat) (R : Nat) (w : Nat) (ms : Int32) (gr : Int32) (bs : Int32) : Option Int32 := if 0 ≤ bs then (wgh cell vals N R w gr bs).bind (fun r_1 : Int32 => (if 0 < r_1 then some (gr : Int32) else (if r_1 = 0 then (if bs ≤ gr then some (bs : Int32) else some (gr : Int32)).bind (fun y_4 : Int32 => some (y_4 : Int32)) else some (bs : Int32)).bind (fun y_3 : Int32 => some (y_3 : Int32))).bind (fun y_2 : Int32 => some y_2)) else some gr
theorem em_X6_better (cell : Nat → Nat → Nat) (vals : Nat → Nat) (N : Nat) (R : Nat) (w : Nat) (ms : Int32) (gr : Int32) (bs : Int32) : m_X6_better cell vals N R w ms gr bs = if 0 ≤ bs then (wgh cell vals N R w gr bs).bind (fun r_1 : Int32 => (if 0 < r_1 then some (gr : Int32) else (if r_1 = 0 then (if bs ≤ gr then some (bs : Int32) else some (gr : Int32)).bind (fun y_4 : Int32 => some (y_4 : Int32)) else some (bs : Int32)).bind (fun y_3 : Int32 => some (y_3 : Int32))).bind (fun y_2 : Int32 => some y_2)) else some gr := rfl
noncomputable def b_X6_bestNear_18 (cell : Nat → Nat → Nat) (vals : Nat → Nat) (N : Nat) (R : Nat) (w : Nat) (ms : Int32) (gr : Int32) (i3_2 : Int32) : (Int32 × Int32) → Option ((Int32 × Int32) ⊕ ((Int32 × Int32)))
  | (i2_3, i4_4) => if (nI N) ≤ i4_4 then some (.inr (i2_3, i4_4)) else if i3_2 = i4_4 then lt (i4_4 + 1 : Int32) (fun x4_18 : Int32 => some (.inl (i2_3, x4_18))) else (m_X0_arc i3_2 i4_4).bind (fun r_5 : Int32 => lt (gr ^^^ r_5 : Int32) (fun x5_6 : Int32 => (m_X0_has gr i4_4 i3_2).bind (fun r_7 : Int32 => if r_7 = 0 then (m_X6_isOpen (nI N) (nI R) (nI w) ms x5_6).bind (fun r_8 : Int32 => if r_8 = 0 then lt (i4_4 + 1 : Int32) (fun x4_9 : Int32 => some (.inl (i2_3, x4_9))) else (m_X6_better cell vals N R w ms x5_6 i2_3).bind (fun r_10 : Int32 => lt (i4_4 + 1 : Int32) (fun x4_11 : Int32 => some (.inl (r_10, x4_11))))) else (m_X0_arc i4_4 i3_2).bind (fun r_12 : Int32 => lt (x5_6 ^^^ r_12 : Int32) (fun x5_13 : Int32 => (m_X6_isOpen (nI N) (nI R) (nI w) ms x5_13).bind (fun r_14 : Int32 => if r_14 = 0 then lt (i4_4 + 1 : Int32) (fun x4_15 : Int32 => some (.inl (i2_3, x4_15))) else (m_X6_better cell vals N R w ms x5_13 i2_3).bind (fun r_16 : Int32 => lt (i4_4 + 1 : Int32) (fun x4_17 : Int32 => some (.inl (r_16, x4_17))))))))))
theorem eb_X6_bestNear_18 (cell : Nat → Nat → Nat) (vals : Nat → Nat) (N : Nat) (R : Nat) (w : Nat) (ms : Int32) (gr : Int32) (i3_2 : Int32) (i2_3 : Int32) (i4_4 : Int32) : b_X6_bestNear_18 cell vals N R w ms gr i3_2 (i2_3, i4_4) = if (nI N) ≤ i4_4 then some (.inr (i2_3, i4_4)) else if i3_2 = i4_4 then lt (i4_4 + 1 : Int32) (fun x4_18 : Int32 => some (.inl (i2_3, x4_18))) else (m_X0_arc i3_2 i4_4).bind (fun r_5 : Int32 => lt (gr ^^^ r_5 : Int32) (fun x5_6 : Int32 => (m_X0_has gr i4_4 i3_2).bind (fun r_7 : Int32 => if r_7 = 0 then (m_X6_isOpen (nI N) (nI R) (nI w) ms x5_6).bind (fun r_8 : Int32 => if r_8 = 0 then lt (i4_4 + 1 : Int32) (fun x4_9 : Int32 => some (.inl (i2_3, x4_9))) else (m_X6_better cell vals N R w ms x5_6 i2_3).bind (fun r_10 : Int32 => lt (i4_4 + 1 : Int32) (fun x4_11 : Int32 => some (.inl (r_10, x4_11))))) else (m_X0_arc i4_4 i3_2).bind (fun r_12 : Int32 => lt (x5_6 ^^^ r_12 : Int32) (fun x5_13 : Int32 => (m_X6_isOpen (nI N) (nI R) (nI w) ms x5_13).bind (fun r_14 : Int32 => if r_14 = 0 then lt (i4_4 + 1 : Int32) (fun x4_15 : Int32 => some (.inl (i2_3, x4_15))) else (m_X6_better cell vals N R w ms x5_13 i2_3).bind (fun r_16 : Int32 => lt (i4_4 + 1 : Int32) (fun x4_17 : Int32 => some (.inl (r_16, x4_17)))))))))) := rfl
noncomputable def b_X6_bestNear_4 (cell : Nat → Nat → Nat) (vals : Nat → Nat) (N : Nat) (R : Nat) (w : Nat) (ms : Int32) (gr : Int32) : (Int32 × Int32) → Option ((Int32 × Int32) ⊕ ((Int32 × Int32)))
  | (i2_1, i3_2) => if (nI N) ≤ i3_2 then some (.inr (i2_1, i3_2)) else (lp (b_X6_bestNear_18 cell vals N R w ms gr i3_2) FU (i2_1, 0)).bind (fun q_19 : Int32 × Int32 => lt (i3_2 + 1 : Int32) (fun x3_20 : Int32 => some (.inl (q_19.1, x3_20))))
theorem eb_X6_bestNear_4 (cell : Nat → Nat → Nat) (vals : Nat → Nat) (N : Nat) (R : Nat) (w : Nat) (ms : Int32) (gr : Int32) (i2_1 : Int32) (i3_2 : Int32) : b_X6_bestNear_4 cell vals N R w ms gr (i2_1, i3_2) = if (nI N) ≤ i3_2 then some (.inr (i2_1, i3_2)) else (lp (b_X6_bestNear_18 cell vals N R w ms gr i3_2) FU (i2_1, 0)).bind (fun q_19 : Int32 × Int32 => lt (i3_2 + 1 : Int32) (fun x3_20 : Int32 => some (.inl (q_19.1, x3_20)))) := rfl
noncomputable def m_X6_bestNear (cell : Nat → Nat → Nat) (vals : Nat → Nat) (N : Nat) (R : Nat) (w : Nat) (ms : Int32) (gr : Int32) : Option Int32 := (lp (b_X6_bestNear_4 cell vals N R w ms gr) FU ((-1), 0)).bind (fun q_22 : Int32 × Int32 => some q_22.1)
theorem em_X6_bestNear (cell : Nat → Nat → Nat) (vals : Nat → Nat) (N : Nat) (R : Nat) (w : Nat) (ms : Int32) (gr : Int32) : m_X6_bestNear cell vals N R w ms gr = (lp (b_X6_bestNear_4 cell vals N R w ms gr) FU ((-1), 0)).bind (fun q_22 : Int32 × Int32 => some q_22.1) := rfl
noncomputable def b_X6_climbFrom_5 (cell : Nat → Nat → Nat) (vals : Nat → Nat) (N : Nat) (R : Nat) (w : Nat) (ms : Int32) (steps : Int32) : (Int32 × Int32) → Option ((Int32 × Int32) ⊕ ((Int32 × Int32)))
  | (i3_1, i4_2) => if steps ≤ i4_2 then some (.inr (i3_1, i4_2)) else (m_X6_bestNear cell vals N R w ms i3_1).bind (fun r_3 : Int32 => if r_3 < 0 then some (.inr (i3_1, i4_2)) else (wgh cell vals N R w r_3 i3_1).bind (fun r_4 : Int32 => if 0 < r_4 then lt (i4_2 + 1 : Int32) (fun x4_5 : Int32 => some (.inl (r_3, x4_5))) else some (.inr (i3_1, i4_2))))
theorem eb_X6_climbFrom_5 (cell : Nat → Nat → Nat) (vals : Nat → Nat) (N : Nat) (R : Nat) (w : Nat) (ms : Int32) (steps : Int32) (i3_1 : Int32) (i4_2 : Int32) : b_X6_climbFrom_5 cell vals N R w ms steps (i3_1, i4_2) = if steps ≤ i4_2 then some (.inr (i3_1, i4_2)) else (m_X6_bestNear cell vals N R w ms i3_1).bind (fun r_3 : Int32 => if r_3 < 0 then some (.inr (i3_1, i4_2)) else (wgh cell vals N R w r_3 i3_1).bind (fun r_4 : Int32 => if 0 < r_4 then lt (i4_2 + 1 : Int32) (fun x4_5 : Int32 => some (.inl (r_3, x4_5))) else some (.inr (i3_1, i4_2)))) := rfl
noncomputable def m_X6_climbFrom (cell : Nat → Nat → Nat) (vals : Nat → Nat) (N : Nat) (R : Nat) (w : Nat) (ms : Int32) (gr : Int32) (steps : Int32) : Option Int32 := (lp (b_X6_climbFrom_5 cell vals N R w ms steps) FU (gr, 0)).bind (fun q_6 : Int32 × Int32 => some q_6.1)
theorem em_X6_climbFrom (cell : Nat → Nat → Nat) (vals : Nat → Nat) (N : Nat) (R : Nat) (w : Nat) (ms : Int32) (gr : Int32) (steps : Int32) : m_X6_climbFrom cell vals N R w ms gr steps = (lp (b_X6_climbFrom_5 cell vals N R w ms steps) FU (gr, 0)).bind (fun q_6 : Int32 × Int32 => some q_6.1) := rfl
noncomputable def b_X6_bestGraph_27 (cell : Nat → Nat → Nat) (vals : Nat → Nat) (N : Nat) (R : Nat) (w : Nat) (ms : Int32) (nbo : Nat) (i2_2 : Int32) (fbo_3 : Nat → Int32) : (Int32 × Int32) → Option ((Int32 × Int32) ⊕ ((Int32 × Int32)))
  | (i1_4, i3_5) => if (nI N) ≤ i3_5 then some (.inr (i1_4, i3_5)) else (m_X0_isIn i2_2 i3_5).bind (fun r_6 : Int32 => if r_6 = 0 then lt (i3_5 + 1 : Int32) (fun x3_13 : Int32 => some (.inl (i1_4, x3_13))) else lt (i2_2 &&& ((1 <<< (i3_5 &&& 31)) ^^^ (-1)) : Int32) (fun x4_7 : Int32 => (m_X6_kept nbo fbo_3 x4_7).bind (fun r_8 : Int32 => (m_X6_bestParents cell vals N R w ms i3_5 x4_7).bind (fun r_9 : Int32 => (m_X0_fromAll r_9 i3_5).bind (fun r_10 : Int32 => (m_X6_better cell vals N R w ms (r_8 ||| r_10) i1_4).bind (fun r_11 : Int32 => lt (i3_5 + 1 : Int32) (fun x3_12 : Int32 => some (.inl (r_11, x3_12)))))))))
theorem eb_X6_bestGraph_27 (cell : Nat → Nat → Nat) (vals : Nat → Nat) (N : Nat) (R : Nat) (w : Nat) (ms : Int32) (nbo : Nat) (i2_2 : Int32) (fbo_3 : Nat → Int32) (i1_4 : Int32) (i3_5 : Int32) : b_X6_bestGraph_27 cell vals N R w ms nbo i2_2 fbo_3 (i1_4, i3_5) = if (nI N) ≤ i3_5 then some (.inr (i1_4, i3_5)) else (m_X0_isIn i2_2 i3_5).bind (fun r_6 : Int32 => if r_6 = 0 then lt (i3_5 + 1 : Int32) (fun x3_13 : Int32 => some (.inl (i1_4, x3_13))) else lt (i2_2 &&& ((1 <<< (i3_5 &&& 31)) ^^^ (-1)) : Int32) (fun x4_7 : Int32 => (m_X6_kept nbo fbo_3 x4_7).bind (fun r_8 : Int32 => (m_X6_bestParents cell vals N R w ms i3_5 x4_7).bind (fun r_9 : Int32 => (m_X0_fromAll r_9 i3_5).bind (fun r_10 : Int32 => (m_X6_better cell vals N R w ms (r_8 ||| r_10) i1_4).bind (fun r_11 : Int32 => lt (i3_5 + 1 : Int32) (fun x3_12 : Int32 => some (.inl (r_11, x3_12))))))))) := rfl
noncomputable def b_X6_bestGraph_4 (cell : Nat → Nat → Nat) (vals : Nat → Nat) (N : Nat) (R : Nat) (w : Nat) (ms : Int32) (nbo : Nat) : (Int32 × Int32 × (Nat → Int32)) → Option ((Int32 × Int32 × (Nat → Int32)) ⊕ ((Int32 × Int32 × (Nat → Int32))))
  | (i1_1, i2_2, fbo_3) => if (1 <<< ((nI N) &&& 31)) ≤ i2_2 then some (.inr (i1_1, i2_2, fbo_3)) else if (32 : Int32) ≤ i2_2 then some (.inr (i1_1, i2_2, fbo_3)) else (lp (b_X6_bestGraph_27 cell vals N R w ms nbo i2_2 fbo_3) FU ((-1), 0)).bind (fun q_14 : Int32 × Int32 => (m_X6_keep nbo fbo_3 i2_2 q_14.1).bind (fun r_15 : (Nat → Int32) => lt (i2_2 + 1 : Int32) (fun x2_16 : Int32 => some (.inl (q_14.1, x2_16, r_15)))))
theorem eb_X6_bestGraph_4 (cell : Nat → Nat → Nat) (vals : Nat → Nat) (N : Nat) (R : Nat) (w : Nat) (ms : Int32) (nbo : Nat) (i1_1 : Int32) (i2_2 : Int32) (fbo_3 : Nat → Int32) : b_X6_bestGraph_4 cell vals N R w ms nbo (i1_1, i2_2, fbo_3) = if (1 <<< ((nI N) &&& 31)) ≤ i2_2 then some (.inr (i1_1, i2_2, fbo_3)) else if (32 : Int32) ≤ i2_2 then some (.inr (i1_1, i2_2, fbo_3)) else (lp (b_X6_bestGraph_27 cell vals N R w ms nbo i2_2 fbo_3) FU ((-1), 0)).bind (fun q_14 : Int32 × Int32 => (m_X6_keep nbo fbo_3 i2_2 q_14.1).bind (fun r_15 : (Nat → Int32) => lt (i2_2 + 1 : Int32) (fun x2_16 : Int32 => some (.inl (q_14.1, x2_16, r_15))))) := rfl
noncomputable def m_X6_bestGraph (cell : Nat → Nat → Nat) (vals : Nat → Nat) (N : Nat) (R : Nat) (w : Nat) (ms : Int32) (nbo : Nat) (fbo : Nat → Int32) : Option (Int32 × (Nat → Int32)) := (lp (b_X6_bestGraph_4 cell vals N R w ms nbo) FU (0, 1, fbo)).bind (fun q_18 : Int32 × Int32 × (Nat → Int32) => some (q_18.1, q_18.2.2))
theorem em_X6_bestGraph (cell : Nat → Nat → Nat) (vals : Nat → Nat) (N : Nat) (R : Nat) (w : Nat) (ms : Int32) (nbo : Nat) (fbo : Nat → Int32) : m_X6_bestGraph cell vals N R w ms nbo fbo = (lp (b_X6_bestGraph_4 cell vals N R w ms nbo) FU (0, 1, fbo)).bind (fun q_18 : Int32 × Int32 × (Nat → Int32) => some (q_18.1, q_18.2.2)) := rfl
abbrev rm_X6_bestParents : Room := { frames := 5, cells := 1610, slots := 6140, locals := 227 }
set_option maxHeartbeats 4000000 in
set_option maxRecDepth 100000 in
theorem L_X6_bestParents_5 {K : Cx} {R9 : Room} {cell : Nat → Nat → Nat} {vals : Nat → Nat} {N : Nat} {R : Nat} {w : Nat} {ms : Int32} {A : Nat → Nat} {fsv : Nat → Int32} {fsc : Nat → Int32} {n0 : Nat} (hCS : CS N R w vals cell fsv fsc) (hk : Ok K cX6_bestParents 5 RX6 w2_X6_bestParents R9) (hR9 : RoomGe R9 rm_X6_bestParents) (ady : Nat) (adbo : Nat) (nm : Int32) (of0 : Int32) (b9 : (Int32 × Int32)) (kk0 : ∀ q9 : (Int32 × Int32), b9 = q9 → VB K (FBk (kG K) A cell vals N R w) n0 5 [(ady, .inr (5, [.ref (A 14), .ref (A 0), .ref adbo])), ((A 14), .inr (7, [.int (nI N), .int (nI R), .int (nI w), .int ms, .ref (A 15), .ref (A 16)])), ((A 15), .inl (gI (kG K), 5, .inl fsv)), ((A 16), .inl (gI (kG K), 16, .inl fsc))] 75 [(0, .ref ady), (1, .int nm), (2, .int of0), (3, .int q9.1), (4, .int q9.2)] []) : ∀ (nn : Nat) (i3_1 : Int32) (i4_2 : Int32), lp (b_X6_bestParents_5 cell vals N R w ms nm of0) nn (i3_1, i4_2) = some b9 → VB K (FBk (kG K) A cell vals N R w) n0 5 [(ady, .inr (5, [.ref (A 14), .ref (A 0), .ref adbo])), ((A 14), .inr (7, [.int (nI N), .int (nI R), .int (nI w), .int ms, .ref (A 15), .ref (A 16)])), ((A 15), .inl (gI (kG K), 5, .inl fsv)), ((A 16), .inl (gI (kG K), 16, .inl fsc))] 5 [(0, .ref ady), (1, .int nm), (2, .int of0), (3, .int i3_1), (4, .int i4_2)] [] := by
  intro nn
  induction nn with
  | zero => intro i3_1 i4_2 h; exact absurd h (by simp [lp])
  | succ nn ih =>
    intro i3_1 i4_2 h
    replace h := lp_s h
    rw [eb_X6_bestParents_5] at h
    refine vx_iload hk dX6_bestParents_5 rfl ?_
    refine vx_iload_n hk dX6_bestParents_7 rfl ?_
    refine vx_icmp_gt (tgt := 75) hk dX6_bestParents_8 (by decide) (fun hc => ?_) (fun hc => ?_)
    · replace h := it_t (g := (lpk (lp (b_X6_bestParents_5 cell vals N R w ms nm of0) nn))) h hc
      replace h : some (i3_1, i4_2) = some b9 := h
      replace h := Option.some.inj h
      subst h
      exact kk0 _ rfl
    · replace h := it_f (g := (lpk (lp (b_X6_bestParents_5 cell vals N R w ms nm of0) nn))) h hc
      refine vx_iload hk dX6_bestParents_11 rfl ?_
      refine vx_bipush (v := 32) hk dX6_bestParents_13 (by decide) ?_
      refine vx_icmp_ge (tgt := 75) hk dX6_bestParents_15 (by decide) (fun hc => ?_) (fun hc => ?_)
      · replace h := it_t (g := (lpk (lp (b_X6_bestParents_5 cell vals N R w ms nm of0) nn))) h hc
        replace h : some (i3_1, i4_2) = some b9 := h
        replace h := Option.some.inj h
        subst h
        exact kk0 _ rfl
      · replace h := it_f (g := (lpk (lp (b_X6_bestParents_5 cell vals N R w ms nm of0) nn))) h hc
        refine vx_iload hk dX6_bestParents_18 rfl ?_
        refine vx_iload_n hk dX6_bestParents_20 rfl ?_
        refine vx_iconst (v := (-1)) hk dX6_bestParents_21 (by decide) ?_
        refine vx_ixor hk dX6_bestParents_22 ?_
        refine vx_iand hk dX6_bestParents_23 ?_
        refine vx_if_ne (tgt := 69) hk dX6_bestParents_24 (by decide) (fun hc => ?_) (fun hc => ?_)
        · replace h := it_f (g := (lpk (lp (b_X6_bestParents_5 cell vals N R w ms nm of0) nn))) h hc
          obtain ⟨x4_3, ex4_3, h⟩ := lt_e (g := (lpk (lp (b_X6_bestParents_5 cell vals N R w ms nm of0) nn))) h
          refine vx_iinc (v := x4_3) hk dX6_bestParents_69 rfl (by rw [ex4_3]; rfl) (by decide) [1, 2, 3, 4, 0] (lv' := [(0, .ref ady), (1, .int nm), (2, .int of0), (3, .int i3_1), (4, .int x4_3)]) rfl ?_
          refine vx_goto (tgt := 5) hk dX6_bestParents_72 (by decide) ?_
          exact ih i3_1 x4_3 h
        · replace h := it_t (g := (lpk (lp (b_X6_bestParents_5 cell vals N R w ms nm of0) nn))) h hc
          refine vx_iload hk dX6_bestParents_27 rfl ?_
          obtain ⟨r_4, er_4, h⟩ := bd_e (g := (lpk (lp (b_X6_bestParents_5 cell vals N R w ms nm of0) nn))) rfl h
          refine vx_callS (n := 1) (st := []) hk dX6_bestParents_29 (c_J6_bitCount_0f7a4 (kl K) (kG K) i4_2 r_4 er_4) gd_X6_bestParents_J6_bitCount_0f7a4 rfl (by decide +kernel) (frok hR9 (Nat.le_of_ble_eq_true rfl) (Nat.le_of_ble_eq_true rfl)) ⟨⟨rfl, rfl⟩, roomk hR9 (Nat.le_of_ble_eq_true rfl) (Nat.le_of_ble_eq_true rfl)⟩ FBk.le rfl rfl (Nat.le_of_ble_eq_true rfl) (wr := [(ady, .inr (5, [.ref (A 14), .ref (A 0), .ref adbo])), ((A 14), .inr (7, [.int (nI N), .int (nI R), .int (nI w), .int ms, .ref (A 15), .ref (A 16)])), ((A 15), .inl (gI (kG K), 5, .inl fsv)), ((A 16), .inl (gI (kG K), 16, .inl fsc))]) [0, 1, 2, 3] [] 4 rfl (by decide) rfl rfl ?_
          intro v9 w9 hp9
          obtain ⟨rfl, rfl⟩ := hp9
          show VB K (FBk (kG K) A cell vals N R w) n0 5 [(ady, .inr (5, [.ref (A 14), .ref (A 0), .ref adbo])), ((A 14), .inr (7, [.int (nI N), .int (nI R), .int (nI w), .int ms, .ref (A 15), .ref (A 16)])), ((A 15), .inl (gI (kG K), 5, .inl fsv)), ((A 16), .inl (gI (kG K), 16, .inl fsc))] 32 [(0, .ref ady), (1, .int nm), (2, .int of0), (3, .int i3_1), (4, .int i4_2)] [.int r_4]
          refine vx_aload_n hk dX6_bestParents_32 rfl ?_
          refine vx_get (C := RX6) (T := TX6) (N := 3) (ci := 5) (v := .ref (A 14)) hk dX6_bestParents_33 w2i_X6_bestParents_X60 0 rfl rfl 0 (by decide) (by decide +kernel) rfl rfl ?_
          refine vx_get (C := RX8) (T := TX8) (N := 6) (ci := 7) (v := .int ms) hk dX6_bestParents_36 w2i_X6_bestParents_X80 1 rfl rfl 3 (by decide) (by decide +kernel) rfl rfl ?_
          refine vx_icmp_le (tgt := 45) hk dX6_bestParents_39 (by decide) (fun hc => ?_) (fun hc => ?_)
          · replace h := it_t (g := (lpk (lp (b_X6_bestParents_5 cell vals N R w ms nm of0) nn))) h hc
            refine vx_aload_n hk dX6_bestParents_45 rfl ?_
            refine vx_get (C := RX6) (T := TX6) (N := 3) (ci := 5) (v := .ref (A 0)) hk dX6_bestParents_46 w2i_X6_bestParents_X60 0 rfl rfl 1 (by decide) (by decide +kernel) rfl rfl ?_
            refine vx_iload hk dX6_bestParents_49 rfl ?_
            refine vx_iload_n hk dX6_bestParents_51 rfl ?_
            obtain ⟨r_5, er_5, h⟩ := bd_e (g := (lpk (lp (b_X6_bestParents_5 cell vals N R w ms nm of0) nn))) rfl h
            refine vx_callS (n := 2) (st := [.ref (A 0)]) hk dX6_bestParents_52 (c_X0_fromAll (kl K) (kG K) i4_2 nm r_5 er_5) gd_X6_bestParents_X0_fromAll rfl (by decide +kernel) (frok hR9 (Nat.le_of_ble_eq_true rfl) (Nat.le_of_ble_eq_true rfl)) ⟨⟨rfl, rfl⟩, roomk hR9 (Nat.le_of_ble_eq_true rfl) (Nat.le_of_ble_eq_true rfl)⟩ FBk.le rfl rfl (Nat.le_of_ble_eq_true rfl) (wr := [(ady, .inr (5, [.ref (A 14), .ref (A 0), .ref adbo])), ((A 14), .inr (7, [.int (nI N), .int (nI R), .int (nI w), .int ms, .ref (A 15), .ref (A 16)])), ((A 15), .inl (gI (kG K), 5, .inl fsv)), ((A 16), .inl (gI (kG K), 16, .inl fsc))]) [0, 1, 2, 3] [] 4 rfl (by decide) rfl rfl ?_
            intro v9 w9 hp9
            obtain ⟨rfl, rfl⟩ := hp9
            show VB K (FBk (kG K) A cell vals N R w) n0 5 [(ady, .inr (5, [.ref (A 14), .ref (A 0), .ref adbo])), ((A 14), .inr (7, [.int (nI N), .int (nI R), .int (nI w), .int ms, .ref (A 15), .ref (A 16)])), ((A 15), .inl (gI (kG K), 5, .inl fsv)), ((A 16), .inl (gI (kG K), 16, .inl fsc))] 55 [(0, .ref ady), (1, .int nm), (2, .int of0), (3, .int i3_1), (4, .int i4_2)] [.int r_5, .ref (A 0)]
            refine vx_iload_n hk dX6_bestParents_55 rfl ?_
            refine vx_iload_n hk dX6_bestParents_56 rfl ?_
            obtain ⟨r_6, er_6, h⟩ := bd_e (g := (lpk (lp (b_X6_bestParents_5 cell vals N R w ms nm of0) nn))) rfl h
            refine vx_callS (n := 2) (st := [.int r_5, .ref (A 0)]) hk dX6_bestParents_57 (c_X0_fromAll (kl K) (kG K) i3_1 nm r_6 er_6) gd_X6_bestParents_X0_fromAll rfl (by decide +kernel) (frok hR9 (Nat.le_of_ble_eq_true rfl) (Nat.le_of_ble_eq_true rfl)) ⟨⟨rfl, rfl⟩, roomk hR9 (Nat.le_of_ble_eq_true rfl) (Nat.le_of_ble_eq_true rfl)⟩ FBk.le rfl rfl (Nat.le_of_ble_eq_true rfl) (wr := [(ady, .inr (5, [.ref (A 14), .ref (A 0), .ref adbo])), ((A 14), .inr (7, [.int (nI N), .int (nI R), .int (nI w), .int ms, .ref (A 15), .ref (A 16)])), ((A 15), .inl (gI (kG K), 5, .inl fsv)), ((A 16), .inl (gI (kG K), 16, .inl fsc))]) [0, 1, 2, 3] [] 4 rfl (by decide) rfl rfl ?_
            intro v9 w9 hp9
            obtain ⟨rfl, rfl⟩ := hp9
            show VB K (FBk (kG K) A cell vals N R w) n0 5 [(ady, .inr (5, [.ref (A 14), .ref (A 0), .ref adbo])), ((A 14), .inr (7, [.int (nI N), .int (nI R), .int (nI w), .int ms, .ref (A 15), .ref (A 16)])), ((A 15), .inl (gI (kG K), 5, .inl fsv)), ((A 16), .inl (gI (kG K), 16, .inl fsc))] 60 [(0, .ref ady), (1, .int nm), (2, .int of0), (3, .int i3_1), (4, .int i4_2)] [.int r_6, .int r_5, .ref (A 0)]
            obtain ⟨r_7, er_7, h⟩ := bd_e (g := (lpk (lp (b_X6_bestParents_5 cell vals N R w ms nm of0) nn))) rfl h
            refine vx_callB (n := 2) (st := []) (b := (A 0)) (T := TX2) (N := 8) (ci := 1) hk dX6_bestParents_60 (c_wgh (kl K) (kG K) A ms hCS er_7) rfl gd_X6_bestParents_X2_weigh rfl (by decide +kernel) (frok hR9 (Nat.le_of_ble_eq_true rfl) (Nat.le_of_ble_eq_true rfl)) (roomk hR9 (Nat.le_of_ble_eq_true rfl) (Nat.le_of_ble_eq_true rfl)) FBk.le rfl rfl (Nat.le_of_ble_eq_true rfl) FBk.recv rfl (wr := [(ady, .inr (5, [.ref (A 14), .ref (A 0), .ref adbo]))]) [0] [1, 2, 3] 4 rfl (by decide) rfl rfl ?_
            intro v9 w9 hp9
            obtain ⟨rfl, rfl⟩ := hp9
            show VB K (FBk (kG K) A cell vals N R w) n0 5 [(ady, .inr (5, [.ref (A 14), .ref (A 0), .ref adbo])), ((A 14), .inr (7, [.int (nI N), .int (nI R), .int (nI w), .int ms, .ref (A 15), .ref (A 16)])), ((A 15), .inl (gI (kG K), 5, .inl fsv)), ((A 16), .inl (gI (kG K), 16, .inl fsc))] 63 [(0, .ref ady), (1, .int nm), (2, .int of0), (3, .int i3_1), (4, .int i4_2)] [.int r_7]
            obtain ⟨y_8, ey_8, h⟩ := bd_e (g := (lpk (lp (b_X6_bestParents_5 cell vals N R w ms nm of0) nn))) rfl h
            have Jy_8 : VB K (FBk (kG K) A cell vals N R w) n0 5 [(ady, .inr (5, [.ref (A 14), .ref (A 0), .ref adbo])), ((A 14), .inr (7, [.int (nI N), .int (nI R), .int (nI w), .int ms, .ref (A 15), .ref (A 16)])), ((A 15), .inl (gI (kG K), 5, .inl fsv)), ((A 16), .inl (gI (kG K), 16, .inl fsc))] 69 [(0, .ref ady), (1, .int nm), (2, .int of0), (3, .int y_8), (4, .int i4_2)] [] := by
              obtain ⟨x4_9, ex4_9, h⟩ := lt_e (g := (lpk (lp (b_X6_bestParents_5 cell vals N R w ms nm of0) nn))) h
              refine vx_iinc (v := x4_9) hk dX6_bestParents_69 rfl (by rw [ex4_9]; rfl) (by decide) [1, 2, 3, 4, 0] (lv' := [(0, .ref ady), (1, .int nm), (2, .int of0), (3, .int y_8), (4, .int x4_9)]) rfl ?_
              refine vx_goto (tgt := 5) hk dX6_bestParents_72 (by decide) ?_
              exact ih y_8 x4_9 h
            clear h
            have h := id_e ey_8
            clear ey_8
            refine vx_if_le (tgt := 69) hk dX6_bestParents_63 (by decide) (fun hc => ?_) (fun hc => ?_)
            · replace h := it_t (g := id) h hc
              replace h : some (i3_1 : Int32) = some y_8 := h
              replace h := Option.some.inj h
              subst h
              exact Jy_8
            · replace h := it_f (g := id) h hc
              refine vx_iload hk dX6_bestParents_66 rfl ?_
              refine vx_istore_n hk dX6_bestParents_68 rfl (by decide) [1, 2, 3, 0, 4] (lv' := [(0, .ref ady), (1, .int nm), (2, .int of0), (3, .int i4_2), (4, .int i4_2)]) rfl ?_
              replace h : some (i4_2 : Int32) = some y_8 := h
              replace h := Option.some.inj h
              subst h
              exact Jy_8
          · replace h := it_f (g := (lpk (lp (b_X6_bestParents_5 cell vals N R w ms nm of0) nn))) h hc
            refine vx_goto (tgt := 69) hk dX6_bestParents_42 (by decide) ?_
            obtain ⟨x4_10, ex4_10, h⟩ := lt_e (g := (lpk (lp (b_X6_bestParents_5 cell vals N R w ms nm of0) nn))) h
            refine vx_iinc (v := x4_10) hk dX6_bestParents_69 rfl (by rw [ex4_10]; rfl) (by decide) [1, 2, 3, 4, 0] (lv' := [(0, .ref ady), (1, .int nm), (2, .int of0), (3, .int i3_1), (4, .int x4_10)]) rfl ?_
            refine vx_goto (tgt := 5) hk dX6_bestParents_72 (by decide) ?_
            exact ih i3_1 x4_10 h
set_option maxHeartbeats 4000000 in
set_option maxRecDepth 100000 in
theorem c_X6_bestParents (l : Launch) (G : GG) (A : Nat → Nat) {fsv : Nat → Int32} {fsc : Nat → Int32} {cell : Nat → Nat → Nat} {vals : Nat → Nat} {N : Nat} {R : Nat} {w : Nat} {ms : Int32} (hCS : CS N R w vals cell fsv fsc) (ady : Nat) (adbo : Nat) (nm : Int32) (of0 : Int32) (r : Int32) (h : m_X6_bestParents cell vals N R w ms nm of0 = some r) : CtrB l G (FBk G A cell vals N R w) yX6_bestParents w2_X6_bestParents rm_X6_bestParents [.ref ady, .int nm, .int of0] [(ady, .inr (5, [.ref (A 14), .ref (A 0), .ref adbo])), ((A 14), .inr (7, [.int (nI N), .int (nI R), .int (nI w), .int ms, .ref (A 15), .ref (A 16)])), ((A 15), .inl (gI G, 5, .inl fsv)), ((A 16), .inl (gI G, 16, .inl fsc))] (fun v w9 => v = some (.int r) ∧ w9 = [(ady, .inr (5, [.ref (A 14), .ref (A 0), .ref adbo])), ((A 14), .inr (7, [.int (nI N), .int (nI R), .int (nI w), .int ms, .ref (A 15), .ref (A 16)])), ((A 15), .inl (gI G, 5, .inl fsv)), ((A 16), .inl (gI G, 16, .inl fsc))]) := by
  refine ctrB_entry FBk.le (Nat.le_of_ble_eq_true rfl) (Nat.le_of_ble_eq_true rfl) (cc := cX6_bestParents) (maxL := 5) (ret := some .int) (lv0 := [(0, .ref ady), (1, .int nm), (2, .int of0)]) (by decide) rfl (Nat.le_of_ble_eq_true rfl) rfl ?_
  intro K n0 hl9 hG9 hk hn9 hrt
  subst hl9
  subst hG9
  have hR9 : RoomGe rm_X6_bestParents rm_X6_bestParents := RoomGe.rf
  replace h := id_e h
  rw [em_X6_bestParents] at h
  refine vx_iconst (v := 0) hk dX6_bestParents_0 (by decide) ?_
  refine vx_istore_n hk dX6_bestParents_1 rfl (by decide) [1, 2, 3, 0] (lv' := [(0, .ref ady), (1, .int nm), (2, .int of0), (3, .int 0)]) rfl ?_
  refine vx_iconst (v := 1) hk dX6_bestParents_2 (by decide) ?_
  refine vx_istore hk dX6_bestParents_3 (by decide) [1, 2, 3, 4, 0] (lv' := [(0, .ref ady), (1, .int nm), (2, .int of0), (3, .int 0), (4, .int 1)]) rfl ?_
  obtain ⟨b_12, eb_12, h⟩ := bd_e (g := id) rfl h
  refine L_X6_bestParents_5 hCS hk hR9 ady adbo nm of0 b_12 (fun q_11 eq_11 => ?_) FU 0 1 eb_12
  · replace eq_11 := eq_11.symm
    subst eq_11
    refine vx_iload_n hk dX6_bestParents_75 rfl ?_
    replace h : some q_11.1 = some r := h
    replace h := Option.some.inj h
    subst h
    refine hrt (some (.int q_11.1)) _ _ _ (⟨rfl, rfl⟩) (dX6_bestParents_76)
abbrev rm_X6_better : Room := { frames := 5, cells := 1610, slots := 6140, locals := 227 }
set_option maxHeartbeats 4000000 in
set_option maxRecDepth 100000 in
theorem c_X6_better (l : Launch) (G : GG) (A : Nat → Nat) {fsv : Nat → Int32} {fsc : Nat → Int32} {cell : Nat → Nat → Nat} {vals : Nat → Nat} {N : Nat} {R : Nat} {w : Nat} {ms : Int32} (hCS : CS N R w vals cell fsv fsc) (ady : Nat) (adbo : Nat) (gr : Int32) (bs : Int32) (r : Int32) (h : m_X6_better cell vals N R w ms gr bs = some r) : CtrB l G (FBk G A cell vals N R w) yX6_better w2_X6_better rm_X6_better [.ref ady, .int gr, .int bs] [(ady, .inr (5, [.ref (A 14), .ref (A 0), .ref adbo])), ((A 14), .inr (7, [.int (nI N), .int (nI R), .int (nI w), .int ms, .ref (A 15), .ref (A 16)])), ((A 15), .inl (gI G, 5, .inl fsv)), ((A 16), .inl (gI G, 16, .inl fsc))] (fun v w9 => v = some (.int r) ∧ w9 = [(ady, .inr (5, [.ref (A 14), .ref (A 0), .ref adbo])), ((A 14), .inr (7, [.int (nI N), .int (nI R), .int (nI w), .int ms, .ref (A 15), .ref (A 16)])), ((A 15), .inl (gI G, 5, .inl fsv)), ((A 16), .inl (gI G, 16, .inl fsc))]) := by
  refine ctrB_entry FBk.le (Nat.le_of_ble_eq_true rfl) (Nat.le_of_ble_eq_true rfl) (cc := cX6_better) (maxL := 4) (ret := some .int) (lv0 := [(0, .ref ady), (1, .int gr), (2, .int bs)]) (by decide) rfl (Nat.le_of_ble_eq_true rfl) rfl ?_
  intro K n0 hl9 hG9 hk hn9 hrt
  subst hl9
  subst hG9
  have hR9 : RoomGe rm_X6_better rm_X6_better := RoomGe.rf
  replace h := id_e h
  rw [em_X6_better] at h
  refine vx_iload_n hk dX6_better_0 rfl ?_
  refine vx_if_ge (tgt := 6) hk dX6_better_1 (by decide) (fun hc => ?_) (fun hc => ?_)
  · replace h := it_t (g := id) h hc
    refine vx_aload_n hk dX6_better_6 rfl ?_
    refine vx_get (C := RX6) (T := TX6) (N := 3) (ci := 5) (v := .ref (A 0)) hk dX6_better_7 w2i_X6_better_X60 0 rfl rfl 1 (by decide) (by decide +kernel) rfl rfl ?_
    refine vx_iload_n hk dX6_better_10 rfl ?_
    refine vx_iload_n hk dX6_better_11 rfl ?_
    obtain ⟨r_1, er_1, h⟩ := bd_e (g := id) rfl h
    refine vx_callB (n := 2) (st := []) (b := (A 0)) (T := TX2) (N := 8) (ci := 1) hk dX6_better_12 (c_wgh (kl K) (kG K) A ms hCS er_1) rfl gd_X6_better_X2_weigh rfl (by decide +kernel) (frok hR9 (Nat.le_of_ble_eq_true rfl) (Nat.le_of_ble_eq_true rfl)) (roomk hR9 (Nat.le_of_ble_eq_true rfl) (Nat.le_of_ble_eq_true rfl)) FBk.le rfl rfl (Nat.le_of_ble_eq_true rfl) FBk.recv rfl (wr := [(ady, .inr (5, [.ref (A 14), .ref (A 0), .ref adbo]))]) [0] [1, 2, 3] 4 rfl (by decide) rfl rfl ?_
    intro v9 w9 hp9
    obtain ⟨rfl, rfl⟩ := hp9
    show VB K (FBk (kG K) A cell vals N R w) n0 4 [(ady, .inr (5, [.ref (A 14), .ref (A 0), .ref adbo])), ((A 14), .inr (7, [.int (nI N), .int (nI R), .int (nI w), .int ms, .ref (A 15), .ref (A 16)])), ((A 15), .inl (gI (kG K), 5, .inl fsv)), ((A 16), .inl (gI (kG K), 16, .inl fsc))] 15 [(0, .ref ady), (1, .int gr), (2, .int bs)] [.int r_1]
    refine vx_istore_n hk dX6_better_15 rfl (by decide) [1, 2, 3, 0] (lv' := [(0, .ref ady), (1, .int gr), (2, .int bs), (3, .int r_1)]) rfl ?_
    refine vx_iload_n hk dX6_better_16 rfl ?_
    obtain ⟨y_2, ey_2, h⟩ := bd_e (g := id) rfl h
    have Jy_2 : VB K (FBk (kG K) A cell vals N R w) n0 4 [(ady, .inr (5, [.ref (A 14), .ref (A 0), .ref adbo])), ((A 14), .inr (7, [.int (nI N), .int (nI R), .int (nI w), .int ms, .ref (A 15), .ref (A 16)])), ((A 15), .inl (gI (kG K), 5, .inl fsv)), ((A 16), .inl (gI (kG K), 16, .inl fsc))] 34 [(0, .ref ady), (1, .int gr), (2, .int bs), (3, .int r_1)] [.int y_2] := by
      replace h : some y_2 = some r := h
      replace h := Option.some.inj h
      subst h
      refine hrt (some (.int y_2)) _ _ _ (⟨rfl, rfl⟩) (dX6_better_34)
    clear h
    have h := id_e ey_2
    clear ey_2
    refine vx_if_gt (tgt := 29) hk dX6_better_17 (by decide) (fun hc => ?_) (fun hc => ?_)
    · replace h := it_t (g := id) h hc
      refine vx_iload_n hk dX6_better_29 rfl ?_
      refine vx_goto (tgt := 34) hk dX6_better_30 (by decide) ?_
      replace h : some (gr : Int32) = some y_2 := h
      replace h := Option.some.inj h
      subst h
      exact Jy_2
    · replace h := it_f (g := id) h hc
      refine vx_iload_n hk dX6_better_20 rfl ?_
      obtain ⟨y_3, ey_3, h⟩ := bd_e (g := id) rfl h
      have Jy_3 : VB K (FBk (kG K) A cell vals N R w) n0 4 [(ady, .inr (5, [.ref (A 14), .ref (A 0), .ref adbo])), ((A 14), .inr (7, [.int (nI N), .int (nI R), .int (nI w), .int ms, .ref (A 15), .ref (A 16)])), ((A 15), .inl (gI (kG K), 5, .inl fsv)), ((A 16), .inl (gI (kG K), 16, .inl fsc))] 34 [(0, .ref ady), (1, .int gr), (2, .int bs), (3, .int r_1)] [.int y_3] := by
        replace h : some (y_3 : Int32) = some y_2 := h
        replace h := Option.some.inj h
        subst h
        exact Jy_2
      clear h
      have h := id_e ey_3
      clear ey_3
      refine vx_if_ne (tgt := 33) hk dX6_better_21 (by decide) (fun hc => ?_) (fun hc => ?_)
      · replace h := it_f (g := id) h hc
        refine vx_iload_n hk dX6_better_33 rfl ?_
        replace h : some (bs : Int32) = some y_3 := h
        replace h := Option.some.inj h
        subst h
        exact Jy_3
      · replace h := it_t (g := id) h hc
        refine vx_iload_n hk dX6_better_24 rfl ?_
        refine vx_iload_n hk dX6_better_25 rfl ?_
        obtain ⟨y_4, ey_4, h⟩ := bd_e (g := id) rfl h
        have Jy_4 : VB K (FBk (kG K) A cell vals N R w) n0 4 [(ady, .inr (5, [.ref (A 14), .ref (A 0), .ref adbo])), ((A 14), .inr (7, [.int (nI N), .int (nI R), .int (nI w), .int ms, .ref (A 15), .ref (A 16)])), ((A 15), .inl (gI (kG K), 5, .inl fsv)), ((A 16), .inl (gI (kG K), 16, .inl fsc))] 34 [(0, .ref ady), (1, .int gr), (2, .int bs), (3, .int r_1)] [.int y_4] := by
          replace h : some (y_4 : Int32) = some y_3 := h
          replace h := Option.some.inj h
          subst h
          exact Jy_3
        clear h
        have h := id_e ey_4
        clear ey_4
        refine vx_icmp_ge (tgt := 33) hk dX6_better_26 (by decide) (fun hc => ?_) (fun hc => ?_)
        · replace h := it_t (g := id) h hc
          refine vx_iload_n hk dX6_better_33 rfl ?_
          replace h : some (bs : Int32) = some y_4 := h
          replace h := Option.some.inj h
          subst h
          exact Jy_4
        · replace h := it_f (g := id) h hc
          refine vx_iload_n hk dX6_better_29 rfl ?_
          refine vx_goto (tgt := 34) hk dX6_better_30 (by decide) ?_
          replace h : some (gr : Int32) = some y_4 := h
          replace h := Option.some.inj h
          subst h
          exact Jy_4
  · replace h := it_f (g := id) h hc
    refine vx_iload_n hk dX6_better_4 rfl ?_
    replace h : some gr = some r := h
    replace h := Option.some.inj h
    subst h
    refine hrt (some (.int gr)) _ _ _ (⟨rfl, rfl⟩) (dX6_better_5)
abbrev rm_X6_bestNear : Room := { frames := 6, cells := 2410, slots := 9180, locals := 250 }
set_option maxHeartbeats 4000000 in
set_option maxRecDepth 100000 in
theorem L_X6_bestNear_18 {K : Cx} {R9 : Room} {cell : Nat → Nat → Nat} {vals : Nat → Nat} {N : Nat} {R : Nat} {w : Nat} {ms : Int32} {A : Nat → Nat} {fsv : Nat → Int32} {fsc : Nat → Int32} {n0 : Nat} (hCS : CS N R w vals cell fsv fsc) (hk : Ok K cX6_bestNear 6 RX6 w2_X6_bestNear R9) (hR9 : RoomGe R9 rm_X6_bestNear) (ady : Nat) (adbo : Nat) (gr : Int32) (i3_2 : Int32) (b9 : (Int32 × Int32)) (kk0 : ∀ q9 : (Int32 × Int32), b9 = q9 → VB K (FBk (kG K) A cell vals N R w) n0 6 [(ady, .inr (5, [.ref (A 14), .ref (A 0), .ref adbo])), ((A 14), .inr (7, [.int (nI N), .int (nI R), .int (nI w), .int ms, .ref (A 15), .ref (A 16)])), ((A 15), .inl (gI (kG K), 5, .inl fsv)), ((A 16), .inl (gI (kG K), 16, .inl fsc))] 93 [(0, .ref ady), (1, .int gr), (2, .int q9.1), (3, .int i3_2), (4, .int q9.2)] []) : ∀ (nn : Nat) (i2_3 : Int32) (i4_4 : Int32), lp (b_X6_bestNear_18 cell vals N R w ms gr i3_2) nn (i2_3, i4_4) = some b9 → VB K (FBk (kG K) A cell vals N R w) n0 6 [(ady, .inr (5, [.ref (A 14), .ref (A 0), .ref adbo])), ((A 14), .inr (7, [.int (nI N), .int (nI R), .int (nI w), .int ms, .ref (A 15), .ref (A 16)])), ((A 15), .inl (gI (kG K), 5, .inl fsv)), ((A 16), .inl (gI (kG K), 16, .inl fsc))] 18 [(0, .ref ady), (1, .int gr), (2, .int i2_3), (3, .int i3_2), (4, .int i4_4)] [] := by
  intro nn
  induction nn with
  | zero => intro i2_3 i4_4 h; exact absurd h (by simp [lp])
  | succ nn ih =>
    intro i2_3 i4_4 h
    replace h := lp_s h
    rw [eb_X6_bestNear_18] at h
    refine vx_iload hk dX6_bestNear_18 rfl ?_
    refine vx_aload_n hk dX6_bestNear_20 rfl ?_
    refine vx_get (C := RX6) (T := TX6) (N := 3) (ci := 5) (v := .ref (A 14)) hk dX6_bestNear_21 w2i_X6_bestNear_X60 0 rfl rfl 0 (by decide) (by decide +kernel) rfl rfl ?_
    refine vx_get (C := RX8) (T := TX8) (N := 6) (ci := 7) (v := .int (nI N)) hk dX6_bestNear_24 w2i_X6_bestNear_X80 1 rfl rfl 0 (by decide) (by decide +kernel) rfl rfl ?_
    refine vx_icmp_ge (tgt := 93) hk dX6_bestNear_27 (by decide) (fun hc => ?_) (fun hc => ?_)
    · replace h := it_t (g := (lpk (lp (b_X6_bestNear_18 cell vals N R w ms gr i3_2) nn))) h hc
      replace h : some (i2_3, i4_4) = some b9 := h
      replace h := Option.some.inj h
      subst h
      exact kk0 _ rfl
    · replace h := it_f (g := (lpk (lp (b_X6_bestNear_18 cell vals N R w ms gr i3_2) nn))) h hc
      refine vx_iload_n hk dX6_bestNear_30 rfl ?_
      refine vx_iload hk dX6_bestNear_31 rfl ?_
      refine vx_icmp_ne (tgt := 39) hk dX6_bestNear_33 (by decide) (fun hc => ?_) (fun hc => ?_)
      · replace h := it_f (g := (lpk (lp (b_X6_bestNear_18 cell vals N R w ms gr i3_2) nn))) h hc
        refine vx_iload_n hk dX6_bestNear_39 rfl ?_
        refine vx_iload_n hk dX6_bestNear_40 rfl ?_
        refine vx_iload hk dX6_bestNear_41 rfl ?_
        obtain ⟨r_5, er_5, h⟩ := bd_e (g := (lpk (lp (b_X6_bestNear_18 cell vals N R w ms gr i3_2) nn))) rfl h
        refine vx_callS (n := 2) (st := [.int gr]) hk dX6_bestNear_43 (c_X0_arc (kl K) (kG K) i3_2 i4_4 r_5 er_5) gd_X6_bestNear_X0_arc rfl (by decide +kernel) (frok hR9 (Nat.le_of_ble_eq_true rfl) (Nat.le_of_ble_eq_true rfl)) ⟨⟨rfl, rfl⟩, roomk hR9 (Nat.le_of_ble_eq_true rfl) (Nat.le_of_ble_eq_true rfl)⟩ FBk.le rfl rfl (Nat.le_of_ble_eq_true rfl) (wr := [(ady, .inr (5, [.ref (A 14), .ref (A 0), .ref adbo])), ((A 14), .inr (7, [.int (nI N), .int (nI R), .int (nI w), .int ms, .ref (A 15), .ref (A 16)])), ((A 15), .inl (gI (kG K), 5, .inl fsv)), ((A 16), .inl (gI (kG K), 16, .inl fsc))]) [0, 1, 2, 3] [] 4 rfl (by decide) rfl rfl ?_
        intro v9 w9 hp9
        obtain ⟨rfl, rfl⟩ := hp9
        show VB K (FBk (kG K) A cell vals N R w) n0 6 [(ady, .inr (5, [.ref (A 14), .ref (A 0), .ref adbo])), ((A 14), .inr (7, [.int (nI N), .int (nI R), .int (nI w), .int ms, .ref (A 15), .ref (A 16)])), ((A 15), .inl (gI (kG K), 5, .inl fsv)), ((A 16), .inl (gI (kG K), 16, .inl fsc))] 46 [(0, .ref ady), (1, .int gr), (2, .int i2_3), (3, .int i3_2), (4, .int i4_4)] [.int r_5, .int gr]
        refine vx_ixor hk dX6_bestNear_46 ?_
        obtain ⟨x5_6, ex5_6, h⟩ := lt_e (g := (lpk (lp (b_X6_bestNear_18 cell vals N R w ms gr i3_2) nn))) h
        refine vx_topi ex5_6.symm ?_
        refine vx_istore hk dX6_bestNear_47 (by decide) [1, 2, 3, 4, 5, 0] (lv' := [(0, .ref ady), (1, .int gr), (2, .int i2_3), (3, .int i3_2), (4, .int i4_4), (5, .int x5_6)]) rfl ?_
        refine vx_iload_n hk dX6_bestNear_49 rfl ?_
        refine vx_iload hk dX6_bestNear_50 rfl ?_
        refine vx_iload_n hk dX6_bestNear_52 rfl ?_
        obtain ⟨r_7, er_7, h⟩ := bd_e (g := (lpk (lp (b_X6_bestNear_18 cell vals N R w ms gr i3_2) nn))) rfl h
        refine vx_callS (n := 3) (st := []) hk dX6_bestNear_53 (c_X0_has (kl K) (kG K) gr i4_4 i3_2 r_7 er_7) gd_X6_bestNear_X0_has rfl (by decide +kernel) (frok hR9 (Nat.le_of_ble_eq_true rfl) (Nat.le_of_ble_eq_true rfl)) ⟨⟨rfl, rfl⟩, roomk hR9 (Nat.le_of_ble_eq_true rfl) (Nat.le_of_ble_eq_true rfl)⟩ FBk.le rfl rfl (Nat.le_of_ble_eq_true rfl) (wr := [(ady, .inr (5, [.ref (A 14), .ref (A 0), .ref adbo])), ((A 14), .inr (7, [.int (nI N), .int (nI R), .int (nI w), .int ms, .ref (A 15), .ref (A 16)])), ((A 15), .inl (gI (kG K), 5, .inl fsv)), ((A 16), .inl (gI (kG K), 16, .inl fsc))]) [0, 1, 2, 3] [] 4 rfl (by decide) rfl rfl ?_
        intro v9 w9 hp9
        obtain ⟨rfl, rfl⟩ := hp9
        show VB K (FBk (kG K) A cell vals N R w) n0 6 [(ady, .inr (5, [.ref (A 14), .ref (A 0), .ref adbo])), ((A 14), .inr (7, [.int (nI N), .int (nI R), .int (nI w), .int ms, .ref (A 15), .ref (A 16)])), ((A 15), .inl (gI (kG K), 5, .inl fsv)), ((A 16), .inl (gI (kG K), 16, .inl fsc))] 56 [(0, .ref ady), (1, .int gr), (2, .int i2_3), (3, .int i3_2), (4, .int i4_4), (5, .int x5_6)] [.int r_7]
        refine vx_if_eq (tgt := 70) hk dX6_bestNear_56 (by decide) (fun hc => ?_) (fun hc => ?_)
        · replace h := it_t (g := (lpk (lp (b_X6_bestNear_18 cell vals N R w ms gr i3_2) nn))) h hc
          refine vx_aload_n hk dX6_bestNear_70 rfl ?_
          refine vx_iload hk dX6_bestNear_71 rfl ?_
          obtain ⟨r_8, er_8, h⟩ := bd_e (g := (lpk (lp (b_X6_bestNear_18 cell vals N R w ms gr i3_2) nn))) rfl h
          refine vx_callV (n := 1) (st := []) (b := ady) (T := TX6) (N := 3) hk dX6_bestNear_73 (c_X6_isOpen (kl K) (kG K) ady (A 14) (A 0) adbo (A 15) (A 16) (nI N) (nI R) (nI w) ms x5_6 r_8 er_8) rfl gd_X6_bestNear_X6_isOpen rfl (by decide +kernel) (frok hR9 (Nat.le_of_ble_eq_true rfl) (Nat.le_of_ble_eq_true rfl)) ⟨⟨rfl, rfl⟩, roomk hR9 (Nat.le_of_ble_eq_true rfl) (Nat.le_of_ble_eq_true rfl)⟩ FBk.le rfl rfl (Nat.le_of_ble_eq_true rfl) 0 rfl rfl (wr := [((A 15), .inl (gI (kG K), 5, .inl fsv)), ((A 16), .inl (gI (kG K), 16, .inl fsc))]) [2, 3] [0, 1] 4 rfl (by decide) rfl rfl ?_
          intro v9 w9 hp9
          obtain ⟨rfl, rfl⟩ := hp9
          show VB K (FBk (kG K) A cell vals N R w) n0 6 [((A 15), .inl (gI (kG K), 5, .inl fsv)), ((A 16), .inl (gI (kG K), 16, .inl fsc)), (ady, .inr (5, [.ref (A 14), .ref (A 0), .ref adbo])), ((A 14), .inr (7, [.int (nI N), .int (nI R), .int (nI w), .int ms, .ref (A 15), .ref (A 16)]))] 76 [(0, .ref ady), (1, .int gr), (2, .int i2_3), (3, .int i3_2), (4, .int i4_4), (5, .int x5_6)] [.int r_8]
          refine vx_if_eq (tgt := 87) hk dX6_bestNear_76 (by decide) (fun hc => ?_) (fun hc => ?_)
          · replace h := it_t (g := (lpk (lp (b_X6_bestNear_18 cell vals N R w ms gr i3_2) nn))) h hc
            obtain ⟨x4_9, ex4_9, h⟩ := lt_e (g := (lpk (lp (b_X6_bestNear_18 cell vals N R w ms gr i3_2) nn))) h
            refine vx_iinc (v := x4_9) hk dX6_bestNear_87 rfl (by rw [ex4_9]; rfl) (by decide) [1, 2, 3, 4, 0, 5] (lv' := [(0, .ref ady), (1, .int gr), (2, .int i2_3), (3, .int i3_2), (4, .int x4_9), (5, .int x5_6)]) rfl ?_
            refine vx_goto (tgt := 18) hk dX6_bestNear_90 (by decide) ?_
            refine vx_loc [0, 1, 2, 3, 4] (lv' := [(0, .ref ady), (1, .int gr), (2, .int i2_3), (3, .int i3_2), (4, .int x4_9)]) rfl ?_
            refine vx_perm [2, 3, 0, 1] 4 rfl (by decide) (ws' := [(ady, .inr (5, [.ref (A 14), .ref (A 0), .ref adbo])), ((A 14), .inr (7, [.int (nI N), .int (nI R), .int (nI w), .int ms, .ref (A 15), .ref (A 16)])), ((A 15), .inl (gI (kG K), 5, .inl fsv)), ((A 16), .inl (gI (kG K), 16, .inl fsc))]) rfl ?_
            exact ih i2_3 x4_9 h
          · replace h := it_f (g := (lpk (lp (b_X6_bestNear_18 cell vals N R w ms gr i3_2) nn))) h hc
            refine vx_aload_n hk dX6_bestNear_79 rfl ?_
            refine vx_iload hk dX6_bestNear_80 rfl ?_
            refine vx_iload_n hk dX6_bestNear_82 rfl ?_
            obtain ⟨r_10, er_10, h⟩ := bd_e (g := (lpk (lp (b_X6_bestNear_18 cell vals N R w ms gr i3_2) nn))) rfl h
            refine vx_callB (n := 2) (st := []) (b := ady) (T := TX6) (N := 3) (ci := 5) hk dX6_bestNear_83 (c_X6_better (kl K) (kG K) A hCS ady adbo x5_6 i2_3 r_10 er_10) rfl gd_X6_bestNear_X6_better rfl (by decide +kernel) (frok hR9 (Nat.le_of_ble_eq_true rfl) (Nat.le_of_ble_eq_true rfl)) (roomk hR9 (Nat.le_of_ble_eq_true rfl) (Nat.le_of_ble_eq_true rfl)) FBk.le rfl rfl (Nat.le_of_ble_eq_true rfl) (fun _ _ _ => ⟨_, List.mem_append_left _ (List.mem_of_getElem? (i := 2) rfl)⟩) rfl (wr := []) [] [2, 3, 0, 1] 4 rfl (by decide) rfl rfl ?_
            intro v9 w9 hp9
            obtain ⟨rfl, rfl⟩ := hp9
            show VB K (FBk (kG K) A cell vals N R w) n0 6 [(ady, .inr (5, [.ref (A 14), .ref (A 0), .ref adbo])), ((A 14), .inr (7, [.int (nI N), .int (nI R), .int (nI w), .int ms, .ref (A 15), .ref (A 16)])), ((A 15), .inl (gI (kG K), 5, .inl fsv)), ((A 16), .inl (gI (kG K), 16, .inl fsc))] 86 [(0, .ref ady), (1, .int gr), (2, .int i2_3), (3, .int i3_2), (4, .int i4_4), (5, .int x5_6)] [.int r_10]
            refine vx_istore_n hk dX6_bestNear_86 rfl (by decide) [1, 2, 0, 3, 4, 5] (lv' := [(0, .ref ady), (1, .int gr), (2, .int r_10), (3, .int i3_2), (4, .int i4_4), (5, .int x5_6)]) rfl ?_
            obtain ⟨x4_11, ex4_11, h⟩ := lt_e (g := (lpk (lp (b_X6_bestNear_18 cell vals N R w ms gr i3_2) nn))) h
            refine vx_iinc (v := x4_11) hk dX6_bestNear_87 rfl (by rw [ex4_11]; rfl) (by decide) [1, 2, 3, 4, 0, 5] (lv' := [(0, .ref ady), (1, .int gr), (2, .int r_10), (3, .int i3_2), (4, .int x4_11), (5, .int x5_6)]) rfl ?_
            refine vx_goto (tgt := 18) hk dX6_bestNear_90 (by decide) ?_
            refine vx_loc [0, 1, 2, 3, 4] (lv' := [(0, .ref ady), (1, .int gr), (2, .int r_10), (3, .int i3_2), (4, .int x4_11)]) rfl ?_
            exact ih r_10 x4_11 h
        · replace h := it_f (g := (lpk (lp (b_X6_bestNear_18 cell vals N R w ms gr i3_2) nn))) h hc
          refine vx_iload hk dX6_bestNear_59 rfl ?_
          refine vx_iload hk dX6_bestNear_61 rfl ?_
          refine vx_iload_n hk dX6_bestNear_63 rfl ?_
          obtain ⟨r_12, er_12, h⟩ := bd_e (g := (lpk (lp (b_X6_bestNear_18 cell vals N R w ms gr i3_2) nn))) rfl h
          refine vx_callS (n := 2) (st := [.int x5_6]) hk dX6_bestNear_64 (c_X0_arc (kl K) (kG K) i4_4 i3_2 r_12 er_12) gd_X6_bestNear_X0_arc rfl (by decide +kernel) (frok hR9 (Nat.le_of_ble_eq_true rfl) (Nat.le_of_ble_eq_true rfl)) ⟨⟨rfl, rfl⟩, roomk hR9 (Nat.le_of_ble_eq_true rfl) (Nat.le_of_ble_eq_true rfl)⟩ FBk.le rfl rfl (Nat.le_of_ble_eq_true rfl) (wr := [(ady, .inr (5, [.ref (A 14), .ref (A 0), .ref adbo])), ((A 14), .inr (7, [.int (nI N), .int (nI R), .int (nI w), .int ms, .ref (A 15), .ref (A 16)])), ((A 15), .inl (gI (kG K), 5, .inl fsv)), ((A 16), .inl (gI (kG K), 16, .inl fsc))]) [0, 1, 2, 3] [] 4 rfl (by decide) rfl rfl ?_
          intro v9 w9 hp9
          obtain ⟨rfl, rfl⟩ := hp9
          show VB K (FBk (kG K) A cell vals N R w) n0 6 [(ady, .inr (5, [.ref (A 14), .ref (A 0), .ref adbo])), ((A 14), .inr (7, [.int (nI N), .int (nI R), .int (nI w), .int ms, .ref (A 15), .ref (A 16)])), ((A 15), .inl (gI (kG K), 5, .inl fsv)), ((A 16), .inl (gI (kG K), 16, .inl fsc))] 67 [(0, .ref ady), (1, .int gr), (2, .int i2_3), (3, .int i3_2), (4, .int i4_4), (5, .int x5_6)] [.int r_12, .int x5_6]
          refine vx_ixor hk dX6_bestNear_67 ?_
          obtain ⟨x5_13, ex5_13, h⟩ := lt_e (g := (lpk (lp (b_X6_bestNear_18 cell vals N R w ms gr i3_2) nn))) h
          refine vx_topi ex5_13.symm ?_
          refine vx_istore hk dX6_bestNear_68 (by decide) [1, 2, 3, 4, 5, 0] (lv' := [(0, .ref ady), (1, .int gr), (2, .int i2_3), (3, .int i3_2), (4, .int i4_4), (5, .int x5_13)]) rfl ?_
          refine vx_aload_n hk dX6_bestNear_70 rfl ?_
          refine vx_iload hk dX6_bestNear_71 rfl ?_
          obtain ⟨r_14, er_14, h⟩ := bd_e (g := (lpk (lp (b_X6_bestNear_18 cell vals N R w ms gr i3_2) nn))) rfl h
          refine vx_callV (n := 1) (st := []) (b := ady) (T := TX6) (N := 3) hk dX6_bestNear_73 (c_X6_isOpen (kl K) (kG K) ady (A 14) (A 0) adbo (A 15) (A 16) (nI N) (nI R) (nI w) ms x5_13 r_14 er_14) rfl gd_X6_bestNear_X6_isOpen rfl (by decide +kernel) (frok hR9 (Nat.le_of_ble_eq_true rfl) (Nat.le_of_ble_eq_true rfl)) ⟨⟨rfl, rfl⟩, roomk hR9 (Nat.le_of_ble_eq_true rfl) (Nat.le_of_ble_eq_true rfl)⟩ FBk.le rfl rfl (Nat.le_of_ble_eq_true rfl) 0 rfl rfl (wr := [((A 15), .inl (gI (kG K), 5, .inl fsv)), ((A 16), .inl (gI (kG K), 16, .inl fsc))]) [2, 3] [0, 1] 4 rfl (by decide) rfl rfl ?_
          intro v9 w9 hp9
          obtain ⟨rfl, rfl⟩ := hp9
          show VB K (FBk (kG K) A cell vals N R w) n0 6 [((A 15), .inl (gI (kG K), 5, .inl fsv)), ((A 16), .inl (gI (kG K), 16, .inl fsc)), (ady, .inr (5, [.ref (A 14), .ref (A 0), .ref adbo])), ((A 14), .inr (7, [.int (nI N), .int (nI R), .int (nI w), .int ms, .ref (A 15), .ref (A 16)]))] 76 [(0, .ref ady), (1, .int gr), (2, .int i2_3), (3, .int i3_2), (4, .int i4_4), (5, .int x5_13)] [.int r_14]
          refine vx_if_eq (tgt := 87) hk dX6_bestNear_76 (by decide) (fun hc => ?_) (fun hc => ?_)
          · replace h := it_t (g := (lpk (lp (b_X6_bestNear_18 cell vals N R w ms gr i3_2) nn))) h hc
            obtain ⟨x4_15, ex4_15, h⟩ := lt_e (g := (lpk (lp (b_X6_bestNear_18 cell vals N R w ms gr i3_2) nn))) h
            refine vx_iinc (v := x4_15) hk dX6_bestNear_87 rfl (by rw [ex4_15]; rfl) (by decide) [1, 2, 3, 4, 0, 5] (lv' := [(0, .ref ady), (1, .int gr), (2, .int i2_3), (3, .int i3_2), (4, .int x4_15), (5, .int x5_13)]) rfl ?_
            refine vx_goto (tgt := 18) hk dX6_bestNear_90 (by decide) ?_
            refine vx_loc [0, 1, 2, 3, 4] (lv' := [(0, .ref ady), (1, .int gr), (2, .int i2_3), (3, .int i3_2), (4, .int x4_15)]) rfl ?_
            refine vx_perm [2, 3, 0, 1] 4 rfl (by decide) (ws' := [(ady, .inr (5, [.ref (A 14), .ref (A 0), .ref adbo])), ((A 14), .inr (7, [.int (nI N), .int (nI R), .int (nI w), .int ms, .ref (A 15), .ref (A 16)])), ((A 15), .inl (gI (kG K), 5, .inl fsv)), ((A 16), .inl (gI (kG K), 16, .inl fsc))]) rfl ?_
            exact ih i2_3 x4_15 h
          · replace h := it_f (g := (lpk (lp (b_X6_bestNear_18 cell vals N R w ms gr i3_2) nn))) h hc
            refine vx_aload_n hk dX6_bestNear_79 rfl ?_
            refine vx_iload hk dX6_bestNear_80 rfl ?_
            refine vx_iload_n hk dX6_bestNear_82 rfl ?_
            obtain ⟨r_16, er_16, h⟩ := bd_e (g := (lpk (lp (b_X6_bestNear_18 cell vals N R w ms gr i3_2) nn))) rfl h
            refine vx_callB (n := 2) (st := []) (b := ady) (T := TX6) (N := 3) (ci := 5) hk dX6_bestNear_83 (c_X6_better (kl K) (kG K) A hCS ady adbo x5_13 i2_3 r_16 er_16) rfl gd_X6_bestNear_X6_better rfl (by decide +kernel) (frok hR9 (Nat.le_of_ble_eq_true rfl) (Nat.le_of_ble_eq_true rfl)) (roomk hR9 (Nat.le_of_ble_eq_true rfl) (Nat.le_of_ble_eq_true rfl)) FBk.le rfl rfl (Nat.le_of_ble_eq_true rfl) (fun _ _ _ => ⟨_, List.mem_append_left _ (List.mem_of_getElem? (i := 2) rfl)⟩) rfl (wr := []) [] [2, 3, 0, 1] 4 rfl (by decide) rfl rfl ?_
            intro v9 w9 hp9
            obtain ⟨rfl, rfl⟩ := hp9
            show VB K (FBk (kG K) A cell vals N R w) n0 6 [(ady, .inr (5, [.ref (A 14), .ref (A 0), .ref adbo])), ((A 14), .inr (7, [.int (nI N), .int (nI R), .int (nI w), .int ms, .ref (A 15), .ref (A 16)])), ((A 15), .inl (gI (kG K), 5, .inl fsv)), ((A 16), .inl (gI (kG K), 16, .inl fsc))] 86 [(0, .ref ady), (1, .int gr), (2, .int i2_3), (3, .int i3_2), (4, .int i4_4), (5, .int x5_13)] [.int r_16]
            refine vx_istore_n hk dX6_bestNear_86 rfl (by decide) [1, 2, 0, 3, 4, 5] (lv' := [(0, .ref ady), (1, .int gr), (2, .int r_16), (3, .int i3_2), (4, .int i4_4), (5, .int x5_13)]) rfl ?_
            obtain ⟨x4_17, ex4_17, h⟩ := lt_e (g := (lpk (lp (b_X6_bestNear_18 cell vals N R w ms gr i3_2) nn))) h
            refine vx_iinc (v := x4_17) hk dX6_bestNear_87 rfl (by rw [ex4_17]; rfl) (by decide) [1, 2, 3, 4, 0, 5] (lv' := [(0, .ref ady), (1, .int gr), (2, .int r_16), (3, .int i3_2), (4, .int x4_17), (5, .int x5_13)]) rfl ?_
            refine vx_goto (tgt := 18) hk dX6_bestNear_90 (by decide) ?_
            refine vx_loc [0, 1, 2, 3, 4] (lv' := [(0, .ref ady), (1, .int gr), (2, .int r_16), (3, .int i3_2), (4, .int x4_17)]) rfl ?_
            exact ih r_16 x4_17 h
      · replace h := it_t (g := (lpk (lp (b_X6_bestNear_18 cell vals N R w ms gr i3_2) nn))) h hc
        refine vx_goto (tgt := 87) hk dX6_bestNear_36 (by decide) ?_
        obtain ⟨x4_18, ex4_18, h⟩ := lt_e (g := (lpk (lp (b_X6_bestNear_18 cell vals N R w ms gr i3_2) nn))) h
        refine vx_iinc (v := x4_18) hk dX6_bestNear_87 rfl (by rw [ex4_18]; rfl) (by decide) [1, 2, 3, 4, 0] (lv' := [(0, .ref ady), (1, .int gr), (2, .int i2_3), (3, .int i3_2), (4, .int x4_18)]) rfl ?_
        refine vx_goto (tgt := 18) hk dX6_bestNear_90 (by decide) ?_
        exact ih i2_3 x4_18 h
set_option maxHeartbeats 4000000 in
set_option maxRecDepth 100000 in
theorem L_X6_bestNear_4 {K : Cx} {R9 : Room} {cell : Nat → Nat → Nat} {vals : Nat → Nat} {N : Nat} {R : Nat} {w : Nat} {ms : Int32} {A : Nat → Nat} {fsv : Nat → Int32} {fsc : Nat → Int32} {n0 : Nat} (hCS : CS N R w vals cell fsv fsc) (hk : Ok K cX6_bestNear 6 RX6 w2_X6_bestNear R9) (hR9 : RoomGe R9 rm_X6_bestNear) (ady : Nat) (adbo : Nat) (gr : Int32) (b9 : (Int32 × Int32)) (kk0 : ∀ q9 : (Int32 × Int32), b9 = q9 → VB K (FBk (kG K) A cell vals N R w) n0 6 [(ady, .inr (5, [.ref (A 14), .ref (A 0), .ref adbo])), ((A 14), .inr (7, [.int (nI N), .int (nI R), .int (nI w), .int ms, .ref (A 15), .ref (A 16)])), ((A 15), .inl (gI (kG K), 5, .inl fsv)), ((A 16), .inl (gI (kG K), 16, .inl fsc))] 99 [(0, .ref ady), (1, .int gr), (2, .int q9.1), (3, .int q9.2)] []) : ∀ (nn : Nat) (i2_1 : Int32) (i3_2 : Int32), lp (b_X6_bestNear_4 cell vals N R w ms gr) nn (i2_1, i3_2) = some b9 → VB K (FBk (kG K) A cell vals N R w) n0 6 [(ady, .inr (5, [.ref (A 14), .ref (A 0), .ref adbo])), ((A 14), .inr (7, [.int (nI N), .int (nI R), .int (nI w), .int ms, .ref (A 15), .ref (A 16)])), ((A 15), .inl (gI (kG K), 5, .inl fsv)), ((A 16), .inl (gI (kG K), 16, .inl fsc))] 4 [(0, .ref ady), (1, .int gr), (2, .int i2_1), (3, .int i3_2)] [] := by
  intro nn
  induction nn with
  | zero => intro i2_1 i3_2 h; exact absurd h (by simp [lp])
  | succ nn ih =>
    intro i2_1 i3_2 h
    replace h := lp_s h
    rw [eb_X6_bestNear_4] at h
    refine vx_iload_n hk dX6_bestNear_4 rfl ?_
    refine vx_aload_n hk dX6_bestNear_5 rfl ?_
    refine vx_get (C := RX6) (T := TX6) (N := 3) (ci := 5) (v := .ref (A 14)) hk dX6_bestNear_6 w2i_X6_bestNear_X60 0 rfl rfl 0 (by decide) (by decide +kernel) rfl rfl ?_
    refine vx_get (C := RX8) (T := TX8) (N := 6) (ci := 7) (v := .int (nI N)) hk dX6_bestNear_9 w2i_X6_bestNear_X80 1 rfl rfl 0 (by decide) (by decide +kernel) rfl rfl ?_
    refine vx_icmp_ge (tgt := 99) hk dX6_bestNear_12 (by decide) (fun hc => ?_) (fun hc => ?_)
    · replace h := it_t (g := (lpk (lp (b_X6_bestNear_4 cell vals N R w ms gr) nn))) h hc
      replace h : some (i2_1, i3_2) = some b9 := h
      replace h := Option.some.inj h
      subst h
      exact kk0 _ rfl
    · replace h := it_f (g := (lpk (lp (b_X6_bestNear_4 cell vals N R w ms gr) nn))) h hc
      refine vx_iconst (v := 0) hk dX6_bestNear_15 (by decide) ?_
      refine vx_istore hk dX6_bestNear_16 (by decide) [1, 2, 3, 4, 0] (lv' := [(0, .ref ady), (1, .int gr), (2, .int i2_1), (3, .int i3_2), (4, .int 0)]) rfl ?_
      obtain ⟨b_21, eb_21, h⟩ := bd_e (g := (lpk (lp (b_X6_bestNear_4 cell vals N R w ms gr) nn))) rfl h
      refine L_X6_bestNear_18 hCS hk hR9 ady adbo gr i3_2 b_21 (fun q_19 eq_19 => ?_) FU i2_1 0 eb_21
      · replace eq_19 := eq_19.symm
        subst eq_19
        obtain ⟨x3_20, ex3_20, h⟩ := lt_e (g := (lpk (lp (b_X6_bestNear_4 cell vals N R w ms gr) nn))) h
        refine vx_iinc (v := x3_20) hk dX6_bestNear_93 rfl (by rw [ex3_20]; rfl) (by decide) [1, 2, 3, 0, 4] (lv' := [(0, .ref ady), (1, .int gr), (2, .int q_19.1), (3, .int x3_20), (4, .int q_19.2)]) rfl ?_
        refine vx_goto (tgt := 4) hk dX6_bestNear_96 (by decide) ?_
        refine vx_loc [0, 1, 2, 3] (lv' := [(0, .ref ady), (1, .int gr), (2, .int q_19.1), (3, .int x3_20)]) rfl ?_
        exact ih q_19.1 x3_20 h
set_option maxHeartbeats 4000000 in
set_option maxRecDepth 100000 in
theorem c_X6_bestNear (l : Launch) (G : GG) (A : Nat → Nat) {fsv : Nat → Int32} {fsc : Nat → Int32} {cell : Nat → Nat → Nat} {vals : Nat → Nat} {N : Nat} {R : Nat} {w : Nat} {ms : Int32} (hCS : CS N R w vals cell fsv fsc) (ady : Nat) (adbo : Nat) (gr : Int32) (r : Int32) (h : m_X6_bestNear cell vals N R w ms gr = some r) : CtrB l G (FBk G A cell vals N R w) yX6_bestNear w2_X6_bestNear rm_X6_bestNear [.ref ady, .int gr] [(ady, .inr (5, [.ref (A 14), .ref (A 0), .ref adbo])), ((A 14), .inr (7, [.int (nI N), .int (nI R), .int (nI w), .int ms, .ref (A 15), .ref (A 16)])), ((A 15), .inl (gI G, 5, .inl fsv)), ((A 16), .inl (gI G, 16, .inl fsc))] (fun v w9 => v = some (.int r) ∧ w9 = [(ady, .inr (5, [.ref (A 14), .ref (A 0), .ref adbo])), ((A 14), .inr (7, [.int (nI N), .int (nI R), .int (nI w), .int ms, .ref (A 15), .ref (A 16)])), ((A 15), .inl (gI G, 5, .inl fsv)), ((A 16), .inl (gI G, 16, .inl fsc))]) := by
  refine ctrB_entry FBk.le (Nat.le_of_ble_eq_true rfl) (Nat.le_of_ble_eq_true rfl) (cc := cX6_bestNear) (maxL := 6) (ret := some .int) (lv0 := [(0, .ref ady), (1, .int gr)]) (by decide) rfl (Nat.le_of_ble_eq_true rfl) rfl ?_
  intro K n0 hl9 hG9 hk hn9 hrt
  subst hl9
  subst hG9
  have hR9 : RoomGe rm_X6_bestNear rm_X6_bestNear := RoomGe.rf
  replace h := id_e h
  rw [em_X6_bestNear] at h
  refine vx_iconst (v := (-1)) hk dX6_bestNear_0 (by decide) ?_
  refine vx_istore_n hk dX6_bestNear_1 rfl (by decide) [1, 2, 0] (lv' := [(0, .ref ady), (1, .int gr), (2, .int (-1))]) rfl ?_
  refine vx_iconst (v := 0) hk dX6_bestNear_2 (by decide) ?_
  refine vx_istore_n hk dX6_bestNear_3 rfl (by decide) [1, 2, 3, 0] (lv' := [(0, .ref ady), (1, .int gr), (2, .int (-1)), (3, .int 0)]) rfl ?_
  obtain ⟨b_23, eb_23, h⟩ := bd_e (g := id) rfl h
  refine L_X6_bestNear_4 hCS hk hR9 ady adbo gr b_23 (fun q_22 eq_22 => ?_) FU (-1) 0 eb_23
  · replace eq_22 := eq_22.symm
    subst eq_22
    refine vx_iload_n hk dX6_bestNear_99 rfl ?_
    replace h : some q_22.1 = some r := h
    replace h := Option.some.inj h
    subst h
    refine hrt (some (.int q_22.1)) _ _ _ (⟨rfl, rfl⟩) (dX6_bestNear_100)
abbrev rm_X6_climbFrom : Room := { frames := 7, cells := 3210, slots := 12220, locals := 275 }
set_option maxHeartbeats 4000000 in
set_option maxRecDepth 100000 in
theorem L_X6_climbFrom_5 {K : Cx} {R9 : Room} {cell : Nat → Nat → Nat} {vals : Nat → Nat} {N : Nat} {R : Nat} {w : Nat} {ms : Int32} {A : Nat → Nat} {fsv : Nat → Int32} {fsc : Nat → Int32} {n0 : Nat} (hCS : CS N R w vals cell fsv fsc) (hk : Ok K cX6_climbFrom 6 RX6 w2_X6_climbFrom R9) (hR9 : RoomGe R9 rm_X6_climbFrom) (ady : Nat) (adbo : Nat) (gr : Int32) (steps : Int32) (b9 : (Int32 × Int32)) (kk0 : ∀ q9 : (Int32 × Int32), b9 = q9 → VB K (FBk (kG K) A cell vals N R w) n0 6 [(ady, .inr (5, [.ref (A 14), .ref (A 0), .ref adbo])), ((A 14), .inr (7, [.int (nI N), .int (nI R), .int (nI w), .int ms, .ref (A 15), .ref (A 16)])), ((A 15), .inl (gI (kG K), 5, .inl fsv)), ((A 16), .inl (gI (kG K), 16, .inl fsc))] 48 [(0, .ref ady), (1, .int gr), (2, .int steps), (3, .int q9.1), (4, .int q9.2)] []) : ∀ (nn : Nat) (i3_1 : Int32) (i4_2 : Int32), lp (b_X6_climbFrom_5 cell vals N R w ms steps) nn (i3_1, i4_2) = some b9 → VB K (FBk (kG K) A cell vals N R w) n0 6 [(ady, .inr (5, [.ref (A 14), .ref (A 0), .ref adbo])), ((A 14), .inr (7, [.int (nI N), .int (nI R), .int (nI w), .int ms, .ref (A 15), .ref (A 16)])), ((A 15), .inl (gI (kG K), 5, .inl fsv)), ((A 16), .inl (gI (kG K), 16, .inl fsc))] 5 [(0, .ref ady), (1, .int gr), (2, .int steps), (3, .int i3_1), (4, .int i4_2)] [] := by
  intro nn
  induction nn with
  | zero => intro i3_1 i4_2 h; exact absurd h (by simp [lp])
  | succ nn ih =>
    intro i3_1 i4_2 h
    replace h := lp_s h
    rw [eb_X6_climbFrom_5] at h
    refine vx_iload hk dX6_climbFrom_5 rfl ?_
    refine vx_iload_n hk dX6_climbFrom_7 rfl ?_
    refine vx_icmp_ge (tgt := 48) hk dX6_climbFrom_8 (by decide) (fun hc => ?_) (fun hc => ?_)
    · replace h := it_t (g := (lpk (lp (b_X6_climbFrom_5 cell vals N R w ms steps) nn))) h hc
      replace h : some (i3_1, i4_2) = some b9 := h
      replace h := Option.some.inj h
      subst h
      exact kk0 _ rfl
    · replace h := it_f (g := (lpk (lp (b_X6_climbFrom_5 cell vals N R w ms steps) nn))) h hc
      refine vx_aload_n hk dX6_climbFrom_11 rfl ?_
      refine vx_iload_n hk dX6_climbFrom_12 rfl ?_
      obtain ⟨r_3, er_3, h⟩ := bd_e (g := (lpk (lp (b_X6_climbFrom_5 cell vals N R w ms steps) nn))) rfl h
      refine vx_callB (n := 1) (st := []) (b := ady) (T := TX6) (N := 3) (ci := 5) hk dX6_climbFrom_13 (c_X6_bestNear (kl K) (kG K) A hCS ady adbo i3_1 r_3 er_3) rfl gd_X6_climbFrom_X6_bestNear rfl (by decide +kernel) (frok hR9 (Nat.le_of_ble_eq_true rfl) (Nat.le_of_ble_eq_true rfl)) (roomk hR9 (Nat.le_of_ble_eq_true rfl) (Nat.le_of_ble_eq_true rfl)) FBk.le rfl rfl (Nat.le_of_ble_eq_true rfl) (fun _ _ _ => ⟨_, List.mem_append_left _ (List.mem_of_getElem? (i := 0) rfl)⟩) rfl (wr := []) [] [0, 1, 2, 3] 4 rfl (by decide) rfl rfl ?_
      intro v9 w9 hp9
      obtain ⟨rfl, rfl⟩ := hp9
      show VB K (FBk (kG K) A cell vals N R w) n0 6 [(ady, .inr (5, [.ref (A 14), .ref (A 0), .ref adbo])), ((A 14), .inr (7, [.int (nI N), .int (nI R), .int (nI w), .int ms, .ref (A 15), .ref (A 16)])), ((A 15), .inl (gI (kG K), 5, .inl fsv)), ((A 16), .inl (gI (kG K), 16, .inl fsc))] 16 [(0, .ref ady), (1, .int gr), (2, .int steps), (3, .int i3_1), (4, .int i4_2)] [.int r_3]
      refine vx_istore hk dX6_climbFrom_16 (by decide) [1, 2, 3, 4, 5, 0] (lv' := [(0, .ref ady), (1, .int gr), (2, .int steps), (3, .int i3_1), (4, .int i4_2), (5, .int r_3)]) rfl ?_
      refine vx_iload hk dX6_climbFrom_18 rfl ?_
      refine vx_if_lt (tgt := 48) hk dX6_climbFrom_20 (by decide) (fun hc => ?_) (fun hc => ?_)
      · replace h := it_t (g := (lpk (lp (b_X6_climbFrom_5 cell vals N R w ms steps) nn))) h hc
        refine vx_loc [0, 1, 2, 3, 4] (lv' := [(0, .ref ady), (1, .int gr), (2, .int steps), (3, .int i3_1), (4, .int i4_2)]) rfl ?_
        replace h : some (i3_1, i4_2) = some b9 := h
        replace h := Option.some.inj h
        subst h
        exact kk0 _ rfl
      · replace h := it_f (g := (lpk (lp (b_X6_climbFrom_5 cell vals N R w ms steps) nn))) h hc
        refine vx_aload_n hk dX6_climbFrom_23 rfl ?_
        refine vx_get (C := RX6) (T := TX6) (N := 3) (ci := 5) (v := .ref (A 0)) hk dX6_climbFrom_24 w2i_X6_climbFrom_X60 0 rfl rfl 1 (by decide) (by decide +kernel) rfl rfl ?_
        refine vx_iload hk dX6_climbFrom_27 rfl ?_
        refine vx_iload_n hk dX6_climbFrom_29 rfl ?_
        obtain ⟨r_4, er_4, h⟩ := bd_e (g := (lpk (lp (b_X6_climbFrom_5 cell vals N R w ms steps) nn))) rfl h
        refine vx_callB (n := 2) (st := []) (b := (A 0)) (T := TX2) (N := 8) (ci := 1) hk dX6_climbFrom_30 (c_wgh (kl K) (kG K) A ms hCS er_4) rfl gd_X6_climbFrom_X2_weigh rfl (by decide +kernel) (frok hR9 (Nat.le_of_ble_eq_true rfl) (Nat.le_of_ble_eq_true rfl)) (roomk hR9 (Nat.le_of_ble_eq_true rfl) (Nat.le_of_ble_eq_true rfl)) FBk.le rfl rfl (Nat.le_of_ble_eq_true rfl) FBk.recv rfl (wr := [(ady, .inr (5, [.ref (A 14), .ref (A 0), .ref adbo]))]) [0] [1, 2, 3] 4 rfl (by decide) rfl rfl ?_
        intro v9 w9 hp9
        obtain ⟨rfl, rfl⟩ := hp9
        show VB K (FBk (kG K) A cell vals N R w) n0 6 [(ady, .inr (5, [.ref (A 14), .ref (A 0), .ref adbo])), ((A 14), .inr (7, [.int (nI N), .int (nI R), .int (nI w), .int ms, .ref (A 15), .ref (A 16)])), ((A 15), .inl (gI (kG K), 5, .inl fsv)), ((A 16), .inl (gI (kG K), 16, .inl fsc))] 33 [(0, .ref ady), (1, .int gr), (2, .int steps), (3, .int i3_1), (4, .int i4_2), (5, .int r_3)] [.int r_4]
        refine vx_if_gt (tgt := 39) hk dX6_climbFrom_33 (by decide) (fun hc => ?_) (fun hc => ?_)
        · replace h := it_t (g := (lpk (lp (b_X6_climbFrom_5 cell vals N R w ms steps) nn))) h hc
          refine vx_iload hk dX6_climbFrom_39 rfl ?_
          refine vx_istore_n hk dX6_climbFrom_41 rfl (by decide) [1, 2, 3, 0, 4, 5] (lv' := [(0, .ref ady), (1, .int gr), (2, .int steps), (3, .int r_3), (4, .int i4_2), (5, .int r_3)]) rfl ?_
          obtain ⟨x4_5, ex4_5, h⟩ := lt_e (g := (lpk (lp (b_X6_climbFrom_5 cell vals N R w ms steps) nn))) h
          refine vx_iinc (v := x4_5) hk dX6_climbFrom_42 rfl (by rw [ex4_5]; rfl) (by decide) [1, 2, 3, 4, 0, 5] (lv' := [(0, .ref ady), (1, .int gr), (2, .int steps), (3, .int r_3), (4, .int x4_5), (5, .int r_3)]) rfl ?_
          refine vx_goto (tgt := 5) hk dX6_climbFrom_45 (by decide) ?_
          refine vx_loc [0, 1, 2, 3, 4] (lv' := [(0, .ref ady), (1, .int gr), (2, .int steps), (3, .int r_3), (4, .int x4_5)]) rfl ?_
          exact ih r_3 x4_5 h
        · replace h := it_f (g := (lpk (lp (b_X6_climbFrom_5 cell vals N R w ms steps) nn))) h hc
          refine vx_goto (tgt := 48) hk dX6_climbFrom_36 (by decide) ?_
          refine vx_loc [0, 1, 2, 3, 4] (lv' := [(0, .ref ady), (1, .int gr), (2, .int steps), (3, .int i3_1), (4, .int i4_2)]) rfl ?_
          replace h : some (i3_1, i4_2) = some b9 := h
          replace h := Option.some.inj h
          subst h
          exact kk0 _ rfl
set_option maxHeartbeats 4000000 in
set_option maxRecDepth 100000 in
theorem c_X6_climbFrom (l : Launch) (G : GG) (A : Nat → Nat) {fsv : Nat → Int32} {fsc : Nat → Int32} {cell : Nat → Nat → Nat} {vals : Nat → Nat} {N : Nat} {R : Nat} {w : Nat} {ms : Int32} (hCS : CS N R w vals cell fsv fsc) (ady : Nat) (adbo : Nat) (gr : Int32) (steps : Int32) (r : Int32) (h : m_X6_climbFrom cell vals N R w ms gr steps = some r) : CtrB l G (FBk G A cell vals N R w) yX6_climbFrom w2_X6_climbFrom rm_X6_climbFrom [.ref ady, .int gr, .int steps] [(ady, .inr (5, [.ref (A 14), .ref (A 0), .ref adbo])), ((A 14), .inr (7, [.int (nI N), .int (nI R), .int (nI w), .int ms, .ref (A 15), .ref (A 16)])), ((A 15), .inl (gI G, 5, .inl fsv)), ((A 16), .inl (gI G, 16, .inl fsc))] (fun v w9 => v = some (.int r) ∧ w9 = [(ady, .inr (5, [.ref (A 14), .ref (A 0), .ref adbo])), ((A 14), .inr (7, [.int (nI N), .int (nI R), .int (nI w), .int ms, .ref (A 15), .ref (A 16)])), ((A 15), .inl (gI G, 5, .inl fsv)), ((A 16), .inl (gI G, 16, .inl fsc))]) := by
  refine ctrB_entry FBk.le (Nat.le_of_ble_eq_true rfl) (Nat.le_of_ble_eq_true rfl) (cc := cX6_climbFrom) (maxL := 6) (ret := some .int) (lv0 := [(0, .ref ady), (1, .int gr), (2, .int steps)]) (by decide) rfl (Nat.le_of_ble_eq_true rfl) rfl ?_
  intro K n0 hl9 hG9 hk hn9 hrt
  subst hl9
  subst hG9
  have hR9 : RoomGe rm_X6_climbFrom rm_X6_climbFrom := RoomGe.rf
  replace h := id_e h
  rw [em_X6_climbFrom] at h
  refine vx_iload_n hk dX6_climbFrom_0 rfl ?_
  refine vx_istore_n hk dX6_climbFrom_1 rfl (by decide) [1, 2, 3, 0] (lv' := [(0, .ref ady), (1, .int gr), (2, .int steps), (3, .int gr)]) rfl ?_
  refine vx_iconst (v := 0) hk dX6_climbFrom_2 (by decide) ?_
  refine vx_istore hk dX6_climbFrom_3 (by decide) [1, 2, 3, 4, 0] (lv' := [(0, .ref ady), (1, .int gr), (2, .int steps), (3, .int gr), (4, .int 0)]) rfl ?_
  obtain ⟨b_7, eb_7, h⟩ := bd_e (g := id) rfl h
  refine L_X6_climbFrom_5 hCS hk hR9 ady adbo gr steps b_7 (fun q_6 eq_6 => ?_) FU gr 0 eb_7
  · replace eq_6 := eq_6.symm
    subst eq_6
    refine vx_iload_n hk dX6_climbFrom_48 rfl ?_
    replace h : some q_6.1 = some r := h
    replace h := Option.some.inj h
    subst h
    refine hrt (some (.int q_6.1)) _ _ _ (⟨rfl, rfl⟩) (dX6_climbFrom_49)
abbrev rm_X6_bestGraph : Room := { frames := 6, cells := 2410, slots := 9180, locals := 251 }
set_option maxHeartbeats 4000000 in
set_option maxRecDepth 100000 in
theorem L_X6_bestGraph_27 {K : Cx} {R9 : Room} {cell : Nat → Nat → Nat} {vals : Nat → Nat} {N : Nat} {R : Nat} {w : Nat} {ms : Int32} {A : Nat → Nat} {fsv : Nat → Int32} {fsc : Nat → Int32} {n0 : Nat} (hCS : CS N R w vals cell fsv fsc) (hk : Ok K cX6_bestGraph 5 RX6 w2_X6_bestGraph R9) (hR9 : RoomGe R9 rm_X6_bestGraph) (ady : Nat) (adbo : Nat) (nbo : Nat) (i2_2 : Int32) (fbo_3 : Nat → Int32) (b9 : (Int32 × Int32)) (kk0 : ∀ q9 : (Int32 × Int32), b9 = q9 → VB K (FBk (kG K) A cell vals N R w) n0 5 [(ady, .inr (5, [.ref (A 14), .ref (A 0), .ref adbo])), ((A 14), .inr (7, [.int (nI N), .int (nI R), .int (nI w), .int ms, .ref (A 15), .ref (A 16)])), ((A 15), .inl (gI (kG K), 5, .inl fsv)), ((A 16), .inl (gI (kG K), 16, .inl fsc)), (adbo, .inl (gI (kG K), nbo, .inl fbo_3))] 88 [(0, .ref ady), (1, .int q9.1), (2, .int i2_2), (3, .int q9.2)] []) : ∀ (nn : Nat) (i1_4 : Int32) (i3_5 : Int32), lp (b_X6_bestGraph_27 cell vals N R w ms nbo i2_2 fbo_3) nn (i1_4, i3_5) = some b9 → VB K (FBk (kG K) A cell vals N R w) n0 5 [(ady, .inr (5, [.ref (A 14), .ref (A 0), .ref adbo])), ((A 14), .inr (7, [.int (nI N), .int (nI R), .int (nI w), .int ms, .ref (A 15), .ref (A 16)])), ((A 15), .inl (gI (kG K), 5, .inl fsv)), ((A 16), .inl (gI (kG K), 16, .inl fsc)), (adbo, .inl (gI (kG K), nbo, .inl fbo_3))] 27 [(0, .ref ady), (1, .int i1_4), (2, .int i2_2), (3, .int i3_5)] [] := by
  intro nn
  induction nn with
  | zero => intro i1_4 i3_5 h; exact absurd h (by simp [lp])
  | succ nn ih =>
    intro i1_4 i3_5 h
    replace h := lp_s h
    rw [eb_X6_bestGraph_27] at h
    refine vx_iload_n hk dX6_bestGraph_27 rfl ?_
    refine vx_aload_n hk dX6_bestGraph_28 rfl ?_
    refine vx_get (C := RX6) (T := TX6) (N := 3) (ci := 5) (v := .ref (A 14)) hk dX6_bestGraph_29 w2i_X6_bestGraph_X60 0 rfl rfl 0 (by decide) (by decide +kernel) rfl rfl ?_
    refine vx_get (C := RX8) (T := TX8) (N := 6) (ci := 7) (v := .int (nI N)) hk dX6_bestGraph_32 w2i_X6_bestGraph_X80 1 rfl rfl 0 (by decide) (by decide +kernel) rfl rfl ?_
    refine vx_icmp_ge (tgt := 88) hk dX6_bestGraph_35 (by decide) (fun hc => ?_) (fun hc => ?_)
    · replace h := it_t (g := (lpk (lp (b_X6_bestGraph_27 cell vals N R w ms nbo i2_2 fbo_3) nn))) h hc
      replace h : some (i1_4, i3_5) = some b9 := h
      replace h := Option.some.inj h
      subst h
      exact kk0 _ rfl
    · replace h := it_f (g := (lpk (lp (b_X6_bestGraph_27 cell vals N R w ms nbo i2_2 fbo_3) nn))) h hc
      refine vx_iload_n hk dX6_bestGraph_38 rfl ?_
      refine vx_iload_n hk dX6_bestGraph_39 rfl ?_
      obtain ⟨r_6, er_6, h⟩ := bd_e (g := (lpk (lp (b_X6_bestGraph_27 cell vals N R w ms nbo i2_2 fbo_3) nn))) rfl h
      refine vx_callS (n := 2) (st := []) hk dX6_bestGraph_40 (c_X0_isIn (kl K) (kG K) i2_2 i3_5 r_6 er_6) gd_X6_bestGraph_X0_isIn rfl (by decide +kernel) (frok hR9 (Nat.le_of_ble_eq_true rfl) (Nat.le_of_ble_eq_true rfl)) ⟨⟨rfl, rfl⟩, roomk hR9 (Nat.le_of_ble_eq_true rfl) (Nat.le_of_ble_eq_true rfl)⟩ FBk.le rfl rfl (Nat.le_of_ble_eq_true rfl) (wr := [(ady, .inr (5, [.ref (A 14), .ref (A 0), .ref adbo])), ((A 14), .inr (7, [.int (nI N), .int (nI R), .int (nI w), .int ms, .ref (A 15), .ref (A 16)])), ((A 15), .inl (gI (kG K), 5, .inl fsv)), ((A 16), .inl (gI (kG K), 16, .inl fsc)), (adbo, .inl (gI (kG K), nbo, .inl fbo_3))]) [0, 1, 2, 3, 4] [] 5 rfl (by decide) rfl rfl ?_
      intro v9 w9 hp9
      obtain ⟨rfl, rfl⟩ := hp9
      show VB K (FBk (kG K) A cell vals N R w) n0 5 [(ady, .inr (5, [.ref (A 14), .ref (A 0), .ref adbo])), ((A 14), .inr (7, [.int (nI N), .int (nI R), .int (nI w), .int ms, .ref (A 15), .ref (A 16)])), ((A 15), .inl (gI (kG K), 5, .inl fsv)), ((A 16), .inl (gI (kG K), 16, .inl fsc)), (adbo, .inl (gI (kG K), nbo, .inl fbo_3))] 43 [(0, .ref ady), (1, .int i1_4), (2, .int i2_2), (3, .int i3_5)] [.int r_6]
      refine vx_if_ne (tgt := 49) hk dX6_bestGraph_43 (by decide) (fun hc => ?_) (fun hc => ?_)
      · replace h := it_f (g := (lpk (lp (b_X6_bestGraph_27 cell vals N R w ms nbo i2_2 fbo_3) nn))) h hc
        refine vx_iload_n hk dX6_bestGraph_49 rfl ?_
        refine vx_iconst (v := 1) hk dX6_bestGraph_50 (by decide) ?_
        refine vx_iload_n hk dX6_bestGraph_51 rfl ?_
        refine vx_ishl hk dX6_bestGraph_52 ?_
        refine vx_iconst (v := (-1)) hk dX6_bestGraph_53 (by decide) ?_
        refine vx_ixor hk dX6_bestGraph_54 ?_
        refine vx_iand hk dX6_bestGraph_55 ?_
        obtain ⟨x4_7, ex4_7, h⟩ := lt_e (g := (lpk (lp (b_X6_bestGraph_27 cell vals N R w ms nbo i2_2 fbo_3) nn))) h
        refine vx_topi ex4_7.symm ?_
        refine vx_istore hk dX6_bestGraph_56 (by decide) [1, 2, 3, 4, 0] (lv' := [(0, .ref ady), (1, .int i1_4), (2, .int i2_2), (3, .int i3_5), (4, .int x4_7)]) rfl ?_
        refine vx_aload_n hk dX6_bestGraph_58 rfl ?_
        refine vx_aload_n hk dX6_bestGraph_59 rfl ?_
        refine vx_iload hk dX6_bestGraph_60 rfl ?_
        obtain ⟨r_8, er_8, h⟩ := bd_e (g := (lpk (lp (b_X6_bestGraph_27 cell vals N R w ms nbo i2_2 fbo_3) nn))) rfl h
        refine vx_callV (n := 1) (st := [.ref ady]) (b := ady) (T := TX6) (N := 3) hk dX6_bestGraph_62 (c_X6_kept (kl K) (kG K) ady adbo (A 14) (A 0) nbo fbo_3 x4_7 r_8 er_8) rfl gd_X6_bestGraph_X6_kept rfl (by decide +kernel) (frok hR9 (Nat.le_of_ble_eq_true rfl) (Nat.le_of_ble_eq_true rfl)) ⟨⟨rfl, rfl⟩, roomk hR9 (Nat.le_of_ble_eq_true rfl) (Nat.le_of_ble_eq_true rfl)⟩ FBk.le rfl rfl (Nat.le_of_ble_eq_true rfl) 0 rfl rfl (wr := [((A 14), .inr (7, [.int (nI N), .int (nI R), .int (nI w), .int ms, .ref (A 15), .ref (A 16)])), ((A 15), .inl (gI (kG K), 5, .inl fsv)), ((A 16), .inl (gI (kG K), 16, .inl fsc))]) [1, 2, 3] [0, 4] 5 rfl (by decide) rfl rfl ?_
        intro v9 w9 hp9
        obtain ⟨rfl, rfl⟩ := hp9
        show VB K (FBk (kG K) A cell vals N R w) n0 5 [((A 14), .inr (7, [.int (nI N), .int (nI R), .int (nI w), .int ms, .ref (A 15), .ref (A 16)])), ((A 15), .inl (gI (kG K), 5, .inl fsv)), ((A 16), .inl (gI (kG K), 16, .inl fsc)), (ady, .inr (5, [.ref (A 14), .ref (A 0), .ref adbo])), (adbo, .inl (gI (kG K), nbo, .inl fbo_3))] 65 [(0, .ref ady), (1, .int i1_4), (2, .int i2_2), (3, .int i3_5), (4, .int x4_7)] [.int r_8, .ref ady]
        refine vx_aload_n hk dX6_bestGraph_65 rfl ?_
        refine vx_iload_n hk dX6_bestGraph_66 rfl ?_
        refine vx_iload hk dX6_bestGraph_67 rfl ?_
        obtain ⟨r_9, er_9, h⟩ := bd_e (g := (lpk (lp (b_X6_bestGraph_27 cell vals N R w ms nbo i2_2 fbo_3) nn))) rfl h
        refine vx_callB (n := 2) (st := [.int r_8, .ref ady]) (b := ady) (T := TX6) (N := 3) (ci := 5) hk dX6_bestGraph_69 (c_X6_bestParents (kl K) (kG K) A hCS ady adbo i3_5 x4_7 r_9 er_9) rfl gd_X6_bestGraph_X6_bestParents rfl (by decide +kernel) (frok hR9 (Nat.le_of_ble_eq_true rfl) (Nat.le_of_ble_eq_true rfl)) (roomk hR9 (Nat.le_of_ble_eq_true rfl) (Nat.le_of_ble_eq_true rfl)) FBk.le rfl rfl (Nat.le_of_ble_eq_true rfl) (fun _ _ _ => ⟨_, List.mem_append_left _ (List.mem_of_getElem? (i := 3) rfl)⟩) rfl (wr := [(adbo, .inl (gI (kG K), nbo, .inl fbo_3))]) [4] [3, 0, 1, 2] 5 rfl (by decide) rfl rfl ?_
        intro v9 w9 hp9
        obtain ⟨rfl, rfl⟩ := hp9
        show VB K (FBk (kG K) A cell vals N R w) n0 5 [(adbo, .inl (gI (kG K), nbo, .inl fbo_3)), (ady, .inr (5, [.ref (A 14), .ref (A 0), .ref adbo])), ((A 14), .inr (7, [.int (nI N), .int (nI R), .int (nI w), .int ms, .ref (A 15), .ref (A 16)])), ((A 15), .inl (gI (kG K), 5, .inl fsv)), ((A 16), .inl (gI (kG K), 16, .inl fsc))] 72 [(0, .ref ady), (1, .int i1_4), (2, .int i2_2), (3, .int i3_5), (4, .int x4_7)] [.int r_9, .int r_8, .ref ady]
        refine vx_iload_n hk dX6_bestGraph_72 rfl ?_
        obtain ⟨r_10, er_10, h⟩ := bd_e (g := (lpk (lp (b_X6_bestGraph_27 cell vals N R w ms nbo i2_2 fbo_3) nn))) rfl h
        refine vx_callS (n := 2) (st := [.int r_8, .ref ady]) hk dX6_bestGraph_73 (c_X0_fromAll (kl K) (kG K) r_9 i3_5 r_10 er_10) gd_X6_bestGraph_X0_fromAll rfl (by decide +kernel) (frok hR9 (Nat.le_of_ble_eq_true rfl) (Nat.le_of_ble_eq_true rfl)) ⟨⟨rfl, rfl⟩, roomk hR9 (Nat.le_of_ble_eq_true rfl) (Nat.le_of_ble_eq_true rfl)⟩ FBk.le rfl rfl (Nat.le_of_ble_eq_true rfl) (wr := [(adbo, .inl (gI (kG K), nbo, .inl fbo_3)), (ady, .inr (5, [.ref (A 14), .ref (A 0), .ref adbo])), ((A 14), .inr (7, [.int (nI N), .int (nI R), .int (nI w), .int ms, .ref (A 15), .ref (A 16)])), ((A 15), .inl (gI (kG K), 5, .inl fsv)), ((A 16), .inl (gI (kG K), 16, .inl fsc))]) [0, 1, 2, 3, 4] [] 5 rfl (by decide) rfl rfl ?_
        intro v9 w9 hp9
        obtain ⟨rfl, rfl⟩ := hp9
        show VB K (FBk (kG K) A cell vals N R w) n0 5 [(adbo, .inl (gI (kG K), nbo, .inl fbo_3)), (ady, .inr (5, [.ref (A 14), .ref (A 0), .ref adbo])), ((A 14), .inr (7, [.int (nI N), .int (nI R), .int (nI w), .int ms, .ref (A 15), .ref (A 16)])), ((A 15), .inl (gI (kG K), 5, .inl fsv)), ((A 16), .inl (gI (kG K), 16, .inl fsc))] 76 [(0, .ref ady), (1, .int i1_4), (2, .int i2_2), (3, .int i3_5), (4, .int x4_7)] [.int r_10, .int r_8, .ref ady]
        refine vx_ior hk dX6_bestGraph_76 ?_
        refine vx_iload_n hk dX6_bestGraph_77 rfl ?_
        obtain ⟨r_11, er_11, h⟩ := bd_e (g := (lpk (lp (b_X6_bestGraph_27 cell vals N R w ms nbo i2_2 fbo_3) nn))) rfl h
        refine vx_callB (n := 2) (st := []) (b := ady) (T := TX6) (N := 3) (ci := 5) hk dX6_bestGraph_78 (c_X6_better (kl K) (kG K) A hCS ady adbo (r_8 ||| r_10) i1_4 r_11 er_11) rfl gd_X6_bestGraph_X6_better rfl (by decide +kernel) (frok hR9 (Nat.le_of_ble_eq_true rfl) (Nat.le_of_ble_eq_true rfl)) (roomk hR9 (Nat.le_of_ble_eq_true rfl) (Nat.le_of_ble_eq_true rfl)) FBk.le rfl rfl (Nat.le_of_ble_eq_true rfl) (fun _ _ _ => ⟨_, List.mem_append_left _ (List.mem_of_getElem? (i := 1) rfl)⟩) rfl (wr := [(adbo, .inl (gI (kG K), nbo, .inl fbo_3))]) [0] [1, 2, 3, 4] 5 rfl (by decide) rfl rfl ?_
        intro v9 w9 hp9
        obtain ⟨rfl, rfl⟩ := hp9
        show VB K (FBk (kG K) A cell vals N R w) n0 5 [(adbo, .inl (gI (kG K), nbo, .inl fbo_3)), (ady, .inr (5, [.ref (A 14), .ref (A 0), .ref adbo])), ((A 14), .inr (7, [.int (nI N), .int (nI R), .int (nI w), .int ms, .ref (A 15), .ref (A 16)])), ((A 15), .inl (gI (kG K), 5, .inl fsv)), ((A 16), .inl (gI (kG K), 16, .inl fsc))] 81 [(0, .ref ady), (1, .int i1_4), (2, .int i2_2), (3, .int i3_5), (4, .int x4_7)] [.int r_11]
        refine vx_istore_n hk dX6_bestGraph_81 rfl (by decide) [1, 0, 2, 3, 4] (lv' := [(0, .ref ady), (1, .int r_11), (2, .int i2_2), (3, .int i3_5), (4, .int x4_7)]) rfl ?_
        obtain ⟨x3_12, ex3_12, h⟩ := lt_e (g := (lpk (lp (b_X6_bestGraph_27 cell vals N R w ms nbo i2_2 fbo_3) nn))) h
        refine vx_iinc (v := x3_12) hk dX6_bestGraph_82 rfl (by rw [ex3_12]; rfl) (by decide) [1, 2, 3, 0, 4] (lv' := [(0, .ref ady), (1, .int r_11), (2, .int i2_2), (3, .int x3_12), (4, .int x4_7)]) rfl ?_
        refine vx_goto (tgt := 27) hk dX6_bestGraph_85 (by decide) ?_
        refine vx_loc [0, 1, 2, 3] (lv' := [(0, .ref ady), (1, .int r_11), (2, .int i2_2), (3, .int x3_12)]) rfl ?_
        refine vx_perm [1, 2, 3, 4, 0] 5 rfl (by decide) (ws' := [(ady, .inr (5, [.ref (A 14), .ref (A 0), .ref adbo])), ((A 14), .inr (7, [.int (nI N), .int (nI R), .int (nI w), .int ms, .ref (A 15), .ref (A 16)])), ((A 15), .inl (gI (kG K), 5, .inl fsv)), ((A 16), .inl (gI (kG K), 16, .inl fsc)), (adbo, .inl (gI (kG K), nbo, .inl fbo_3))]) rfl ?_
        exact ih r_11 x3_12 h
      · replace h := it_t (g := (lpk (lp (b_X6_bestGraph_27 cell vals N R w ms nbo i2_2 fbo_3) nn))) h hc
        refine vx_goto (tgt := 82) hk dX6_bestGraph_46 (by decide) ?_
        obtain ⟨x3_13, ex3_13, h⟩ := lt_e (g := (lpk (lp (b_X6_bestGraph_27 cell vals N R w ms nbo i2_2 fbo_3) nn))) h
        refine vx_iinc (v := x3_13) hk dX6_bestGraph_82 rfl (by rw [ex3_13]; rfl) (by decide) [1, 2, 3, 0] (lv' := [(0, .ref ady), (1, .int i1_4), (2, .int i2_2), (3, .int x3_13)]) rfl ?_
        refine vx_goto (tgt := 27) hk dX6_bestGraph_85 (by decide) ?_
        exact ih i1_4 x3_13 h
set_option maxHeartbeats 4000000 in
set_option maxRecDepth 100000 in
theorem L_X6_bestGraph_4 {K : Cx} {R9 : Room} {cell : Nat → Nat → Nat} {vals : Nat → Nat} {N : Nat} {R : Nat} {w : Nat} {ms : Int32} {A : Nat → Nat} {fsv : Nat → Int32} {fsc : Nat → Int32} {n0 : Nat} (hCS : CS N R w vals cell fsv fsc) (hk : Ok K cX6_bestGraph 5 RX6 w2_X6_bestGraph R9) (hR9 : RoomGe R9 rm_X6_bestGraph) (ady : Nat) (adbo : Nat) (nbo : Nat) (b9 : (Int32 × Int32 × (Nat → Int32))) (kk0 : ∀ q9 : (Int32 × Int32 × (Nat → Int32)), b9 = q9 → VB K (FBk (kG K) A cell vals N R w) n0 5 [(ady, .inr (5, [.ref (A 14), .ref (A 0), .ref adbo])), ((A 14), .inr (7, [.int (nI N), .int (nI R), .int (nI w), .int ms, .ref (A 15), .ref (A 16)])), ((A 15), .inl (gI (kG K), 5, .inl fsv)), ((A 16), .inl (gI (kG K), 16, .inl fsc)), (adbo, .inl (gI (kG K), nbo, .inl q9.2.2))] 100 [(0, .ref ady), (1, .int q9.1), (2, .int q9.2.1)] []) : ∀ (nn : Nat) (i1_1 : Int32) (i2_2 : Int32) (fbo_3 : Nat → Int32), lp (b_X6_bestGraph_4 cell vals N R w ms nbo) nn (i1_1, i2_2, fbo_3) = some b9 → VB K (FBk (kG K) A cell vals N R w) n0 5 [(ady, .inr (5, [.ref (A 14), .ref (A 0), .ref adbo])), ((A 14), .inr (7, [.int (nI N), .int (nI R), .int (nI w), .int ms, .ref (A 15), .ref (A 16)])), ((A 15), .inl (gI (kG K), 5, .inl fsv)), ((A 16), .inl (gI (kG K), 16, .inl fsc)), (adbo, .inl (gI (kG K), nbo, .inl fbo_3))] 4 [(0, .ref ady), (1, .int i1_1), (2, .int i2_2)] [] := by
  intro nn
  induction nn with
  | zero => intro i1_1 i2_2 fbo_3 h; exact absurd h (by simp [lp])
  | succ nn ih =>
    intro i1_1 i2_2 fbo_3 h
    replace h := lp_s h
    rw [eb_X6_bestGraph_4] at h
    refine vx_iload_n hk dX6_bestGraph_4 rfl ?_
    refine vx_iconst (v := 1) hk dX6_bestGraph_5 (by decide) ?_
    refine vx_aload_n hk dX6_bestGraph_6 rfl ?_
    refine vx_get (C := RX6) (T := TX6) (N := 3) (ci := 5) (v := .ref (A 14)) hk dX6_bestGraph_7 w2i_X6_bestGraph_X60 0 rfl rfl 0 (by decide) (by decide +kernel) rfl rfl ?_
    refine vx_get (C := RX8) (T := TX8) (N := 6) (ci := 7) (v := .int (nI N)) hk dX6_bestGraph_10 w2i_X6_bestGraph_X80 1 rfl rfl 0 (by decide) (by decide +kernel) rfl rfl ?_
    refine vx_ishl hk dX6_bestGraph_13 ?_
    refine vx_icmp_ge (tgt := 100) hk dX6_bestGraph_14 (by decide) (fun hc => ?_) (fun hc => ?_)
    · replace h := it_t (g := (lpk (lp (b_X6_bestGraph_4 cell vals N R w ms nbo) nn))) h hc
      replace h : some (i1_1, i2_2, fbo_3) = some b9 := h
      replace h := Option.some.inj h
      subst h
      exact kk0 _ rfl
    · replace h := it_f (g := (lpk (lp (b_X6_bestGraph_4 cell vals N R w ms nbo) nn))) h hc
      refine vx_iload_n hk dX6_bestGraph_17 rfl ?_
      refine vx_bipush (v := 32) hk dX6_bestGraph_18 (by decide) ?_
      refine vx_icmp_ge (tgt := 100) hk dX6_bestGraph_20 (by decide) (fun hc => ?_) (fun hc => ?_)
      · replace h := it_t (g := (lpk (lp (b_X6_bestGraph_4 cell vals N R w ms nbo) nn))) h hc
        replace h : some (i1_1, i2_2, fbo_3) = some b9 := h
        replace h := Option.some.inj h
        subst h
        exact kk0 _ rfl
      · replace h := it_f (g := (lpk (lp (b_X6_bestGraph_4 cell vals N R w ms nbo) nn))) h hc
        refine vx_iconst (v := (-1)) hk dX6_bestGraph_23 (by decide) ?_
        refine vx_istore_n hk dX6_bestGraph_24 rfl (by decide) [1, 0, 2] (lv' := [(0, .ref ady), (1, .int (-1)), (2, .int i2_2)]) rfl ?_
        refine vx_iconst (v := 0) hk dX6_bestGraph_25 (by decide) ?_
        refine vx_istore_n hk dX6_bestGraph_26 rfl (by decide) [1, 2, 3, 0] (lv' := [(0, .ref ady), (1, .int (-1)), (2, .int i2_2), (3, .int 0)]) rfl ?_
        obtain ⟨b_17, eb_17, h⟩ := bd_e (g := (lpk (lp (b_X6_bestGraph_4 cell vals N R w ms nbo) nn))) rfl h
        refine L_X6_bestGraph_27 hCS hk hR9 ady adbo nbo i2_2 fbo_3 b_17 (fun q_14 eq_14 => ?_) FU (-1) 0 eb_17
        · replace eq_14 := eq_14.symm
          subst eq_14
          refine vx_aload_n hk dX6_bestGraph_88 rfl ?_
          refine vx_iload_n hk dX6_bestGraph_89 rfl ?_
          refine vx_iload_n hk dX6_bestGraph_90 rfl ?_
          obtain ⟨r_15, er_15, h⟩ := bd_e (g := (lpk (lp (b_X6_bestGraph_4 cell vals N R w ms nbo) nn))) rfl h
          refine vx_callV (n := 2) (st := []) (b := ady) (T := TX6) (N := 3) hk dX6_bestGraph_91 (c_X6_keep (kl K) (kG K) ady adbo (A 14) (A 0) nbo fbo_3 i2_2 q_14.1 r_15 er_15) rfl gd_X6_bestGraph_X6_keep rfl (by decide +kernel) (frok hR9 (Nat.le_of_ble_eq_true rfl) (Nat.le_of_ble_eq_true rfl)) ⟨⟨rfl, rfl⟩, roomk hR9 (Nat.le_of_ble_eq_true rfl) (Nat.le_of_ble_eq_true rfl)⟩ FBk.le rfl rfl (Nat.le_of_ble_eq_true rfl) 0 rfl rfl (wr := [((A 14), .inr (7, [.int (nI N), .int (nI R), .int (nI w), .int ms, .ref (A 15), .ref (A 16)])), ((A 15), .inl (gI (kG K), 5, .inl fsv)), ((A 16), .inl (gI (kG K), 16, .inl fsc))]) [1, 2, 3] [0, 4] 5 rfl (by decide) rfl rfl ?_
          intro v9 w9 hp9
          obtain ⟨rfl, rfl⟩ := hp9
          show VB K (FBk (kG K) A cell vals N R w) n0 5 [((A 14), .inr (7, [.int (nI N), .int (nI R), .int (nI w), .int ms, .ref (A 15), .ref (A 16)])), ((A 15), .inl (gI (kG K), 5, .inl fsv)), ((A 16), .inl (gI (kG K), 16, .inl fsc)), (ady, .inr (5, [.ref (A 14), .ref (A 0), .ref adbo])), (adbo, .inl (gI (kG K), nbo, .inl r_15))] 94 [(0, .ref ady), (1, .int q_14.1), (2, .int i2_2), (3, .int q_14.2)] []
          obtain ⟨x2_16, ex2_16, h⟩ := lt_e (g := (lpk (lp (b_X6_bestGraph_4 cell vals N R w ms nbo) nn))) h
          refine vx_iinc (v := x2_16) hk dX6_bestGraph_94 rfl (by rw [ex2_16]; rfl) (by decide) [1, 2, 0, 3] (lv' := [(0, .ref ady), (1, .int q_14.1), (2, .int x2_16), (3, .int q_14.2)]) rfl ?_
          refine vx_goto (tgt := 4) hk dX6_bestGraph_97 (by decide) ?_
          refine vx_loc [0, 1, 2] (lv' := [(0, .ref ady), (1, .int q_14.1), (2, .int x2_16)]) rfl ?_
          refine vx_perm [3, 0, 1, 2, 4] 5 rfl (by decide) (ws' := [(ady, .inr (5, [.ref (A 14), .ref (A 0), .ref adbo])), ((A 14), .inr (7, [.int (nI N), .int (nI R), .int (nI w), .int ms, .ref (A 15), .ref (A 16)])), ((A 15), .inl (gI (kG K), 5, .inl fsv)), ((A 16), .inl (gI (kG K), 16, .inl fsc)), (adbo, .inl (gI (kG K), nbo, .inl r_15))]) rfl ?_
          exact ih q_14.1 x2_16 r_15 h
set_option maxHeartbeats 4000000 in
set_option maxRecDepth 100000 in
theorem c_X6_bestGraph (l : Launch) (G : GG) (A : Nat → Nat) {fsv : Nat → Int32} {fsc : Nat → Int32} {cell : Nat → Nat → Nat} {vals : Nat → Nat} {N : Nat} {R : Nat} {w : Nat} {ms : Int32} (hCS : CS N R w vals cell fsv fsc) (ady : Nat) (adbo : Nat) (nbo : Nat) (fbo : Nat → Int32) (r : Int32 × (Nat → Int32)) (h : m_X6_bestGraph cell vals N R w ms nbo fbo = some r) : CtrB l G (FBk G A cell vals N R w) yX6_bestGraph w2_X6_bestGraph rm_X6_bestGraph [.ref ady] [(ady, .inr (5, [.ref (A 14), .ref (A 0), .ref adbo])), ((A 14), .inr (7, [.int (nI N), .int (nI R), .int (nI w), .int ms, .ref (A 15), .ref (A 16)])), ((A 15), .inl (gI G, 5, .inl fsv)), ((A 16), .inl (gI G, 16, .inl fsc)), (adbo, .inl (gI G, nbo, .inl fbo))] (fun v w9 => v = some (.int r.1) ∧ w9 = [(ady, .inr (5, [.ref (A 14), .ref (A 0), .ref adbo])), ((A 14), .inr (7, [.int (nI N), .int (nI R), .int (nI w), .int ms, .ref (A 15), .ref (A 16)])), ((A 15), .inl (gI G, 5, .inl fsv)), ((A 16), .inl (gI G, 16, .inl fsc)), (adbo, .inl (gI G, nbo, .inl r.2))]) := by
  refine ctrB_entry FBk.le (Nat.le_of_ble_eq_true rfl) (Nat.le_of_ble_eq_true rfl) (cc := cX6_bestGraph) (maxL := 5) (ret := some .int) (lv0 := [(0, .ref ady)]) (by decide) rfl (Nat.le_of_ble_eq_true rfl) rfl ?_
  intro K n0 hl9 hG9 hk hn9 hrt
  subst hl9
  subst hG9
  have hR9 : RoomGe rm_X6_bestGraph rm_X6_bestGraph := RoomGe.rf
  replace h := id_e h
  rw [em_X6_bestGraph] at h
  refine vx_iconst (v := 0) hk dX6_bestGraph_0 (by decide) ?_
  refine vx_istore_n hk dX6_bestGraph_1 rfl (by decide) [1, 0] (lv' := [(0, .ref ady), (1, .int 0)]) rfl ?_
  refine vx_iconst (v := 1) hk dX6_bestGraph_2 (by decide) ?_
  refine vx_istore_n hk dX6_bestGraph_3 rfl (by decide) [1, 2, 0] (lv' := [(0, .ref ady), (1, .int 0), (2, .int 1)]) rfl ?_
  obtain ⟨b_19, eb_19, h⟩ := bd_e (g := id) rfl h
  refine L_X6_bestGraph_4 hCS hk hR9 ady adbo nbo b_19 (fun q_18 eq_18 => ?_) FU 0 1 fbo eb_19
  · replace eq_18 := eq_18.symm
    subst eq_18
    refine vx_iload_n hk dX6_bestGraph_100 rfl ?_
    replace h : some (q_18.1, q_18.2.2) = some r := h
    replace h := Option.some.inj h
    subst h
    refine hrt (some (.int q_18.1)) _ _ _ (⟨rfl, rfl⟩) (dX6_bestGraph_101)
