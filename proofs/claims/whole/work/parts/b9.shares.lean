/-! Shares beside the family of its numbers -/
noncomputable def m_X7_isOpen (sf : Int32) (st : Int32) (nm : Int32) (rw : Int32) (sg : Int32) (ms : Int32) (nam : Int32) (se : Int32) : Option Int32 := (m_X0_isIn se nam).bind (fun r_1 : Int32 => if r_1 = 0 then (m_J6_bitCount_0f7a4 se).bind (fun r_2 : Int32 => lt (if ms < r_2 then 0 else 1 : Int32) (fun z_3 : Int32 => if bz z_3 = true then some z_3 else none)) else some 0)
theorem em_X7_isOpen (sf : Int32) (st : Int32) (nm : Int32) (rw : Int32) (sg : Int32) (ms : Int32) (nam : Int32) (se : Int32) : m_X7_isOpen sf st nm rw sg ms nam se = (m_X0_isIn se nam).bind (fun r_1 : Int32 => if r_1 = 0 then (m_J6_bitCount_0f7a4 se).bind (fun r_2 : Int32 => lt (if ms < r_2 then 0 else 1 : Int32) (fun z_3 : Int32 => if bz z_3 = true then some z_3 else none)) else some 0) := rfl
noncomputable def m_X7_forget (sf : Int32) (st : Int32) (rdy : Int32) : Option Int32 := some 0
theorem em_X7_forget (sf : Int32) (st : Int32) (rdy : Int32) : m_X7_forget sf st rdy = some 0 := rfl
noncomputable def b_X7_multiplyOut_14 (nm : Int32) (oth : Int32) (ends : Int32) : (Int32 × (Nat → Nat)) → Option ((Int32 × (Nat → Nat)) ⊕ ((Int32 × (Nat → Nat))))
  | (i3_3, ffam_4) => if nm ≤ i3_3 then some (.inr (i3_3, ffam_4)) else (m_X0_isIn ends i3_3).bind (fun r_5 : Int32 => if r_5 = 0 then lt (i3_3 + 1 : Int32) (fun x3_6 : Int32 => some (.inl (x3_6, ffam_4))) else (wix i3_3 oth).bind (fun k_7 : Nat => (fMul ffam_4 81 k_7).bind (fun fv_8 : Nat → Nat => lt (i3_3 + 1 : Int32) (fun x3_9 : Int32 => some (.inl (x3_9, fv_8))))))
theorem eb_X7_multiplyOut_14 (nm : Int32) (oth : Int32) (ends : Int32) (i3_3 : Int32) (ffam_4 : Nat → Nat) : b_X7_multiplyOut_14 nm oth ends (i3_3, ffam_4) = if nm ≤ i3_3 then some (.inr (i3_3, ffam_4)) else (m_X0_isIn ends i3_3).bind (fun r_5 : Int32 => if r_5 = 0 then lt (i3_3 + 1 : Int32) (fun x3_6 : Int32 => some (.inl (x3_6, ffam_4))) else (wix i3_3 oth).bind (fun k_7 : Nat => (fMul ffam_4 81 k_7).bind (fun fv_8 : Nat → Nat => lt (i3_3 + 1 : Int32) (fun x3_9 : Int32 => some (.inl (x3_9, fv_8)))))) := rfl
noncomputable def m_X7_multiplyOut (sf : Int32) (st : Int32) (nm : Int32) (rw : Int32) (sg : Int32) (ms : Int32) (v : Nat → Nat) (oth : Int32) (ends : Int32) : Option ((Nat → Nat)) := (six oth).bind (fun k_1 : Nat => (fCop v 81 k_1).bind (fun fv_2 : Nat → Nat => (lp (b_X7_multiplyOut_14 nm oth ends) FU (0, fv_2)).bind (fun q_10 : Int32 × (Nat → Nat) => some q_10.2)))
theorem em_X7_multiplyOut (sf : Int32) (st : Int32) (nm : Int32) (rw : Int32) (sg : Int32) (ms : Int32) (v : Nat → Nat) (oth : Int32) (ends : Int32) : m_X7_multiplyOut sf st nm rw sg ms v oth ends = (six oth).bind (fun k_1 : Nat => (fCop v 81 k_1).bind (fun fv_2 : Nat → Nat => (lp (b_X7_multiplyOut_14 nm oth ends) FU (0, fv_2)).bind (fun q_10 : Int32 × (Nat → Nat) => some q_10.2))) := rfl
noncomputable def b_X7_sumGraphsOf_28 (sf : Int32) (st : Int32) (nm : Int32) (rw : Int32) (sg : Int32) (ms : Int32) (se : Int32) (k_1 : Nat) (i3_4 : Int32) : (Int32 × (Nat → Nat)) → Option ((Int32 × (Nat → Nat)) ⊕ ((Int32 × (Nat → Nat))))
  | (i4_6, ffam_7) => if se < i4_6 then some (.inr (i4_6, ffam_7)) else if (i4_6 &&& (se ^^^ (-1))) = 0 then (m_J6_bitCount_0f7a4 i4_6).bind (fun r_9 : Int32 => if (r_9 &&& 1) = i3_4 then (m_X7_multiplyOut sf st nm rw sg ms ffam_7 (se &&& (i4_6 ^^^ (-1))) i4_6).bind (fun r_10 : (Nat → Nat) => if i3_4 = (1 : Int32) then (fAdd r_10 k_1 81).bind (fun fv_13 : Nat → Nat => lt (i4_6 + 1 : Int32) (fun x4_14 : Int32 => some (.inl (x4_14, fv_13)))) else (fSub r_10 k_1 81).bind (fun fv_11 : Nat → Nat => lt (i4_6 + 1 : Int32) (fun x4_12 : Int32 => some (.inl (x4_12, fv_11))))) else lt (i4_6 + 1 : Int32) (fun x4_15 : Int32 => some (.inl (x4_15, ffam_7)))) else lt (i4_6 + 1 : Int32) (fun x4_8 : Int32 => some (.inl (x4_8, ffam_7)))
theorem eb_X7_sumGraphsOf_28 (sf : Int32) (st : Int32) (nm : Int32) (rw : Int32) (sg : Int32) (ms : Int32) (se : Int32) (k_1 : Nat) (i3_4 : Int32) (i4_6 : Int32) (ffam_7 : Nat → Nat) : b_X7_sumGraphsOf_28 sf st nm rw sg ms se k_1 i3_4 (i4_6, ffam_7) = if se < i4_6 then some (.inr (i4_6, ffam_7)) else if (i4_6 &&& (se ^^^ (-1))) = 0 then (m_J6_bitCount_0f7a4 i4_6).bind (fun r_9 : Int32 => if (r_9 &&& 1) = i3_4 then (m_X7_multiplyOut sf st nm rw sg ms ffam_7 (se &&& (i4_6 ^^^ (-1))) i4_6).bind (fun r_10 : (Nat → Nat) => if i3_4 = (1 : Int32) then (fAdd r_10 k_1 81).bind (fun fv_13 : Nat → Nat => lt (i4_6 + 1 : Int32) (fun x4_14 : Int32 => some (.inl (x4_14, fv_13)))) else (fSub r_10 k_1 81).bind (fun fv_11 : Nat → Nat => lt (i4_6 + 1 : Int32) (fun x4_12 : Int32 => some (.inl (x4_12, fv_11))))) else lt (i4_6 + 1 : Int32) (fun x4_15 : Int32 => some (.inl (x4_15, ffam_7)))) else lt (i4_6 + 1 : Int32) (fun x4_8 : Int32 => some (.inl (x4_8, ffam_7))) := rfl
noncomputable def b_X7_sumGraphsOf_21 (sf : Int32) (st : Int32) (nm : Int32) (rw : Int32) (sg : Int32) (ms : Int32) (se : Int32) (k_1 : Nat) : (Int32 × (Nat → Nat)) → Option ((Int32 × (Nat → Nat)) ⊕ ((Int32 × (Nat → Nat))))
  | (i3_4, ffam_5) => if i3_4 < 0 then some (.inr (i3_4, ffam_5)) else (lp (b_X7_sumGraphsOf_28 sf st nm rw sg ms se k_1 i3_4) FU (1, ffam_5)).bind (fun q_16 : Int32 × (Nat → Nat) => lt (i3_4 + (-1) : Int32) (fun x3_17 : Int32 => some (.inl (x3_17, q_16.2))))
theorem eb_X7_sumGraphsOf_21 (sf : Int32) (st : Int32) (nm : Int32) (rw : Int32) (sg : Int32) (ms : Int32) (se : Int32) (k_1 : Nat) (i3_4 : Int32) (ffam_5 : Nat → Nat) : b_X7_sumGraphsOf_21 sf st nm rw sg ms se k_1 (i3_4, ffam_5) = if i3_4 < 0 then some (.inr (i3_4, ffam_5)) else (lp (b_X7_sumGraphsOf_28 sf st nm rw sg ms se k_1 i3_4) FU (1, ffam_5)).bind (fun q_16 : Int32 × (Nat → Nat) => lt (i3_4 + (-1) : Int32) (fun x3_17 : Int32 => some (.inl (x3_17, q_16.2)))) := rfl
noncomputable def m_X7_sumGraphsOf (sf : Int32) (st : Int32) (nm : Int32) (rw : Int32) (sg : Int32) (ms : Int32) (v : Nat → Nat) (se : Int32) : Option ((Nat → Nat)) := (six se).bind (fun k_1 : Nat => lt (if se = 0 then 1 else 0 : Int32) (fun z_2 : Int32 => (fBec v k_1 z_2).bind (fun fv_3 : Nat → Nat => (lp (b_X7_sumGraphsOf_21 sf st nm rw sg ms se k_1) FU (1, fv_3)).bind (fun q_19 : Int32 × (Nat → Nat) => some q_19.2))))
theorem em_X7_sumGraphsOf (sf : Int32) (st : Int32) (nm : Int32) (rw : Int32) (sg : Int32) (ms : Int32) (v : Nat → Nat) (se : Int32) : m_X7_sumGraphsOf sf st nm rw sg ms v se = (six se).bind (fun k_1 : Nat => lt (if se = 0 then 1 else 0 : Int32) (fun z_2 : Int32 => (fBec v k_1 z_2).bind (fun fv_3 : Nat → Nat => (lp (b_X7_sumGraphsOf_21 sf st nm rw sg ms se k_1) FU (1, fv_3)).bind (fun q_19 : Int32 × (Nat → Nat) => some q_19.2)))) := rfl
noncomputable def b_X7_sumGraphs_2 (sf : Int32) (st : Int32) (nm : Int32) (rw : Int32) (sg : Int32) (ms : Int32) (with0 : Int32) : (Int32 × (Nat → Nat)) → Option ((Int32 × (Nat → Nat)) ⊕ ((Int32 × (Nat → Nat))))
  | (i2_1, ffam_2) => if (1 <<< (nm &&& 31)) ≤ i2_1 then some (.inr (i2_1, ffam_2)) else if (i2_1 &&& with0) = with0 then (m_X7_sumGraphsOf sf st nm rw sg ms ffam_2 i2_1).bind (fun r_4 : (Nat → Nat) => lt (i2_1 + 1 : Int32) (fun x2_5 : Int32 => some (.inl (x2_5, r_4)))) else lt (i2_1 + 1 : Int32) (fun x2_3 : Int32 => some (.inl (x2_3, ffam_2)))
theorem eb_X7_sumGraphs_2 (sf : Int32) (st : Int32) (nm : Int32) (rw : Int32) (sg : Int32) (ms : Int32) (with0 : Int32) (i2_1 : Int32) (ffam_2 : Nat → Nat) : b_X7_sumGraphs_2 sf st nm rw sg ms with0 (i2_1, ffam_2) = if (1 <<< (nm &&& 31)) ≤ i2_1 then some (.inr (i2_1, ffam_2)) else if (i2_1 &&& with0) = with0 then (m_X7_sumGraphsOf sf st nm rw sg ms ffam_2 i2_1).bind (fun r_4 : (Nat → Nat) => lt (i2_1 + 1 : Int32) (fun x2_5 : Int32 => some (.inl (x2_5, r_4)))) else lt (i2_1 + 1 : Int32) (fun x2_3 : Int32 => some (.inl (x2_3, ffam_2))) := rfl
noncomputable def m_X7_sumGraphs (sf : Int32) (st : Int32) (nm : Int32) (rw : Int32) (sg : Int32) (ms : Int32) (v : Nat → Nat) (with0 : Int32) : Option ((Nat → Nat)) := (lp (b_X7_sumGraphs_2 sf st nm rw sg ms with0) FU (0, v)).bind (fun q_6 : Int32 × (Nat → Nat) => some q_6.2)
theorem em_X7_sumGraphs (sf : Int32) (st : Int32) (nm : Int32) (rw : Int32) (sg : Int32) (ms : Int32) (v : Nat → Nat) (with0 : Int32) : m_X7_sumGraphs sf st nm rw sg ms v with0 = (lp (b_X7_sumGraphs_2 sf st nm rw sg ms with0) FU (0, v)).bind (fun q_6 : Int32 × (Nat → Nat) => some q_6.2) := rfl
noncomputable def b_X7_keepArc_2 (nm : Int32) (fr : Int32) (to0 : Int32) : (Int32 × (Nat → Nat)) → Option ((Int32 × (Nat → Nat)) ⊕ ((Int32 × (Nat → Nat))))
  | (i3_1, ffam_2) => if (1 <<< (nm &&& 31)) ≤ i3_1 then some (.inr (i3_1, ffam_2)) else (m_X0_isIn i3_1 fr).bind (fun r_3 : Int32 => if r_3 = 0 then lt (i3_1 + 1 : Int32) (fun x3_4 : Int32 => some (.inl (x3_4, ffam_2))) else (m_X0_isIn i3_1 to0).bind (fun r_5 : Int32 => if r_5 = 0 then (wix to0 (i3_1 &&& ((1 <<< (fr &&& 31)) ^^^ (-1)))).bind (fun k_6 : Nat => (wix to0 i3_1).bind (fun k_7 : Nat => (fSub ffam_2 k_7 k_6).bind (fun fv_8 : Nat → Nat => (fBec fv_8 k_6 (0 : Int32)).bind (fun fv_9 : Nat → Nat => lt (i3_1 + 1 : Int32) (fun x3_10 : Int32 => some (.inl (x3_10, fv_9))))))) else lt (i3_1 + 1 : Int32) (fun x3_11 : Int32 => some (.inl (x3_11, ffam_2)))))
theorem eb_X7_keepArc_2 (nm : Int32) (fr : Int32) (to0 : Int32) (i3_1 : Int32) (ffam_2 : Nat → Nat) : b_X7_keepArc_2 nm fr to0 (i3_1, ffam_2) = if (1 <<< (nm &&& 31)) ≤ i3_1 then some (.inr (i3_1, ffam_2)) else (m_X0_isIn i3_1 fr).bind (fun r_3 : Int32 => if r_3 = 0 then lt (i3_1 + 1 : Int32) (fun x3_4 : Int32 => some (.inl (x3_4, ffam_2))) else (m_X0_isIn i3_1 to0).bind (fun r_5 : Int32 => if r_5 = 0 then (wix to0 (i3_1 &&& ((1 <<< (fr &&& 31)) ^^^ (-1)))).bind (fun k_6 : Nat => (wix to0 i3_1).bind (fun k_7 : Nat => (fSub ffam_2 k_7 k_6).bind (fun fv_8 : Nat → Nat => (fBec fv_8 k_6 (0 : Int32)).bind (fun fv_9 : Nat → Nat => lt (i3_1 + 1 : Int32) (fun x3_10 : Int32 => some (.inl (x3_10, fv_9))))))) else lt (i3_1 + 1 : Int32) (fun x3_11 : Int32 => some (.inl (x3_11, ffam_2))))) := rfl
noncomputable def m_X7_keepArc (sf : Int32) (st : Int32) (nm : Int32) (rw : Int32) (sg : Int32) (ms : Int32) (v : Nat → Nat) (fr : Int32) (to0 : Int32) : Option ((Nat → Nat)) := (lp (b_X7_keepArc_2 nm fr to0) FU (0, v)).bind (fun q_12 : Int32 × (Nat → Nat) => some q_12.2)
theorem em_X7_keepArc (sf : Int32) (st : Int32) (nm : Int32) (rw : Int32) (sg : Int32) (ms : Int32) (v : Nat → Nat) (fr : Int32) (to0 : Int32) : m_X7_keepArc sf st nm rw sg ms v fr to0 = (lp (b_X7_keepArc_2 nm fr to0) FU (0, v)).bind (fun q_12 : Int32 × (Nat → Nat) => some q_12.2) := rfl
noncomputable def b_X7_addSmaller_2 (nm : Int32) (nam : Int32) (pp : Int32) : (Int32 × (Nat → Nat)) → Option ((Int32 × (Nat → Nat)) ⊕ ((Int32 × (Nat → Nat))))
  | (i3_1, ffam_2) => if (1 <<< (nm &&& 31)) ≤ i3_1 then some (.inr (i3_1, ffam_2)) else (m_X0_isIn i3_1 pp).bind (fun r_3 : Int32 => if r_3 = 0 then lt (i3_1 + 1 : Int32) (fun x3_4 : Int32 => some (.inl (x3_4, ffam_2))) else (m_X0_isIn i3_1 nam).bind (fun r_5 : Int32 => lt (if r_5 = 0 then 1 else 0 : Int32) (fun z_6 : Int32 => if z_6 = 0 then lt (i3_1 + 1 : Int32) (fun x3_7 : Int32 => some (.inl (x3_7, ffam_2))) else (wix nam i3_1).bind (fun k_8 : Nat => (wix nam (i3_1 &&& ((1 <<< (pp &&& 31)) ^^^ (-1)))).bind (fun k_9 : Nat => (fAdd ffam_2 k_8 k_9).bind (fun fv_10 : Nat → Nat => lt (i3_1 + 1 : Int32) (fun x3_11 : Int32 => some (.inl (x3_11, fv_10)))))))))
theorem eb_X7_addSmaller_2 (nm : Int32) (nam : Int32) (pp : Int32) (i3_1 : Int32) (ffam_2 : Nat → Nat) : b_X7_addSmaller_2 nm nam pp (i3_1, ffam_2) = if (1 <<< (nm &&& 31)) ≤ i3_1 then some (.inr (i3_1, ffam_2)) else (m_X0_isIn i3_1 pp).bind (fun r_3 : Int32 => if r_3 = 0 then lt (i3_1 + 1 : Int32) (fun x3_4 : Int32 => some (.inl (x3_4, ffam_2))) else (m_X0_isIn i3_1 nam).bind (fun r_5 : Int32 => lt (if r_5 = 0 then 1 else 0 : Int32) (fun z_6 : Int32 => if z_6 = 0 then lt (i3_1 + 1 : Int32) (fun x3_7 : Int32 => some (.inl (x3_7, ffam_2))) else (wix nam i3_1).bind (fun k_8 : Nat => (wix nam (i3_1 &&& ((1 <<< (pp &&& 31)) ^^^ (-1)))).bind (fun k_9 : Nat => (fAdd ffam_2 k_8 k_9).bind (fun fv_10 : Nat → Nat => lt (i3_1 + 1 : Int32) (fun x3_11 : Int32 => some (.inl (x3_11, fv_10))))))))) := rfl
noncomputable def m_X7_addSmaller (sf : Int32) (st : Int32) (nm : Int32) (rw : Int32) (sg : Int32) (ms : Int32) (v : Nat → Nat) (nam : Int32) (pp : Int32) : Option ((Nat → Nat)) := (lp (b_X7_addSmaller_2 nm nam pp) FU (0, v)).bind (fun q_12 : Int32 × (Nat → Nat) => some q_12.2)
theorem em_X7_addSmaller (sf : Int32) (st : Int32) (nm : Int32) (rw : Int32) (sg : Int32) (ms : Int32) (v : Nat → Nat) (nam : Int32) (pp : Int32) : m_X7_addSmaller sf st nm rw sg ms v nam pp = (lp (b_X7_addSmaller_2 nm nam pp) FU (0, v)).bind (fun q_12 : Int32 × (Nat → Nat) => some q_12.2) := rfl
noncomputable def b_X7_weigh_2 (sf : Int32) (st : Int32) (nm : Int32) (rw : Int32) (sg : Int32) (ms : Int32) (nsv : Nat) (fsv : Nat → Int32) (nsc : Nat) (fsc : Nat → Int32) (nam : Int32) : (Int32 × Int32 × (Nat → Int32) × Int32 × (Nat → Int32)) → Option ((Int32 × Int32 × (Nat → Int32) × Int32 × (Nat → Int32)) ⊕ ((Int32 × Int32 × (Nat → Int32) × Int32 × (Nat → Int32))))
  | (i2_1, pp_2, fpw_3, plp_4, flpw_5) => if (1 <<< (nm &&& 31)) ≤ i2_1 then some (.inr (i2_1, pp_2, fpw_3, plp_4, flpw_5)) else (m_X7_isOpen sf st nm rw sg ms nam i2_1).bind (fun r_6 : Int32 => if r_6 = 0 then lt (i2_1 + 1 : Int32) (fun x2_13 : Int32 => some (.inl (x2_13, pp_2, fpw_3, plp_4, flpw_5))) else (m_X5_forget pp_2 3673 fpw_3).bind (fun r_7 : Int32 × (Nat → Int32) => (m_X8_pourFit nm rw sg ms nsv fsv nsc fsc r_7.1 3673 r_7.2 nam i2_1).bind (fun r_8 : Int32 × (Nat → Int32) => if i2_1 = 0 then (m_X5_copy plp_4 3673 flpw_5 r_8.1 3673 r_8.2).bind (fun r_11 : Int32 × (Nat → Int32) => lt (i2_1 + 1 : Int32) (fun x2_12 : Int32 => some (.inl (x2_12, r_8.1, r_8.2, r_11.1, r_11.2)))) else (m_X5_lowerTo plp_4 3673 flpw_5 r_8.1 3673 r_8.2).bind (fun r_9 : Int32 × (Nat → Int32) => lt (i2_1 + 1 : Int32) (fun x2_10 : Int32 => some (.inl (x2_10, r_8.1, r_8.2, r_9.1, r_9.2)))))))
theorem eb_X7_weigh_2 (sf : Int32) (st : Int32) (nm : Int32) (rw : Int32) (sg : Int32) (ms : Int32) (nsv : Nat) (fsv : Nat → Int32) (nsc : Nat) (fsc : Nat → Int32) (nam : Int32) (i2_1 : Int32) (pp_2 : Int32) (fpw_3 : Nat → Int32) (plp_4 : Int32) (flpw_5 : Nat → Int32) : b_X7_weigh_2 sf st nm rw sg ms nsv fsv nsc fsc nam (i2_1, pp_2, fpw_3, plp_4, flpw_5) = if (1 <<< (nm &&& 31)) ≤ i2_1 then some (.inr (i2_1, pp_2, fpw_3, plp_4, flpw_5)) else (m_X7_isOpen sf st nm rw sg ms nam i2_1).bind (fun r_6 : Int32 => if r_6 = 0 then lt (i2_1 + 1 : Int32) (fun x2_13 : Int32 => some (.inl (x2_13, pp_2, fpw_3, plp_4, flpw_5))) else (m_X5_forget pp_2 3673 fpw_3).bind (fun r_7 : Int32 × (Nat → Int32) => (m_X8_pourFit nm rw sg ms nsv fsv nsc fsc r_7.1 3673 r_7.2 nam i2_1).bind (fun r_8 : Int32 × (Nat → Int32) => if i2_1 = 0 then (m_X5_copy plp_4 3673 flpw_5 r_8.1 3673 r_8.2).bind (fun r_11 : Int32 × (Nat → Int32) => lt (i2_1 + 1 : Int32) (fun x2_12 : Int32 => some (.inl (x2_12, r_8.1, r_8.2, r_11.1, r_11.2)))) else (m_X5_lowerTo plp_4 3673 flpw_5 r_8.1 3673 r_8.2).bind (fun r_9 : Int32 × (Nat → Int32) => lt (i2_1 + 1 : Int32) (fun x2_10 : Int32 => some (.inl (x2_10, r_8.1, r_8.2, r_9.1, r_9.2))))))) := rfl
noncomputable def b_X7_weigh_84 (sf : Int32) (st : Int32) (nm : Int32) (rw : Int32) (sg : Int32) (ms : Int32) (nsv : Nat) (fsv : Nat → Int32) (nsc : Nat) (fsc : Nat → Int32) (nam : Int32) (q_14 : Int32 × Int32 × (Nat → Int32) × Int32 × (Nat → Int32)) : (Int32 × Int32 × (Nat → Int32) × (Nat → Nat)) → Option ((Int32 × Int32 × (Nat → Int32) × (Nat → Nat)) ⊕ ((Int32 × Int32 × (Nat → Int32) × (Nat → Nat))))
  | (i2_15, pp_16, fpw_17, ffam_18) => if (1 <<< (nm &&& 31)) ≤ i2_15 then some (.inr (i2_15, pp_16, fpw_17, ffam_18)) else (wix nam i2_15).bind (fun k_19 : Nat => (fBec ffam_18 k_19 (0 : Int32)).bind (fun fv_20 : Nat → Nat => (m_X7_isOpen sf st nm rw sg ms nam i2_15).bind (fun r_21 : Int32 => if r_21 = 0 then lt (i2_15 + 1 : Int32) (fun x2_28 : Int32 => some (.inl (x2_28, pp_16, fpw_17, fv_20))) else (m_X5_forget pp_16 3673 fpw_17).bind (fun r_22 : Int32 × (Nat → Int32) => (m_X8_pourFit nm rw sg ms nsv fsv nsc fsc r_22.1 3673 r_22.2 nam i2_15).bind (fun r_23 : Int32 × (Nat → Int32) => (m_X5_divide r_23.1 3673 r_23.2 q_14.2.2.2.1 3673 q_14.2.2.2.2).bind (fun r_24 : Int32 × (Nat → Int32) => (wix nam i2_15).bind (fun k_25 : Nat => (fWri r_24.1 r_24.2 fv_20 k_25).bind (fun fv_26 : Nat → Nat => lt (i2_15 + 1 : Int32) (fun x2_27 : Int32 => some (.inl (x2_27, r_24.1, r_24.2, fv_26)))))))))))
theorem eb_X7_weigh_84 (sf : Int32) (st : Int32) (nm : Int32) (rw : Int32) (sg : Int32) (ms : Int32) (nsv : Nat) (fsv : Nat → Int32) (nsc : Nat) (fsc : Nat → Int32) (nam : Int32) (q_14 : Int32 × Int32 × (Nat → Int32) × Int32 × (Nat → Int32)) (i2_15 : Int32) (pp_16 : Int32) (fpw_17 : Nat → Int32) (ffam_18 : Nat → Nat) : b_X7_weigh_84 sf st nm rw sg ms nsv fsv nsc fsc nam q_14 (i2_15, pp_16, fpw_17, ffam_18) = if (1 <<< (nm &&& 31)) ≤ i2_15 then some (.inr (i2_15, pp_16, fpw_17, ffam_18)) else (wix nam i2_15).bind (fun k_19 : Nat => (fBec ffam_18 k_19 (0 : Int32)).bind (fun fv_20 : Nat → Nat => (m_X7_isOpen sf st nm rw sg ms nam i2_15).bind (fun r_21 : Int32 => if r_21 = 0 then lt (i2_15 + 1 : Int32) (fun x2_28 : Int32 => some (.inl (x2_28, pp_16, fpw_17, fv_20))) else (m_X5_forget pp_16 3673 fpw_17).bind (fun r_22 : Int32 × (Nat → Int32) => (m_X8_pourFit nm rw sg ms nsv fsv nsc fsc r_22.1 3673 r_22.2 nam i2_15).bind (fun r_23 : Int32 × (Nat → Int32) => (m_X5_divide r_23.1 3673 r_23.2 q_14.2.2.2.1 3673 q_14.2.2.2.2).bind (fun r_24 : Int32 × (Nat → Int32) => (wix nam i2_15).bind (fun k_25 : Nat => (fWri r_24.1 r_24.2 fv_20 k_25).bind (fun fv_26 : Nat → Nat => lt (i2_15 + 1 : Int32) (fun x2_27 : Int32 => some (.inl (x2_27, r_24.1, r_24.2, fv_26))))))))))) := rfl
noncomputable def b_X7_weigh_172 (sf : Int32) (st : Int32) (nm : Int32) (rw : Int32) (sg : Int32) (ms : Int32) (nam : Int32) : (Int32 × (Nat → Nat)) → Option ((Int32 × (Nat → Nat)) ⊕ ((Int32 × (Nat → Nat))))
  | (i2_30, ffam_31) => if nm ≤ i2_30 then some (.inr (i2_30, ffam_31)) else if i2_30 = nam then lt (i2_30 + 1 : Int32) (fun x2_32 : Int32 => some (.inl (x2_32, ffam_31))) else (m_X7_addSmaller sf st nm rw sg ms ffam_31 nam i2_30).bind (fun r_33 : (Nat → Nat) => lt (i2_30 + 1 : Int32) (fun x2_34 : Int32 => some (.inl (x2_34, r_33))))
theorem eb_X7_weigh_172 (sf : Int32) (st : Int32) (nm : Int32) (rw : Int32) (sg : Int32) (ms : Int32) (nam : Int32) (i2_30 : Int32) (ffam_31 : Nat → Nat) : b_X7_weigh_172 sf st nm rw sg ms nam (i2_30, ffam_31) = if nm ≤ i2_30 then some (.inr (i2_30, ffam_31)) else if i2_30 = nam then lt (i2_30 + 1 : Int32) (fun x2_32 : Int32 => some (.inl (x2_32, ffam_31))) else (m_X7_addSmaller sf st nm rw sg ms ffam_31 nam i2_30).bind (fun r_33 : (Nat → Nat) => lt (i2_30 + 1 : Int32) (fun x2_34 : Int32 => some (.inl (x2_34, r_33)))) := rfl
noncomputable def m_X7_weigh (sf : Int32) (st : Int32) (nm : Int32) (rw : Int32) (sg : Int32) (ms : Int32) (nsv : Nat) (fsv : Nat → Int32) (nsc : Nat) (fsc : Nat → Int32) (lg : Int32) (fpw : Nat → Int32) (lgl : Int32) (flpw : Nat → Int32) (v : Nat → Nat) (nam : Int32) : Option (Int32 × (Nat → Int32) × Int32 × (Nat → Int32) × (Nat → Nat)) := (lp (b_X7_weigh_2 sf st nm rw sg ms nsv fsv nsc fsc nam) FU (0, lg, fpw, lgl, flpw)).bind (fun q_14 : Int32 × Int32 × (Nat → Int32) × Int32 × (Nat → Int32) => (lp (b_X7_weigh_84 sf st nm rw sg ms nsv fsv nsc fsc nam q_14) FU (0, q_14.2.1, q_14.2.2.1, v)).bind (fun q_29 : Int32 × Int32 × (Nat → Int32) × (Nat → Nat) => (lp (b_X7_weigh_172 sf st nm rw sg ms nam) FU (0, q_29.2.2.2)).bind (fun q_35 : Int32 × (Nat → Nat) => some (q_29.2.1, q_29.2.2.1, q_14.2.2.2.1, q_14.2.2.2.2, q_35.2))))
theorem em_X7_weigh (sf : Int32) (st : Int32) (nm : Int32) (rw : Int32) (sg : Int32) (ms : Int32) (nsv : Nat) (fsv : Nat → Int32) (nsc : Nat) (fsc : Nat → Int32) (lg : Int32) (fpw : Nat → Int32) (lgl : Int32) (flpw : Nat → Int32) (v : Nat → Nat) (nam : Int32) : m_X7_weigh sf st nm rw sg ms nsv fsv nsc fsc lg fpw lgl flpw v nam = (lp (b_X7_weigh_2 sf st nm rw sg ms nsv fsv nsc fsc nam) FU (0, lg, fpw, lgl, flpw)).bind (fun q_14 : Int32 × Int32 × (Nat → Int32) × Int32 × (Nat → Int32) => (lp (b_X7_weigh_84 sf st nm rw sg ms nsv fsv nsc fsc nam q_14) FU (0, q_14.2.1, q_14.2.2.1, v)).bind (fun q_29 : Int32 × Int32 × (Nat → Int32) × (Nat → Nat) => (lp (b_X7_weigh_172 sf st nm rw sg ms nam) FU (0, q_29.2.2.2)).bind (fun q_35 : Int32 × (Nat → Nat) => some (q_29.2.1, q_29.2.2.1, q_14.2.2.2.1, q_14.2.2.2.2, q_35.2)))) := rfl
abbrev rm_X7_isOpen : Room := { frames := 1, cells := 0, slots := 0, locals := 21 }
set_option maxHeartbeats 4000000 in
set_option maxRecDepth 100000 in
theorem c_X7_isOpen (l : Launch) (G : GG) (adh : Nat) (ads : Nat) (adp : Nat) (adlp : Nat) (adwa : Nat) (adsa : Nat) (adnone : Nat) (adterm : Nat) (adrest : Nat) (addiv : Nat) (adshr : Nat) (adsv : Nat) (adsc : Nat) (sf : Int32) (st : Int32) (nm : Int32) (rw : Int32) (sg : Int32) (ms : Int32) (nam : Int32) (se : Int32) (r : Int32) (h : m_X7_isOpen sf st nm rw sg ms nam se = some r) : Ctr l G yX7_isOpen w2_X7_isOpen rm_X7_isOpen [.ref adh, .int nam, .int se] [(adh, .inr (6, [.ref ads, .ref adp, .ref adlp, .ref adwa, .ref adsa, .ref adnone, .ref adterm, .ref adrest, .ref addiv, .ref adshr, .int sf, .int st])), (ads, .inr (7, [.int nm, .int rw, .int sg, .int ms, .ref adsv, .ref adsc]))] (fun v w => v = some (.int r) ∧ w = [(adh, .inr (6, [.ref ads, .ref adp, .ref adlp, .ref adwa, .ref adsa, .ref adnone, .ref adterm, .ref adrest, .ref addiv, .ref adshr, .int sf, .int st])), (ads, .inr (7, [.int nm, .int rw, .int sg, .int ms, .ref adsv, .ref adsc]))]) := by
  refine ctr_entry (cc := cX7_isOpen) (maxL := 3) (ret := some .boolean) (lv0 := [(0, .ref adh), (1, .int nam), (2, .int se)]) (by decide) rfl (Nat.le_of_ble_eq_true rfl) (rfl) ?_
  intro K hl9 hG9 hk hn9 hrt
  subst hl9
  subst hG9
  have hR9 : RoomGe rm_X7_isOpen rm_X7_isOpen := RoomGe.rf
  replace h := id_e h
  rw [em_X7_isOpen] at h
  refine v_iload_n hk dX7_isOpen_0 rfl ?_
  refine v_iload_n hk dX7_isOpen_1 rfl ?_
  obtain ⟨r_1, er_1, h⟩ := bd_e (g := id) rfl h
  refine v_callS (n := 2) (st := []) hk dX7_isOpen_2 (c_X0_isIn (kl K) (kG K) se nam r_1 er_1) gd_X7_isOpen_X0_isIn rfl (by decide +kernel) (frok hR9 (Nat.le_of_ble_eq_true rfl) (Nat.le_of_ble_eq_true rfl)) (roomk hR9 (Nat.le_of_ble_eq_true rfl) (Nat.le_of_ble_eq_true rfl)) rfl rfl (Nat.le_of_ble_eq_true rfl) [] [0, 1] (wr := [(adh, .inr (6, [.ref ads, .ref adp, .ref adlp, .ref adwa, .ref adsa, .ref adnone, .ref adterm, .ref adrest, .ref addiv, .ref adshr, .int sf, .int st])), (ads, .inr (7, [.int nm, .int rw, .int sg, .int ms, .ref adsv, .ref adsc]))]) rfl rfl (by decide) (by decide) (by decide) ?_
  intro v9 w9 hp9
  obtain ⟨rfl, rfl⟩ := hp9
  show V K 3 [(adh, .inr (6, [.ref ads, .ref adp, .ref adlp, .ref adwa, .ref adsa, .ref adnone, .ref adterm, .ref adrest, .ref addiv, .ref adshr, .int sf, .int st])), (ads, .inr (7, [.int nm, .int rw, .int sg, .int ms, .ref adsv, .ref adsc]))] 0 0 5 [(0, .ref adh), (1, .int nam), (2, .int se)] [.int r_1]
  refine v_if_ne (tgt := 26) hk dX7_isOpen_5 (by decide) (fun hc => ?_) (fun hc => ?_)
  · replace h := it_f (g := id) h hc
    refine v_iconst (v := 0) hk dX7_isOpen_26 (by decide) ?_
    replace h : some 0 = some r := h
    replace h := Option.some.inj h
    subst h
    refine hrt (some (.int 0)) _ _ _ _ _ (⟨rfl, rfl⟩) (Nat.zero_le _) (Nat.zero_le _) (⟨dX7_isOpen_27, rfl⟩)
  · replace h := it_t (g := id) h hc
    refine v_iload_n hk dX7_isOpen_8 rfl ?_
    obtain ⟨r_2, er_2, h⟩ := bd_e (g := id) rfl h
    refine v_callS (n := 1) (st := []) hk dX7_isOpen_9 (c_J6_bitCount_0f7a4 (kl K) (kG K) se r_2 er_2) gd_X7_isOpen_J6_bitCount_0f7a4 rfl (by decide +kernel) (frok hR9 (Nat.le_of_ble_eq_true rfl) (Nat.le_of_ble_eq_true rfl)) (roomk hR9 (Nat.le_of_ble_eq_true rfl) (Nat.le_of_ble_eq_true rfl)) rfl rfl (Nat.le_of_ble_eq_true rfl) [] [0, 1] (wr := [(adh, .inr (6, [.ref ads, .ref adp, .ref adlp, .ref adwa, .ref adsa, .ref adnone, .ref adterm, .ref adrest, .ref addiv, .ref adshr, .int sf, .int st])), (ads, .inr (7, [.int nm, .int rw, .int sg, .int ms, .ref adsv, .ref adsc]))]) rfl rfl (by decide) (by decide) (by decide) ?_
    intro v9 w9 hp9
    obtain ⟨rfl, rfl⟩ := hp9
    show V K 3 [(adh, .inr (6, [.ref ads, .ref adp, .ref adlp, .ref adwa, .ref adsa, .ref adnone, .ref adterm, .ref adrest, .ref addiv, .ref adshr, .int sf, .int st])), (ads, .inr (7, [.int nm, .int rw, .int sg, .int ms, .ref adsv, .ref adsc]))] 0 0 12 [(0, .ref adh), (1, .int nam), (2, .int se)] [.int r_2]
    refine v_aload_n hk dX7_isOpen_12 rfl ?_
    refine v_get (C := RX7) (T := TX7) (N := 12) (ci := 6) (v := .ref ads) hk dX7_isOpen_13 w2i_X7_isOpen_X70 0 rfl rfl 0 (by decide) (by decide +kernel) rfl rfl ?_
    refine v_get (C := RX8) (T := TX8) (N := 6) (ci := 7) (v := .int ms) hk dX7_isOpen_16 w2i_X7_isOpen_X80 1 rfl rfl 3 (by decide) (by decide +kernel) rfl rfl ?_
    obtain ⟨z_3, ez_3, h⟩ := lt_e (g := id) h
    have Jz_3 : V K 3 [(adh, .inr (6, [.ref ads, .ref adp, .ref adlp, .ref adwa, .ref adsa, .ref adnone, .ref adterm, .ref adrest, .ref addiv, .ref adshr, .int sf, .int st])), (ads, .inr (7, [.int nm, .int rw, .int sg, .int ms, .ref adsv, .ref adsc]))] 0 0 27 [(0, .ref adh), (1, .int nam), (2, .int se)] (.int z_3 :: []) := by
      obtain ⟨hbz, h⟩ := ok_e (g := id) rfl h
      replace h : some z_3 = some r := h
      replace h := Option.some.inj h
      subst h
      refine hrt (some (.int z_3)) _ _ _ _ _ (⟨rfl, rfl⟩) (Nat.zero_le _) (Nat.zero_le _) (⟨dX7_isOpen_27, nar_z _ (of_decide_eq_true hbz)⟩)
    refine v_icmp_gt (tgt := 26) hk dX7_isOpen_19 (by decide) (fun hc => ?_) (fun hc => ?_)
    · rw [if_pos hc] at ez_3
      subst ez_3
      refine v_iconst (v := 0) hk dX7_isOpen_26 (by decide) ?_
      exact Jz_3
    · rw [if_neg hc] at ez_3
      subst ez_3
      refine v_iconst (v := 1) hk dX7_isOpen_22 (by decide) ?_
      refine v_goto (tgt := 27) hk dX7_isOpen_23 (by decide) ?_
      exact Jz_3
abbrev rm_X7_forget : Room := { frames := 0, cells := 0, slots := 0, locals := 0 }
set_option maxHeartbeats 4000000 in
set_option maxRecDepth 100000 in
theorem c_X7_forget (l : Launch) (G : GG) (adh : Nat) (adshr : Nat) (ads : Nat) (adp : Nat) (adlp : Nat) (adwa : Nat) (adsa : Nat) (adnone : Nat) (adterm : Nat) (adrest : Nat) (addiv : Nat) (adabove : Nat) (adbelow : Nat) (sf : Int32) (st : Int32) (rdy : Int32) (r : Int32) (h : m_X7_forget sf st rdy = some r) : Ctr l G yX7_forget w2_X7_forget rm_X7_forget [.ref adh] [(adh, .inr (6, [.ref ads, .ref adp, .ref adlp, .ref adwa, .ref adsa, .ref adnone, .ref adterm, .ref adrest, .ref addiv, .ref adshr, .int sf, .int st])), (adshr, .inr (2, [.ref adabove, .ref adbelow, .int rdy]))] (fun v w => v = none ∧ w = [(adh, .inr (6, [.ref ads, .ref adp, .ref adlp, .ref adwa, .ref adsa, .ref adnone, .ref adterm, .ref adrest, .ref addiv, .ref adshr, .int sf, .int st])), (adshr, .inr (2, [.ref adabove, .ref adbelow, .int r]))]) := by
  refine ctr_entry (cc := cX7_forget) (maxL := 1) (ret := none) (lv0 := [(0, .ref adh)]) (by decide) rfl (Nat.le_of_ble_eq_true rfl) (rfl) ?_
  intro K hl9 hG9 hk hn9 hrt
  subst hl9
  subst hG9
  have hR9 : RoomGe rm_X7_forget rm_X7_forget := RoomGe.rf
  replace h := id_e h
  rw [em_X7_forget] at h
  refine v_aload_n hk dX7_forget_0 rfl ?_
  refine v_get (C := RX7) (T := TX7) (N := 12) (ci := 6) (v := .ref adshr) hk dX7_forget_1 w2i_X7_forget_X70 0 rfl rfl 9 (by decide) (by decide +kernel) rfl rfl ?_
  refine v_iconst (v := 0) hk dX7_forget_4 (by decide) ?_
  refine v_put (C := RX3) (T := TX3) (N := 3) (ci := 2) (v := .int 0) (ty := .boolean) hk dX7_forget_5 w2i_X7_forget_X30 tyX3 tyX3_ok nmX3 1 rfl rfl 2 (by decide) (by decide +kernel) rfl rfl (by decide +kernel) rfl rfl (Nat.le_of_ble_eq_true rfl) (ws' := [(adh, .inr (6, [.ref ads, .ref adp, .ref adlp, .ref adwa, .ref adsa, .ref adnone, .ref adterm, .ref adrest, .ref addiv, .ref adshr, .int sf, .int st])), (adshr, .inr (2, [.ref adabove, .ref adbelow, .int 0]))]) rfl ?_
  replace h : some 0 = some r := h
  replace h := Option.some.inj h
  subst h
  refine hrt (none) _ _ _ _ _ (⟨rfl, rfl⟩) (Nat.zero_le _) (Nat.zero_le _) (dX7_forget_8)
abbrev rm_X7_multiplyOut : Room := { frames := 3, cells := 0, slots := 0, locals := 77 }
set_option maxHeartbeats 4000000 in
set_option maxRecDepth 100000 in
theorem L_X7_multiplyOut_14 {K : Cx} {R9 : Room} {ad : Nat → Nat} {aw : Nat → Nat} (hk : Ok K cX7_multiplyOut 4 RX7 w2_X7_multiplyOut R9) (hR9 : RoomGe R9 rm_X7_multiplyOut) (adh : Nat) (ads : Nat) (adwa : Nat) (adsa : Nat) (adp : Nat) (adlp : Nat) (adshr : Nat) (adsv : Nat) (adsc : Nat) (sf : Int32) (st : Int32) (nm : Int32) (rw : Int32) (sg : Int32) (ms : Int32) (oth : Int32) (ends : Int32) (b9 : (Int32 × (Nat → Nat))) (kk0 : ∀ q9 : (Int32 × (Nat → Nat)), b9 = q9 → VB K (SB (kG K) ad aw q9.2) 0 4 [(ads, .inr (7, [.int nm, .int rw, .int sg, .int ms, .ref adsv, .ref adsc])), (adwa, .inl (gB (kG K), 64, .inr (.inr (.inr (.inr (wcont ad)))))), (adh, .inr (6, [.ref ads, .ref adp, .ref adlp, .ref adwa, .ref adsa, .ref (ad 64), .ref (ad 81), .ref (ad 82), .ref (ad 83), .ref adshr, .int sf, .int st])), (adsa, .inl (gB (kG K), 16, .inr (.inr (.inr (.inr (scont ad))))))] 52 [(0, .ref adh), (1, .int oth), (2, .int ends), (3, .int q9.1)] []) : ∀ (nn : Nat) (i3_3 : Int32) (ffam_4 : Nat → Nat), lp (b_X7_multiplyOut_14 nm oth ends) nn (i3_3, ffam_4) = some b9 → VB K (SB (kG K) ad aw ffam_4) 0 4 [(ads, .inr (7, [.int nm, .int rw, .int sg, .int ms, .ref adsv, .ref adsc])), (adwa, .inl (gB (kG K), 64, .inr (.inr (.inr (.inr (wcont ad)))))), (adh, .inr (6, [.ref ads, .ref adp, .ref adlp, .ref adwa, .ref adsa, .ref (ad 64), .ref (ad 81), .ref (ad 82), .ref (ad 83), .ref adshr, .int sf, .int st])), (adsa, .inl (gB (kG K), 16, .inr (.inr (.inr (.inr (scont ad))))))] 14 [(0, .ref adh), (1, .int oth), (2, .int ends), (3, .int i3_3)] [] := by
  intro nn
  induction nn with
  | zero => intro i3_3 ffam_4 h; exact absurd h (by simp [lp])
  | succ nn ih =>
    intro i3_3 ffam_4 h
    replace h := lp_s h
    rw [eb_X7_multiplyOut_14] at h
    refine vx_iload_n hk dX7_multiplyOut_14 rfl ?_
    refine vx_aload_n hk dX7_multiplyOut_15 rfl ?_
    refine vx_get (C := RX7) (T := TX7) (N := 12) (ci := 6) (v := .ref ads) hk dX7_multiplyOut_16 w2i_X7_multiplyOut_X70 2 rfl rfl 0 (by decide) (by decide +kernel) rfl rfl ?_
    refine vx_get (C := RX8) (T := TX8) (N := 6) (ci := 7) (v := .int nm) hk dX7_multiplyOut_19 w2i_X7_multiplyOut_X80 0 rfl rfl 0 (by decide) (by decide +kernel) rfl rfl ?_
    refine vx_icmp_ge (tgt := 52) hk dX7_multiplyOut_22 (by decide) (fun hc => ?_) (fun hc => ?_)
    · replace h := it_t (g := (lpk (lp (b_X7_multiplyOut_14 nm oth ends) nn))) h hc
      replace h : some (i3_3, ffam_4) = some b9 := h
      replace h := Option.some.inj h
      subst h
      exact kk0 _ rfl
    · replace h := it_f (g := (lpk (lp (b_X7_multiplyOut_14 nm oth ends) nn))) h hc
      refine vx_iload_n hk dX7_multiplyOut_25 rfl ?_
      refine vx_iload_n hk dX7_multiplyOut_26 rfl ?_
      obtain ⟨r_5, er_5, h⟩ := bd_e (g := (lpk (lp (b_X7_multiplyOut_14 nm oth ends) nn))) rfl h
      refine vy_callS (n := 2) (st := []) hk dX7_multiplyOut_27 (c_X0_isIn (kl K) (kG K) ends i3_3 r_5 er_5) gd_X7_multiplyOut_X0_isIn rfl (by decide +kernel) (frok hR9 (Nat.le_of_ble_eq_true rfl) (Nat.le_of_ble_eq_true rfl)) ⟨rfl, rfl⟩ SB.z rfl rfl (Nat.le_of_ble_eq_true rfl) (wr := [(ads, .inr (7, [.int nm, .int rw, .int sg, .int ms, .ref adsv, .ref adsc])), (adwa, .inl (gB (kG K), 64, .inr (.inr (.inr (.inr (wcont ad)))))), (adh, .inr (6, [.ref ads, .ref adp, .ref adlp, .ref adwa, .ref adsa, .ref (ad 64), .ref (ad 81), .ref (ad 82), .ref (ad 83), .ref adshr, .int sf, .int st])), (adsa, .inl (gB (kG K), 16, .inr (.inr (.inr (.inr (scont ad))))))]) [0, 1, 2, 3] [] 4 rfl (by decide) rfl rfl ?_
      intro v9 w9 hp9
      obtain ⟨rfl, rfl⟩ := hp9
      show VB K (SB (kG K) ad aw ffam_4) 0 4 [(ads, .inr (7, [.int nm, .int rw, .int sg, .int ms, .ref adsv, .ref adsc])), (adwa, .inl (gB (kG K), 64, .inr (.inr (.inr (.inr (wcont ad)))))), (adh, .inr (6, [.ref ads, .ref adp, .ref adlp, .ref adwa, .ref adsa, .ref (ad 64), .ref (ad 81), .ref (ad 82), .ref (ad 83), .ref adshr, .int sf, .int st])), (adsa, .inl (gB (kG K), 16, .inr (.inr (.inr (.inr (scont ad))))))] 30 [(0, .ref adh), (1, .int oth), (2, .int ends), (3, .int i3_3)] [.int r_5]
      refine vx_if_eq (tgt := 46) hk dX7_multiplyOut_30 (by decide) (fun hc => ?_) (fun hc => ?_)
      · replace h := it_t (g := (lpk (lp (b_X7_multiplyOut_14 nm oth ends) nn))) h hc
        obtain ⟨x3_6, ex3_6, h⟩ := lt_e (g := (lpk (lp (b_X7_multiplyOut_14 nm oth ends) nn))) h
        refine vx_iinc (v := x3_6) hk dX7_multiplyOut_46 rfl (by rw [ex3_6]; rfl) (by decide) [1, 2, 3, 0] (lv' := [(0, .ref adh), (1, .int oth), (2, .int ends), (3, .int x3_6)]) rfl ?_
        refine vx_goto (tgt := 14) hk dX7_multiplyOut_49 (by decide) ?_
        exact ih x3_6 ffam_4 h
      · replace h := it_f (g := (lpk (lp (b_X7_multiplyOut_14 nm oth ends) nn))) h hc
        refine vx_aload_n hk dX7_multiplyOut_33 rfl ?_
        refine vx_get (C := RX7) (T := TX7) (N := 12) (ci := 6) (v := .ref (ad 81)) hk dX7_multiplyOut_34 w2i_X7_multiplyOut_X70 2 rfl rfl 6 (by decide) (by decide +kernel) rfl rfl ?_
        refine vx_aload_n hk dX7_multiplyOut_37 rfl ?_
        refine vx_iload_n hk dX7_multiplyOut_38 rfl ?_
        refine vx_iload_n hk dX7_multiplyOut_39 rfl ?_
        obtain ⟨k_7, ek_7, h⟩ := bd_e (g := (lpk (lp (b_X7_multiplyOut_14 nm oth ends) nn))) rfl h
        refine vy_callV (n := 2) (st := [.ref (ad 81)]) (b := adh) (T := TX7) (N := 12) hk dX7_multiplyOut_40 (c_X7_weight (kl K) (kG K) ad adh ads adp adlp adwa adsa adshr sf st ek_7) rfl gd_X7_multiplyOut_X7_weight rfl (by decide +kernel) (frok hR9 (Nat.le_of_ble_eq_true rfl) (Nat.le_of_ble_eq_true rfl)) ⟨rfl, rfl⟩ SB.z rfl rfl (Nat.le_of_ble_eq_true rfl) 2 rfl rfl (wr := [(ads, .inr (7, [.int nm, .int rw, .int sg, .int ms, .ref adsv, .ref adsc])), (adsa, .inl (gB (kG K), 16, .inr (.inr (.inr (.inr (scont ad))))))]) [0, 3] [2, 1] 4 rfl (by decide) rfl rfl ?_
        intro v9 w9 hp9
        obtain ⟨rfl, rfl⟩ := hp9
        show VB K (SB (kG K) ad aw ffam_4) 0 4 [(ads, .inr (7, [.int nm, .int rw, .int sg, .int ms, .ref adsv, .ref adsc])), (adsa, .inl (gB (kG K), 16, .inr (.inr (.inr (.inr (scont ad)))))), (adh, .inr (6, [.ref ads, .ref adp, .ref adlp, .ref adwa, .ref adsa, .ref (ad 64), .ref (ad 81), .ref (ad 82), .ref (ad 83), .ref adshr, .int sf, .int st])), (adwa, .inl (gB (kG K), 64, .inr (.inr (.inr (.inr (wcont ad))))))] 43 [(0, .ref adh), (1, .int oth), (2, .int ends), (3, .int i3_3)] [.ref (ad k_7), .ref (ad 81)]
        obtain ⟨fv_8, efv_8, h⟩ := bd_e (g := (lpk (lp (b_X7_multiplyOut_14 nm oth ends) nn))) rfl h
        obtain ⟨hj9, hcf9⟩ := c_fMul (kl K) (kG K) ad aw efv_8
        refine vy_callF (n := 1) (st := []) (b := (ad 81)) (T := TX1) (N := 2) (ci := 0) hk dX7_multiplyOut_43 hcf9 rfl gd_X7_multiplyOut_X1_times rfl (by decide +kernel) (frok hR9 (Nat.le_of_ble_eq_true rfl) (Nat.le_of_ble_eq_true rfl)) ⟨rfl, rfl⟩ SB.z rfl rfl (Nat.le_of_ble_eq_true rfl) (SB.recv hj9) rfl (wr := [(ads, .inr (7, [.int nm, .int rw, .int sg, .int ms, .ref adsv, .ref adsc])), (adsa, .inl (gB (kG K), 16, .inr (.inr (.inr (.inr (scont ad)))))), (adh, .inr (6, [.ref ads, .ref adp, .ref adlp, .ref adwa, .ref adsa, .ref (ad 64), .ref (ad 81), .ref (ad 82), .ref (ad 83), .ref adshr, .int sf, .int st])), (adwa, .inl (gB (kG K), 64, .inr (.inr (.inr (.inr (wcont ad))))))]) [0, 1, 2, 3] [] 4 rfl (by decide) rfl rfl ?_
        intro v9 w9 hp9
        obtain ⟨rfl, rfl⟩ := hp9
        show VB K (SB (kG K) ad aw fv_8) 0 4 [(ads, .inr (7, [.int nm, .int rw, .int sg, .int ms, .ref adsv, .ref adsc])), (adsa, .inl (gB (kG K), 16, .inr (.inr (.inr (.inr (scont ad)))))), (adh, .inr (6, [.ref ads, .ref adp, .ref adlp, .ref adwa, .ref adsa, .ref (ad 64), .ref (ad 81), .ref (ad 82), .ref (ad 83), .ref adshr, .int sf, .int st])), (adwa, .inl (gB (kG K), 64, .inr (.inr (.inr (.inr (wcont ad))))))] 46 [(0, .ref adh), (1, .int oth), (2, .int ends), (3, .int i3_3)] []
        obtain ⟨x3_9, ex3_9, h⟩ := lt_e (g := (lpk (lp (b_X7_multiplyOut_14 nm oth ends) nn))) h
        refine vx_iinc (v := x3_9) hk dX7_multiplyOut_46 rfl (by rw [ex3_9]; rfl) (by decide) [1, 2, 3, 0] (lv' := [(0, .ref adh), (1, .int oth), (2, .int ends), (3, .int x3_9)]) rfl ?_
        refine vx_goto (tgt := 14) hk dX7_multiplyOut_49 (by decide) ?_
        refine vx_perm [0, 3, 2, 1] 4 rfl (by decide) (ws' := [(ads, .inr (7, [.int nm, .int rw, .int sg, .int ms, .ref adsv, .ref adsc])), (adwa, .inl (gB (kG K), 64, .inr (.inr (.inr (.inr (wcont ad)))))), (adh, .inr (6, [.ref ads, .ref adp, .ref adlp, .ref adwa, .ref adsa, .ref (ad 64), .ref (ad 81), .ref (ad 82), .ref (ad 83), .ref adshr, .int sf, .int st])), (adsa, .inl (gB (kG K), 16, .inr (.inr (.inr (.inr (scont ad))))))]) rfl ?_
        exact ih x3_9 fv_8 h
set_option maxHeartbeats 4000000 in
set_option maxRecDepth 100000 in
theorem c_X7_multiplyOut (l : Launch) (G : GG) (ad aw : Nat → Nat) (adh : Nat) (ads : Nat) (adwa : Nat) (adsa : Nat) (adp : Nat) (adlp : Nat) (adshr : Nat) (adsv : Nat) (adsc : Nat) (sf : Int32) (st : Int32) (nm : Int32) (rw : Int32) (sg : Int32) (ms : Int32) (v : Nat → Nat) (oth : Int32) (ends : Int32) (r : (Nat → Nat)) (h : m_X7_multiplyOut sf st nm rw sg ms v oth ends = some r) : CtrF l G (SB G ad aw v) (SB G ad aw r) yX7_multiplyOut w2_X7_multiplyOut rm_X7_multiplyOut [.ref adh, .int oth, .int ends] [(adh, .inr (6, [.ref ads, .ref adp, .ref adlp, .ref adwa, .ref adsa, .ref (ad 64), .ref (ad 81), .ref (ad 82), .ref (ad 83), .ref adshr, .int sf, .int st])), (ads, .inr (7, [.int nm, .int rw, .int sg, .int ms, .ref adsv, .ref adsc])), (adwa, .inl (gB G, 64, .inr (.inr (.inr (.inr (wcont ad)))))), (adsa, .inl (gB G, 16, .inr (.inr (.inr (.inr (scont ad))))))] (fun v w9 => v = none ∧ w9 = [(adh, .inr (6, [.ref ads, .ref adp, .ref adlp, .ref adwa, .ref adsa, .ref (ad 64), .ref (ad 81), .ref (ad 82), .ref (ad 83), .ref adshr, .int sf, .int st])), (ads, .inr (7, [.int nm, .int rw, .int sg, .int ms, .ref adsv, .ref adsc])), (adwa, .inl (gB G, 64, .inr (.inr (.inr (.inr (wcont ad)))))), (adsa, .inl (gB G, 16, .inr (.inr (.inr (.inr (scont ad))))))]) := by
  refine ctrF_entry SB.z SB.z (cc := cX7_multiplyOut) (maxL := 4) (ret := none) (lv0 := [(0, .ref adh), (1, .int oth), (2, .int ends)]) (by decide) rfl (Nat.le_of_ble_eq_true rfl) rfl ?_
  intro K hl9 hG9 hk hn9 hrt
  subst hl9
  subst hG9
  have hR9 : RoomGe rm_X7_multiplyOut rm_X7_multiplyOut := RoomGe.rf
  replace h := id_e h
  rw [em_X7_multiplyOut] at h
  refine vx_aload_n hk dX7_multiplyOut_0 rfl ?_
  refine vx_get (C := RX7) (T := TX7) (N := 12) (ci := 6) (v := .ref (ad 81)) hk dX7_multiplyOut_1 w2i_X7_multiplyOut_X70 0 rfl rfl 6 (by decide) (by decide +kernel) rfl rfl ?_
  refine vx_aload_n hk dX7_multiplyOut_4 rfl ?_
  refine vx_iload_n hk dX7_multiplyOut_5 rfl ?_
  obtain ⟨k_1, ek_1, h⟩ := bd_e (g := id) rfl h
  refine vy_callV (n := 1) (st := [.ref (ad 81)]) (b := adh) (T := TX7) (N := 12) hk dX7_multiplyOut_6 (c_X7_sum (kl K) (kG K) ad adh ads adp adlp adwa adsa adshr sf st ek_1) rfl gd_X7_multiplyOut_X7_sum rfl (by decide +kernel) (frok hR9 (Nat.le_of_ble_eq_true rfl) (Nat.le_of_ble_eq_true rfl)) ⟨rfl, rfl⟩ SB.z rfl rfl (Nat.le_of_ble_eq_true rfl) 0 rfl rfl (wr := [(ads, .inr (7, [.int nm, .int rw, .int sg, .int ms, .ref adsv, .ref adsc])), (adwa, .inl (gB (kG K), 64, .inr (.inr (.inr (.inr (wcont ad))))))]) [1, 2] [0, 3] 4 rfl (by decide) rfl rfl ?_
  intro v9 w9 hp9
  obtain ⟨rfl, rfl⟩ := hp9
  show VB K (SB (kG K) ad aw v) 0 4 [(ads, .inr (7, [.int nm, .int rw, .int sg, .int ms, .ref adsv, .ref adsc])), (adwa, .inl (gB (kG K), 64, .inr (.inr (.inr (.inr (wcont ad)))))), (adh, .inr (6, [.ref ads, .ref adp, .ref adlp, .ref adwa, .ref adsa, .ref (ad 64), .ref (ad 81), .ref (ad 82), .ref (ad 83), .ref adshr, .int sf, .int st])), (adsa, .inl (gB (kG K), 16, .inr (.inr (.inr (.inr (scont ad))))))] 9 [(0, .ref adh), (1, .int oth), (2, .int ends)] [.ref (ad k_1), .ref (ad 81)]
  obtain ⟨fv_2, efv_2, h⟩ := bd_e (g := id) rfl h
  obtain ⟨hj9, hcf9⟩ := c_fCop (kl K) (kG K) ad aw efv_2
  refine vy_callF (n := 1) (st := []) (b := (ad 81)) (T := TX1) (N := 2) (ci := 0) hk dX7_multiplyOut_9 hcf9 rfl gd_X7_multiplyOut_X1_copy rfl (by decide +kernel) (frok hR9 (Nat.le_of_ble_eq_true rfl) (Nat.le_of_ble_eq_true rfl)) ⟨rfl, rfl⟩ SB.z rfl rfl (Nat.le_of_ble_eq_true rfl) (SB.recv hj9) rfl (wr := [(ads, .inr (7, [.int nm, .int rw, .int sg, .int ms, .ref adsv, .ref adsc])), (adwa, .inl (gB (kG K), 64, .inr (.inr (.inr (.inr (wcont ad)))))), (adh, .inr (6, [.ref ads, .ref adp, .ref adlp, .ref adwa, .ref adsa, .ref (ad 64), .ref (ad 81), .ref (ad 82), .ref (ad 83), .ref adshr, .int sf, .int st])), (adsa, .inl (gB (kG K), 16, .inr (.inr (.inr (.inr (scont ad))))))]) [0, 1, 2, 3] [] 4 rfl (by decide) rfl rfl ?_
  intro v9 w9 hp9
  obtain ⟨rfl, rfl⟩ := hp9
  show VB K (SB (kG K) ad aw fv_2) 0 4 [(ads, .inr (7, [.int nm, .int rw, .int sg, .int ms, .ref adsv, .ref adsc])), (adwa, .inl (gB (kG K), 64, .inr (.inr (.inr (.inr (wcont ad)))))), (adh, .inr (6, [.ref ads, .ref adp, .ref adlp, .ref adwa, .ref adsa, .ref (ad 64), .ref (ad 81), .ref (ad 82), .ref (ad 83), .ref adshr, .int sf, .int st])), (adsa, .inl (gB (kG K), 16, .inr (.inr (.inr (.inr (scont ad))))))] 12 [(0, .ref adh), (1, .int oth), (2, .int ends)] []
  refine vx_iconst (v := 0) hk dX7_multiplyOut_12 (by decide) ?_
  refine vx_istore_n hk dX7_multiplyOut_13 rfl (by decide) [1, 2, 3, 0] (lv' := [(0, .ref adh), (1, .int oth), (2, .int ends), (3, .int 0)]) rfl ?_
  obtain ⟨b_11, eb_11, h⟩ := bd_e (g := id) rfl h
  refine L_X7_multiplyOut_14 hk hR9 adh ads adwa adsa adp adlp adshr adsv adsc sf st nm rw sg ms oth ends b_11 (fun q_10 eq_10 => ?_) FU 0 fv_2 eb_11
  · replace eq_10 := eq_10.symm
    subst eq_10
    replace h : some q_10.2 = some r := h
    replace h := Option.some.inj h
    subst h
    refine vx_perm [2, 0, 1, 3] 4 rfl (by decide) (ws' := [(adh, .inr (6, [.ref ads, .ref adp, .ref adlp, .ref adwa, .ref adsa, .ref (ad 64), .ref (ad 81), .ref (ad 82), .ref (ad 83), .ref adshr, .int sf, .int st])), (ads, .inr (7, [.int nm, .int rw, .int sg, .int ms, .ref adsv, .ref adsc])), (adwa, .inl (gB (kG K), 64, .inr (.inr (.inr (.inr (wcont ad)))))), (adsa, .inl (gB (kG K), 16, .inr (.inr (.inr (.inr (scont ad))))))]) rfl ?_
    refine hrt (none) _ _ _ (⟨rfl, rfl⟩) (dX7_multiplyOut_52)
abbrev rm_X7_sumGraphsOf : Room := { frames := 4, cells := 0, slots := 0, locals := 100 }
set_option maxHeartbeats 4000000 in
set_option maxRecDepth 100000 in
theorem L_X7_sumGraphsOf_28 {K : Cx} {R9 : Room} {ad : Nat → Nat} {aw : Nat → Nat} (hk : Ok K cX7_sumGraphsOf 5 RX7 w2_X7_sumGraphsOf R9) (hR9 : RoomGe R9 rm_X7_sumGraphsOf) (adh : Nat) (ads : Nat) (adwa : Nat) (adsa : Nat) (adp : Nat) (adlp : Nat) (adshr : Nat) (adsv : Nat) (adsc : Nat) (sf : Int32) (st : Int32) (nm : Int32) (rw : Int32) (sg : Int32) (ms : Int32) (se : Int32) (k_1 : Nat) (i3_4 : Int32) (b9 : (Int32 × (Nat → Nat))) (kk0 : ∀ q9 : (Int32 × (Nat → Nat)), b9 = q9 → VB K (SB (kG K) ad aw q9.2) 0 5 [(ads, .inr (7, [.int nm, .int rw, .int sg, .int ms, .ref adsv, .ref adsc])), (adwa, .inl (gB (kG K), 64, .inr (.inr (.inr (.inr (wcont ad)))))), (adh, .inr (6, [.ref ads, .ref adp, .ref adlp, .ref adwa, .ref adsa, .ref (ad 64), .ref (ad 81), .ref (ad 82), .ref (ad 83), .ref adshr, .int sf, .int st])), (adsa, .inl (gB (kG K), 16, .inr (.inr (.inr (.inr (scont ad))))))] 99 [(0, .ref adh), (1, .int se), (2, .ref (ad k_1)), (3, .int i3_4), (4, .int q9.1)] []) : ∀ (nn : Nat) (i4_6 : Int32) (ffam_7 : Nat → Nat), lp (b_X7_sumGraphsOf_28 sf st nm rw sg ms se k_1 i3_4) nn (i4_6, ffam_7) = some b9 → VB K (SB (kG K) ad aw ffam_7) 0 5 [(ads, .inr (7, [.int nm, .int rw, .int sg, .int ms, .ref adsv, .ref adsc])), (adwa, .inl (gB (kG K), 64, .inr (.inr (.inr (.inr (wcont ad)))))), (adh, .inr (6, [.ref ads, .ref adp, .ref adlp, .ref adwa, .ref adsa, .ref (ad 64), .ref (ad 81), .ref (ad 82), .ref (ad 83), .ref adshr, .int sf, .int st])), (adsa, .inl (gB (kG K), 16, .inr (.inr (.inr (.inr (scont ad))))))] 28 [(0, .ref adh), (1, .int se), (2, .ref (ad k_1)), (3, .int i3_4), (4, .int i4_6)] [] := by
  intro nn
  induction nn with
  | zero => intro i4_6 ffam_7 h; exact absurd h (by simp [lp])
  | succ nn ih =>
    intro i4_6 ffam_7 h
    replace h := lp_s h
    rw [eb_X7_sumGraphsOf_28] at h
    refine vx_iload hk dX7_sumGraphsOf_28 rfl ?_
    refine vx_iload_n hk dX7_sumGraphsOf_30 rfl ?_
    refine vx_icmp_gt (tgt := 99) hk dX7_sumGraphsOf_31 (by decide) (fun hc => ?_) (fun hc => ?_)
    · replace h := it_t (g := (lpk (lp (b_X7_sumGraphsOf_28 sf st nm rw sg ms se k_1 i3_4) nn))) h hc
      replace h : some (i4_6, ffam_7) = some b9 := h
      replace h := Option.some.inj h
      subst h
      exact kk0 _ rfl
    · replace h := it_f (g := (lpk (lp (b_X7_sumGraphsOf_28 sf st nm rw sg ms se k_1 i3_4) nn))) h hc
      refine vx_iload hk dX7_sumGraphsOf_34 rfl ?_
      refine vx_iload_n hk dX7_sumGraphsOf_36 rfl ?_
      refine vx_iconst (v := (-1)) hk dX7_sumGraphsOf_37 (by decide) ?_
      refine vx_ixor hk dX7_sumGraphsOf_38 ?_
      refine vx_iand hk dX7_sumGraphsOf_39 ?_
      refine vx_if_ne (tgt := 93) hk dX7_sumGraphsOf_40 (by decide) (fun hc => ?_) (fun hc => ?_)
      · replace h := it_f (g := (lpk (lp (b_X7_sumGraphsOf_28 sf st nm rw sg ms se k_1 i3_4) nn))) h hc
        obtain ⟨x4_8, ex4_8, h⟩ := lt_e (g := (lpk (lp (b_X7_sumGraphsOf_28 sf st nm rw sg ms se k_1 i3_4) nn))) h
        refine vx_iinc (v := x4_8) hk dX7_sumGraphsOf_93 rfl (by rw [ex4_8]; rfl) (by decide) [1, 2, 3, 4, 0] (lv' := [(0, .ref adh), (1, .int se), (2, .ref (ad k_1)), (3, .int i3_4), (4, .int x4_8)]) rfl ?_
        refine vx_goto (tgt := 28) hk dX7_sumGraphsOf_96 (by decide) ?_
        exact ih x4_8 ffam_7 h
      · replace h := it_t (g := (lpk (lp (b_X7_sumGraphsOf_28 sf st nm rw sg ms se k_1 i3_4) nn))) h hc
        refine vx_iload hk dX7_sumGraphsOf_43 rfl ?_
        obtain ⟨r_9, er_9, h⟩ := bd_e (g := (lpk (lp (b_X7_sumGraphsOf_28 sf st nm rw sg ms se k_1 i3_4) nn))) rfl h
        refine vy_callS (n := 1) (st := []) hk dX7_sumGraphsOf_45 (c_J6_bitCount_0f7a4 (kl K) (kG K) i4_6 r_9 er_9) gd_X7_sumGraphsOf_J6_bitCount_0f7a4 rfl (by decide +kernel) (frok hR9 (Nat.le_of_ble_eq_true rfl) (Nat.le_of_ble_eq_true rfl)) ⟨rfl, rfl⟩ SB.z rfl rfl (Nat.le_of_ble_eq_true rfl) (wr := [(ads, .inr (7, [.int nm, .int rw, .int sg, .int ms, .ref adsv, .ref adsc])), (adwa, .inl (gB (kG K), 64, .inr (.inr (.inr (.inr (wcont ad)))))), (adh, .inr (6, [.ref ads, .ref adp, .ref adlp, .ref adwa, .ref adsa, .ref (ad 64), .ref (ad 81), .ref (ad 82), .ref (ad 83), .ref adshr, .int sf, .int st])), (adsa, .inl (gB (kG K), 16, .inr (.inr (.inr (.inr (scont ad))))))]) [0, 1, 2, 3] [] 4 rfl (by decide) rfl rfl ?_
        intro v9 w9 hp9
        obtain ⟨rfl, rfl⟩ := hp9
        show VB K (SB (kG K) ad aw ffam_7) 0 5 [(ads, .inr (7, [.int nm, .int rw, .int sg, .int ms, .ref adsv, .ref adsc])), (adwa, .inl (gB (kG K), 64, .inr (.inr (.inr (.inr (wcont ad)))))), (adh, .inr (6, [.ref ads, .ref adp, .ref adlp, .ref adwa, .ref adsa, .ref (ad 64), .ref (ad 81), .ref (ad 82), .ref (ad 83), .ref adshr, .int sf, .int st])), (adsa, .inl (gB (kG K), 16, .inr (.inr (.inr (.inr (scont ad))))))] 48 [(0, .ref adh), (1, .int se), (2, .ref (ad k_1)), (3, .int i3_4), (4, .int i4_6)] [.int r_9]
        refine vx_iconst (v := 1) hk dX7_sumGraphsOf_48 (by decide) ?_
        refine vx_iand hk dX7_sumGraphsOf_49 ?_
        refine vx_iload_n hk dX7_sumGraphsOf_50 rfl ?_
        refine vx_icmp_eq (tgt := 57) hk dX7_sumGraphsOf_51 (by decide) (fun hc => ?_) (fun hc => ?_)
        · replace h := it_t (g := (lpk (lp (b_X7_sumGraphsOf_28 sf st nm rw sg ms se k_1 i3_4) nn))) h hc
          refine vx_aload_n hk dX7_sumGraphsOf_57 rfl ?_
          refine vx_iload_n hk dX7_sumGraphsOf_58 rfl ?_
          refine vx_iload hk dX7_sumGraphsOf_59 rfl ?_
          refine vx_iconst (v := (-1)) hk dX7_sumGraphsOf_61 (by decide) ?_
          refine vx_ixor hk dX7_sumGraphsOf_62 ?_
          refine vx_iand hk dX7_sumGraphsOf_63 ?_
          refine vx_iload hk dX7_sumGraphsOf_64 rfl ?_
          obtain ⟨r_10, er_10, h⟩ := bd_e (g := (lpk (lp (b_X7_sumGraphsOf_28 sf st nm rw sg ms se k_1 i3_4) nn))) rfl h
          refine vy_callF (n := 2) (st := []) (b := adh) (T := TX7) (N := 12) (ci := 6) hk dX7_sumGraphsOf_66 (c_X7_multiplyOut (kl K) (kG K) ad aw adh ads adwa adsa adp adlp adshr adsv adsc sf st nm rw sg ms ffam_7 (se &&& (i4_6 ^^^ (-1))) i4_6 r_10 er_10) rfl gd_X7_sumGraphsOf_X7_multiplyOut rfl (by decide +kernel) (frok hR9 (Nat.le_of_ble_eq_true rfl) (Nat.le_of_ble_eq_true rfl)) ⟨rfl, rfl⟩ SB.z rfl rfl (Nat.le_of_ble_eq_true rfl) (fun _ _ _ => ⟨_, List.mem_append_left _ (List.mem_of_getElem? (i := 2) rfl)⟩) rfl (wr := []) [] [2, 0, 1, 3] 4 rfl (by decide) rfl rfl ?_
          intro v9 w9 hp9
          obtain ⟨rfl, rfl⟩ := hp9
          show VB K (SB (kG K) ad aw r_10) 0 5 [(adh, .inr (6, [.ref ads, .ref adp, .ref adlp, .ref adwa, .ref adsa, .ref (ad 64), .ref (ad 81), .ref (ad 82), .ref (ad 83), .ref adshr, .int sf, .int st])), (ads, .inr (7, [.int nm, .int rw, .int sg, .int ms, .ref adsv, .ref adsc])), (adwa, .inl (gB (kG K), 64, .inr (.inr (.inr (.inr (wcont ad)))))), (adsa, .inl (gB (kG K), 16, .inr (.inr (.inr (.inr (scont ad))))))] 69 [(0, .ref adh), (1, .int se), (2, .ref (ad k_1)), (3, .int i3_4), (4, .int i4_6)] []
          refine vx_iload_n hk dX7_sumGraphsOf_69 rfl ?_
          refine vx_iconst (v := 1) hk dX7_sumGraphsOf_70 (by decide) ?_
          refine vx_icmp_ne (tgt := 85) hk dX7_sumGraphsOf_71 (by decide) (fun hc => ?_) (fun hc => ?_)
          · replace h := it_f (g := (lpk (lp (b_X7_sumGraphsOf_28 sf st nm rw sg ms se k_1 i3_4) nn))) h hc
            refine vx_aload_n hk dX7_sumGraphsOf_85 rfl ?_
            refine vx_aload_n hk dX7_sumGraphsOf_86 rfl ?_
            refine vx_get (C := RX7) (T := TX7) (N := 12) (ci := 6) (v := .ref (ad 81)) hk dX7_sumGraphsOf_87 w2i_X7_sumGraphsOf_X70 0 rfl rfl 6 (by decide) (by decide +kernel) rfl rfl ?_
            obtain ⟨fv_11, efv_11, h⟩ := bd_e (g := (lpk (lp (b_X7_sumGraphsOf_28 sf st nm rw sg ms se k_1 i3_4) nn))) rfl h
            obtain ⟨hj9, hcf9⟩ := c_fSub (kl K) (kG K) ad aw efv_11
            refine vy_callF (n := 1) (st := []) (b := (ad k_1)) (T := TX1) (N := 2) (ci := 0) hk dX7_sumGraphsOf_90 hcf9 rfl gd_X7_sumGraphsOf_X1_minus rfl (by decide +kernel) (frok hR9 (Nat.le_of_ble_eq_true rfl) (Nat.le_of_ble_eq_true rfl)) ⟨rfl, rfl⟩ SB.z rfl rfl (Nat.le_of_ble_eq_true rfl) (SB.recv hj9) rfl (wr := [(adh, .inr (6, [.ref ads, .ref adp, .ref adlp, .ref adwa, .ref adsa, .ref (ad 64), .ref (ad 81), .ref (ad 82), .ref (ad 83), .ref adshr, .int sf, .int st])), (ads, .inr (7, [.int nm, .int rw, .int sg, .int ms, .ref adsv, .ref adsc])), (adwa, .inl (gB (kG K), 64, .inr (.inr (.inr (.inr (wcont ad)))))), (adsa, .inl (gB (kG K), 16, .inr (.inr (.inr (.inr (scont ad))))))]) [0, 1, 2, 3] [] 4 rfl (by decide) rfl rfl ?_
            intro v9 w9 hp9
            obtain ⟨rfl, rfl⟩ := hp9
            show VB K (SB (kG K) ad aw fv_11) 0 5 [(adh, .inr (6, [.ref ads, .ref adp, .ref adlp, .ref adwa, .ref adsa, .ref (ad 64), .ref (ad 81), .ref (ad 82), .ref (ad 83), .ref adshr, .int sf, .int st])), (ads, .inr (7, [.int nm, .int rw, .int sg, .int ms, .ref adsv, .ref adsc])), (adwa, .inl (gB (kG K), 64, .inr (.inr (.inr (.inr (wcont ad)))))), (adsa, .inl (gB (kG K), 16, .inr (.inr (.inr (.inr (scont ad))))))] 93 [(0, .ref adh), (1, .int se), (2, .ref (ad k_1)), (3, .int i3_4), (4, .int i4_6)] []
            obtain ⟨x4_12, ex4_12, h⟩ := lt_e (g := (lpk (lp (b_X7_sumGraphsOf_28 sf st nm rw sg ms se k_1 i3_4) nn))) h
            refine vx_iinc (v := x4_12) hk dX7_sumGraphsOf_93 rfl (by rw [ex4_12]; rfl) (by decide) [1, 2, 3, 4, 0] (lv' := [(0, .ref adh), (1, .int se), (2, .ref (ad k_1)), (3, .int i3_4), (4, .int x4_12)]) rfl ?_
            refine vx_goto (tgt := 28) hk dX7_sumGraphsOf_96 (by decide) ?_
            refine vx_perm [1, 2, 0, 3] 4 rfl (by decide) (ws' := [(ads, .inr (7, [.int nm, .int rw, .int sg, .int ms, .ref adsv, .ref adsc])), (adwa, .inl (gB (kG K), 64, .inr (.inr (.inr (.inr (wcont ad)))))), (adh, .inr (6, [.ref ads, .ref adp, .ref adlp, .ref adwa, .ref adsa, .ref (ad 64), .ref (ad 81), .ref (ad 82), .ref (ad 83), .ref adshr, .int sf, .int st])), (adsa, .inl (gB (kG K), 16, .inr (.inr (.inr (.inr (scont ad))))))]) rfl ?_
            exact ih x4_12 fv_11 h
          · replace h := it_t (g := (lpk (lp (b_X7_sumGraphsOf_28 sf st nm rw sg ms se k_1 i3_4) nn))) h hc
            refine vx_aload_n hk dX7_sumGraphsOf_74 rfl ?_
            refine vx_aload_n hk dX7_sumGraphsOf_75 rfl ?_
            refine vx_get (C := RX7) (T := TX7) (N := 12) (ci := 6) (v := .ref (ad 81)) hk dX7_sumGraphsOf_76 w2i_X7_sumGraphsOf_X70 0 rfl rfl 6 (by decide) (by decide +kernel) rfl rfl ?_
            obtain ⟨fv_13, efv_13, h⟩ := bd_e (g := (lpk (lp (b_X7_sumGraphsOf_28 sf st nm rw sg ms se k_1 i3_4) nn))) rfl h
            obtain ⟨hj9, hcf9⟩ := c_fAdd (kl K) (kG K) ad aw efv_13
            refine vy_callF (n := 1) (st := []) (b := (ad k_1)) (T := TX1) (N := 2) (ci := 0) hk dX7_sumGraphsOf_79 hcf9 rfl gd_X7_sumGraphsOf_X1_plus rfl (by decide +kernel) (frok hR9 (Nat.le_of_ble_eq_true rfl) (Nat.le_of_ble_eq_true rfl)) ⟨rfl, rfl⟩ SB.z rfl rfl (Nat.le_of_ble_eq_true rfl) (SB.recv hj9) rfl (wr := [(adh, .inr (6, [.ref ads, .ref adp, .ref adlp, .ref adwa, .ref adsa, .ref (ad 64), .ref (ad 81), .ref (ad 82), .ref (ad 83), .ref adshr, .int sf, .int st])), (ads, .inr (7, [.int nm, .int rw, .int sg, .int ms, .ref adsv, .ref adsc])), (adwa, .inl (gB (kG K), 64, .inr (.inr (.inr (.inr (wcont ad)))))), (adsa, .inl (gB (kG K), 16, .inr (.inr (.inr (.inr (scont ad))))))]) [0, 1, 2, 3] [] 4 rfl (by decide) rfl rfl ?_
            intro v9 w9 hp9
            obtain ⟨rfl, rfl⟩ := hp9
            show VB K (SB (kG K) ad aw fv_13) 0 5 [(adh, .inr (6, [.ref ads, .ref adp, .ref adlp, .ref adwa, .ref adsa, .ref (ad 64), .ref (ad 81), .ref (ad 82), .ref (ad 83), .ref adshr, .int sf, .int st])), (ads, .inr (7, [.int nm, .int rw, .int sg, .int ms, .ref adsv, .ref adsc])), (adwa, .inl (gB (kG K), 64, .inr (.inr (.inr (.inr (wcont ad)))))), (adsa, .inl (gB (kG K), 16, .inr (.inr (.inr (.inr (scont ad))))))] 82 [(0, .ref adh), (1, .int se), (2, .ref (ad k_1)), (3, .int i3_4), (4, .int i4_6)] []
            refine vx_goto (tgt := 93) hk dX7_sumGraphsOf_82 (by decide) ?_
            obtain ⟨x4_14, ex4_14, h⟩ := lt_e (g := (lpk (lp (b_X7_sumGraphsOf_28 sf st nm rw sg ms se k_1 i3_4) nn))) h
            refine vx_iinc (v := x4_14) hk dX7_sumGraphsOf_93 rfl (by rw [ex4_14]; rfl) (by decide) [1, 2, 3, 4, 0] (lv' := [(0, .ref adh), (1, .int se), (2, .ref (ad k_1)), (3, .int i3_4), (4, .int x4_14)]) rfl ?_
            refine vx_goto (tgt := 28) hk dX7_sumGraphsOf_96 (by decide) ?_
            refine vx_perm [1, 2, 0, 3] 4 rfl (by decide) (ws' := [(ads, .inr (7, [.int nm, .int rw, .int sg, .int ms, .ref adsv, .ref adsc])), (adwa, .inl (gB (kG K), 64, .inr (.inr (.inr (.inr (wcont ad)))))), (adh, .inr (6, [.ref ads, .ref adp, .ref adlp, .ref adwa, .ref adsa, .ref (ad 64), .ref (ad 81), .ref (ad 82), .ref (ad 83), .ref adshr, .int sf, .int st])), (adsa, .inl (gB (kG K), 16, .inr (.inr (.inr (.inr (scont ad))))))]) rfl ?_
            exact ih x4_14 fv_13 h
        · replace h := it_f (g := (lpk (lp (b_X7_sumGraphsOf_28 sf st nm rw sg ms se k_1 i3_4) nn))) h hc
          refine vx_goto (tgt := 93) hk dX7_sumGraphsOf_54 (by decide) ?_
          obtain ⟨x4_15, ex4_15, h⟩ := lt_e (g := (lpk (lp (b_X7_sumGraphsOf_28 sf st nm rw sg ms se k_1 i3_4) nn))) h
          refine vx_iinc (v := x4_15) hk dX7_sumGraphsOf_93 rfl (by rw [ex4_15]; rfl) (by decide) [1, 2, 3, 4, 0] (lv' := [(0, .ref adh), (1, .int se), (2, .ref (ad k_1)), (3, .int i3_4), (4, .int x4_15)]) rfl ?_
          refine vx_goto (tgt := 28) hk dX7_sumGraphsOf_96 (by decide) ?_
          exact ih x4_15 ffam_7 h
set_option maxHeartbeats 4000000 in
set_option maxRecDepth 100000 in
theorem L_X7_sumGraphsOf_21 {K : Cx} {R9 : Room} {ad : Nat → Nat} {aw : Nat → Nat} (hk : Ok K cX7_sumGraphsOf 5 RX7 w2_X7_sumGraphsOf R9) (hR9 : RoomGe R9 rm_X7_sumGraphsOf) (adh : Nat) (ads : Nat) (adwa : Nat) (adsa : Nat) (adp : Nat) (adlp : Nat) (adshr : Nat) (adsv : Nat) (adsc : Nat) (sf : Int32) (st : Int32) (nm : Int32) (rw : Int32) (sg : Int32) (ms : Int32) (se : Int32) (k_1 : Nat) (b9 : (Int32 × (Nat → Nat))) (kk0 : ∀ q9 : (Int32 × (Nat → Nat)), b9 = q9 → VB K (SB (kG K) ad aw q9.2) 0 5 [(ads, .inr (7, [.int nm, .int rw, .int sg, .int ms, .ref adsv, .ref adsc])), (adwa, .inl (gB (kG K), 64, .inr (.inr (.inr (.inr (wcont ad)))))), (adh, .inr (6, [.ref ads, .ref adp, .ref adlp, .ref adwa, .ref adsa, .ref (ad 64), .ref (ad 81), .ref (ad 82), .ref (ad 83), .ref adshr, .int sf, .int st])), (adsa, .inl (gB (kG K), 16, .inr (.inr (.inr (.inr (scont ad))))))] 105 [(0, .ref adh), (1, .int se), (2, .ref (ad k_1)), (3, .int q9.1)] []) : ∀ (nn : Nat) (i3_4 : Int32) (ffam_5 : Nat → Nat), lp (b_X7_sumGraphsOf_21 sf st nm rw sg ms se k_1) nn (i3_4, ffam_5) = some b9 → VB K (SB (kG K) ad aw ffam_5) 0 5 [(ads, .inr (7, [.int nm, .int rw, .int sg, .int ms, .ref adsv, .ref adsc])), (adwa, .inl (gB (kG K), 64, .inr (.inr (.inr (.inr (wcont ad)))))), (adh, .inr (6, [.ref ads, .ref adp, .ref adlp, .ref adwa, .ref adsa, .ref (ad 64), .ref (ad 81), .ref (ad 82), .ref (ad 83), .ref adshr, .int sf, .int st])), (adsa, .inl (gB (kG K), 16, .inr (.inr (.inr (.inr (scont ad))))))] 21 [(0, .ref adh), (1, .int se), (2, .ref (ad k_1)), (3, .int i3_4)] [] := by
  intro nn
  induction nn with
  | zero => intro i3_4 ffam_5 h; exact absurd h (by simp [lp])
  | succ nn ih =>
    intro i3_4 ffam_5 h
    replace h := lp_s h
    rw [eb_X7_sumGraphsOf_21] at h
    refine vx_iload_n hk dX7_sumGraphsOf_21 rfl ?_
    refine vx_if_lt (tgt := 105) hk dX7_sumGraphsOf_22 (by decide) (fun hc => ?_) (fun hc => ?_)
    · replace h := it_t (g := (lpk (lp (b_X7_sumGraphsOf_21 sf st nm rw sg ms se k_1) nn))) h hc
      replace h : some (i3_4, ffam_5) = some b9 := h
      replace h := Option.some.inj h
      subst h
      exact kk0 _ rfl
    · replace h := it_f (g := (lpk (lp (b_X7_sumGraphsOf_21 sf st nm rw sg ms se k_1) nn))) h hc
      refine vx_iconst (v := 1) hk dX7_sumGraphsOf_25 (by decide) ?_
      refine vx_istore hk dX7_sumGraphsOf_26 (by decide) [1, 2, 3, 4, 0] (lv' := [(0, .ref adh), (1, .int se), (2, .ref (ad k_1)), (3, .int i3_4), (4, .int 1)]) rfl ?_
      obtain ⟨b_18, eb_18, h⟩ := bd_e (g := (lpk (lp (b_X7_sumGraphsOf_21 sf st nm rw sg ms se k_1) nn))) rfl h
      refine L_X7_sumGraphsOf_28 hk hR9 adh ads adwa adsa adp adlp adshr adsv adsc sf st nm rw sg ms se k_1 i3_4 b_18 (fun q_16 eq_16 => ?_) FU 1 ffam_5 eb_18
      · replace eq_16 := eq_16.symm
        subst eq_16
        obtain ⟨x3_17, ex3_17, h⟩ := lt_e (g := (lpk (lp (b_X7_sumGraphsOf_21 sf st nm rw sg ms se k_1) nn))) h
        refine vx_iinc (v := x3_17) hk dX7_sumGraphsOf_99 rfl (by rw [ex3_17]; rfl) (by decide) [1, 2, 3, 0, 4] (lv' := [(0, .ref adh), (1, .int se), (2, .ref (ad k_1)), (3, .int x3_17), (4, .int q_16.1)]) rfl ?_
        refine vx_goto (tgt := 21) hk dX7_sumGraphsOf_102 (by decide) ?_
        refine vx_loc [0, 1, 2, 3] (lv' := [(0, .ref adh), (1, .int se), (2, .ref (ad k_1)), (3, .int x3_17)]) rfl ?_
        exact ih x3_17 q_16.2 h
set_option maxHeartbeats 4000000 in
set_option maxRecDepth 100000 in
theorem c_X7_sumGraphsOf (l : Launch) (G : GG) (ad aw : Nat → Nat) (adh : Nat) (ads : Nat) (adwa : Nat) (adsa : Nat) (adp : Nat) (adlp : Nat) (adshr : Nat) (adsv : Nat) (adsc : Nat) (sf : Int32) (st : Int32) (nm : Int32) (rw : Int32) (sg : Int32) (ms : Int32) (v : Nat → Nat) (se : Int32) (r : (Nat → Nat)) (h : m_X7_sumGraphsOf sf st nm rw sg ms v se = some r) : CtrF l G (SB G ad aw v) (SB G ad aw r) yX7_sumGraphsOf w2_X7_sumGraphsOf rm_X7_sumGraphsOf [.ref adh, .int se] [(adh, .inr (6, [.ref ads, .ref adp, .ref adlp, .ref adwa, .ref adsa, .ref (ad 64), .ref (ad 81), .ref (ad 82), .ref (ad 83), .ref adshr, .int sf, .int st])), (ads, .inr (7, [.int nm, .int rw, .int sg, .int ms, .ref adsv, .ref adsc])), (adwa, .inl (gB G, 64, .inr (.inr (.inr (.inr (wcont ad)))))), (adsa, .inl (gB G, 16, .inr (.inr (.inr (.inr (scont ad))))))] (fun v w9 => v = none ∧ w9 = [(adh, .inr (6, [.ref ads, .ref adp, .ref adlp, .ref adwa, .ref adsa, .ref (ad 64), .ref (ad 81), .ref (ad 82), .ref (ad 83), .ref adshr, .int sf, .int st])), (ads, .inr (7, [.int nm, .int rw, .int sg, .int ms, .ref adsv, .ref adsc])), (adwa, .inl (gB G, 64, .inr (.inr (.inr (.inr (wcont ad)))))), (adsa, .inl (gB G, 16, .inr (.inr (.inr (.inr (scont ad))))))]) := by
  refine ctrF_entry SB.z SB.z (cc := cX7_sumGraphsOf) (maxL := 5) (ret := none) (lv0 := [(0, .ref adh), (1, .int se)]) (by decide) rfl (Nat.le_of_ble_eq_true rfl) rfl ?_
  intro K hl9 hG9 hk hn9 hrt
  subst hl9
  subst hG9
  have hR9 : RoomGe rm_X7_sumGraphsOf rm_X7_sumGraphsOf := RoomGe.rf
  replace h := id_e h
  rw [em_X7_sumGraphsOf] at h
  refine vx_aload_n hk dX7_sumGraphsOf_0 rfl ?_
  refine vx_iload_n hk dX7_sumGraphsOf_1 rfl ?_
  obtain ⟨k_1, ek_1, h⟩ := bd_e (g := id) rfl h
  refine vy_callV (n := 1) (st := []) (b := adh) (T := TX7) (N := 12) hk dX7_sumGraphsOf_2 (c_X7_sum (kl K) (kG K) ad adh ads adp adlp adwa adsa adshr sf st ek_1) rfl gd_X7_sumGraphsOf_X7_sum rfl (by decide +kernel) (frok hR9 (Nat.le_of_ble_eq_true rfl) (Nat.le_of_ble_eq_true rfl)) ⟨rfl, rfl⟩ SB.z rfl rfl (Nat.le_of_ble_eq_true rfl) 0 rfl rfl (wr := [(ads, .inr (7, [.int nm, .int rw, .int sg, .int ms, .ref adsv, .ref adsc])), (adwa, .inl (gB (kG K), 64, .inr (.inr (.inr (.inr (wcont ad))))))]) [1, 2] [0, 3] 4 rfl (by decide) rfl rfl ?_
  intro v9 w9 hp9
  obtain ⟨rfl, rfl⟩ := hp9
  show VB K (SB (kG K) ad aw v) 0 5 [(ads, .inr (7, [.int nm, .int rw, .int sg, .int ms, .ref adsv, .ref adsc])), (adwa, .inl (gB (kG K), 64, .inr (.inr (.inr (.inr (wcont ad)))))), (adh, .inr (6, [.ref ads, .ref adp, .ref adlp, .ref adwa, .ref adsa, .ref (ad 64), .ref (ad 81), .ref (ad 82), .ref (ad 83), .ref adshr, .int sf, .int st])), (adsa, .inl (gB (kG K), 16, .inr (.inr (.inr (.inr (scont ad))))))] 5 [(0, .ref adh), (1, .int se)] [.ref (ad k_1)]
  refine vx_astore_n hk dX7_sumGraphsOf_5 rfl (by decide) [1, 2, 0] (lv' := [(0, .ref adh), (1, .int se), (2, .ref (ad k_1))]) rfl ?_
  refine vx_aload_n hk dX7_sumGraphsOf_6 rfl ?_
  refine vx_iload_n hk dX7_sumGraphsOf_7 rfl ?_
  obtain ⟨z_2, ez_2, h⟩ := lt_e (g := id) h
  have Jz_2 : VB K (SB (kG K) ad aw v) 0 5 [(ads, .inr (7, [.int nm, .int rw, .int sg, .int ms, .ref adsv, .ref adsc])), (adwa, .inl (gB (kG K), 64, .inr (.inr (.inr (.inr (wcont ad)))))), (adh, .inr (6, [.ref ads, .ref adp, .ref adlp, .ref adwa, .ref adsa, .ref (ad 64), .ref (ad 81), .ref (ad 82), .ref (ad 83), .ref adshr, .int sf, .int st])), (adsa, .inl (gB (kG K), 16, .inr (.inr (.inr (.inr (scont ad))))))] 16 [(0, .ref adh), (1, .int se), (2, .ref (ad k_1))] (.int z_2 :: [.ref (ad k_1)]) := by
    obtain ⟨fv_3, efv_3, h⟩ := bd_e (g := id) rfl h
    obtain ⟨hj9, hcf9⟩ := c_fBec (kl K) (kG K) ad aw efv_3
    refine vy_callF (n := 1) (st := []) (b := (ad k_1)) (T := TX1) (N := 2) (ci := 0) hk dX7_sumGraphsOf_16 hcf9 rfl gd_X7_sumGraphsOf_X1_become rfl (by decide +kernel) (frok hR9 (Nat.le_of_ble_eq_true rfl) (Nat.le_of_ble_eq_true rfl)) ⟨rfl, rfl⟩ SB.z rfl rfl (Nat.le_of_ble_eq_true rfl) (SB.recv hj9) rfl (wr := [(ads, .inr (7, [.int nm, .int rw, .int sg, .int ms, .ref adsv, .ref adsc])), (adwa, .inl (gB (kG K), 64, .inr (.inr (.inr (.inr (wcont ad)))))), (adh, .inr (6, [.ref ads, .ref adp, .ref adlp, .ref adwa, .ref adsa, .ref (ad 64), .ref (ad 81), .ref (ad 82), .ref (ad 83), .ref adshr, .int sf, .int st])), (adsa, .inl (gB (kG K), 16, .inr (.inr (.inr (.inr (scont ad))))))]) [0, 1, 2, 3] [] 4 rfl (by decide) rfl rfl ?_
    intro v9 w9 hp9
    obtain ⟨rfl, rfl⟩ := hp9
    show VB K (SB (kG K) ad aw fv_3) 0 5 [(ads, .inr (7, [.int nm, .int rw, .int sg, .int ms, .ref adsv, .ref adsc])), (adwa, .inl (gB (kG K), 64, .inr (.inr (.inr (.inr (wcont ad)))))), (adh, .inr (6, [.ref ads, .ref adp, .ref adlp, .ref adwa, .ref adsa, .ref (ad 64), .ref (ad 81), .ref (ad 82), .ref (ad 83), .ref adshr, .int sf, .int st])), (adsa, .inl (gB (kG K), 16, .inr (.inr (.inr (.inr (scont ad))))))] 19 [(0, .ref adh), (1, .int se), (2, .ref (ad k_1))] []
    refine vx_iconst (v := 1) hk dX7_sumGraphsOf_19 (by decide) ?_
    refine vx_istore_n hk dX7_sumGraphsOf_20 rfl (by decide) [1, 2, 3, 0] (lv' := [(0, .ref adh), (1, .int se), (2, .ref (ad k_1)), (3, .int 1)]) rfl ?_
    obtain ⟨b_20, eb_20, h⟩ := bd_e (g := id) rfl h
    refine L_X7_sumGraphsOf_21 hk hR9 adh ads adwa adsa adp adlp adshr adsv adsc sf st nm rw sg ms se k_1 b_20 (fun q_19 eq_19 => ?_) FU 1 fv_3 eb_20
    · replace eq_19 := eq_19.symm
      subst eq_19
      replace h : some q_19.2 = some r := h
      replace h := Option.some.inj h
      subst h
      refine vx_perm [2, 0, 1, 3] 4 rfl (by decide) (ws' := [(adh, .inr (6, [.ref ads, .ref adp, .ref adlp, .ref adwa, .ref adsa, .ref (ad 64), .ref (ad 81), .ref (ad 82), .ref (ad 83), .ref adshr, .int sf, .int st])), (ads, .inr (7, [.int nm, .int rw, .int sg, .int ms, .ref adsv, .ref adsc])), (adwa, .inl (gB (kG K), 64, .inr (.inr (.inr (.inr (wcont ad)))))), (adsa, .inl (gB (kG K), 16, .inr (.inr (.inr (.inr (scont ad))))))]) rfl ?_
      refine hrt (none) _ _ _ (⟨rfl, rfl⟩) (dX7_sumGraphsOf_105)
  refine vx_if_ne (tgt := 15) hk dX7_sumGraphsOf_8 (by decide) (fun hc => ?_) (fun hc => ?_)
  · rw [if_neg hc] at ez_2
    subst ez_2
    refine vx_iconst (v := 0) hk dX7_sumGraphsOf_15 (by decide) ?_
    exact Jz_2
  · rw [if_pos hc] at ez_2
    subst ez_2
    refine vx_iconst (v := 1) hk dX7_sumGraphsOf_11 (by decide) ?_
    refine vx_goto (tgt := 16) hk dX7_sumGraphsOf_12 (by decide) ?_
    exact Jz_2
abbrev rm_X7_sumGraphs : Room := { frames := 5, cells := 0, slots := 0, locals := 124 }
set_option maxHeartbeats 4000000 in
set_option maxRecDepth 100000 in
theorem L_X7_sumGraphs_2 {K : Cx} {R9 : Room} {ad : Nat → Nat} {aw : Nat → Nat} (hk : Ok K cX7_sumGraphs 3 RX7 w2_X7_sumGraphs R9) (hR9 : RoomGe R9 rm_X7_sumGraphs) (adh : Nat) (ads : Nat) (adwa : Nat) (adsa : Nat) (adp : Nat) (adlp : Nat) (adshr : Nat) (adsv : Nat) (adsc : Nat) (sf : Int32) (st : Int32) (nm : Int32) (rw : Int32) (sg : Int32) (ms : Int32) (with0 : Int32) (b9 : (Int32 × (Nat → Nat))) (kk0 : ∀ q9 : (Int32 × (Nat → Nat)), b9 = q9 → VB K (SB (kG K) ad aw q9.2) 0 3 [(adh, .inr (6, [.ref ads, .ref adp, .ref adlp, .ref adwa, .ref adsa, .ref (ad 64), .ref (ad 81), .ref (ad 82), .ref (ad 83), .ref adshr, .int sf, .int st])), (ads, .inr (7, [.int nm, .int rw, .int sg, .int ms, .ref adsv, .ref adsc])), (adwa, .inl (gB (kG K), 64, .inr (.inr (.inr (.inr (wcont ad)))))), (adsa, .inl (gB (kG K), 16, .inr (.inr (.inr (.inr (scont ad))))))] 33 [(0, .ref adh), (1, .int with0), (2, .int q9.1)] []) : ∀ (nn : Nat) (i2_1 : Int32) (ffam_2 : Nat → Nat), lp (b_X7_sumGraphs_2 sf st nm rw sg ms with0) nn (i2_1, ffam_2) = some b9 → VB K (SB (kG K) ad aw ffam_2) 0 3 [(adh, .inr (6, [.ref ads, .ref adp, .ref adlp, .ref adwa, .ref adsa, .ref (ad 64), .ref (ad 81), .ref (ad 82), .ref (ad 83), .ref adshr, .int sf, .int st])), (ads, .inr (7, [.int nm, .int rw, .int sg, .int ms, .ref adsv, .ref adsc])), (adwa, .inl (gB (kG K), 64, .inr (.inr (.inr (.inr (wcont ad)))))), (adsa, .inl (gB (kG K), 16, .inr (.inr (.inr (.inr (scont ad))))))] 2 [(0, .ref adh), (1, .int with0), (2, .int i2_1)] [] := by
  intro nn
  induction nn with
  | zero => intro i2_1 ffam_2 h; exact absurd h (by simp [lp])
  | succ nn ih =>
    intro i2_1 ffam_2 h
    replace h := lp_s h
    rw [eb_X7_sumGraphs_2] at h
    refine vx_iload_n hk dX7_sumGraphs_2 rfl ?_
    refine vx_iconst (v := 1) hk dX7_sumGraphs_3 (by decide) ?_
    refine vx_aload_n hk dX7_sumGraphs_4 rfl ?_
    refine vx_get (C := RX7) (T := TX7) (N := 12) (ci := 6) (v := .ref ads) hk dX7_sumGraphs_5 w2i_X7_sumGraphs_X70 0 rfl rfl 0 (by decide) (by decide +kernel) rfl rfl ?_
    refine vx_get (C := RX8) (T := TX8) (N := 6) (ci := 7) (v := .int nm) hk dX7_sumGraphs_8 w2i_X7_sumGraphs_X80 1 rfl rfl 0 (by decide) (by decide +kernel) rfl rfl ?_
    refine vx_ishl hk dX7_sumGraphs_11 ?_
    refine vx_icmp_ge (tgt := 33) hk dX7_sumGraphs_12 (by decide) (fun hc => ?_) (fun hc => ?_)
    · replace h := it_t (g := (lpk (lp (b_X7_sumGraphs_2 sf st nm rw sg ms with0) nn))) h hc
      replace h : some (i2_1, ffam_2) = some b9 := h
      replace h := Option.some.inj h
      subst h
      exact kk0 _ rfl
    · replace h := it_f (g := (lpk (lp (b_X7_sumGraphs_2 sf st nm rw sg ms with0) nn))) h hc
      refine vx_iload_n hk dX7_sumGraphs_15 rfl ?_
      refine vx_iload_n hk dX7_sumGraphs_16 rfl ?_
      refine vx_iand hk dX7_sumGraphs_17 ?_
      refine vx_iload_n hk dX7_sumGraphs_18 rfl ?_
      refine vx_icmp_ne (tgt := 27) hk dX7_sumGraphs_19 (by decide) (fun hc => ?_) (fun hc => ?_)
      · replace h := it_f (g := (lpk (lp (b_X7_sumGraphs_2 sf st nm rw sg ms with0) nn))) h hc
        obtain ⟨x2_3, ex2_3, h⟩ := lt_e (g := (lpk (lp (b_X7_sumGraphs_2 sf st nm rw sg ms with0) nn))) h
        refine vx_iinc (v := x2_3) hk dX7_sumGraphs_27 rfl (by rw [ex2_3]; rfl) (by decide) [1, 2, 0] (lv' := [(0, .ref adh), (1, .int with0), (2, .int x2_3)]) rfl ?_
        refine vx_goto (tgt := 2) hk dX7_sumGraphs_30 (by decide) ?_
        exact ih x2_3 ffam_2 h
      · replace h := it_t (g := (lpk (lp (b_X7_sumGraphs_2 sf st nm rw sg ms with0) nn))) h hc
        refine vx_aload_n hk dX7_sumGraphs_22 rfl ?_
        refine vx_iload_n hk dX7_sumGraphs_23 rfl ?_
        obtain ⟨r_4, er_4, h⟩ := bd_e (g := (lpk (lp (b_X7_sumGraphs_2 sf st nm rw sg ms with0) nn))) rfl h
        refine vy_callF (n := 1) (st := []) (b := adh) (T := TX7) (N := 12) (ci := 6) hk dX7_sumGraphs_24 (c_X7_sumGraphsOf (kl K) (kG K) ad aw adh ads adwa adsa adp adlp adshr adsv adsc sf st nm rw sg ms ffam_2 i2_1 r_4 er_4) rfl gd_X7_sumGraphs_X7_sumGraphsOf rfl (by decide +kernel) (frok hR9 (Nat.le_of_ble_eq_true rfl) (Nat.le_of_ble_eq_true rfl)) ⟨rfl, rfl⟩ SB.z rfl rfl (Nat.le_of_ble_eq_true rfl) (fun _ _ _ => ⟨_, List.mem_append_left _ (List.mem_of_getElem? (i := 0) rfl)⟩) rfl (wr := []) [] [0, 1, 2, 3] 4 rfl (by decide) rfl rfl ?_
        intro v9 w9 hp9
        obtain ⟨rfl, rfl⟩ := hp9
        show VB K (SB (kG K) ad aw r_4) 0 3 [(adh, .inr (6, [.ref ads, .ref adp, .ref adlp, .ref adwa, .ref adsa, .ref (ad 64), .ref (ad 81), .ref (ad 82), .ref (ad 83), .ref adshr, .int sf, .int st])), (ads, .inr (7, [.int nm, .int rw, .int sg, .int ms, .ref adsv, .ref adsc])), (adwa, .inl (gB (kG K), 64, .inr (.inr (.inr (.inr (wcont ad)))))), (adsa, .inl (gB (kG K), 16, .inr (.inr (.inr (.inr (scont ad))))))] 27 [(0, .ref adh), (1, .int with0), (2, .int i2_1)] []
        obtain ⟨x2_5, ex2_5, h⟩ := lt_e (g := (lpk (lp (b_X7_sumGraphs_2 sf st nm rw sg ms with0) nn))) h
        refine vx_iinc (v := x2_5) hk dX7_sumGraphs_27 rfl (by rw [ex2_5]; rfl) (by decide) [1, 2, 0] (lv' := [(0, .ref adh), (1, .int with0), (2, .int x2_5)]) rfl ?_
        refine vx_goto (tgt := 2) hk dX7_sumGraphs_30 (by decide) ?_
        exact ih x2_5 r_4 h
set_option maxHeartbeats 4000000 in
set_option maxRecDepth 100000 in
theorem c_X7_sumGraphs (l : Launch) (G : GG) (ad aw : Nat → Nat) (adh : Nat) (ads : Nat) (adwa : Nat) (adsa : Nat) (adp : Nat) (adlp : Nat) (adshr : Nat) (adsv : Nat) (adsc : Nat) (sf : Int32) (st : Int32) (nm : Int32) (rw : Int32) (sg : Int32) (ms : Int32) (v : Nat → Nat) (with0 : Int32) (r : (Nat → Nat)) (h : m_X7_sumGraphs sf st nm rw sg ms v with0 = some r) : CtrF l G (SB G ad aw v) (SB G ad aw r) yX7_sumGraphs w2_X7_sumGraphs rm_X7_sumGraphs [.ref adh, .int with0] [(adh, .inr (6, [.ref ads, .ref adp, .ref adlp, .ref adwa, .ref adsa, .ref (ad 64), .ref (ad 81), .ref (ad 82), .ref (ad 83), .ref adshr, .int sf, .int st])), (ads, .inr (7, [.int nm, .int rw, .int sg, .int ms, .ref adsv, .ref adsc])), (adwa, .inl (gB G, 64, .inr (.inr (.inr (.inr (wcont ad)))))), (adsa, .inl (gB G, 16, .inr (.inr (.inr (.inr (scont ad))))))] (fun v w9 => v = none ∧ w9 = [(adh, .inr (6, [.ref ads, .ref adp, .ref adlp, .ref adwa, .ref adsa, .ref (ad 64), .ref (ad 81), .ref (ad 82), .ref (ad 83), .ref adshr, .int sf, .int st])), (ads, .inr (7, [.int nm, .int rw, .int sg, .int ms, .ref adsv, .ref adsc])), (adwa, .inl (gB G, 64, .inr (.inr (.inr (.inr (wcont ad)))))), (adsa, .inl (gB G, 16, .inr (.inr (.inr (.inr (scont ad))))))]) := by
  refine ctrF_entry SB.z SB.z (cc := cX7_sumGraphs) (maxL := 3) (ret := none) (lv0 := [(0, .ref adh), (1, .int with0)]) (by decide) rfl (Nat.le_of_ble_eq_true rfl) rfl ?_
  intro K hl9 hG9 hk hn9 hrt
  subst hl9
  subst hG9
  have hR9 : RoomGe rm_X7_sumGraphs rm_X7_sumGraphs := RoomGe.rf
  replace h := id_e h
  rw [em_X7_sumGraphs] at h
  refine vx_iconst (v := 0) hk dX7_sumGraphs_0 (by decide) ?_
  refine vx_istore_n hk dX7_sumGraphs_1 rfl (by decide) [1, 2, 0] (lv' := [(0, .ref adh), (1, .int with0), (2, .int 0)]) rfl ?_
  obtain ⟨b_7, eb_7, h⟩ := bd_e (g := id) rfl h
  refine L_X7_sumGraphs_2 hk hR9 adh ads adwa adsa adp adlp adshr adsv adsc sf st nm rw sg ms with0 b_7 (fun q_6 eq_6 => ?_) FU 0 v eb_7
  · replace eq_6 := eq_6.symm
    subst eq_6
    replace h : some q_6.2 = some r := h
    replace h := Option.some.inj h
    subst h
    refine hrt (none) _ _ _ (⟨rfl, rfl⟩) (dX7_sumGraphs_33)
abbrev rm_X7_keepArc : Room := { frames := 4, cells := 0, slots := 0, locals := 96 }
set_option maxHeartbeats 4000000 in
set_option maxRecDepth 100000 in
theorem L_X7_keepArc_2 {K : Cx} {R9 : Room} {ad : Nat → Nat} {aw : Nat → Nat} (hk : Ok K cX7_keepArc 5 RX7 w2_X7_keepArc R9) (hR9 : RoomGe R9 rm_X7_keepArc) (adh : Nat) (ads : Nat) (adwa : Nat) (adp : Nat) (adlp : Nat) (adsa : Nat) (adshr : Nat) (adsv : Nat) (adsc : Nat) (sf : Int32) (st : Int32) (nm : Int32) (rw : Int32) (sg : Int32) (ms : Int32) (fr : Int32) (to0 : Int32) (b9 : (Int32 × (Nat → Nat))) (kk0 : ∀ q9 : (Int32 × (Nat → Nat)), b9 = q9 → VB K (SB (kG K) ad aw q9.2) 0 5 [(adh, .inr (6, [.ref ads, .ref adp, .ref adlp, .ref adwa, .ref adsa, .ref (ad 64), .ref (ad 81), .ref (ad 82), .ref (ad 83), .ref adshr, .int sf, .int st])), (ads, .inr (7, [.int nm, .int rw, .int sg, .int ms, .ref adsv, .ref adsc])), (adwa, .inl (gB (kG K), 64, .inr (.inr (.inr (.inr (wcont ad))))))] 71 [(0, .ref adh), (1, .int fr), (2, .int to0), (3, .int q9.1)] []) : ∀ (nn : Nat) (i3_1 : Int32) (ffam_2 : Nat → Nat), lp (b_X7_keepArc_2 nm fr to0) nn (i3_1, ffam_2) = some b9 → VB K (SB (kG K) ad aw ffam_2) 0 5 [(adh, .inr (6, [.ref ads, .ref adp, .ref adlp, .ref adwa, .ref adsa, .ref (ad 64), .ref (ad 81), .ref (ad 82), .ref (ad 83), .ref adshr, .int sf, .int st])), (ads, .inr (7, [.int nm, .int rw, .int sg, .int ms, .ref adsv, .ref adsc])), (adwa, .inl (gB (kG K), 64, .inr (.inr (.inr (.inr (wcont ad))))))] 2 [(0, .ref adh), (1, .int fr), (2, .int to0), (3, .int i3_1)] [] := by
  intro nn
  induction nn with
  | zero => intro i3_1 ffam_2 h; exact absurd h (by simp [lp])
  | succ nn ih =>
    intro i3_1 ffam_2 h
    replace h := lp_s h
    rw [eb_X7_keepArc_2] at h
    refine vx_iload_n hk dX7_keepArc_2 rfl ?_
    refine vx_iconst (v := 1) hk dX7_keepArc_3 (by decide) ?_
    refine vx_aload_n hk dX7_keepArc_4 rfl ?_
    refine vx_get (C := RX7) (T := TX7) (N := 12) (ci := 6) (v := .ref ads) hk dX7_keepArc_5 w2i_X7_keepArc_X70 0 rfl rfl 0 (by decide) (by decide +kernel) rfl rfl ?_
    refine vx_get (C := RX8) (T := TX8) (N := 6) (ci := 7) (v := .int nm) hk dX7_keepArc_8 w2i_X7_keepArc_X80 1 rfl rfl 0 (by decide) (by decide +kernel) rfl rfl ?_
    refine vx_ishl hk dX7_keepArc_11 ?_
    refine vx_icmp_ge (tgt := 71) hk dX7_keepArc_12 (by decide) (fun hc => ?_) (fun hc => ?_)
    · replace h := it_t (g := (lpk (lp (b_X7_keepArc_2 nm fr to0) nn))) h hc
      replace h : some (i3_1, ffam_2) = some b9 := h
      replace h := Option.some.inj h
      subst h
      exact kk0 _ rfl
    · replace h := it_f (g := (lpk (lp (b_X7_keepArc_2 nm fr to0) nn))) h hc
      refine vx_iload_n hk dX7_keepArc_15 rfl ?_
      refine vx_iload_n hk dX7_keepArc_16 rfl ?_
      obtain ⟨r_3, er_3, h⟩ := bd_e (g := (lpk (lp (b_X7_keepArc_2 nm fr to0) nn))) rfl h
      refine vy_callS (n := 2) (st := []) hk dX7_keepArc_17 (c_X0_isIn (kl K) (kG K) i3_1 fr r_3 er_3) gd_X7_keepArc_X0_isIn rfl (by decide +kernel) (frok hR9 (Nat.le_of_ble_eq_true rfl) (Nat.le_of_ble_eq_true rfl)) ⟨rfl, rfl⟩ SB.z rfl rfl (Nat.le_of_ble_eq_true rfl) (wr := [(adh, .inr (6, [.ref ads, .ref adp, .ref adlp, .ref adwa, .ref adsa, .ref (ad 64), .ref (ad 81), .ref (ad 82), .ref (ad 83), .ref adshr, .int sf, .int st])), (ads, .inr (7, [.int nm, .int rw, .int sg, .int ms, .ref adsv, .ref adsc])), (adwa, .inl (gB (kG K), 64, .inr (.inr (.inr (.inr (wcont ad))))))]) [0, 1, 2] [] 3 rfl (by decide) rfl rfl ?_
      intro v9 w9 hp9
      obtain ⟨rfl, rfl⟩ := hp9
      show VB K (SB (kG K) ad aw ffam_2) 0 5 [(adh, .inr (6, [.ref ads, .ref adp, .ref adlp, .ref adwa, .ref adsa, .ref (ad 64), .ref (ad 81), .ref (ad 82), .ref (ad 83), .ref adshr, .int sf, .int st])), (ads, .inr (7, [.int nm, .int rw, .int sg, .int ms, .ref adsv, .ref adsc])), (adwa, .inl (gB (kG K), 64, .inr (.inr (.inr (.inr (wcont ad))))))] 20 [(0, .ref adh), (1, .int fr), (2, .int to0), (3, .int i3_1)] [.int r_3]
      refine vx_if_eq (tgt := 65) hk dX7_keepArc_20 (by decide) (fun hc => ?_) (fun hc => ?_)
      · replace h := it_t (g := (lpk (lp (b_X7_keepArc_2 nm fr to0) nn))) h hc
        obtain ⟨x3_4, ex3_4, h⟩ := lt_e (g := (lpk (lp (b_X7_keepArc_2 nm fr to0) nn))) h
        refine vx_iinc (v := x3_4) hk dX7_keepArc_65 rfl (by rw [ex3_4]; rfl) (by decide) [1, 2, 3, 0] (lv' := [(0, .ref adh), (1, .int fr), (2, .int to0), (3, .int x3_4)]) rfl ?_
        refine vx_goto (tgt := 2) hk dX7_keepArc_68 (by decide) ?_
        exact ih x3_4 ffam_2 h
      · replace h := it_f (g := (lpk (lp (b_X7_keepArc_2 nm fr to0) nn))) h hc
        refine vx_iload_n hk dX7_keepArc_23 rfl ?_
        refine vx_iload_n hk dX7_keepArc_24 rfl ?_
        obtain ⟨r_5, er_5, h⟩ := bd_e (g := (lpk (lp (b_X7_keepArc_2 nm fr to0) nn))) rfl h
        refine vy_callS (n := 2) (st := []) hk dX7_keepArc_25 (c_X0_isIn (kl K) (kG K) i3_1 to0 r_5 er_5) gd_X7_keepArc_X0_isIn rfl (by decide +kernel) (frok hR9 (Nat.le_of_ble_eq_true rfl) (Nat.le_of_ble_eq_true rfl)) ⟨rfl, rfl⟩ SB.z rfl rfl (Nat.le_of_ble_eq_true rfl) (wr := [(adh, .inr (6, [.ref ads, .ref adp, .ref adlp, .ref adwa, .ref adsa, .ref (ad 64), .ref (ad 81), .ref (ad 82), .ref (ad 83), .ref adshr, .int sf, .int st])), (ads, .inr (7, [.int nm, .int rw, .int sg, .int ms, .ref adsv, .ref adsc])), (adwa, .inl (gB (kG K), 64, .inr (.inr (.inr (.inr (wcont ad))))))]) [0, 1, 2] [] 3 rfl (by decide) rfl rfl ?_
        intro v9 w9 hp9
        obtain ⟨rfl, rfl⟩ := hp9
        show VB K (SB (kG K) ad aw ffam_2) 0 5 [(adh, .inr (6, [.ref ads, .ref adp, .ref adlp, .ref adwa, .ref adsa, .ref (ad 64), .ref (ad 81), .ref (ad 82), .ref (ad 83), .ref adshr, .int sf, .int st])), (ads, .inr (7, [.int nm, .int rw, .int sg, .int ms, .ref adsv, .ref adsc])), (adwa, .inl (gB (kG K), 64, .inr (.inr (.inr (.inr (wcont ad))))))] 28 [(0, .ref adh), (1, .int fr), (2, .int to0), (3, .int i3_1)] [.int r_5]
        refine vx_if_eq (tgt := 34) hk dX7_keepArc_28 (by decide) (fun hc => ?_) (fun hc => ?_)
        · replace h := it_t (g := (lpk (lp (b_X7_keepArc_2 nm fr to0) nn))) h hc
          refine vx_aload_n hk dX7_keepArc_34 rfl ?_
          refine vx_iload_n hk dX7_keepArc_35 rfl ?_
          refine vx_iload_n hk dX7_keepArc_36 rfl ?_
          refine vx_iconst (v := 1) hk dX7_keepArc_37 (by decide) ?_
          refine vx_iload_n hk dX7_keepArc_38 rfl ?_
          refine vx_ishl hk dX7_keepArc_39 ?_
          refine vx_iconst (v := (-1)) hk dX7_keepArc_40 (by decide) ?_
          refine vx_ixor hk dX7_keepArc_41 ?_
          refine vx_iand hk dX7_keepArc_42 ?_
          obtain ⟨k_6, ek_6, h⟩ := bd_e (g := (lpk (lp (b_X7_keepArc_2 nm fr to0) nn))) rfl h
          refine vy_callV (n := 2) (st := []) (b := adh) (T := TX7) (N := 12) hk dX7_keepArc_43 (c_X7_weight (kl K) (kG K) ad adh ads adp adlp adwa adsa adshr sf st ek_6) rfl gd_X7_keepArc_X7_weight rfl (by decide +kernel) (frok hR9 (Nat.le_of_ble_eq_true rfl) (Nat.le_of_ble_eq_true rfl)) ⟨rfl, rfl⟩ SB.z rfl rfl (Nat.le_of_ble_eq_true rfl) 0 rfl rfl (wr := [(ads, .inr (7, [.int nm, .int rw, .int sg, .int ms, .ref adsv, .ref adsc]))]) [1] [0, 2] 3 rfl (by decide) rfl rfl ?_
          intro v9 w9 hp9
          obtain ⟨rfl, rfl⟩ := hp9
          show VB K (SB (kG K) ad aw ffam_2) 0 5 [(ads, .inr (7, [.int nm, .int rw, .int sg, .int ms, .ref adsv, .ref adsc])), (adh, .inr (6, [.ref ads, .ref adp, .ref adlp, .ref adwa, .ref adsa, .ref (ad 64), .ref (ad 81), .ref (ad 82), .ref (ad 83), .ref adshr, .int sf, .int st])), (adwa, .inl (gB (kG K), 64, .inr (.inr (.inr (.inr (wcont ad))))))] 46 [(0, .ref adh), (1, .int fr), (2, .int to0), (3, .int i3_1)] [.ref (ad k_6)]
          refine vx_astore hk dX7_keepArc_46 (by decide) [1, 2, 3, 4, 0] (lv' := [(0, .ref adh), (1, .int fr), (2, .int to0), (3, .int i3_1), (4, .ref (ad k_6))]) rfl ?_
          refine vx_aload_n hk dX7_keepArc_48 rfl ?_
          refine vx_iload_n hk dX7_keepArc_49 rfl ?_
          refine vx_iload_n hk dX7_keepArc_50 rfl ?_
          obtain ⟨k_7, ek_7, h⟩ := bd_e (g := (lpk (lp (b_X7_keepArc_2 nm fr to0) nn))) rfl h
          refine vy_callV (n := 2) (st := []) (b := adh) (T := TX7) (N := 12) hk dX7_keepArc_51 (c_X7_weight (kl K) (kG K) ad adh ads adp adlp adwa adsa adshr sf st ek_7) rfl gd_X7_keepArc_X7_weight rfl (by decide +kernel) (frok hR9 (Nat.le_of_ble_eq_true rfl) (Nat.le_of_ble_eq_true rfl)) ⟨rfl, rfl⟩ SB.z rfl rfl (Nat.le_of_ble_eq_true rfl) 1 rfl rfl (wr := [(ads, .inr (7, [.int nm, .int rw, .int sg, .int ms, .ref adsv, .ref adsc]))]) [0] [1, 2] 3 rfl (by decide) rfl rfl ?_
          intro v9 w9 hp9
          obtain ⟨rfl, rfl⟩ := hp9
          show VB K (SB (kG K) ad aw ffam_2) 0 5 [(ads, .inr (7, [.int nm, .int rw, .int sg, .int ms, .ref adsv, .ref adsc])), (adh, .inr (6, [.ref ads, .ref adp, .ref adlp, .ref adwa, .ref adsa, .ref (ad 64), .ref (ad 81), .ref (ad 82), .ref (ad 83), .ref adshr, .int sf, .int st])), (adwa, .inl (gB (kG K), 64, .inr (.inr (.inr (.inr (wcont ad))))))] 54 [(0, .ref adh), (1, .int fr), (2, .int to0), (3, .int i3_1), (4, .ref (ad k_6))] [.ref (ad k_7)]
          refine vx_aload hk dX7_keepArc_54 rfl ?_
          obtain ⟨fv_8, efv_8, h⟩ := bd_e (g := (lpk (lp (b_X7_keepArc_2 nm fr to0) nn))) rfl h
          obtain ⟨hj9, hcf9⟩ := c_fSub (kl K) (kG K) ad aw efv_8
          refine vy_callF (n := 1) (st := []) (b := (ad k_7)) (T := TX1) (N := 2) (ci := 0) hk dX7_keepArc_56 hcf9 rfl gd_X7_keepArc_X1_minus rfl (by decide +kernel) (frok hR9 (Nat.le_of_ble_eq_true rfl) (Nat.le_of_ble_eq_true rfl)) ⟨rfl, rfl⟩ SB.z rfl rfl (Nat.le_of_ble_eq_true rfl) (SB.recv hj9) rfl (wr := [(ads, .inr (7, [.int nm, .int rw, .int sg, .int ms, .ref adsv, .ref adsc])), (adh, .inr (6, [.ref ads, .ref adp, .ref adlp, .ref adwa, .ref adsa, .ref (ad 64), .ref (ad 81), .ref (ad 82), .ref (ad 83), .ref adshr, .int sf, .int st])), (adwa, .inl (gB (kG K), 64, .inr (.inr (.inr (.inr (wcont ad))))))]) [0, 1, 2] [] 3 rfl (by decide) rfl rfl ?_
          intro v9 w9 hp9
          obtain ⟨rfl, rfl⟩ := hp9
          show VB K (SB (kG K) ad aw fv_8) 0 5 [(ads, .inr (7, [.int nm, .int rw, .int sg, .int ms, .ref adsv, .ref adsc])), (adh, .inr (6, [.ref ads, .ref adp, .ref adlp, .ref adwa, .ref adsa, .ref (ad 64), .ref (ad 81), .ref (ad 82), .ref (ad 83), .ref adshr, .int sf, .int st])), (adwa, .inl (gB (kG K), 64, .inr (.inr (.inr (.inr (wcont ad))))))] 59 [(0, .ref adh), (1, .int fr), (2, .int to0), (3, .int i3_1), (4, .ref (ad k_6))] []
          refine vx_aload hk dX7_keepArc_59 rfl ?_
          refine vx_iconst (v := 0) hk dX7_keepArc_61 (by decide) ?_
          obtain ⟨fv_9, efv_9, h⟩ := bd_e (g := (lpk (lp (b_X7_keepArc_2 nm fr to0) nn))) rfl h
          obtain ⟨hj9, hcf9⟩ := c_fBec (kl K) (kG K) ad aw efv_9
          refine vy_callF (n := 1) (st := []) (b := (ad k_6)) (T := TX1) (N := 2) (ci := 0) hk dX7_keepArc_62 hcf9 rfl gd_X7_keepArc_X1_become rfl (by decide +kernel) (frok hR9 (Nat.le_of_ble_eq_true rfl) (Nat.le_of_ble_eq_true rfl)) ⟨rfl, rfl⟩ SB.z rfl rfl (Nat.le_of_ble_eq_true rfl) (SB.recv hj9) rfl (wr := [(ads, .inr (7, [.int nm, .int rw, .int sg, .int ms, .ref adsv, .ref adsc])), (adh, .inr (6, [.ref ads, .ref adp, .ref adlp, .ref adwa, .ref adsa, .ref (ad 64), .ref (ad 81), .ref (ad 82), .ref (ad 83), .ref adshr, .int sf, .int st])), (adwa, .inl (gB (kG K), 64, .inr (.inr (.inr (.inr (wcont ad))))))]) [0, 1, 2] [] 3 rfl (by decide) rfl rfl ?_
          intro v9 w9 hp9
          obtain ⟨rfl, rfl⟩ := hp9
          show VB K (SB (kG K) ad aw fv_9) 0 5 [(ads, .inr (7, [.int nm, .int rw, .int sg, .int ms, .ref adsv, .ref adsc])), (adh, .inr (6, [.ref ads, .ref adp, .ref adlp, .ref adwa, .ref adsa, .ref (ad 64), .ref (ad 81), .ref (ad 82), .ref (ad 83), .ref adshr, .int sf, .int st])), (adwa, .inl (gB (kG K), 64, .inr (.inr (.inr (.inr (wcont ad))))))] 65 [(0, .ref adh), (1, .int fr), (2, .int to0), (3, .int i3_1), (4, .ref (ad k_6))] []
          obtain ⟨x3_10, ex3_10, h⟩ := lt_e (g := (lpk (lp (b_X7_keepArc_2 nm fr to0) nn))) h
          refine vx_iinc (v := x3_10) hk dX7_keepArc_65 rfl (by rw [ex3_10]; rfl) (by decide) [1, 2, 3, 0, 4] (lv' := [(0, .ref adh), (1, .int fr), (2, .int to0), (3, .int x3_10), (4, .ref (ad k_6))]) rfl ?_
          refine vx_goto (tgt := 2) hk dX7_keepArc_68 (by decide) ?_
          refine vx_loc [0, 1, 2, 3] (lv' := [(0, .ref adh), (1, .int fr), (2, .int to0), (3, .int x3_10)]) rfl ?_
          refine vx_perm [1, 0, 2] 3 rfl (by decide) (ws' := [(adh, .inr (6, [.ref ads, .ref adp, .ref adlp, .ref adwa, .ref adsa, .ref (ad 64), .ref (ad 81), .ref (ad 82), .ref (ad 83), .ref adshr, .int sf, .int st])), (ads, .inr (7, [.int nm, .int rw, .int sg, .int ms, .ref adsv, .ref adsc])), (adwa, .inl (gB (kG K), 64, .inr (.inr (.inr (.inr (wcont ad))))))]) rfl ?_
          exact ih x3_10 fv_9 h
        · replace h := it_f (g := (lpk (lp (b_X7_keepArc_2 nm fr to0) nn))) h hc
          refine vx_goto (tgt := 65) hk dX7_keepArc_31 (by decide) ?_
          obtain ⟨x3_11, ex3_11, h⟩ := lt_e (g := (lpk (lp (b_X7_keepArc_2 nm fr to0) nn))) h
          refine vx_iinc (v := x3_11) hk dX7_keepArc_65 rfl (by rw [ex3_11]; rfl) (by decide) [1, 2, 3, 0] (lv' := [(0, .ref adh), (1, .int fr), (2, .int to0), (3, .int x3_11)]) rfl ?_
          refine vx_goto (tgt := 2) hk dX7_keepArc_68 (by decide) ?_
          exact ih x3_11 ffam_2 h
set_option maxHeartbeats 4000000 in
set_option maxRecDepth 100000 in
theorem c_X7_keepArc (l : Launch) (G : GG) (ad aw : Nat → Nat) (adh : Nat) (ads : Nat) (adwa : Nat) (adp : Nat) (adlp : Nat) (adsa : Nat) (adshr : Nat) (adsv : Nat) (adsc : Nat) (sf : Int32) (st : Int32) (nm : Int32) (rw : Int32) (sg : Int32) (ms : Int32) (v : Nat → Nat) (fr : Int32) (to0 : Int32) (r : (Nat → Nat)) (h : m_X7_keepArc sf st nm rw sg ms v fr to0 = some r) : CtrF l G (SB G ad aw v) (SB G ad aw r) yX7_keepArc w2_X7_keepArc rm_X7_keepArc [.ref adh, .int fr, .int to0] [(adh, .inr (6, [.ref ads, .ref adp, .ref adlp, .ref adwa, .ref adsa, .ref (ad 64), .ref (ad 81), .ref (ad 82), .ref (ad 83), .ref adshr, .int sf, .int st])), (ads, .inr (7, [.int nm, .int rw, .int sg, .int ms, .ref adsv, .ref adsc])), (adwa, .inl (gB G, 64, .inr (.inr (.inr (.inr (wcont ad))))))] (fun v w9 => v = none ∧ w9 = [(adh, .inr (6, [.ref ads, .ref adp, .ref adlp, .ref adwa, .ref adsa, .ref (ad 64), .ref (ad 81), .ref (ad 82), .ref (ad 83), .ref adshr, .int sf, .int st])), (ads, .inr (7, [.int nm, .int rw, .int sg, .int ms, .ref adsv, .ref adsc])), (adwa, .inl (gB G, 64, .inr (.inr (.inr (.inr (wcont ad))))))]) := by
  refine ctrF_entry SB.z SB.z (cc := cX7_keepArc) (maxL := 5) (ret := none) (lv0 := [(0, .ref adh), (1, .int fr), (2, .int to0)]) (by decide) rfl (Nat.le_of_ble_eq_true rfl) rfl ?_
  intro K hl9 hG9 hk hn9 hrt
  subst hl9
  subst hG9
  have hR9 : RoomGe rm_X7_keepArc rm_X7_keepArc := RoomGe.rf
  replace h := id_e h
  rw [em_X7_keepArc] at h
  refine vx_iconst (v := 0) hk dX7_keepArc_0 (by decide) ?_
  refine vx_istore_n hk dX7_keepArc_1 rfl (by decide) [1, 2, 3, 0] (lv' := [(0, .ref adh), (1, .int fr), (2, .int to0), (3, .int 0)]) rfl ?_
  obtain ⟨b_13, eb_13, h⟩ := bd_e (g := id) rfl h
  refine L_X7_keepArc_2 hk hR9 adh ads adwa adp adlp adsa adshr adsv adsc sf st nm rw sg ms fr to0 b_13 (fun q_12 eq_12 => ?_) FU 0 v eb_13
  · replace eq_12 := eq_12.symm
    subst eq_12
    replace h : some q_12.2 = some r := h
    replace h := Option.some.inj h
    subst h
    refine hrt (none) _ _ _ (⟨rfl, rfl⟩) (dX7_keepArc_71)
abbrev rm_X7_addSmaller : Room := { frames := 3, cells := 0, slots := 0, locals := 73 }
set_option maxHeartbeats 4000000 in
set_option maxRecDepth 100000 in
theorem L_X7_addSmaller_2 {K : Cx} {R9 : Room} {ad : Nat → Nat} {aw : Nat → Nat} (hk : Ok K cX7_addSmaller 5 RX7 w2_X7_addSmaller R9) (hR9 : RoomGe R9 rm_X7_addSmaller) (adh : Nat) (ads : Nat) (adwa : Nat) (adp : Nat) (adlp : Nat) (adsa : Nat) (adshr : Nat) (adsv : Nat) (adsc : Nat) (sf : Int32) (st : Int32) (nm : Int32) (rw : Int32) (sg : Int32) (ms : Int32) (nam : Int32) (pp : Int32) (b9 : (Int32 × (Nat → Nat))) (kk0 : ∀ q9 : (Int32 × (Nat → Nat)), b9 = q9 → VB K (SB (kG K) ad aw q9.2) 0 5 [(adh, .inr (6, [.ref ads, .ref adp, .ref adlp, .ref adwa, .ref adsa, .ref (ad 64), .ref (ad 81), .ref (ad 82), .ref (ad 83), .ref adshr, .int sf, .int st])), (ads, .inr (7, [.int nm, .int rw, .int sg, .int ms, .ref adsv, .ref adsc])), (adwa, .inl (gB (kG K), 64, .inr (.inr (.inr (.inr (wcont ad))))))] 70 [(0, .ref adh), (1, .int nam), (2, .int pp), (3, .int q9.1)] []) : ∀ (nn : Nat) (i3_1 : Int32) (ffam_2 : Nat → Nat), lp (b_X7_addSmaller_2 nm nam pp) nn (i3_1, ffam_2) = some b9 → VB K (SB (kG K) ad aw ffam_2) 0 5 [(adh, .inr (6, [.ref ads, .ref adp, .ref adlp, .ref adwa, .ref adsa, .ref (ad 64), .ref (ad 81), .ref (ad 82), .ref (ad 83), .ref adshr, .int sf, .int st])), (ads, .inr (7, [.int nm, .int rw, .int sg, .int ms, .ref adsv, .ref adsc])), (adwa, .inl (gB (kG K), 64, .inr (.inr (.inr (.inr (wcont ad))))))] 2 [(0, .ref adh), (1, .int nam), (2, .int pp), (3, .int i3_1)] [] := by
  intro nn
  induction nn with
  | zero => intro i3_1 ffam_2 h; exact absurd h (by simp [lp])
  | succ nn ih =>
    intro i3_1 ffam_2 h
    replace h := lp_s h
    rw [eb_X7_addSmaller_2] at h
    refine vx_iload_n hk dX7_addSmaller_2 rfl ?_
    refine vx_iconst (v := 1) hk dX7_addSmaller_3 (by decide) ?_
    refine vx_aload_n hk dX7_addSmaller_4 rfl ?_
    refine vx_get (C := RX7) (T := TX7) (N := 12) (ci := 6) (v := .ref ads) hk dX7_addSmaller_5 w2i_X7_addSmaller_X70 0 rfl rfl 0 (by decide) (by decide +kernel) rfl rfl ?_
    refine vx_get (C := RX8) (T := TX8) (N := 6) (ci := 7) (v := .int nm) hk dX7_addSmaller_8 w2i_X7_addSmaller_X80 1 rfl rfl 0 (by decide) (by decide +kernel) rfl rfl ?_
    refine vx_ishl hk dX7_addSmaller_11 ?_
    refine vx_icmp_ge (tgt := 70) hk dX7_addSmaller_12 (by decide) (fun hc => ?_) (fun hc => ?_)
    · replace h := it_t (g := (lpk (lp (b_X7_addSmaller_2 nm nam pp) nn))) h hc
      replace h : some (i3_1, ffam_2) = some b9 := h
      replace h := Option.some.inj h
      subst h
      exact kk0 _ rfl
    · replace h := it_f (g := (lpk (lp (b_X7_addSmaller_2 nm nam pp) nn))) h hc
      refine vx_iload_n hk dX7_addSmaller_15 rfl ?_
      refine vx_iload_n hk dX7_addSmaller_16 rfl ?_
      obtain ⟨r_3, er_3, h⟩ := bd_e (g := (lpk (lp (b_X7_addSmaller_2 nm nam pp) nn))) rfl h
      refine vy_callS (n := 2) (st := []) hk dX7_addSmaller_17 (c_X0_isIn (kl K) (kG K) i3_1 pp r_3 er_3) gd_X7_addSmaller_X0_isIn rfl (by decide +kernel) (frok hR9 (Nat.le_of_ble_eq_true rfl) (Nat.le_of_ble_eq_true rfl)) ⟨rfl, rfl⟩ SB.z rfl rfl (Nat.le_of_ble_eq_true rfl) (wr := [(adh, .inr (6, [.ref ads, .ref adp, .ref adlp, .ref adwa, .ref adsa, .ref (ad 64), .ref (ad 81), .ref (ad 82), .ref (ad 83), .ref adshr, .int sf, .int st])), (ads, .inr (7, [.int nm, .int rw, .int sg, .int ms, .ref adsv, .ref adsc])), (adwa, .inl (gB (kG K), 64, .inr (.inr (.inr (.inr (wcont ad))))))]) [0, 1, 2] [] 3 rfl (by decide) rfl rfl ?_
      intro v9 w9 hp9
      obtain ⟨rfl, rfl⟩ := hp9
      show VB K (SB (kG K) ad aw ffam_2) 0 5 [(adh, .inr (6, [.ref ads, .ref adp, .ref adlp, .ref adwa, .ref adsa, .ref (ad 64), .ref (ad 81), .ref (ad 82), .ref (ad 83), .ref adshr, .int sf, .int st])), (ads, .inr (7, [.int nm, .int rw, .int sg, .int ms, .ref adsv, .ref adsc])), (adwa, .inl (gB (kG K), 64, .inr (.inr (.inr (.inr (wcont ad))))))] 20 [(0, .ref adh), (1, .int nam), (2, .int pp), (3, .int i3_1)] [.int r_3]
      refine vx_if_eq (tgt := 35) hk dX7_addSmaller_20 (by decide) (fun hc => ?_) (fun hc => ?_)
      · replace h := it_t (g := (lpk (lp (b_X7_addSmaller_2 nm nam pp) nn))) h hc
        refine vx_iconst (v := 0) hk dX7_addSmaller_35 (by decide) ?_
        refine vx_istore hk dX7_addSmaller_36 (by decide) [1, 2, 3, 4, 0] (lv' := [(0, .ref adh), (1, .int nam), (2, .int pp), (3, .int i3_1), (4, .int 0)]) rfl ?_
        refine vx_iload hk dX7_addSmaller_38 rfl ?_
        refine vx_if_eq (tgt := 64) hk dX7_addSmaller_40 (by decide) (fun _ => ?_) (fun hc => absurd hc (by decide))
        obtain ⟨x3_4, ex3_4, h⟩ := lt_e (g := (lpk (lp (b_X7_addSmaller_2 nm nam pp) nn))) h
        refine vx_iinc (v := x3_4) hk dX7_addSmaller_64 rfl (by rw [ex3_4]; rfl) (by decide) [1, 2, 3, 0, 4] (lv' := [(0, .ref adh), (1, .int nam), (2, .int pp), (3, .int x3_4), (4, .int 0)]) rfl ?_
        refine vx_goto (tgt := 2) hk dX7_addSmaller_67 (by decide) ?_
        refine vx_loc [0, 1, 2, 3] (lv' := [(0, .ref adh), (1, .int nam), (2, .int pp), (3, .int x3_4)]) rfl ?_
        exact ih x3_4 ffam_2 h
      · replace h := it_f (g := (lpk (lp (b_X7_addSmaller_2 nm nam pp) nn))) h hc
        refine vx_iload_n hk dX7_addSmaller_23 rfl ?_
        refine vx_iload_n hk dX7_addSmaller_24 rfl ?_
        obtain ⟨r_5, er_5, h⟩ := bd_e (g := (lpk (lp (b_X7_addSmaller_2 nm nam pp) nn))) rfl h
        refine vy_callS (n := 2) (st := []) hk dX7_addSmaller_25 (c_X0_isIn (kl K) (kG K) i3_1 nam r_5 er_5) gd_X7_addSmaller_X0_isIn rfl (by decide +kernel) (frok hR9 (Nat.le_of_ble_eq_true rfl) (Nat.le_of_ble_eq_true rfl)) ⟨rfl, rfl⟩ SB.z rfl rfl (Nat.le_of_ble_eq_true rfl) (wr := [(adh, .inr (6, [.ref ads, .ref adp, .ref adlp, .ref adwa, .ref adsa, .ref (ad 64), .ref (ad 81), .ref (ad 82), .ref (ad 83), .ref adshr, .int sf, .int st])), (ads, .inr (7, [.int nm, .int rw, .int sg, .int ms, .ref adsv, .ref adsc])), (adwa, .inl (gB (kG K), 64, .inr (.inr (.inr (.inr (wcont ad))))))]) [0, 1, 2] [] 3 rfl (by decide) rfl rfl ?_
        intro v9 w9 hp9
        obtain ⟨rfl, rfl⟩ := hp9
        show VB K (SB (kG K) ad aw ffam_2) 0 5 [(adh, .inr (6, [.ref ads, .ref adp, .ref adlp, .ref adwa, .ref adsa, .ref (ad 64), .ref (ad 81), .ref (ad 82), .ref (ad 83), .ref adshr, .int sf, .int st])), (ads, .inr (7, [.int nm, .int rw, .int sg, .int ms, .ref adsv, .ref adsc])), (adwa, .inl (gB (kG K), 64, .inr (.inr (.inr (.inr (wcont ad))))))] 28 [(0, .ref adh), (1, .int nam), (2, .int pp), (3, .int i3_1)] [.int r_5]
        obtain ⟨z_6, ez_6, h⟩ := lt_e (g := (lpk (lp (b_X7_addSmaller_2 nm nam pp) nn))) h
        have Jz_6 : VB K (SB (kG K) ad aw ffam_2) 0 5 [(adh, .inr (6, [.ref ads, .ref adp, .ref adlp, .ref adwa, .ref adsa, .ref (ad 64), .ref (ad 81), .ref (ad 82), .ref (ad 83), .ref adshr, .int sf, .int st])), (ads, .inr (7, [.int nm, .int rw, .int sg, .int ms, .ref adsv, .ref adsc])), (adwa, .inl (gB (kG K), 64, .inr (.inr (.inr (.inr (wcont ad))))))] 36 [(0, .ref adh), (1, .int nam), (2, .int pp), (3, .int i3_1)] (.int z_6 :: []) := by
          refine vx_istore hk dX7_addSmaller_36 (by decide) [1, 2, 3, 4, 0] (lv' := [(0, .ref adh), (1, .int nam), (2, .int pp), (3, .int i3_1), (4, .int z_6)]) rfl ?_
          refine vx_iload hk dX7_addSmaller_38 rfl ?_
          refine vx_if_eq (tgt := 64) hk dX7_addSmaller_40 (by decide) (fun hc => ?_) (fun hc => ?_)
          · replace h := it_t (g := (lpk (lp (b_X7_addSmaller_2 nm nam pp) nn))) h hc
            obtain ⟨x3_7, ex3_7, h⟩ := lt_e (g := (lpk (lp (b_X7_addSmaller_2 nm nam pp) nn))) h
            refine vx_iinc (v := x3_7) hk dX7_addSmaller_64 rfl (by rw [ex3_7]; rfl) (by decide) [1, 2, 3, 0, 4] (lv' := [(0, .ref adh), (1, .int nam), (2, .int pp), (3, .int x3_7), (4, .int z_6)]) rfl ?_
            refine vx_goto (tgt := 2) hk dX7_addSmaller_67 (by decide) ?_
            refine vx_loc [0, 1, 2, 3] (lv' := [(0, .ref adh), (1, .int nam), (2, .int pp), (3, .int x3_7)]) rfl ?_
            exact ih x3_7 ffam_2 h
          · replace h := it_f (g := (lpk (lp (b_X7_addSmaller_2 nm nam pp) nn))) h hc
            refine vx_aload_n hk dX7_addSmaller_43 rfl ?_
            refine vx_iload_n hk dX7_addSmaller_44 rfl ?_
            refine vx_iload_n hk dX7_addSmaller_45 rfl ?_
            obtain ⟨k_8, ek_8, h⟩ := bd_e (g := (lpk (lp (b_X7_addSmaller_2 nm nam pp) nn))) rfl h
            refine vy_callV (n := 2) (st := []) (b := adh) (T := TX7) (N := 12) hk dX7_addSmaller_46 (c_X7_weight (kl K) (kG K) ad adh ads adp adlp adwa adsa adshr sf st ek_8) rfl gd_X7_addSmaller_X7_weight rfl (by decide +kernel) (frok hR9 (Nat.le_of_ble_eq_true rfl) (Nat.le_of_ble_eq_true rfl)) ⟨rfl, rfl⟩ SB.z rfl rfl (Nat.le_of_ble_eq_true rfl) 0 rfl rfl (wr := [(ads, .inr (7, [.int nm, .int rw, .int sg, .int ms, .ref adsv, .ref adsc]))]) [1] [0, 2] 3 rfl (by decide) rfl rfl ?_
            intro v9 w9 hp9
            obtain ⟨rfl, rfl⟩ := hp9
            show VB K (SB (kG K) ad aw ffam_2) 0 5 [(ads, .inr (7, [.int nm, .int rw, .int sg, .int ms, .ref adsv, .ref adsc])), (adh, .inr (6, [.ref ads, .ref adp, .ref adlp, .ref adwa, .ref adsa, .ref (ad 64), .ref (ad 81), .ref (ad 82), .ref (ad 83), .ref adshr, .int sf, .int st])), (adwa, .inl (gB (kG K), 64, .inr (.inr (.inr (.inr (wcont ad))))))] 49 [(0, .ref adh), (1, .int nam), (2, .int pp), (3, .int i3_1), (4, .int z_6)] [.ref (ad k_8)]
            refine vx_aload_n hk dX7_addSmaller_49 rfl ?_
            refine vx_iload_n hk dX7_addSmaller_50 rfl ?_
            refine vx_iload_n hk dX7_addSmaller_51 rfl ?_
            refine vx_iconst (v := 1) hk dX7_addSmaller_52 (by decide) ?_
            refine vx_iload_n hk dX7_addSmaller_53 rfl ?_
            refine vx_ishl hk dX7_addSmaller_54 ?_
            refine vx_iconst (v := (-1)) hk dX7_addSmaller_55 (by decide) ?_
            refine vx_ixor hk dX7_addSmaller_56 ?_
            refine vx_iand hk dX7_addSmaller_57 ?_
            obtain ⟨k_9, ek_9, h⟩ := bd_e (g := (lpk (lp (b_X7_addSmaller_2 nm nam pp) nn))) rfl h
            refine vy_callV (n := 2) (st := [.ref (ad k_8)]) (b := adh) (T := TX7) (N := 12) hk dX7_addSmaller_58 (c_X7_weight (kl K) (kG K) ad adh ads adp adlp adwa adsa adshr sf st ek_9) rfl gd_X7_addSmaller_X7_weight rfl (by decide +kernel) (frok hR9 (Nat.le_of_ble_eq_true rfl) (Nat.le_of_ble_eq_true rfl)) ⟨rfl, rfl⟩ SB.z rfl rfl (Nat.le_of_ble_eq_true rfl) 1 rfl rfl (wr := [(ads, .inr (7, [.int nm, .int rw, .int sg, .int ms, .ref adsv, .ref adsc]))]) [0] [1, 2] 3 rfl (by decide) rfl rfl ?_
            intro v9 w9 hp9
            obtain ⟨rfl, rfl⟩ := hp9
            show VB K (SB (kG K) ad aw ffam_2) 0 5 [(ads, .inr (7, [.int nm, .int rw, .int sg, .int ms, .ref adsv, .ref adsc])), (adh, .inr (6, [.ref ads, .ref adp, .ref adlp, .ref adwa, .ref adsa, .ref (ad 64), .ref (ad 81), .ref (ad 82), .ref (ad 83), .ref adshr, .int sf, .int st])), (adwa, .inl (gB (kG K), 64, .inr (.inr (.inr (.inr (wcont ad))))))] 61 [(0, .ref adh), (1, .int nam), (2, .int pp), (3, .int i3_1), (4, .int z_6)] [.ref (ad k_9), .ref (ad k_8)]
            obtain ⟨fv_10, efv_10, h⟩ := bd_e (g := (lpk (lp (b_X7_addSmaller_2 nm nam pp) nn))) rfl h
            obtain ⟨hj9, hcf9⟩ := c_fAdd (kl K) (kG K) ad aw efv_10
            refine vy_callF (n := 1) (st := []) (b := (ad k_8)) (T := TX1) (N := 2) (ci := 0) hk dX7_addSmaller_61 hcf9 rfl gd_X7_addSmaller_X1_plus rfl (by decide +kernel) (frok hR9 (Nat.le_of_ble_eq_true rfl) (Nat.le_of_ble_eq_true rfl)) ⟨rfl, rfl⟩ SB.z rfl rfl (Nat.le_of_ble_eq_true rfl) (SB.recv hj9) rfl (wr := [(ads, .inr (7, [.int nm, .int rw, .int sg, .int ms, .ref adsv, .ref adsc])), (adh, .inr (6, [.ref ads, .ref adp, .ref adlp, .ref adwa, .ref adsa, .ref (ad 64), .ref (ad 81), .ref (ad 82), .ref (ad 83), .ref adshr, .int sf, .int st])), (adwa, .inl (gB (kG K), 64, .inr (.inr (.inr (.inr (wcont ad))))))]) [0, 1, 2] [] 3 rfl (by decide) rfl rfl ?_
            intro v9 w9 hp9
            obtain ⟨rfl, rfl⟩ := hp9
            show VB K (SB (kG K) ad aw fv_10) 0 5 [(ads, .inr (7, [.int nm, .int rw, .int sg, .int ms, .ref adsv, .ref adsc])), (adh, .inr (6, [.ref ads, .ref adp, .ref adlp, .ref adwa, .ref adsa, .ref (ad 64), .ref (ad 81), .ref (ad 82), .ref (ad 83), .ref adshr, .int sf, .int st])), (adwa, .inl (gB (kG K), 64, .inr (.inr (.inr (.inr (wcont ad))))))] 64 [(0, .ref adh), (1, .int nam), (2, .int pp), (3, .int i3_1), (4, .int z_6)] []
            obtain ⟨x3_11, ex3_11, h⟩ := lt_e (g := (lpk (lp (b_X7_addSmaller_2 nm nam pp) nn))) h
            refine vx_iinc (v := x3_11) hk dX7_addSmaller_64 rfl (by rw [ex3_11]; rfl) (by decide) [1, 2, 3, 0, 4] (lv' := [(0, .ref adh), (1, .int nam), (2, .int pp), (3, .int x3_11), (4, .int z_6)]) rfl ?_
            refine vx_goto (tgt := 2) hk dX7_addSmaller_67 (by decide) ?_
            refine vx_loc [0, 1, 2, 3] (lv' := [(0, .ref adh), (1, .int nam), (2, .int pp), (3, .int x3_11)]) rfl ?_
            refine vx_perm [1, 0, 2] 3 rfl (by decide) (ws' := [(adh, .inr (6, [.ref ads, .ref adp, .ref adlp, .ref adwa, .ref adsa, .ref (ad 64), .ref (ad 81), .ref (ad 82), .ref (ad 83), .ref adshr, .int sf, .int st])), (ads, .inr (7, [.int nm, .int rw, .int sg, .int ms, .ref adsv, .ref adsc])), (adwa, .inl (gB (kG K), 64, .inr (.inr (.inr (.inr (wcont ad))))))]) rfl ?_
            exact ih x3_11 fv_10 h
        refine vx_if_ne (tgt := 35) hk dX7_addSmaller_28 (by decide) (fun hc => ?_) (fun hc => ?_)
        · rw [if_neg hc] at ez_6
          subst ez_6
          refine vx_iconst (v := 0) hk dX7_addSmaller_35 (by decide) ?_
          exact Jz_6
        · rw [if_pos hc] at ez_6
          subst ez_6
          refine vx_iconst (v := 1) hk dX7_addSmaller_31 (by decide) ?_
          refine vx_goto (tgt := 36) hk dX7_addSmaller_32 (by decide) ?_
          exact Jz_6
set_option maxHeartbeats 4000000 in
set_option maxRecDepth 100000 in
theorem c_X7_addSmaller (l : Launch) (G : GG) (ad aw : Nat → Nat) (adh : Nat) (ads : Nat) (adwa : Nat) (adp : Nat) (adlp : Nat) (adsa : Nat) (adshr : Nat) (adsv : Nat) (adsc : Nat) (sf : Int32) (st : Int32) (nm : Int32) (rw : Int32) (sg : Int32) (ms : Int32) (v : Nat → Nat) (nam : Int32) (pp : Int32) (r : (Nat → Nat)) (h : m_X7_addSmaller sf st nm rw sg ms v nam pp = some r) : CtrF l G (SB G ad aw v) (SB G ad aw r) yX7_addSmaller w2_X7_addSmaller rm_X7_addSmaller [.ref adh, .int nam, .int pp] [(adh, .inr (6, [.ref ads, .ref adp, .ref adlp, .ref adwa, .ref adsa, .ref (ad 64), .ref (ad 81), .ref (ad 82), .ref (ad 83), .ref adshr, .int sf, .int st])), (ads, .inr (7, [.int nm, .int rw, .int sg, .int ms, .ref adsv, .ref adsc])), (adwa, .inl (gB G, 64, .inr (.inr (.inr (.inr (wcont ad))))))] (fun v w9 => v = none ∧ w9 = [(adh, .inr (6, [.ref ads, .ref adp, .ref adlp, .ref adwa, .ref adsa, .ref (ad 64), .ref (ad 81), .ref (ad 82), .ref (ad 83), .ref adshr, .int sf, .int st])), (ads, .inr (7, [.int nm, .int rw, .int sg, .int ms, .ref adsv, .ref adsc])), (adwa, .inl (gB G, 64, .inr (.inr (.inr (.inr (wcont ad))))))]) := by
  refine ctrF_entry SB.z SB.z (cc := cX7_addSmaller) (maxL := 5) (ret := none) (lv0 := [(0, .ref adh), (1, .int nam), (2, .int pp)]) (by decide) rfl (Nat.le_of_ble_eq_true rfl) rfl ?_
  intro K hl9 hG9 hk hn9 hrt
  subst hl9
  subst hG9
  have hR9 : RoomGe rm_X7_addSmaller rm_X7_addSmaller := RoomGe.rf
  replace h := id_e h
  rw [em_X7_addSmaller] at h
  refine vx_iconst (v := 0) hk dX7_addSmaller_0 (by decide) ?_
  refine vx_istore_n hk dX7_addSmaller_1 rfl (by decide) [1, 2, 3, 0] (lv' := [(0, .ref adh), (1, .int nam), (2, .int pp), (3, .int 0)]) rfl ?_
  obtain ⟨b_13, eb_13, h⟩ := bd_e (g := id) rfl h
  refine L_X7_addSmaller_2 hk hR9 adh ads adwa adp adlp adsa adshr adsv adsc sf st nm rw sg ms nam pp b_13 (fun q_12 eq_12 => ?_) FU 0 v eb_13
  · replace eq_12 := eq_12.symm
    subst eq_12
    replace h : some q_12.2 = some r := h
    replace h := Option.some.inj h
    subst h
    refine hrt (none) _ _ _ (⟨rfl, rfl⟩) (dX7_addSmaller_70)
abbrev rm_X7_weigh : Room := { frames := 4, cells := 0, slots := 0, locals := 97 }
set_option maxHeartbeats 4000000 in
set_option maxRecDepth 100000 in
theorem L_X7_weigh_2 {K : Cx} {R9 : Room} {ad : Nat → Nat} {aw : Nat → Nat} (hk : Ok K cX7_weigh 3 RX7 w2_X7_weigh R9) (hR9 : RoomGe R9 rm_X7_weigh) (adh : Nat) (ads : Nat) (adsv : Nat) (adsc : Nat) (adp : Nat) (adpw : Nat) (adlp : Nat) (adlpw : Nat) (adwa : Nat) (adsa : Nat) (adshr : Nat) (sf : Int32) (st : Int32) (nm : Int32) (rw : Int32) (sg : Int32) (ms : Int32) (nsv : Nat) (fsv : Nat → Int32) (nsc : Nat) (fsc : Nat → Int32) (v : Nat → Nat) (nam : Int32) (b9 : (Int32 × Int32 × (Nat → Int32) × Int32 × (Nat → Int32))) (kk0 : ∀ q9 : (Int32 × Int32 × (Nat → Int32) × Int32 × (Nat → Int32)), b9 = q9 → VB K (SB (kG K) ad aw v) 0 3 [(adh, .inr (6, [.ref ads, .ref adp, .ref adlp, .ref adwa, .ref adsa, .ref (ad 64), .ref (ad 81), .ref (ad 82), .ref (ad 83), .ref adshr, .int sf, .int st])), (ads, .inr (7, [.int nm, .int rw, .int sg, .int ms, .ref adsv, .ref adsc])), (adsv, .inl (gI (kG K), nsv, .inl fsv)), (adsc, .inl (gI (kG K), nsc, .inl fsc)), (adp, .inr (4, [.ref adpw, .int q9.2.1])), (adpw, .inl (gI (kG K), 3673, .inl q9.2.2.1)), (adlp, .inr (4, [.ref adlpw, .int q9.2.2.2.1])), (adlpw, .inl (gI (kG K), 3673, .inl q9.2.2.2.2)), (adwa, .inl (gB (kG K), 64, .inr (.inr (.inr (.inr (wcont ad))))))] 82 [(0, .ref adh), (1, .int nam), (2, .int q9.1)] []) : ∀ (nn : Nat) (i2_1 : Int32) (pp_2 : Int32) (fpw_3 : Nat → Int32) (plp_4 : Int32) (flpw_5 : Nat → Int32), lp (b_X7_weigh_2 sf st nm rw sg ms nsv fsv nsc fsc nam) nn (i2_1, pp_2, fpw_3, plp_4, flpw_5) = some b9 → VB K (SB (kG K) ad aw v) 0 3 [(adh, .inr (6, [.ref ads, .ref adp, .ref adlp, .ref adwa, .ref adsa, .ref (ad 64), .ref (ad 81), .ref (ad 82), .ref (ad 83), .ref adshr, .int sf, .int st])), (ads, .inr (7, [.int nm, .int rw, .int sg, .int ms, .ref adsv, .ref adsc])), (adsv, .inl (gI (kG K), nsv, .inl fsv)), (adsc, .inl (gI (kG K), nsc, .inl fsc)), (adp, .inr (4, [.ref adpw, .int pp_2])), (adpw, .inl (gI (kG K), 3673, .inl fpw_3)), (adlp, .inr (4, [.ref adlpw, .int plp_4])), (adlpw, .inl (gI (kG K), 3673, .inl flpw_5)), (adwa, .inl (gB (kG K), 64, .inr (.inr (.inr (.inr (wcont ad))))))] 2 [(0, .ref adh), (1, .int nam), (2, .int i2_1)] [] := by
  intro nn
  induction nn with
  | zero => intro i2_1 pp_2 fpw_3 plp_4 flpw_5 h; exact absurd h (by simp [lp])
  | succ nn ih =>
    intro i2_1 pp_2 fpw_3 plp_4 flpw_5 h
    replace h := lp_s h
    rw [eb_X7_weigh_2] at h
    refine vx_iload_n hk dX7_weigh_2 rfl ?_
    refine vx_iconst (v := 1) hk dX7_weigh_3 (by decide) ?_
    refine vx_aload_n hk dX7_weigh_4 rfl ?_
    refine vx_get (C := RX7) (T := TX7) (N := 12) (ci := 6) (v := .ref ads) hk dX7_weigh_5 w2i_X7_weigh_X70 0 rfl rfl 0 (by decide) (by decide +kernel) rfl rfl ?_
    refine vx_get (C := RX8) (T := TX8) (N := 6) (ci := 7) (v := .int nm) hk dX7_weigh_8 w2i_X7_weigh_X80 1 rfl rfl 0 (by decide) (by decide +kernel) rfl rfl ?_
    refine vx_ishl hk dX7_weigh_11 ?_
    refine vx_icmp_ge (tgt := 82) hk dX7_weigh_12 (by decide) (fun hc => ?_) (fun hc => ?_)
    · replace h := it_t (g := (lpk (lp (b_X7_weigh_2 sf st nm rw sg ms nsv fsv nsc fsc nam) nn))) h hc
      replace h : some (i2_1, pp_2, fpw_3, plp_4, flpw_5) = some b9 := h
      replace h := Option.some.inj h
      subst h
      exact kk0 _ rfl
    · replace h := it_f (g := (lpk (lp (b_X7_weigh_2 sf st nm rw sg ms nsv fsv nsc fsc nam) nn))) h hc
      refine vx_aload_n hk dX7_weigh_15 rfl ?_
      refine vx_iload_n hk dX7_weigh_16 rfl ?_
      refine vx_iload_n hk dX7_weigh_17 rfl ?_
      obtain ⟨r_6, er_6, h⟩ := bd_e (g := (lpk (lp (b_X7_weigh_2 sf st nm rw sg ms nsv fsv nsc fsc nam) nn))) rfl h
      refine vy_callV (n := 2) (st := []) (b := adh) (T := TX7) (N := 12) hk dX7_weigh_18 (c_X7_isOpen (kl K) (kG K) adh ads adp adlp adwa adsa (ad 64) (ad 81) (ad 82) (ad 83) adshr adsv adsc sf st nm rw sg ms nam i2_1 r_6 er_6) rfl gd_X7_weigh_X7_isOpen rfl (by decide +kernel) (frok hR9 (Nat.le_of_ble_eq_true rfl) (Nat.le_of_ble_eq_true rfl)) ⟨rfl, rfl⟩ SB.z rfl rfl (Nat.le_of_ble_eq_true rfl) 0 rfl rfl (wr := [(adsv, .inl (gI (kG K), nsv, .inl fsv)), (adsc, .inl (gI (kG K), nsc, .inl fsc)), (adp, .inr (4, [.ref adpw, .int pp_2])), (adpw, .inl (gI (kG K), 3673, .inl fpw_3)), (adlp, .inr (4, [.ref adlpw, .int plp_4])), (adlpw, .inl (gI (kG K), 3673, .inl flpw_5)), (adwa, .inl (gB (kG K), 64, .inr (.inr (.inr (.inr (wcont ad))))))]) [2, 3, 4, 5, 6, 7, 8] [0, 1] 9 rfl (by decide) rfl rfl ?_
      intro v9 w9 hp9
      obtain ⟨rfl, rfl⟩ := hp9
      show VB K (SB (kG K) ad aw v) 0 3 [(adsv, .inl (gI (kG K), nsv, .inl fsv)), (adsc, .inl (gI (kG K), nsc, .inl fsc)), (adp, .inr (4, [.ref adpw, .int pp_2])), (adpw, .inl (gI (kG K), 3673, .inl fpw_3)), (adlp, .inr (4, [.ref adlpw, .int plp_4])), (adlpw, .inl (gI (kG K), 3673, .inl flpw_5)), (adwa, .inl (gB (kG K), 64, .inr (.inr (.inr (.inr (wcont ad)))))), (adh, .inr (6, [.ref ads, .ref adp, .ref adlp, .ref adwa, .ref adsa, .ref (ad 64), .ref (ad 81), .ref (ad 82), .ref (ad 83), .ref adshr, .int sf, .int st])), (ads, .inr (7, [.int nm, .int rw, .int sg, .int ms, .ref adsv, .ref adsc]))] 21 [(0, .ref adh), (1, .int nam), (2, .int i2_1)] [.int r_6]
      refine vx_if_ne (tgt := 27) hk dX7_weigh_21 (by decide) (fun hc => ?_) (fun hc => ?_)
      · replace h := it_f (g := (lpk (lp (b_X7_weigh_2 sf st nm rw sg ms nsv fsv nsc fsc nam) nn))) h hc
        refine vx_aload_n hk dX7_weigh_27 rfl ?_
        refine vx_get (C := RX7) (T := TX7) (N := 12) (ci := 6) (v := .ref adp) hk dX7_weigh_28 w2i_X7_weigh_X70 7 rfl rfl 1 (by decide) (by decide +kernel) rfl rfl ?_
        obtain ⟨r_7, er_7, h⟩ := bd_e (g := (lpk (lp (b_X7_weigh_2 sf st nm rw sg ms nsv fsv nsc fsc nam) nn))) rfl h
        refine vy_callV (n := 0) (st := []) (b := adp) (T := TX5) (N := 2) hk dX7_weigh_31 (c_X5_forget (kl K) (kG K) adp adpw pp_2 3673 fpw_3 r_7 er_7) rfl gd_X7_weigh_X5_forget rfl (by decide +kernel) (frok hR9 (Nat.le_of_ble_eq_true rfl) (Nat.le_of_ble_eq_true rfl)) ⟨rfl, rfl⟩ SB.z rfl rfl (Nat.le_of_ble_eq_true rfl) 2 rfl rfl (wr := [(adsv, .inl (gI (kG K), nsv, .inl fsv)), (adsc, .inl (gI (kG K), nsc, .inl fsc)), (adlp, .inr (4, [.ref adlpw, .int plp_4])), (adlpw, .inl (gI (kG K), 3673, .inl flpw_5)), (adwa, .inl (gB (kG K), 64, .inr (.inr (.inr (.inr (wcont ad)))))), (adh, .inr (6, [.ref ads, .ref adp, .ref adlp, .ref adwa, .ref adsa, .ref (ad 64), .ref (ad 81), .ref (ad 82), .ref (ad 83), .ref adshr, .int sf, .int st])), (ads, .inr (7, [.int nm, .int rw, .int sg, .int ms, .ref adsv, .ref adsc]))]) [0, 1, 4, 5, 6, 7, 8] [2, 3] 9 rfl (by decide) rfl rfl ?_
        intro v9 w9 hp9
        obtain ⟨rfl, rfl⟩ := hp9
        show VB K (SB (kG K) ad aw v) 0 3 [(adsv, .inl (gI (kG K), nsv, .inl fsv)), (adsc, .inl (gI (kG K), nsc, .inl fsc)), (adlp, .inr (4, [.ref adlpw, .int plp_4])), (adlpw, .inl (gI (kG K), 3673, .inl flpw_5)), (adwa, .inl (gB (kG K), 64, .inr (.inr (.inr (.inr (wcont ad)))))), (adh, .inr (6, [.ref ads, .ref adp, .ref adlp, .ref adwa, .ref adsa, .ref (ad 64), .ref (ad 81), .ref (ad 82), .ref (ad 83), .ref adshr, .int sf, .int st])), (ads, .inr (7, [.int nm, .int rw, .int sg, .int ms, .ref adsv, .ref adsc])), (adp, .inr (4, [.ref adpw, .int r_7.1])), (adpw, .inl (gI (kG K), 3673, .inl r_7.2))] 34 [(0, .ref adh), (1, .int nam), (2, .int i2_1)] []
        refine vx_aload_n hk dX7_weigh_34 rfl ?_
        refine vx_get (C := RX7) (T := TX7) (N := 12) (ci := 6) (v := .ref ads) hk dX7_weigh_35 w2i_X7_weigh_X70 5 rfl rfl 0 (by decide) (by decide +kernel) rfl rfl ?_
        refine vx_iload_n hk dX7_weigh_38 rfl ?_
        refine vx_iload_n hk dX7_weigh_39 rfl ?_
        refine vx_aload_n hk dX7_weigh_40 rfl ?_
        refine vx_get (C := RX7) (T := TX7) (N := 12) (ci := 6) (v := .ref adp) hk dX7_weigh_41 w2i_X7_weigh_X70 5 rfl rfl 1 (by decide) (by decide +kernel) rfl rfl ?_
        obtain ⟨r_8, er_8, h⟩ := bd_e (g := (lpk (lp (b_X7_weigh_2 sf st nm rw sg ms nsv fsv nsc fsc nam) nn))) rfl h
        refine vy_callV (n := 3) (st := []) (b := ads) (T := TX8) (N := 6) hk dX7_weigh_44 (c_X8_pourFit (kl K) (kG K) ads adsv adsc adp adpw nm rw sg ms nsv fsv nsc fsc r_7.1 3673 r_7.2 nam i2_1 r_8 er_8) rfl gd_X7_weigh_X8_pourFit rfl (by decide +kernel) (frok hR9 (Nat.le_of_ble_eq_true rfl) (Nat.le_of_ble_eq_true rfl)) ⟨rfl, rfl⟩ SB.z rfl rfl (Nat.le_of_ble_eq_true rfl) 6 rfl rfl (wr := [(adlp, .inr (4, [.ref adlpw, .int plp_4])), (adlpw, .inl (gI (kG K), 3673, .inl flpw_5)), (adwa, .inl (gB (kG K), 64, .inr (.inr (.inr (.inr (wcont ad)))))), (adh, .inr (6, [.ref ads, .ref adp, .ref adlp, .ref adwa, .ref adsa, .ref (ad 64), .ref (ad 81), .ref (ad 82), .ref (ad 83), .ref adshr, .int sf, .int st]))]) [2, 3, 4, 5] [6, 0, 1, 7, 8] 9 rfl (by decide) rfl rfl ?_
        intro v9 w9 hp9
        obtain ⟨rfl, rfl⟩ := hp9
        show VB K (SB (kG K) ad aw v) 0 3 [(adlp, .inr (4, [.ref adlpw, .int plp_4])), (adlpw, .inl (gI (kG K), 3673, .inl flpw_5)), (adwa, .inl (gB (kG K), 64, .inr (.inr (.inr (.inr (wcont ad)))))), (adh, .inr (6, [.ref ads, .ref adp, .ref adlp, .ref adwa, .ref adsa, .ref (ad 64), .ref (ad 81), .ref (ad 82), .ref (ad 83), .ref adshr, .int sf, .int st])), (ads, .inr (7, [.int nm, .int rw, .int sg, .int ms, .ref adsv, .ref adsc])), (adsv, .inl (gI (kG K), nsv, .inl fsv)), (adsc, .inl (gI (kG K), nsc, .inl fsc)), (adp, .inr (4, [.ref adpw, .int r_8.1])), (adpw, .inl (gI (kG K), 3673, .inl r_8.2))] 47 [(0, .ref adh), (1, .int nam), (2, .int i2_1)] []
        refine vx_iload_n hk dX7_weigh_47 rfl ?_
        refine vx_if_ne (tgt := 65) hk dX7_weigh_48 (by decide) (fun hc => ?_) (fun hc => ?_)
        · replace h := it_f (g := (lpk (lp (b_X7_weigh_2 sf st nm rw sg ms nsv fsv nsc fsc nam) nn))) h hc
          refine vx_aload_n hk dX7_weigh_65 rfl ?_
          refine vx_get (C := RX7) (T := TX7) (N := 12) (ci := 6) (v := .ref adlp) hk dX7_weigh_66 w2i_X7_weigh_X70 3 rfl rfl 2 (by decide) (by decide +kernel) rfl rfl ?_
          refine vx_aload_n hk dX7_weigh_69 rfl ?_
          refine vx_get (C := RX7) (T := TX7) (N := 12) (ci := 6) (v := .ref adp) hk dX7_weigh_70 w2i_X7_weigh_X70 3 rfl rfl 1 (by decide) (by decide +kernel) rfl rfl ?_
          obtain ⟨r_9, er_9, h⟩ := bd_e (g := (lpk (lp (b_X7_weigh_2 sf st nm rw sg ms nsv fsv nsc fsc nam) nn))) rfl h
          refine vy_callV (n := 1) (st := []) (b := adlp) (T := TX5) (N := 2) hk dX7_weigh_73 (c_X5_lowerTo (kl K) (kG K) adlp adlpw adp adpw plp_4 3673 flpw_5 r_8.1 3673 r_8.2 r_9 er_9) rfl gd_X7_weigh_X5_lowerTo rfl (by decide +kernel) (frok hR9 (Nat.le_of_ble_eq_true rfl) (Nat.le_of_ble_eq_true rfl)) ⟨rfl, rfl⟩ SB.z rfl rfl (Nat.le_of_ble_eq_true rfl) 0 rfl rfl (wr := [(adwa, .inl (gB (kG K), 64, .inr (.inr (.inr (.inr (wcont ad)))))), (adh, .inr (6, [.ref ads, .ref adp, .ref adlp, .ref adwa, .ref adsa, .ref (ad 64), .ref (ad 81), .ref (ad 82), .ref (ad 83), .ref adshr, .int sf, .int st])), (ads, .inr (7, [.int nm, .int rw, .int sg, .int ms, .ref adsv, .ref adsc])), (adsv, .inl (gI (kG K), nsv, .inl fsv)), (adsc, .inl (gI (kG K), nsc, .inl fsc))]) [2, 3, 4, 5, 6] [0, 1, 7, 8] 9 rfl (by decide) rfl rfl ?_
          intro v9 w9 hp9
          obtain ⟨rfl, rfl⟩ := hp9
          show VB K (SB (kG K) ad aw v) 0 3 [(adwa, .inl (gB (kG K), 64, .inr (.inr (.inr (.inr (wcont ad)))))), (adh, .inr (6, [.ref ads, .ref adp, .ref adlp, .ref adwa, .ref adsa, .ref (ad 64), .ref (ad 81), .ref (ad 82), .ref (ad 83), .ref adshr, .int sf, .int st])), (ads, .inr (7, [.int nm, .int rw, .int sg, .int ms, .ref adsv, .ref adsc])), (adsv, .inl (gI (kG K), nsv, .inl fsv)), (adsc, .inl (gI (kG K), nsc, .inl fsc)), (adlp, .inr (4, [.ref adlpw, .int r_9.1])), (adlpw, .inl (gI (kG K), 3673, .inl r_9.2)), (adp, .inr (4, [.ref adpw, .int r_8.1])), (adpw, .inl (gI (kG K), 3673, .inl r_8.2))] 76 [(0, .ref adh), (1, .int nam), (2, .int i2_1)] []
          obtain ⟨x2_10, ex2_10, h⟩ := lt_e (g := (lpk (lp (b_X7_weigh_2 sf st nm rw sg ms nsv fsv nsc fsc nam) nn))) h
          refine vx_iinc (v := x2_10) hk dX7_weigh_76 rfl (by rw [ex2_10]; rfl) (by decide) [1, 2, 0] (lv' := [(0, .ref adh), (1, .int nam), (2, .int x2_10)]) rfl ?_
          refine vx_goto (tgt := 2) hk dX7_weigh_79 (by decide) ?_
          refine vx_perm [1, 2, 3, 4, 7, 8, 5, 6, 0] 9 rfl (by decide) (ws' := [(adh, .inr (6, [.ref ads, .ref adp, .ref adlp, .ref adwa, .ref adsa, .ref (ad 64), .ref (ad 81), .ref (ad 82), .ref (ad 83), .ref adshr, .int sf, .int st])), (ads, .inr (7, [.int nm, .int rw, .int sg, .int ms, .ref adsv, .ref adsc])), (adsv, .inl (gI (kG K), nsv, .inl fsv)), (adsc, .inl (gI (kG K), nsc, .inl fsc)), (adp, .inr (4, [.ref adpw, .int r_8.1])), (adpw, .inl (gI (kG K), 3673, .inl r_8.2)), (adlp, .inr (4, [.ref adlpw, .int r_9.1])), (adlpw, .inl (gI (kG K), 3673, .inl r_9.2)), (adwa, .inl (gB (kG K), 64, .inr (.inr (.inr (.inr (wcont ad))))))]) rfl ?_
          exact ih x2_10 r_8.1 r_8.2 r_9.1 r_9.2 h
        · replace h := it_t (g := (lpk (lp (b_X7_weigh_2 sf st nm rw sg ms nsv fsv nsc fsc nam) nn))) h hc
          refine vx_aload_n hk dX7_weigh_51 rfl ?_
          refine vx_get (C := RX7) (T := TX7) (N := 12) (ci := 6) (v := .ref adlp) hk dX7_weigh_52 w2i_X7_weigh_X70 3 rfl rfl 2 (by decide) (by decide +kernel) rfl rfl ?_
          refine vx_aload_n hk dX7_weigh_55 rfl ?_
          refine vx_get (C := RX7) (T := TX7) (N := 12) (ci := 6) (v := .ref adp) hk dX7_weigh_56 w2i_X7_weigh_X70 3 rfl rfl 1 (by decide) (by decide +kernel) rfl rfl ?_
          obtain ⟨r_11, er_11, h⟩ := bd_e (g := (lpk (lp (b_X7_weigh_2 sf st nm rw sg ms nsv fsv nsc fsc nam) nn))) rfl h
          refine vy_callV (n := 1) (st := []) (b := adlp) (T := TX5) (N := 2) hk dX7_weigh_59 (c_X5_copy (kl K) (kG K) adlp adlpw adp adpw plp_4 3673 flpw_5 r_8.1 3673 r_8.2 r_11 er_11) rfl gd_X7_weigh_X5_copy rfl (by decide +kernel) (frok hR9 (Nat.le_of_ble_eq_true rfl) (Nat.le_of_ble_eq_true rfl)) ⟨rfl, rfl⟩ SB.z rfl rfl (Nat.le_of_ble_eq_true rfl) 0 rfl rfl (wr := [(adwa, .inl (gB (kG K), 64, .inr (.inr (.inr (.inr (wcont ad)))))), (adh, .inr (6, [.ref ads, .ref adp, .ref adlp, .ref adwa, .ref adsa, .ref (ad 64), .ref (ad 81), .ref (ad 82), .ref (ad 83), .ref adshr, .int sf, .int st])), (ads, .inr (7, [.int nm, .int rw, .int sg, .int ms, .ref adsv, .ref adsc])), (adsv, .inl (gI (kG K), nsv, .inl fsv)), (adsc, .inl (gI (kG K), nsc, .inl fsc))]) [2, 3, 4, 5, 6] [0, 1, 7, 8] 9 rfl (by decide) rfl rfl ?_
          intro v9 w9 hp9
          obtain ⟨rfl, rfl⟩ := hp9
          show VB K (SB (kG K) ad aw v) 0 3 [(adwa, .inl (gB (kG K), 64, .inr (.inr (.inr (.inr (wcont ad)))))), (adh, .inr (6, [.ref ads, .ref adp, .ref adlp, .ref adwa, .ref adsa, .ref (ad 64), .ref (ad 81), .ref (ad 82), .ref (ad 83), .ref adshr, .int sf, .int st])), (ads, .inr (7, [.int nm, .int rw, .int sg, .int ms, .ref adsv, .ref adsc])), (adsv, .inl (gI (kG K), nsv, .inl fsv)), (adsc, .inl (gI (kG K), nsc, .inl fsc)), (adlp, .inr (4, [.ref adlpw, .int r_11.1])), (adlpw, .inl (gI (kG K), 3673, .inl r_11.2)), (adp, .inr (4, [.ref adpw, .int r_8.1])), (adpw, .inl (gI (kG K), 3673, .inl r_8.2))] 62 [(0, .ref adh), (1, .int nam), (2, .int i2_1)] []
          refine vx_goto (tgt := 76) hk dX7_weigh_62 (by decide) ?_
          obtain ⟨x2_12, ex2_12, h⟩ := lt_e (g := (lpk (lp (b_X7_weigh_2 sf st nm rw sg ms nsv fsv nsc fsc nam) nn))) h
          refine vx_iinc (v := x2_12) hk dX7_weigh_76 rfl (by rw [ex2_12]; rfl) (by decide) [1, 2, 0] (lv' := [(0, .ref adh), (1, .int nam), (2, .int x2_12)]) rfl ?_
          refine vx_goto (tgt := 2) hk dX7_weigh_79 (by decide) ?_
          refine vx_perm [1, 2, 3, 4, 7, 8, 5, 6, 0] 9 rfl (by decide) (ws' := [(adh, .inr (6, [.ref ads, .ref adp, .ref adlp, .ref adwa, .ref adsa, .ref (ad 64), .ref (ad 81), .ref (ad 82), .ref (ad 83), .ref adshr, .int sf, .int st])), (ads, .inr (7, [.int nm, .int rw, .int sg, .int ms, .ref adsv, .ref adsc])), (adsv, .inl (gI (kG K), nsv, .inl fsv)), (adsc, .inl (gI (kG K), nsc, .inl fsc)), (adp, .inr (4, [.ref adpw, .int r_8.1])), (adpw, .inl (gI (kG K), 3673, .inl r_8.2)), (adlp, .inr (4, [.ref adlpw, .int r_11.1])), (adlpw, .inl (gI (kG K), 3673, .inl r_11.2)), (adwa, .inl (gB (kG K), 64, .inr (.inr (.inr (.inr (wcont ad))))))]) rfl ?_
          exact ih x2_12 r_8.1 r_8.2 r_11.1 r_11.2 h
      · replace h := it_t (g := (lpk (lp (b_X7_weigh_2 sf st nm rw sg ms nsv fsv nsc fsc nam) nn))) h hc
        refine vx_goto (tgt := 76) hk dX7_weigh_24 (by decide) ?_
        obtain ⟨x2_13, ex2_13, h⟩ := lt_e (g := (lpk (lp (b_X7_weigh_2 sf st nm rw sg ms nsv fsv nsc fsc nam) nn))) h
        refine vx_iinc (v := x2_13) hk dX7_weigh_76 rfl (by rw [ex2_13]; rfl) (by decide) [1, 2, 0] (lv' := [(0, .ref adh), (1, .int nam), (2, .int x2_13)]) rfl ?_
        refine vx_goto (tgt := 2) hk dX7_weigh_79 (by decide) ?_
        refine vx_perm [7, 8, 0, 1, 2, 3, 4, 5, 6] 9 rfl (by decide) (ws' := [(adh, .inr (6, [.ref ads, .ref adp, .ref adlp, .ref adwa, .ref adsa, .ref (ad 64), .ref (ad 81), .ref (ad 82), .ref (ad 83), .ref adshr, .int sf, .int st])), (ads, .inr (7, [.int nm, .int rw, .int sg, .int ms, .ref adsv, .ref adsc])), (adsv, .inl (gI (kG K), nsv, .inl fsv)), (adsc, .inl (gI (kG K), nsc, .inl fsc)), (adp, .inr (4, [.ref adpw, .int pp_2])), (adpw, .inl (gI (kG K), 3673, .inl fpw_3)), (adlp, .inr (4, [.ref adlpw, .int plp_4])), (adlpw, .inl (gI (kG K), 3673, .inl flpw_5)), (adwa, .inl (gB (kG K), 64, .inr (.inr (.inr (.inr (wcont ad))))))]) rfl ?_
        exact ih x2_13 pp_2 fpw_3 plp_4 flpw_5 h
set_option maxHeartbeats 4000000 in
set_option maxRecDepth 100000 in
theorem L_X7_weigh_84 {K : Cx} {R9 : Room} {ad : Nat → Nat} {aw : Nat → Nat} (hk : Ok K cX7_weigh 3 RX7 w2_X7_weigh R9) (hR9 : RoomGe R9 rm_X7_weigh) (adh : Nat) (ads : Nat) (adsv : Nat) (adsc : Nat) (adp : Nat) (adpw : Nat) (adlp : Nat) (adlpw : Nat) (adwa : Nat) (adsa : Nat) (adshr : Nat) (sf : Int32) (st : Int32) (nm : Int32) (rw : Int32) (sg : Int32) (ms : Int32) (nsv : Nat) (fsv : Nat → Int32) (nsc : Nat) (fsc : Nat → Int32) (nam : Int32) (q_14 : Int32 × Int32 × (Nat → Int32) × Int32 × (Nat → Int32)) (b9 : (Int32 × Int32 × (Nat → Int32) × (Nat → Nat))) (kk0 : ∀ q9 : (Int32 × Int32 × (Nat → Int32) × (Nat → Nat)), b9 = q9 → VB K (SB (kG K) ad aw q9.2.2.2) 0 3 [(adh, .inr (6, [.ref ads, .ref adp, .ref adlp, .ref adwa, .ref adsa, .ref (ad 64), .ref (ad 81), .ref (ad 82), .ref (ad 83), .ref adshr, .int sf, .int st])), (ads, .inr (7, [.int nm, .int rw, .int sg, .int ms, .ref adsv, .ref adsc])), (adsv, .inl (gI (kG K), nsv, .inl fsv)), (adsc, .inl (gI (kG K), nsc, .inl fsc)), (adp, .inr (4, [.ref adpw, .int q9.2.1])), (adpw, .inl (gI (kG K), 3673, .inl q9.2.2.1)), (adlp, .inr (4, [.ref adlpw, .int q_14.2.2.2.1])), (adlpw, .inl (gI (kG K), 3673, .inl q_14.2.2.2.2)), (adwa, .inl (gB (kG K), 64, .inr (.inr (.inr (.inr (wcont ad))))))] 170 [(0, .ref adh), (1, .int nam), (2, .int q9.1)] []) : ∀ (nn : Nat) (i2_15 : Int32) (pp_16 : Int32) (fpw_17 : Nat → Int32) (ffam_18 : Nat → Nat), lp (b_X7_weigh_84 sf st nm rw sg ms nsv fsv nsc fsc nam q_14) nn (i2_15, pp_16, fpw_17, ffam_18) = some b9 → VB K (SB (kG K) ad aw ffam_18) 0 3 [(adh, .inr (6, [.ref ads, .ref adp, .ref adlp, .ref adwa, .ref adsa, .ref (ad 64), .ref (ad 81), .ref (ad 82), .ref (ad 83), .ref adshr, .int sf, .int st])), (ads, .inr (7, [.int nm, .int rw, .int sg, .int ms, .ref adsv, .ref adsc])), (adsv, .inl (gI (kG K), nsv, .inl fsv)), (adsc, .inl (gI (kG K), nsc, .inl fsc)), (adp, .inr (4, [.ref adpw, .int pp_16])), (adpw, .inl (gI (kG K), 3673, .inl fpw_17)), (adlp, .inr (4, [.ref adlpw, .int q_14.2.2.2.1])), (adlpw, .inl (gI (kG K), 3673, .inl q_14.2.2.2.2)), (adwa, .inl (gB (kG K), 64, .inr (.inr (.inr (.inr (wcont ad))))))] 84 [(0, .ref adh), (1, .int nam), (2, .int i2_15)] [] := by
  intro nn
  induction nn with
  | zero => intro i2_15 pp_16 fpw_17 ffam_18 h; exact absurd h (by simp [lp])
  | succ nn ih =>
    intro i2_15 pp_16 fpw_17 ffam_18 h
    replace h := lp_s h
    rw [eb_X7_weigh_84] at h
    refine vx_iload_n hk dX7_weigh_84 rfl ?_
    refine vx_iconst (v := 1) hk dX7_weigh_85 (by decide) ?_
    refine vx_aload_n hk dX7_weigh_86 rfl ?_
    refine vx_get (C := RX7) (T := TX7) (N := 12) (ci := 6) (v := .ref ads) hk dX7_weigh_87 w2i_X7_weigh_X70 0 rfl rfl 0 (by decide) (by decide +kernel) rfl rfl ?_
    refine vx_get (C := RX8) (T := TX8) (N := 6) (ci := 7) (v := .int nm) hk dX7_weigh_90 w2i_X7_weigh_X80 1 rfl rfl 0 (by decide) (by decide +kernel) rfl rfl ?_
    refine vx_ishl hk dX7_weigh_93 ?_
    refine vx_icmp_ge (tgt := 170) hk dX7_weigh_94 (by decide) (fun hc => ?_) (fun hc => ?_)
    · replace h := it_t (g := (lpk (lp (b_X7_weigh_84 sf st nm rw sg ms nsv fsv nsc fsc nam q_14) nn))) h hc
      replace h : some (i2_15, pp_16, fpw_17, ffam_18) = some b9 := h
      replace h := Option.some.inj h
      subst h
      exact kk0 _ rfl
    · replace h := it_f (g := (lpk (lp (b_X7_weigh_84 sf st nm rw sg ms nsv fsv nsc fsc nam q_14) nn))) h hc
      refine vx_aload_n hk dX7_weigh_97 rfl ?_
      refine vx_iload_n hk dX7_weigh_98 rfl ?_
      refine vx_iload_n hk dX7_weigh_99 rfl ?_
      obtain ⟨k_19, ek_19, h⟩ := bd_e (g := (lpk (lp (b_X7_weigh_84 sf st nm rw sg ms nsv fsv nsc fsc nam q_14) nn))) rfl h
      refine vy_callV (n := 2) (st := []) (b := adh) (T := TX7) (N := 12) hk dX7_weigh_100 (c_X7_weight (kl K) (kG K) ad adh ads adp adlp adwa adsa adshr sf st ek_19) rfl gd_X7_weigh_X7_weight rfl (by decide +kernel) (frok hR9 (Nat.le_of_ble_eq_true rfl) (Nat.le_of_ble_eq_true rfl)) ⟨rfl, rfl⟩ SB.z rfl rfl (Nat.le_of_ble_eq_true rfl) 0 rfl rfl (wr := [(ads, .inr (7, [.int nm, .int rw, .int sg, .int ms, .ref adsv, .ref adsc])), (adsv, .inl (gI (kG K), nsv, .inl fsv)), (adsc, .inl (gI (kG K), nsc, .inl fsc)), (adp, .inr (4, [.ref adpw, .int pp_16])), (adpw, .inl (gI (kG K), 3673, .inl fpw_17)), (adlp, .inr (4, [.ref adlpw, .int q_14.2.2.2.1])), (adlpw, .inl (gI (kG K), 3673, .inl q_14.2.2.2.2))]) [1, 2, 3, 4, 5, 6, 7] [0, 8] 9 rfl (by decide) rfl rfl ?_
      intro v9 w9 hp9
      obtain ⟨rfl, rfl⟩ := hp9
      show VB K (SB (kG K) ad aw ffam_18) 0 3 [(ads, .inr (7, [.int nm, .int rw, .int sg, .int ms, .ref adsv, .ref adsc])), (adsv, .inl (gI (kG K), nsv, .inl fsv)), (adsc, .inl (gI (kG K), nsc, .inl fsc)), (adp, .inr (4, [.ref adpw, .int pp_16])), (adpw, .inl (gI (kG K), 3673, .inl fpw_17)), (adlp, .inr (4, [.ref adlpw, .int q_14.2.2.2.1])), (adlpw, .inl (gI (kG K), 3673, .inl q_14.2.2.2.2)), (adh, .inr (6, [.ref ads, .ref adp, .ref adlp, .ref adwa, .ref adsa, .ref (ad 64), .ref (ad 81), .ref (ad 82), .ref (ad 83), .ref adshr, .int sf, .int st])), (adwa, .inl (gB (kG K), 64, .inr (.inr (.inr (.inr (wcont ad))))))] 103 [(0, .ref adh), (1, .int nam), (2, .int i2_15)] [.ref (ad k_19)]
      refine vx_iconst (v := 0) hk dX7_weigh_103 (by decide) ?_
      obtain ⟨fv_20, efv_20, h⟩ := bd_e (g := (lpk (lp (b_X7_weigh_84 sf st nm rw sg ms nsv fsv nsc fsc nam q_14) nn))) rfl h
      obtain ⟨hj9, hcf9⟩ := c_fBec (kl K) (kG K) ad aw efv_20
      refine vy_callF (n := 1) (st := []) (b := (ad k_19)) (T := TX1) (N := 2) (ci := 0) hk dX7_weigh_104 hcf9 rfl gd_X7_weigh_X1_become rfl (by decide +kernel) (frok hR9 (Nat.le_of_ble_eq_true rfl) (Nat.le_of_ble_eq_true rfl)) ⟨rfl, rfl⟩ SB.z rfl rfl (Nat.le_of_ble_eq_true rfl) (SB.recv hj9) rfl (wr := [(ads, .inr (7, [.int nm, .int rw, .int sg, .int ms, .ref adsv, .ref adsc])), (adsv, .inl (gI (kG K), nsv, .inl fsv)), (adsc, .inl (gI (kG K), nsc, .inl fsc)), (adp, .inr (4, [.ref adpw, .int pp_16])), (adpw, .inl (gI (kG K), 3673, .inl fpw_17)), (adlp, .inr (4, [.ref adlpw, .int q_14.2.2.2.1])), (adlpw, .inl (gI (kG K), 3673, .inl q_14.2.2.2.2)), (adh, .inr (6, [.ref ads, .ref adp, .ref adlp, .ref adwa, .ref adsa, .ref (ad 64), .ref (ad 81), .ref (ad 82), .ref (ad 83), .ref adshr, .int sf, .int st])), (adwa, .inl (gB (kG K), 64, .inr (.inr (.inr (.inr (wcont ad))))))]) [0, 1, 2, 3, 4, 5, 6, 7, 8] [] 9 rfl (by decide) rfl rfl ?_
      intro v9 w9 hp9
      obtain ⟨rfl, rfl⟩ := hp9
      show VB K (SB (kG K) ad aw fv_20) 0 3 [(ads, .inr (7, [.int nm, .int rw, .int sg, .int ms, .ref adsv, .ref adsc])), (adsv, .inl (gI (kG K), nsv, .inl fsv)), (adsc, .inl (gI (kG K), nsc, .inl fsc)), (adp, .inr (4, [.ref adpw, .int pp_16])), (adpw, .inl (gI (kG K), 3673, .inl fpw_17)), (adlp, .inr (4, [.ref adlpw, .int q_14.2.2.2.1])), (adlpw, .inl (gI (kG K), 3673, .inl q_14.2.2.2.2)), (adh, .inr (6, [.ref ads, .ref adp, .ref adlp, .ref adwa, .ref adsa, .ref (ad 64), .ref (ad 81), .ref (ad 82), .ref (ad 83), .ref adshr, .int sf, .int st])), (adwa, .inl (gB (kG K), 64, .inr (.inr (.inr (.inr (wcont ad))))))] 107 [(0, .ref adh), (1, .int nam), (2, .int i2_15)] []
      refine vx_aload_n hk dX7_weigh_107 rfl ?_
      refine vx_iload_n hk dX7_weigh_108 rfl ?_
      refine vx_iload_n hk dX7_weigh_109 rfl ?_
      obtain ⟨r_21, er_21, h⟩ := bd_e (g := (lpk (lp (b_X7_weigh_84 sf st nm rw sg ms nsv fsv nsc fsc nam q_14) nn))) rfl h
      refine vy_callV (n := 2) (st := []) (b := adh) (T := TX7) (N := 12) hk dX7_weigh_110 (c_X7_isOpen (kl K) (kG K) adh ads adp adlp adwa adsa (ad 64) (ad 81) (ad 82) (ad 83) adshr adsv adsc sf st nm rw sg ms nam i2_15 r_21 er_21) rfl gd_X7_weigh_X7_isOpen rfl (by decide +kernel) (frok hR9 (Nat.le_of_ble_eq_true rfl) (Nat.le_of_ble_eq_true rfl)) ⟨rfl, rfl⟩ SB.z rfl rfl (Nat.le_of_ble_eq_true rfl) 7 rfl rfl (wr := [(adsv, .inl (gI (kG K), nsv, .inl fsv)), (adsc, .inl (gI (kG K), nsc, .inl fsc)), (adp, .inr (4, [.ref adpw, .int pp_16])), (adpw, .inl (gI (kG K), 3673, .inl fpw_17)), (adlp, .inr (4, [.ref adlpw, .int q_14.2.2.2.1])), (adlpw, .inl (gI (kG K), 3673, .inl q_14.2.2.2.2)), (adwa, .inl (gB (kG K), 64, .inr (.inr (.inr (.inr (wcont ad))))))]) [1, 2, 3, 4, 5, 6, 8] [7, 0] 9 rfl (by decide) rfl rfl ?_
      intro v9 w9 hp9
      obtain ⟨rfl, rfl⟩ := hp9
      show VB K (SB (kG K) ad aw fv_20) 0 3 [(adsv, .inl (gI (kG K), nsv, .inl fsv)), (adsc, .inl (gI (kG K), nsc, .inl fsc)), (adp, .inr (4, [.ref adpw, .int pp_16])), (adpw, .inl (gI (kG K), 3673, .inl fpw_17)), (adlp, .inr (4, [.ref adlpw, .int q_14.2.2.2.1])), (adlpw, .inl (gI (kG K), 3673, .inl q_14.2.2.2.2)), (adwa, .inl (gB (kG K), 64, .inr (.inr (.inr (.inr (wcont ad)))))), (adh, .inr (6, [.ref ads, .ref adp, .ref adlp, .ref adwa, .ref adsa, .ref (ad 64), .ref (ad 81), .ref (ad 82), .ref (ad 83), .ref adshr, .int sf, .int st])), (ads, .inr (7, [.int nm, .int rw, .int sg, .int ms, .ref adsv, .ref adsc]))] 113 [(0, .ref adh), (1, .int nam), (2, .int i2_15)] [.int r_21]
      refine vx_if_ne (tgt := 119) hk dX7_weigh_113 (by decide) (fun hc => ?_) (fun hc => ?_)
      · replace h := it_f (g := (lpk (lp (b_X7_weigh_84 sf st nm rw sg ms nsv fsv nsc fsc nam q_14) nn))) h hc
        refine vx_aload_n hk dX7_weigh_119 rfl ?_
        refine vx_get (C := RX7) (T := TX7) (N := 12) (ci := 6) (v := .ref adp) hk dX7_weigh_120 w2i_X7_weigh_X70 7 rfl rfl 1 (by decide) (by decide +kernel) rfl rfl ?_
        obtain ⟨r_22, er_22, h⟩ := bd_e (g := (lpk (lp (b_X7_weigh_84 sf st nm rw sg ms nsv fsv nsc fsc nam q_14) nn))) rfl h
        refine vy_callV (n := 0) (st := []) (b := adp) (T := TX5) (N := 2) hk dX7_weigh_123 (c_X5_forget (kl K) (kG K) adp adpw pp_16 3673 fpw_17 r_22 er_22) rfl gd_X7_weigh_X5_forget rfl (by decide +kernel) (frok hR9 (Nat.le_of_ble_eq_true rfl) (Nat.le_of_ble_eq_true rfl)) ⟨rfl, rfl⟩ SB.z rfl rfl (Nat.le_of_ble_eq_true rfl) 2 rfl rfl (wr := [(adsv, .inl (gI (kG K), nsv, .inl fsv)), (adsc, .inl (gI (kG K), nsc, .inl fsc)), (adlp, .inr (4, [.ref adlpw, .int q_14.2.2.2.1])), (adlpw, .inl (gI (kG K), 3673, .inl q_14.2.2.2.2)), (adwa, .inl (gB (kG K), 64, .inr (.inr (.inr (.inr (wcont ad)))))), (adh, .inr (6, [.ref ads, .ref adp, .ref adlp, .ref adwa, .ref adsa, .ref (ad 64), .ref (ad 81), .ref (ad 82), .ref (ad 83), .ref adshr, .int sf, .int st])), (ads, .inr (7, [.int nm, .int rw, .int sg, .int ms, .ref adsv, .ref adsc]))]) [0, 1, 4, 5, 6, 7, 8] [2, 3] 9 rfl (by decide) rfl rfl ?_
        intro v9 w9 hp9
        obtain ⟨rfl, rfl⟩ := hp9
        show VB K (SB (kG K) ad aw fv_20) 0 3 [(adsv, .inl (gI (kG K), nsv, .inl fsv)), (adsc, .inl (gI (kG K), nsc, .inl fsc)), (adlp, .inr (4, [.ref adlpw, .int q_14.2.2.2.1])), (adlpw, .inl (gI (kG K), 3673, .inl q_14.2.2.2.2)), (adwa, .inl (gB (kG K), 64, .inr (.inr (.inr (.inr (wcont ad)))))), (adh, .inr (6, [.ref ads, .ref adp, .ref adlp, .ref adwa, .ref adsa, .ref (ad 64), .ref (ad 81), .ref (ad 82), .ref (ad 83), .ref adshr, .int sf, .int st])), (ads, .inr (7, [.int nm, .int rw, .int sg, .int ms, .ref adsv, .ref adsc])), (adp, .inr (4, [.ref adpw, .int r_22.1])), (adpw, .inl (gI (kG K), 3673, .inl r_22.2))] 126 [(0, .ref adh), (1, .int nam), (2, .int i2_15)] []
        refine vx_aload_n hk dX7_weigh_126 rfl ?_
        refine vx_get (C := RX7) (T := TX7) (N := 12) (ci := 6) (v := .ref ads) hk dX7_weigh_127 w2i_X7_weigh_X70 5 rfl rfl 0 (by decide) (by decide +kernel) rfl rfl ?_
        refine vx_iload_n hk dX7_weigh_130 rfl ?_
        refine vx_iload_n hk dX7_weigh_131 rfl ?_
        refine vx_aload_n hk dX7_weigh_132 rfl ?_
        refine vx_get (C := RX7) (T := TX7) (N := 12) (ci := 6) (v := .ref adp) hk dX7_weigh_133 w2i_X7_weigh_X70 5 rfl rfl 1 (by decide) (by decide +kernel) rfl rfl ?_
        obtain ⟨r_23, er_23, h⟩ := bd_e (g := (lpk (lp (b_X7_weigh_84 sf st nm rw sg ms nsv fsv nsc fsc nam q_14) nn))) rfl h
        refine vy_callV (n := 3) (st := []) (b := ads) (T := TX8) (N := 6) hk dX7_weigh_136 (c_X8_pourFit (kl K) (kG K) ads adsv adsc adp adpw nm rw sg ms nsv fsv nsc fsc r_22.1 3673 r_22.2 nam i2_15 r_23 er_23) rfl gd_X7_weigh_X8_pourFit rfl (by decide +kernel) (frok hR9 (Nat.le_of_ble_eq_true rfl) (Nat.le_of_ble_eq_true rfl)) ⟨rfl, rfl⟩ SB.z rfl rfl (Nat.le_of_ble_eq_true rfl) 6 rfl rfl (wr := [(adlp, .inr (4, [.ref adlpw, .int q_14.2.2.2.1])), (adlpw, .inl (gI (kG K), 3673, .inl q_14.2.2.2.2)), (adwa, .inl (gB (kG K), 64, .inr (.inr (.inr (.inr (wcont ad)))))), (adh, .inr (6, [.ref ads, .ref adp, .ref adlp, .ref adwa, .ref adsa, .ref (ad 64), .ref (ad 81), .ref (ad 82), .ref (ad 83), .ref adshr, .int sf, .int st]))]) [2, 3, 4, 5] [6, 0, 1, 7, 8] 9 rfl (by decide) rfl rfl ?_
        intro v9 w9 hp9
        obtain ⟨rfl, rfl⟩ := hp9
        show VB K (SB (kG K) ad aw fv_20) 0 3 [(adlp, .inr (4, [.ref adlpw, .int q_14.2.2.2.1])), (adlpw, .inl (gI (kG K), 3673, .inl q_14.2.2.2.2)), (adwa, .inl (gB (kG K), 64, .inr (.inr (.inr (.inr (wcont ad)))))), (adh, .inr (6, [.ref ads, .ref adp, .ref adlp, .ref adwa, .ref adsa, .ref (ad 64), .ref (ad 81), .ref (ad 82), .ref (ad 83), .ref adshr, .int sf, .int st])), (ads, .inr (7, [.int nm, .int rw, .int sg, .int ms, .ref adsv, .ref adsc])), (adsv, .inl (gI (kG K), nsv, .inl fsv)), (adsc, .inl (gI (kG K), nsc, .inl fsc)), (adp, .inr (4, [.ref adpw, .int r_23.1])), (adpw, .inl (gI (kG K), 3673, .inl r_23.2))] 139 [(0, .ref adh), (1, .int nam), (2, .int i2_15)] []
        refine vx_aload_n hk dX7_weigh_139 rfl ?_
        refine vx_get (C := RX7) (T := TX7) (N := 12) (ci := 6) (v := .ref adp) hk dX7_weigh_140 w2i_X7_weigh_X70 3 rfl rfl 1 (by decide) (by decide +kernel) rfl rfl ?_
        refine vx_aload_n hk dX7_weigh_143 rfl ?_
        refine vx_get (C := RX7) (T := TX7) (N := 12) (ci := 6) (v := .ref adlp) hk dX7_weigh_144 w2i_X7_weigh_X70 3 rfl rfl 2 (by decide) (by decide +kernel) rfl rfl ?_
        obtain ⟨r_24, er_24, h⟩ := bd_e (g := (lpk (lp (b_X7_weigh_84 sf st nm rw sg ms nsv fsv nsc fsc nam q_14) nn))) rfl h
        refine vy_callV (n := 1) (st := []) (b := adp) (T := TX5) (N := 2) hk dX7_weigh_147 (c_X5_divide (kl K) (kG K) adp adpw adlp adlpw r_23.1 3673 r_23.2 q_14.2.2.2.1 3673 q_14.2.2.2.2 r_24 er_24) rfl gd_X7_weigh_X5_divide rfl (by decide +kernel) (frok hR9 (Nat.le_of_ble_eq_true rfl) (Nat.le_of_ble_eq_true rfl)) ⟨rfl, rfl⟩ SB.z rfl rfl (Nat.le_of_ble_eq_true rfl) 7 rfl rfl (wr := [(adwa, .inl (gB (kG K), 64, .inr (.inr (.inr (.inr (wcont ad)))))), (adh, .inr (6, [.ref ads, .ref adp, .ref adlp, .ref adwa, .ref adsa, .ref (ad 64), .ref (ad 81), .ref (ad 82), .ref (ad 83), .ref adshr, .int sf, .int st])), (ads, .inr (7, [.int nm, .int rw, .int sg, .int ms, .ref adsv, .ref adsc])), (adsv, .inl (gI (kG K), nsv, .inl fsv)), (adsc, .inl (gI (kG K), nsc, .inl fsc))]) [2, 3, 4, 5, 6] [7, 8, 0, 1] 9 rfl (by decide) rfl rfl ?_
        intro v9 w9 hp9
        obtain ⟨rfl, rfl⟩ := hp9
        show VB K (SB (kG K) ad aw fv_20) 0 3 [(adwa, .inl (gB (kG K), 64, .inr (.inr (.inr (.inr (wcont ad)))))), (adh, .inr (6, [.ref ads, .ref adp, .ref adlp, .ref adwa, .ref adsa, .ref (ad 64), .ref (ad 81), .ref (ad 82), .ref (ad 83), .ref adshr, .int sf, .int st])), (ads, .inr (7, [.int nm, .int rw, .int sg, .int ms, .ref adsv, .ref adsc])), (adsv, .inl (gI (kG K), nsv, .inl fsv)), (adsc, .inl (gI (kG K), nsc, .inl fsc)), (adp, .inr (4, [.ref adpw, .int r_24.1])), (adpw, .inl (gI (kG K), 3673, .inl r_24.2)), (adlp, .inr (4, [.ref adlpw, .int q_14.2.2.2.1])), (adlpw, .inl (gI (kG K), 3673, .inl q_14.2.2.2.2))] 150 [(0, .ref adh), (1, .int nam), (2, .int i2_15)] []
        refine vx_aload_n hk dX7_weigh_150 rfl ?_
        refine vx_get (C := RX7) (T := TX7) (N := 12) (ci := 6) (v := .ref adp) hk dX7_weigh_151 w2i_X7_weigh_X70 1 rfl rfl 1 (by decide) (by decide +kernel) rfl rfl ?_
        refine vx_iconst (v := 1) hk dX7_weigh_154 (by decide) ?_
        refine vx_aload_n hk dX7_weigh_155 rfl ?_
        refine vx_iload_n hk dX7_weigh_156 rfl ?_
        refine vx_iload_n hk dX7_weigh_157 rfl ?_
        obtain ⟨k_25, ek_25, h⟩ := bd_e (g := (lpk (lp (b_X7_weigh_84 sf st nm rw sg ms nsv fsv nsc fsc nam q_14) nn))) rfl h
        refine vy_callV (n := 2) (st := [.int 1, .ref adp]) (b := adh) (T := TX7) (N := 12) hk dX7_weigh_158 (c_X7_weight (kl K) (kG K) ad adh ads adp adlp adwa adsa adshr sf st ek_25) rfl gd_X7_weigh_X7_weight rfl (by decide +kernel) (frok hR9 (Nat.le_of_ble_eq_true rfl) (Nat.le_of_ble_eq_true rfl)) ⟨rfl, rfl⟩ SB.z rfl rfl (Nat.le_of_ble_eq_true rfl) 1 rfl rfl (wr := [(ads, .inr (7, [.int nm, .int rw, .int sg, .int ms, .ref adsv, .ref adsc])), (adsv, .inl (gI (kG K), nsv, .inl fsv)), (adsc, .inl (gI (kG K), nsc, .inl fsc)), (adp, .inr (4, [.ref adpw, .int r_24.1])), (adpw, .inl (gI (kG K), 3673, .inl r_24.2)), (adlp, .inr (4, [.ref adlpw, .int q_14.2.2.2.1])), (adlpw, .inl (gI (kG K), 3673, .inl q_14.2.2.2.2))]) [2, 3, 4, 5, 6, 7, 8] [1, 0] 9 rfl (by decide) rfl rfl ?_
        intro v9 w9 hp9
        obtain ⟨rfl, rfl⟩ := hp9
        show VB K (SB (kG K) ad aw fv_20) 0 3 [(ads, .inr (7, [.int nm, .int rw, .int sg, .int ms, .ref adsv, .ref adsc])), (adsv, .inl (gI (kG K), nsv, .inl fsv)), (adsc, .inl (gI (kG K), nsc, .inl fsc)), (adp, .inr (4, [.ref adpw, .int r_24.1])), (adpw, .inl (gI (kG K), 3673, .inl r_24.2)), (adlp, .inr (4, [.ref adlpw, .int q_14.2.2.2.1])), (adlpw, .inl (gI (kG K), 3673, .inl q_14.2.2.2.2)), (adh, .inr (6, [.ref ads, .ref adp, .ref adlp, .ref adwa, .ref adsa, .ref (ad 64), .ref (ad 81), .ref (ad 82), .ref (ad 83), .ref adshr, .int sf, .int st])), (adwa, .inl (gB (kG K), 64, .inr (.inr (.inr (.inr (wcont ad))))))] 161 [(0, .ref adh), (1, .int nam), (2, .int i2_15)] [.ref (ad k_25), .int 1, .ref adp]
        obtain ⟨fv_26, efv_26, h⟩ := bd_e (g := (lpk (lp (b_X7_weigh_84 sf st nm rw sg ms nsv fsv nsc fsc nam q_14) nn))) rfl h
        refine vy_callF (n := 2) (st := []) (b := adp) (T := TX5) (N := 2) (ci := 4) hk dX7_weigh_161 (c_fWri (kl K) (kG K) ad aw adp adpw efv_26) rfl gd_X7_weigh_X5_write rfl (by decide +kernel) (frok hR9 (Nat.le_of_ble_eq_true rfl) (Nat.le_of_ble_eq_true rfl)) ⟨rfl, rfl⟩ SB.z rfl rfl (Nat.le_of_ble_eq_true rfl) (fun _ _ _ => ⟨_, List.mem_append_left _ (List.mem_of_getElem? (i := 3) rfl)⟩) rfl (wr := [(ads, .inr (7, [.int nm, .int rw, .int sg, .int ms, .ref adsv, .ref adsc])), (adsv, .inl (gI (kG K), nsv, .inl fsv)), (adsc, .inl (gI (kG K), nsc, .inl fsc)), (adlp, .inr (4, [.ref adlpw, .int q_14.2.2.2.1])), (adlpw, .inl (gI (kG K), 3673, .inl q_14.2.2.2.2)), (adh, .inr (6, [.ref ads, .ref adp, .ref adlp, .ref adwa, .ref adsa, .ref (ad 64), .ref (ad 81), .ref (ad 82), .ref (ad 83), .ref adshr, .int sf, .int st])), (adwa, .inl (gB (kG K), 64, .inr (.inr (.inr (.inr (wcont ad))))))]) [0, 1, 2, 5, 6, 7, 8] [3, 4] 9 rfl (by decide) rfl rfl ?_
        intro v9 w9 hp9
        obtain ⟨rfl, rfl⟩ := hp9
        show VB K (SB (kG K) ad aw fv_26) 0 3 [(ads, .inr (7, [.int nm, .int rw, .int sg, .int ms, .ref adsv, .ref adsc])), (adsv, .inl (gI (kG K), nsv, .inl fsv)), (adsc, .inl (gI (kG K), nsc, .inl fsc)), (adlp, .inr (4, [.ref adlpw, .int q_14.2.2.2.1])), (adlpw, .inl (gI (kG K), 3673, .inl q_14.2.2.2.2)), (adh, .inr (6, [.ref ads, .ref adp, .ref adlp, .ref adwa, .ref adsa, .ref (ad 64), .ref (ad 81), .ref (ad 82), .ref (ad 83), .ref adshr, .int sf, .int st])), (adwa, .inl (gB (kG K), 64, .inr (.inr (.inr (.inr (wcont ad)))))), (adp, .inr (4, [.ref adpw, .int r_24.1])), (adpw, .inl (gI (kG K), 3673, .inl r_24.2))] 164 [(0, .ref adh), (1, .int nam), (2, .int i2_15)] []
        obtain ⟨x2_27, ex2_27, h⟩ := lt_e (g := (lpk (lp (b_X7_weigh_84 sf st nm rw sg ms nsv fsv nsc fsc nam q_14) nn))) h
        refine vx_iinc (v := x2_27) hk dX7_weigh_164 rfl (by rw [ex2_27]; rfl) (by decide) [1, 2, 0] (lv' := [(0, .ref adh), (1, .int nam), (2, .int x2_27)]) rfl ?_
        refine vx_goto (tgt := 84) hk dX7_weigh_167 (by decide) ?_
        refine vx_perm [5, 0, 1, 2, 7, 8, 3, 4, 6] 9 rfl (by decide) (ws' := [(adh, .inr (6, [.ref ads, .ref adp, .ref adlp, .ref adwa, .ref adsa, .ref (ad 64), .ref (ad 81), .ref (ad 82), .ref (ad 83), .ref adshr, .int sf, .int st])), (ads, .inr (7, [.int nm, .int rw, .int sg, .int ms, .ref adsv, .ref adsc])), (adsv, .inl (gI (kG K), nsv, .inl fsv)), (adsc, .inl (gI (kG K), nsc, .inl fsc)), (adp, .inr (4, [.ref adpw, .int r_24.1])), (adpw, .inl (gI (kG K), 3673, .inl r_24.2)), (adlp, .inr (4, [.ref adlpw, .int q_14.2.2.2.1])), (adlpw, .inl (gI (kG K), 3673, .inl q_14.2.2.2.2)), (adwa, .inl (gB (kG K), 64, .inr (.inr (.inr (.inr (wcont ad))))))]) rfl ?_
        exact ih x2_27 r_24.1 r_24.2 fv_26 h
      · replace h := it_t (g := (lpk (lp (b_X7_weigh_84 sf st nm rw sg ms nsv fsv nsc fsc nam q_14) nn))) h hc
        refine vx_goto (tgt := 164) hk dX7_weigh_116 (by decide) ?_
        obtain ⟨x2_28, ex2_28, h⟩ := lt_e (g := (lpk (lp (b_X7_weigh_84 sf st nm rw sg ms nsv fsv nsc fsc nam q_14) nn))) h
        refine vx_iinc (v := x2_28) hk dX7_weigh_164 rfl (by rw [ex2_28]; rfl) (by decide) [1, 2, 0] (lv' := [(0, .ref adh), (1, .int nam), (2, .int x2_28)]) rfl ?_
        refine vx_goto (tgt := 84) hk dX7_weigh_167 (by decide) ?_
        refine vx_perm [7, 8, 0, 1, 2, 3, 4, 5, 6] 9 rfl (by decide) (ws' := [(adh, .inr (6, [.ref ads, .ref adp, .ref adlp, .ref adwa, .ref adsa, .ref (ad 64), .ref (ad 81), .ref (ad 82), .ref (ad 83), .ref adshr, .int sf, .int st])), (ads, .inr (7, [.int nm, .int rw, .int sg, .int ms, .ref adsv, .ref adsc])), (adsv, .inl (gI (kG K), nsv, .inl fsv)), (adsc, .inl (gI (kG K), nsc, .inl fsc)), (adp, .inr (4, [.ref adpw, .int pp_16])), (adpw, .inl (gI (kG K), 3673, .inl fpw_17)), (adlp, .inr (4, [.ref adlpw, .int q_14.2.2.2.1])), (adlpw, .inl (gI (kG K), 3673, .inl q_14.2.2.2.2)), (adwa, .inl (gB (kG K), 64, .inr (.inr (.inr (.inr (wcont ad))))))]) rfl ?_
        exact ih x2_28 pp_16 fpw_17 fv_20 h
set_option maxHeartbeats 4000000 in
set_option maxRecDepth 100000 in
theorem L_X7_weigh_172 {K : Cx} {R9 : Room} {ad : Nat → Nat} {aw : Nat → Nat} (hk : Ok K cX7_weigh 3 RX7 w2_X7_weigh R9) (hR9 : RoomGe R9 rm_X7_weigh) (adh : Nat) (ads : Nat) (adsv : Nat) (adsc : Nat) (adp : Nat) (adpw : Nat) (adlp : Nat) (adlpw : Nat) (adwa : Nat) (adsa : Nat) (adshr : Nat) (sf : Int32) (st : Int32) (nm : Int32) (rw : Int32) (sg : Int32) (ms : Int32) (nsv : Nat) (fsv : Nat → Int32) (nsc : Nat) (fsc : Nat → Int32) (nam : Int32) (q_14 : Int32 × Int32 × (Nat → Int32) × Int32 × (Nat → Int32)) (q_29 : Int32 × Int32 × (Nat → Int32) × (Nat → Nat)) (b9 : (Int32 × (Nat → Nat))) (kk0 : ∀ q9 : (Int32 × (Nat → Nat)), b9 = q9 → VB K (SB (kG K) ad aw q9.2) 0 3 [(adh, .inr (6, [.ref ads, .ref adp, .ref adlp, .ref adwa, .ref adsa, .ref (ad 64), .ref (ad 81), .ref (ad 82), .ref (ad 83), .ref adshr, .int sf, .int st])), (ads, .inr (7, [.int nm, .int rw, .int sg, .int ms, .ref adsv, .ref adsc])), (adsv, .inl (gI (kG K), nsv, .inl fsv)), (adsc, .inl (gI (kG K), nsc, .inl fsc)), (adp, .inr (4, [.ref adpw, .int q_29.2.1])), (adpw, .inl (gI (kG K), 3673, .inl q_29.2.2.1)), (adlp, .inr (4, [.ref adlpw, .int q_14.2.2.2.1])), (adlpw, .inl (gI (kG K), 3673, .inl q_14.2.2.2.2)), (adwa, .inl (gB (kG K), 64, .inr (.inr (.inr (.inr (wcont ad))))))] 200 [(0, .ref adh), (1, .int nam), (2, .int q9.1)] []) : ∀ (nn : Nat) (i2_30 : Int32) (ffam_31 : Nat → Nat), lp (b_X7_weigh_172 sf st nm rw sg ms nam) nn (i2_30, ffam_31) = some b9 → VB K (SB (kG K) ad aw ffam_31) 0 3 [(adh, .inr (6, [.ref ads, .ref adp, .ref adlp, .ref adwa, .ref adsa, .ref (ad 64), .ref (ad 81), .ref (ad 82), .ref (ad 83), .ref adshr, .int sf, .int st])), (ads, .inr (7, [.int nm, .int rw, .int sg, .int ms, .ref adsv, .ref adsc])), (adsv, .inl (gI (kG K), nsv, .inl fsv)), (adsc, .inl (gI (kG K), nsc, .inl fsc)), (adp, .inr (4, [.ref adpw, .int q_29.2.1])), (adpw, .inl (gI (kG K), 3673, .inl q_29.2.2.1)), (adlp, .inr (4, [.ref adlpw, .int q_14.2.2.2.1])), (adlpw, .inl (gI (kG K), 3673, .inl q_14.2.2.2.2)), (adwa, .inl (gB (kG K), 64, .inr (.inr (.inr (.inr (wcont ad))))))] 172 [(0, .ref adh), (1, .int nam), (2, .int i2_30)] [] := by
  intro nn
  induction nn with
  | zero => intro i2_30 ffam_31 h; exact absurd h (by simp [lp])
  | succ nn ih =>
    intro i2_30 ffam_31 h
    replace h := lp_s h
    rw [eb_X7_weigh_172] at h
    refine vx_iload_n hk dX7_weigh_172 rfl ?_
    refine vx_aload_n hk dX7_weigh_173 rfl ?_
    refine vx_get (C := RX7) (T := TX7) (N := 12) (ci := 6) (v := .ref ads) hk dX7_weigh_174 w2i_X7_weigh_X70 0 rfl rfl 0 (by decide) (by decide +kernel) rfl rfl ?_
    refine vx_get (C := RX8) (T := TX8) (N := 6) (ci := 7) (v := .int nm) hk dX7_weigh_177 w2i_X7_weigh_X80 1 rfl rfl 0 (by decide) (by decide +kernel) rfl rfl ?_
    refine vx_icmp_ge (tgt := 200) hk dX7_weigh_180 (by decide) (fun hc => ?_) (fun hc => ?_)
    · replace h := it_t (g := (lpk (lp (b_X7_weigh_172 sf st nm rw sg ms nam) nn))) h hc
      replace h : some (i2_30, ffam_31) = some b9 := h
      replace h := Option.some.inj h
      subst h
      exact kk0 _ rfl
    · replace h := it_f (g := (lpk (lp (b_X7_weigh_172 sf st nm rw sg ms nam) nn))) h hc
      refine vx_iload_n hk dX7_weigh_183 rfl ?_
      refine vx_iload_n hk dX7_weigh_184 rfl ?_
      refine vx_icmp_eq (tgt := 194) hk dX7_weigh_185 (by decide) (fun hc => ?_) (fun hc => ?_)
      · replace h := it_t (g := (lpk (lp (b_X7_weigh_172 sf st nm rw sg ms nam) nn))) h hc
        obtain ⟨x2_32, ex2_32, h⟩ := lt_e (g := (lpk (lp (b_X7_weigh_172 sf st nm rw sg ms nam) nn))) h
        refine vx_iinc (v := x2_32) hk dX7_weigh_194 rfl (by rw [ex2_32]; rfl) (by decide) [1, 2, 0] (lv' := [(0, .ref adh), (1, .int nam), (2, .int x2_32)]) rfl ?_
        refine vx_goto (tgt := 172) hk dX7_weigh_197 (by decide) ?_
        exact ih x2_32 ffam_31 h
      · replace h := it_f (g := (lpk (lp (b_X7_weigh_172 sf st nm rw sg ms nam) nn))) h hc
        refine vx_aload_n hk dX7_weigh_188 rfl ?_
        refine vx_iload_n hk dX7_weigh_189 rfl ?_
        refine vx_iload_n hk dX7_weigh_190 rfl ?_
        obtain ⟨r_33, er_33, h⟩ := bd_e (g := (lpk (lp (b_X7_weigh_172 sf st nm rw sg ms nam) nn))) rfl h
        refine vy_callF (n := 2) (st := []) (b := adh) (T := TX7) (N := 12) (ci := 6) hk dX7_weigh_191 (c_X7_addSmaller (kl K) (kG K) ad aw adh ads adwa adp adlp adsa adshr adsv adsc sf st nm rw sg ms ffam_31 nam i2_30 r_33 er_33) rfl gd_X7_weigh_X7_addSmaller rfl (by decide +kernel) (frok hR9 (Nat.le_of_ble_eq_true rfl) (Nat.le_of_ble_eq_true rfl)) ⟨rfl, rfl⟩ SB.z rfl rfl (Nat.le_of_ble_eq_true rfl) (fun _ _ _ => ⟨_, List.mem_append_left _ (List.mem_of_getElem? (i := 0) rfl)⟩) rfl (wr := [(adsv, .inl (gI (kG K), nsv, .inl fsv)), (adsc, .inl (gI (kG K), nsc, .inl fsc)), (adp, .inr (4, [.ref adpw, .int q_29.2.1])), (adpw, .inl (gI (kG K), 3673, .inl q_29.2.2.1)), (adlp, .inr (4, [.ref adlpw, .int q_14.2.2.2.1])), (adlpw, .inl (gI (kG K), 3673, .inl q_14.2.2.2.2))]) [2, 3, 4, 5, 6, 7] [0, 1, 8] 9 rfl (by decide) rfl rfl ?_
        intro v9 w9 hp9
        obtain ⟨rfl, rfl⟩ := hp9
        show VB K (SB (kG K) ad aw r_33) 0 3 [(adsv, .inl (gI (kG K), nsv, .inl fsv)), (adsc, .inl (gI (kG K), nsc, .inl fsc)), (adp, .inr (4, [.ref adpw, .int q_29.2.1])), (adpw, .inl (gI (kG K), 3673, .inl q_29.2.2.1)), (adlp, .inr (4, [.ref adlpw, .int q_14.2.2.2.1])), (adlpw, .inl (gI (kG K), 3673, .inl q_14.2.2.2.2)), (adh, .inr (6, [.ref ads, .ref adp, .ref adlp, .ref adwa, .ref adsa, .ref (ad 64), .ref (ad 81), .ref (ad 82), .ref (ad 83), .ref adshr, .int sf, .int st])), (ads, .inr (7, [.int nm, .int rw, .int sg, .int ms, .ref adsv, .ref adsc])), (adwa, .inl (gB (kG K), 64, .inr (.inr (.inr (.inr (wcont ad))))))] 194 [(0, .ref adh), (1, .int nam), (2, .int i2_30)] []
        obtain ⟨x2_34, ex2_34, h⟩ := lt_e (g := (lpk (lp (b_X7_weigh_172 sf st nm rw sg ms nam) nn))) h
        refine vx_iinc (v := x2_34) hk dX7_weigh_194 rfl (by rw [ex2_34]; rfl) (by decide) [1, 2, 0] (lv' := [(0, .ref adh), (1, .int nam), (2, .int x2_34)]) rfl ?_
        refine vx_goto (tgt := 172) hk dX7_weigh_197 (by decide) ?_
        refine vx_perm [6, 7, 0, 1, 2, 3, 4, 5, 8] 9 rfl (by decide) (ws' := [(adh, .inr (6, [.ref ads, .ref adp, .ref adlp, .ref adwa, .ref adsa, .ref (ad 64), .ref (ad 81), .ref (ad 82), .ref (ad 83), .ref adshr, .int sf, .int st])), (ads, .inr (7, [.int nm, .int rw, .int sg, .int ms, .ref adsv, .ref adsc])), (adsv, .inl (gI (kG K), nsv, .inl fsv)), (adsc, .inl (gI (kG K), nsc, .inl fsc)), (adp, .inr (4, [.ref adpw, .int q_29.2.1])), (adpw, .inl (gI (kG K), 3673, .inl q_29.2.2.1)), (adlp, .inr (4, [.ref adlpw, .int q_14.2.2.2.1])), (adlpw, .inl (gI (kG K), 3673, .inl q_14.2.2.2.2)), (adwa, .inl (gB (kG K), 64, .inr (.inr (.inr (.inr (wcont ad))))))]) rfl ?_
        exact ih x2_34 r_33 h
set_option maxHeartbeats 4000000 in
set_option maxRecDepth 100000 in
theorem c_X7_weigh (l : Launch) (G : GG) (ad aw : Nat → Nat) (adh : Nat) (ads : Nat) (adsv : Nat) (adsc : Nat) (adp : Nat) (adpw : Nat) (adlp : Nat) (adlpw : Nat) (adwa : Nat) (adsa : Nat) (adshr : Nat) (sf : Int32) (st : Int32) (nm : Int32) (rw : Int32) (sg : Int32) (ms : Int32) (nsv : Nat) (fsv : Nat → Int32) (nsc : Nat) (fsc : Nat → Int32) (lg : Int32) (fpw : Nat → Int32) (lgl : Int32) (flpw : Nat → Int32) (v : Nat → Nat) (nam : Int32) (r : Int32 × (Nat → Int32) × Int32 × (Nat → Int32) × (Nat → Nat)) (h : m_X7_weigh sf st nm rw sg ms nsv fsv nsc fsc lg fpw lgl flpw v nam = some r) : CtrF l G (SB G ad aw v) (SB G ad aw r.2.2.2.2) yX7_weigh w2_X7_weigh rm_X7_weigh [.ref adh, .int nam] [(adh, .inr (6, [.ref ads, .ref adp, .ref adlp, .ref adwa, .ref adsa, .ref (ad 64), .ref (ad 81), .ref (ad 82), .ref (ad 83), .ref adshr, .int sf, .int st])), (ads, .inr (7, [.int nm, .int rw, .int sg, .int ms, .ref adsv, .ref adsc])), (adsv, .inl (gI G, nsv, .inl fsv)), (adsc, .inl (gI G, nsc, .inl fsc)), (adp, .inr (4, [.ref adpw, .int lg])), (adpw, .inl (gI G, 3673, .inl fpw)), (adlp, .inr (4, [.ref adlpw, .int lgl])), (adlpw, .inl (gI G, 3673, .inl flpw)), (adwa, .inl (gB G, 64, .inr (.inr (.inr (.inr (wcont ad))))))] (fun v w9 => v = none ∧ w9 = [(adh, .inr (6, [.ref ads, .ref adp, .ref adlp, .ref adwa, .ref adsa, .ref (ad 64), .ref (ad 81), .ref (ad 82), .ref (ad 83), .ref adshr, .int sf, .int st])), (ads, .inr (7, [.int nm, .int rw, .int sg, .int ms, .ref adsv, .ref adsc])), (adsv, .inl (gI G, nsv, .inl fsv)), (adsc, .inl (gI G, nsc, .inl fsc)), (adp, .inr (4, [.ref adpw, .int r.1])), (adpw, .inl (gI G, 3673, .inl r.2.1)), (adlp, .inr (4, [.ref adlpw, .int r.2.2.1])), (adlpw, .inl (gI G, 3673, .inl r.2.2.2.1)), (adwa, .inl (gB G, 64, .inr (.inr (.inr (.inr (wcont ad))))))]) := by
  refine ctrF_entry SB.z SB.z (cc := cX7_weigh) (maxL := 3) (ret := none) (lv0 := [(0, .ref adh), (1, .int nam)]) (by decide) rfl (Nat.le_of_ble_eq_true rfl) rfl ?_
  intro K hl9 hG9 hk hn9 hrt
  subst hl9
  subst hG9
  have hR9 : RoomGe rm_X7_weigh rm_X7_weigh := RoomGe.rf
  replace h := id_e h
  rw [em_X7_weigh] at h
  refine vx_iconst (v := 0) hk dX7_weigh_0 (by decide) ?_
  refine vx_istore_n hk dX7_weigh_1 rfl (by decide) [1, 2, 0] (lv' := [(0, .ref adh), (1, .int nam), (2, .int 0)]) rfl ?_
  obtain ⟨b_38, eb_38, h⟩ := bd_e (g := id) rfl h
  refine L_X7_weigh_2 hk hR9 adh ads adsv adsc adp adpw adlp adlpw adwa adsa adshr sf st nm rw sg ms nsv fsv nsc fsc v nam b_38 (fun q_14 eq_14 => ?_) FU 0 lg fpw lgl flpw eb_38
  · replace eq_14 := eq_14.symm
    subst eq_14
    refine vx_iconst (v := 0) hk dX7_weigh_82 (by decide) ?_
    refine vx_istore_n hk dX7_weigh_83 rfl (by decide) [1, 2, 0] (lv' := [(0, .ref adh), (1, .int nam), (2, .int 0)]) rfl ?_
    obtain ⟨b_37, eb_37, h⟩ := bd_e (g := id) rfl h
    refine L_X7_weigh_84 hk hR9 adh ads adsv adsc adp adpw adlp adlpw adwa adsa adshr sf st nm rw sg ms nsv fsv nsc fsc nam q_14 b_37 (fun q_29 eq_29 => ?_) FU 0 q_14.2.1 q_14.2.2.1 v eb_37
    · replace eq_29 := eq_29.symm
      subst eq_29
      refine vx_iconst (v := 0) hk dX7_weigh_170 (by decide) ?_
      refine vx_istore_n hk dX7_weigh_171 rfl (by decide) [1, 2, 0] (lv' := [(0, .ref adh), (1, .int nam), (2, .int 0)]) rfl ?_
      obtain ⟨b_36, eb_36, h⟩ := bd_e (g := id) rfl h
      refine L_X7_weigh_172 hk hR9 adh ads adsv adsc adp adpw adlp adlpw adwa adsa adshr sf st nm rw sg ms nsv fsv nsc fsc nam q_14 q_29 b_36 (fun q_35 eq_35 => ?_) FU 0 q_29.2.2.2 eb_36
      · replace eq_35 := eq_35.symm
        subst eq_35
        replace h : some (q_29.2.1, q_29.2.2.1, q_14.2.2.2.1, q_14.2.2.2.2, q_35.2) = some r := h
        replace h := Option.some.inj h
        subst h
        refine hrt (none) _ _ _ (⟨rfl, rfl⟩) (dX7_weigh_200)
