/-! StructureSearch: what touches neither Fits nor Shares; refused calls -/
theorem nn_e {α β : Type} {g : Option α → Option β} {r : β} {P : Prop} (hg : g none = none) (h : g none = some r) : P := by
  rw [hg] at h
  cases h
noncomputable def m_X10_isName (nm : Int32) (rw : Int32) (sg : Int32) (ms : Int32) (nam : Int32) : Option Int32 := (if nam < 0 then some (0 : Int32) else lt (if nm ≤ nam then 0 else 1 : Int32) (fun z_2 : Int32 => some (z_2 : Int32))).bind (fun y_1 : Int32 => if bz y_1 = true then some y_1 else none)
theorem em_X10_isName (nm : Int32) (rw : Int32) (sg : Int32) (ms : Int32) (nam : Int32) : m_X10_isName nm rw sg ms nam = (if nam < 0 then some (0 : Int32) else lt (if nm ≤ nam then 0 else 1 : Int32) (fun z_2 : Int32 => some (z_2 : Int32))).bind (fun y_1 : Int32 => if bz y_1 = true then some y_1 else none) := rfl
noncomputable def m_X10_isPair (nm : Int32) (rw : Int32) (sg : Int32) (ms : Int32) (p0 : Int32) (p1 : Int32) : Option Int32 := (m_X10_isName nm rw sg ms p0).bind (fun r_1 : Int32 => if r_1 = 0 then some 0 else (m_X10_isName nm rw sg ms p1).bind (fun r_2 : Int32 => (if r_2 = 0 then some (0 : Int32) else lt (if p0 = p1 then 0 else 1 : Int32) (fun z_4 : Int32 => some (z_4 : Int32))).bind (fun y_3 : Int32 => if bz y_3 = true then some y_3 else none)))
theorem em_X10_isPair (nm : Int32) (rw : Int32) (sg : Int32) (ms : Int32) (p0 : Int32) (p1 : Int32) : m_X10_isPair nm rw sg ms p0 p1 = (m_X10_isName nm rw sg ms p0).bind (fun r_1 : Int32 => if r_1 = 0 then some 0 else (m_X10_isName nm rw sg ms p1).bind (fun r_2 : Int32 => (if r_2 = 0 then some (0 : Int32) else lt (if p0 = p1 then 0 else 1 : Int32) (fun z_4 : Int32 => some (z_4 : Int32))).bind (fun y_3 : Int32 => if bz y_3 = true then some y_3 else none))) := rfl
noncomputable def m_X10_isRow (nm : Int32) (rw : Int32) (sg : Int32) (ms : Int32) (row : Int32) : Option Int32 := (if row < 0 then some (0 : Int32) else lt (if rw ≤ row then 0 else 1 : Int32) (fun z_2 : Int32 => some (z_2 : Int32))).bind (fun y_1 : Int32 => if bz y_1 = true then some y_1 else none)
theorem em_X10_isRow (nm : Int32) (rw : Int32) (sg : Int32) (ms : Int32) (row : Int32) : m_X10_isRow nm rw sg ms row = (if row < 0 then some (0 : Int32) else lt (if rw ≤ row then 0 else 1 : Int32) (fun z_2 : Int32 => some (z_2 : Int32))).bind (fun y_1 : Int32 => if bz y_1 = true then some y_1 else none) := rfl
noncomputable def m_X10_isValue (nm : Int32) (rw : Int32) (sg : Int32) (ms : Int32) (nsv : Nat) (fsv : Nat → Int32) (nam : Int32) (v : Int32) : Option Int32 := if v < 0 then some 0 else (m_X8_valuesOf nm rw sg ms nsv fsv nam).bind (fun r_1 : Int32 => lt (if r_1 ≤ v then 0 else 1 : Int32) (fun z_2 : Int32 => if bz z_2 = true then some z_2 else none))
theorem em_X10_isValue (nm : Int32) (rw : Int32) (sg : Int32) (ms : Int32) (nsv : Nat) (fsv : Nat → Int32) (nam : Int32) (v : Int32) : m_X10_isValue nm rw sg ms nsv fsv nam v = if v < 0 then some 0 else (m_X8_valuesOf nm rw sg ms nsv fsv nam).bind (fun r_1 : Int32 => lt (if r_1 ≤ v then 0 else 1 : Int32) (fun z_2 : Int32 => if bz z_2 = true then some z_2 else none)) := rfl
noncomputable def m_X10_fitsName (nm : Int32) (rw : Int32) (sg : Int32) (ms : Int32) (nsv : Nat) (fsv : Nat → Int32) (nam : Int32) (v : Int32) : Option Int32 := (m_X10_isName nm rw sg ms nam).bind (fun r_1 : Int32 => if r_1 = 0 then some 1 else (m_X10_isValue nm rw sg ms nsv fsv nam v).bind (fun r_2 : Int32 => lt (if r_2 = 0 then 0 else 1 : Int32) (fun z_3 : Int32 => if bz z_3 = true then some z_3 else none)))
theorem em_X10_fitsName (nm : Int32) (rw : Int32) (sg : Int32) (ms : Int32) (nsv : Nat) (fsv : Nat → Int32) (nam : Int32) (v : Int32) : m_X10_fitsName nm rw sg ms nsv fsv nam v = (m_X10_isName nm rw sg ms nam).bind (fun r_1 : Int32 => if r_1 = 0 then some 1 else (m_X10_isValue nm rw sg ms nsv fsv nam v).bind (fun r_2 : Int32 => lt (if r_2 = 0 then 0 else 1 : Int32) (fun z_3 : Int32 => if bz z_3 = true then some z_3 else none))) := rfl
noncomputable def m_X10_coded (nm : Int32) (rw : Int32) (sg : Int32) (ms : Int32) (nam : Int32) (v : Int32) : Option Int32 := (m_X10_isName nm rw sg ms nam).bind (fun r_1 : Int32 => (if r_1 = 0 then some (0 : Int32) else some (v <<< ((2 * nam) &&& 31) : Int32)).bind (fun y_2 : Int32 => some y_2))
theorem em_X10_coded (nm : Int32) (rw : Int32) (sg : Int32) (ms : Int32) (nam : Int32) (v : Int32) : m_X10_coded nm rw sg ms nam v = (m_X10_isName nm rw sg ms nam).bind (fun r_1 : Int32 => (if r_1 = 0 then some (0 : Int32) else some (v <<< ((2 * nam) &&& 31) : Int32)).bind (fun y_2 : Int32 => some y_2)) := rfl
noncomputable def m_X10_isGraph (nm : Int32) (rw : Int32) (sg : Int32) (ms : Int32) (gr : Int32) : Option Int32 := (m_X0_areGraph gr nm).bind (fun r_1 : Int32 => if bz r_1 = true then some r_1 else none)
theorem em_X10_isGraph (nm : Int32) (rw : Int32) (sg : Int32) (ms : Int32) (gr : Int32) : m_X10_isGraph nm rw sg ms gr = (m_X0_areGraph gr nm).bind (fun r_1 : Int32 => if bz r_1 = true then some r_1 else none) := rfl
noncomputable def m_X10_value (nm : Int32) (rw : Int32) (sg : Int32) (ms : Int32) (nsc : Nat) (fsc : Nat → Int32) (row : Int32) (nam : Int32) : Option Int32 := (m_X10_isRow nm rw sg ms row).bind (fun r_1 : Int32 => if r_1 = 0 then some (-1) else (m_X10_isName nm rw sg ms nam).bind (fun r_2 : Int32 => if r_2 = 0 then some (-1) else (m_X8_valueIn nm rw sg ms nsc fsc row nam).bind (fun r_3 : Int32 => some r_3)))
theorem em_X10_value (nm : Int32) (rw : Int32) (sg : Int32) (ms : Int32) (nsc : Nat) (fsc : Nat → Int32) (row : Int32) (nam : Int32) : m_X10_value nm rw sg ms nsc fsc row nam = (m_X10_isRow nm rw sg ms row).bind (fun r_1 : Int32 => if r_1 = 0 then some (-1) else (m_X10_isName nm rw sg ms nam).bind (fun r_2 : Int32 => if r_2 = 0 then some (-1) else (m_X8_valueIn nm rw sg ms nsc fsc row nam).bind (fun r_3 : Int32 => some r_3))) := rfl
noncomputable def m_X10_about (nm : Int32) (rw : Int32) (sg : Int32) (ms : Int32) (nsv : Nat) (fsv : Nat → Int32) (what : Int32) : Option Int32 := if what = 0 then some nm else (if what = 1 then some rw else (if what = 2 then some sg else (if what = 3 then some ms else (if what < (4 : Int32) then some (-1) else (m_X10_isName nm rw sg ms (what - 4)).bind (fun r_1 : Int32 => if r_1 = 0 then some (-1) else (m_X8_valuesOf nm rw sg ms nsv fsv (what - 4)).bind (fun r_2 : Int32 => some r_2))))))
theorem em_X10_about (nm : Int32) (rw : Int32) (sg : Int32) (ms : Int32) (nsv : Nat) (fsv : Nat → Int32) (what : Int32) : m_X10_about nm rw sg ms nsv fsv what = if what = 0 then some nm else (if what = 1 then some rw else (if what = 2 then some sg else (if what = 3 then some ms else (if what < (4 : Int32) then some (-1) else (m_X10_isName nm rw sg ms (what - 4)).bind (fun r_1 : Int32 => if r_1 = 0 then some (-1) else (m_X8_valuesOf nm rw sg ms nsv fsv (what - 4)).bind (fun r_2 : Int32 => some r_2)))))) := rfl
noncomputable def b_X10_order_26 (nm : Int32) (gr : Int32) (i : Int32) : (Int32 × Int32 × Int32) → Option ((Int32 × Int32 × Int32) ⊕ ((Int32 × Int32 × Int32)))
  | (i3_3, i4_4, i5_5) => if i < i5_5 then some (.inr (i3_3, i4_4, i5_5)) else (m_X0_nextAfter gr nm i3_3).bind (fun r_6 : Int32 => lt (i3_3 ||| (1 <<< (r_6 &&& 31)) : Int32) (fun x3_7 : Int32 => lt (i5_5 + 1 : Int32) (fun x5_8 : Int32 => some (.inl (x3_7, r_6, x5_8)))))
theorem eb_X10_order_26 (nm : Int32) (gr : Int32) (i : Int32) (i3_3 : Int32) (i4_4 : Int32) (i5_5 : Int32) : b_X10_order_26 nm gr i (i3_3, i4_4, i5_5) = if i < i5_5 then some (.inr (i3_3, i4_4, i5_5)) else (m_X0_nextAfter gr nm i3_3).bind (fun r_6 : Int32 => lt (i3_3 ||| (1 <<< (r_6 &&& 31)) : Int32) (fun x3_7 : Int32 => lt (i5_5 + 1 : Int32) (fun x5_8 : Int32 => some (.inl (x3_7, r_6, x5_8))))) := rfl
noncomputable def m_X10_order (nm : Int32) (rw : Int32) (sg : Int32) (ms : Int32) (gr : Int32) (i : Int32) : Option Int32 := (m_X10_isGraph nm rw sg ms gr).bind (fun r_1 : Int32 => if r_1 = 0 then some (-1) else (m_X10_isName nm rw sg ms i).bind (fun r_2 : Int32 => if r_2 = 0 then some (-1) else (lp (b_X10_order_26 nm gr i) FU (0, 0, 0)).bind (fun q_9 : Int32 × Int32 × Int32 => some q_9.2.1)))
theorem em_X10_order (nm : Int32) (rw : Int32) (sg : Int32) (ms : Int32) (gr : Int32) (i : Int32) : m_X10_order nm rw sg ms gr i = (m_X10_isGraph nm rw sg ms gr).bind (fun r_1 : Int32 => if r_1 = 0 then some (-1) else (m_X10_isName nm rw sg ms i).bind (fun r_2 : Int32 => if r_2 = 0 then some (-1) else (lp (b_X10_order_26 nm gr i) FU (0, 0, 0)).bind (fun q_9 : Int32 × Int32 × Int32 => some q_9.2.1))) := rfl
noncomputable def m_X10_alike (nm : Int32) (rw : Int32) (sg : Int32) (ms : Int32) (gr : Int32) (ot : Int32) : Option Int32 := (m_X10_isGraph nm rw sg ms gr).bind (fun r_1 : Int32 => if r_1 = 0 then some (-1) else (m_X10_isGraph nm rw sg ms ot).bind (fun r_2 : Int32 => if r_2 = 0 then some (-1) else (m_X4_ties gr).bind (fun r_3 : Int32 => (m_X4_ties ot).bind (fun r_4 : Int32 => if r_3 = r_4 then (m_X4_meetings gr).bind (fun r_5 : Int64 => (m_X4_meetings ot).bind (fun r_6 : Int64 => lt (if (lg_cmp r_5 r_6) = 0 then 1 else 0 : Int32) (fun z_7 : Int32 => lt (if z_7 = 0 then 0 else 1 : Int32) (fun z_8 : Int32 => some z_8)))) else some 0))))
theorem em_X10_alike (nm : Int32) (rw : Int32) (sg : Int32) (ms : Int32) (gr : Int32) (ot : Int32) : m_X10_alike nm rw sg ms gr ot = (m_X10_isGraph nm rw sg ms gr).bind (fun r_1 : Int32 => if r_1 = 0 then some (-1) else (m_X10_isGraph nm rw sg ms ot).bind (fun r_2 : Int32 => if r_2 = 0 then some (-1) else (m_X4_ties gr).bind (fun r_3 : Int32 => (m_X4_ties ot).bind (fun r_4 : Int32 => if r_3 = r_4 then (m_X4_meetings gr).bind (fun r_5 : Int64 => (m_X4_meetings ot).bind (fun r_6 : Int64 => lt (if (lg_cmp r_5 r_6) = 0 then 1 else 0 : Int32) (fun z_7 : Int32 => lt (if z_7 = 0 then 0 else 1 : Int32) (fun z_8 : Int32 => some z_8)))) else some 0)))) := rfl
noncomputable def m_X10_wordOf (u : Int32) (nw : Nat) (fw : Nat → Int64) (i : Int32) : Option Int64 := if i < 0 then some (-1) else (m_X1_length u nw fw).bind (fun r_1 : Int32 => if r_1 ≤ i then some (-1) else (m_X1_at u nw fw i).bind (fun r_2 : Int64 => some r_2))
theorem em_X10_wordOf (u : Int32) (nw : Nat) (fw : Nat → Int64) (i : Int32) : m_X10_wordOf u nw fw i = if i < 0 then some (-1) else (m_X1_length u nw fw).bind (fun r_1 : Int32 => if r_1 ≤ i then some (-1) else (m_X1_at u nw fw i).bind (fun r_2 : Int64 => some r_2)) := rfl
noncomputable def m_X10_test (ntc : Nat) (ftc : Nat → Int32) (ntf : Nat) (ftf : Nat → Int32) (nts : Nat) (fts : Nat → Int32) (nm : Int32) (rw : Int32) (sg : Int32) (ms : Int32) (nsv : Nat) (fsv : Nat → Int32) (nsc : Nat) (fsc : Nat → Int32) (p0 : Int32) (p1 : Int32) (p2 : Int32) (v : Int32) (part : Int32) : Option (Int64 × (Nat → Int32) × (Nat → Int32) × (Nat → Int32)) := (m_X10_isPair nm rw sg ms p0 p1).bind (fun r_1 : Int32 => if r_1 = 0 then some ((-1), ftc, ftf, fts) else (m_X10_isPart part).bind (fun r_2 : Int32 => if r_2 = 0 then some ((-1), ftc, ftf, fts) else if p2 = ((-1) : Int32) then (m_X9_count ntc ftc ntf ftf nts fts nm rw sg ms nsc fsc p0 p1 p2 v).bind (fun r_3 : (Nat → Int32) × (Nat → Int32) × (Nat → Int32) => if part = 0 then (m_X9_waysNotAbove ntc r_3.1 ntf r_3.2.1 nts r_3.2.2).bind (fun r_5 : Int64 => some (r_5, r_3.1, r_3.2.1, r_3.2.2)) else (m_X9_allWays nts r_3.2.2).bind (fun r_4 : Int64 => some (r_4, r_3.1, r_3.2.1, r_3.2.2))) else (m_X10_isPair nm rw sg ms p0 p2).bind (fun r_6 : Int32 => if r_6 = 0 then some ((-1), ftc, ftf, fts) else (m_X10_isPair nm rw sg ms p1 p2).bind (fun r_7 : Int32 => if r_7 = 0 then some ((-1), ftc, ftf, fts) else (m_X10_isValue nm rw sg ms nsv fsv p2 v).bind (fun r_8 : Int32 => if r_8 = 0 then some ((-1), ftc, ftf, fts) else (m_X9_count ntc ftc ntf ftf nts fts nm rw sg ms nsc fsc p0 p1 p2 v).bind (fun r_9 : (Nat → Int32) × (Nat → Int32) × (Nat → Int32) => if part = 0 then (m_X9_waysNotAbove ntc r_9.1 ntf r_9.2.1 nts r_9.2.2).bind (fun r_11 : Int64 => some (r_11, r_9.1, r_9.2.1, r_9.2.2)) else (m_X9_allWays nts r_9.2.2).bind (fun r_10 : Int64 => some (r_10, r_9.1, r_9.2.1, r_9.2.2))))))))
theorem em_X10_test (ntc : Nat) (ftc : Nat → Int32) (ntf : Nat) (ftf : Nat → Int32) (nts : Nat) (fts : Nat → Int32) (nm : Int32) (rw : Int32) (sg : Int32) (ms : Int32) (nsv : Nat) (fsv : Nat → Int32) (nsc : Nat) (fsc : Nat → Int32) (p0 : Int32) (p1 : Int32) (p2 : Int32) (v : Int32) (part : Int32) : m_X10_test ntc ftc ntf ftf nts fts nm rw sg ms nsv fsv nsc fsc p0 p1 p2 v part = (m_X10_isPair nm rw sg ms p0 p1).bind (fun r_1 : Int32 => if r_1 = 0 then some ((-1), ftc, ftf, fts) else (m_X10_isPart part).bind (fun r_2 : Int32 => if r_2 = 0 then some ((-1), ftc, ftf, fts) else if p2 = ((-1) : Int32) then (m_X9_count ntc ftc ntf ftf nts fts nm rw sg ms nsc fsc p0 p1 p2 v).bind (fun r_3 : (Nat → Int32) × (Nat → Int32) × (Nat → Int32) => if part = 0 then (m_X9_waysNotAbove ntc r_3.1 ntf r_3.2.1 nts r_3.2.2).bind (fun r_5 : Int64 => some (r_5, r_3.1, r_3.2.1, r_3.2.2)) else (m_X9_allWays nts r_3.2.2).bind (fun r_4 : Int64 => some (r_4, r_3.1, r_3.2.1, r_3.2.2))) else (m_X10_isPair nm rw sg ms p0 p2).bind (fun r_6 : Int32 => if r_6 = 0 then some ((-1), ftc, ftf, fts) else (m_X10_isPair nm rw sg ms p1 p2).bind (fun r_7 : Int32 => if r_7 = 0 then some ((-1), ftc, ftf, fts) else (m_X10_isValue nm rw sg ms nsv fsv p2 v).bind (fun r_8 : Int32 => if r_8 = 0 then some ((-1), ftc, ftf, fts) else (m_X9_count ntc ftc ntf ftf nts fts nm rw sg ms nsc fsc p0 p1 p2 v).bind (fun r_9 : (Nat → Int32) × (Nat → Int32) × (Nat → Int32) => if part = 0 then (m_X9_waysNotAbove ntc r_9.1 ntf r_9.2.1 nts r_9.2.2).bind (fun r_11 : Int64 => some (r_11, r_9.1, r_9.2.1, r_9.2.2)) else (m_X9_allWays nts r_9.2.2).bind (fun r_10 : Int64 => some (r_10, r_9.1, r_9.2.1, r_9.2.2)))))))) := rfl
noncomputable def m_X10_name (nm : Int32) (rw : Int32) (sg : Int32) (ms : Int32) (nsv : Nat) (fsv : Nat → Int32) (nsc : Nat) (fsc : Nat → Int32) (v : Int32) : Option Int32 := if v = (2 : Int32) then if rw ≤ 0 then if nm < (5 : Int32) then none else some (-3) else some (-2) else if v = (3 : Int32) then if rw ≤ 0 then if nm < (5 : Int32) then none else some (-3) else some (-2) else some (-1)
theorem em_X10_name (nm : Int32) (rw : Int32) (sg : Int32) (ms : Int32) (nsv : Nat) (fsv : Nat → Int32) (nsc : Nat) (fsc : Nat → Int32) (v : Int32) : m_X10_name nm rw sg ms nsv fsv nsc fsc v = if v = (2 : Int32) then if rw ≤ 0 then if nm < (5 : Int32) then none else some (-3) else some (-2) else if v = (3 : Int32) then if rw ≤ 0 then if nm < (5 : Int32) then none else some (-3) else some (-2) else some (-1) := rfl
noncomputable def m_X10_row (nm : Int32) (rw : Int32) (sg : Int32) (ms : Int32) (nsv : Nat) (fsv : Nat → Int32) (nsc : Nat) (fsc : Nat → Int32) (p0 : Int32) (p1 : Int32) (p2 : Int32) (p3 : Int32) (p4 : Int32) : Option Int32 := (m_X10_fitsName nm rw sg ms nsv fsv 0 p0).bind (fun r_1 : Int32 => if r_1 = 0 then some (-1) else (m_X10_fitsName nm rw sg ms nsv fsv 1 p1).bind (fun r_2 : Int32 => if r_2 = 0 then some (-1) else (m_X10_fitsName nm rw sg ms nsv fsv 2 p2).bind (fun r_3 : Int32 => if r_3 = 0 then some (-1) else (m_X10_fitsName nm rw sg ms nsv fsv 3 p3).bind (fun r_4 : Int32 => if r_4 = 0 then some (-1) else (m_X10_fitsName nm rw sg ms nsv fsv 4 p4).bind (fun r_5 : Int32 => if r_5 = 0 then some (-1) else if nm = 0 then some (-2) else if rw < (16 : Int32) then none else some (-3))))))
theorem em_X10_row (nm : Int32) (rw : Int32) (sg : Int32) (ms : Int32) (nsv : Nat) (fsv : Nat → Int32) (nsc : Nat) (fsc : Nat → Int32) (p0 : Int32) (p1 : Int32) (p2 : Int32) (p3 : Int32) (p4 : Int32) : m_X10_row nm rw sg ms nsv fsv nsc fsc p0 p1 p2 p3 p4 = (m_X10_fitsName nm rw sg ms nsv fsv 0 p0).bind (fun r_1 : Int32 => if r_1 = 0 then some (-1) else (m_X10_fitsName nm rw sg ms nsv fsv 1 p1).bind (fun r_2 : Int32 => if r_2 = 0 then some (-1) else (m_X10_fitsName nm rw sg ms nsv fsv 2 p2).bind (fun r_3 : Int32 => if r_3 = 0 then some (-1) else (m_X10_fitsName nm rw sg ms nsv fsv 3 p3).bind (fun r_4 : Int32 => if r_4 = 0 then some (-1) else (m_X10_fitsName nm rw sg ms nsv fsv 4 p4).bind (fun r_5 : Int32 => if r_5 = 0 then some (-1) else if nm = 0 then some (-2) else if rw < (16 : Int32) then none else some (-3)))))) := rfl
noncomputable def m_X10_drop (nm : Int32) (rw : Int32) (sg : Int32) (ms : Int32) (nsv : Nat) (fsv : Nat → Int32) (nsc : Nat) (fsc : Nat → Int32) (row : Int32) : Option Int32 := (m_X10_isRow nm rw sg ms row).bind (fun r_1 : Int32 => if r_1 = 0 then some (-1) else none)
theorem em_X10_drop (nm : Int32) (rw : Int32) (sg : Int32) (ms : Int32) (nsv : Nat) (fsv : Nat → Int32) (nsc : Nat) (fsc : Nat → Int32) (row : Int32) : m_X10_drop nm rw sg ms nsv fsv nsc fsc row = (m_X10_isRow nm rw sg ms row).bind (fun r_1 : Int32 => if r_1 = 0 then some (-1) else none) := rfl
noncomputable def m_X10_set (nm : Int32) (rw : Int32) (sg : Int32) (ms : Int32) (nsv : Nat) (fsv : Nat → Int32) (nsc : Nat) (fsc : Nat → Int32) (what : Int32) (v : Int32) : Option (Int32 × Int32 × Int32) := if what = 0 then if v < (1 : Int32) then if what = (1 : Int32) then if v < 0 then some ((-1), sg, ms) else if (4 : Int32) < v then some ((-1), sg, ms) else none else some ((-1), sg, ms) else if (9 : Int32) < v then if what = (1 : Int32) then if v < 0 then some ((-1), sg, ms) else if (4 : Int32) < v then some ((-1), sg, ms) else none else some ((-1), sg, ms) else none else if what = (1 : Int32) then if v < 0 then some ((-1), sg, ms) else if (4 : Int32) < v then some ((-1), sg, ms) else none else some ((-1), sg, ms)
theorem em_X10_set (nm : Int32) (rw : Int32) (sg : Int32) (ms : Int32) (nsv : Nat) (fsv : Nat → Int32) (nsc : Nat) (fsc : Nat → Int32) (what : Int32) (v : Int32) : m_X10_set nm rw sg ms nsv fsv nsc fsc what v = if what = 0 then if v < (1 : Int32) then if what = (1 : Int32) then if v < 0 then some ((-1), sg, ms) else if (4 : Int32) < v then some ((-1), sg, ms) else none else some ((-1), sg, ms) else if (9 : Int32) < v then if what = (1 : Int32) then if v < 0 then some ((-1), sg, ms) else if (4 : Int32) < v then some ((-1), sg, ms) else none else some ((-1), sg, ms) else none else if what = (1 : Int32) then if v < 0 then some ((-1), sg, ms) else if (4 : Int32) < v then some ((-1), sg, ms) else none else some ((-1), sg, ms) := rfl
abbrev rm_X10_isName : Room := { frames := 0, cells := 0, slots := 0, locals := 0 }
set_option maxHeartbeats 4000000 in
set_option maxRecDepth 100000 in
theorem c_X10_isName (l : Launch) (G : GG) (ado : Nat) (vs_h : Value) (ads : Nat) (adp : Nat) (adx : Nat) (ady : Nat) (adt : Nat) (adsv : Nat) (adsc : Nat) (nm : Int32) (rw : Int32) (sg : Int32) (ms : Int32) (nam : Int32) (r : Int32) (h : m_X10_isName nm rw sg ms nam = some r) : Ctr l G yX10_isName w2_X10_isName rm_X10_isName [.ref ado, .int nam] [(ado, .inr (9, [.ref ads, .ref adp, .ref adx, .ref ady, .ref adt, vs_h])), (ads, .inr (7, [.int nm, .int rw, .int sg, .int ms, .ref adsv, .ref adsc]))] (fun v w => v = some (.int r) ∧ w = [(ado, .inr (9, [.ref ads, .ref adp, .ref adx, .ref ady, .ref adt, vs_h])), (ads, .inr (7, [.int nm, .int rw, .int sg, .int ms, .ref adsv, .ref adsc]))]) := by
  refine ctr_entry (cc := cX10_isName) (maxL := 2) (ret := some .boolean) (lv0 := [(0, .ref ado), (1, .int nam)]) (by decide) rfl (Nat.le_of_ble_eq_true rfl) (rfl) ?_
  intro K hl9 hG9 hk hn9 hrt
  subst hl9
  subst hG9
  have hR9 : RoomGe rm_X10_isName rm_X10_isName := RoomGe.rf
  replace h := id_e h
  rw [em_X10_isName] at h
  refine v_iload_n hk dX10_isName_0 rfl ?_
  obtain ⟨y_1, ey_1, h⟩ := bd_e (g := id) rfl h
  have Jy_1 : V K 2 [(ado, .inr (9, [.ref ads, .ref adp, .ref adx, .ref ady, .ref adt, vs_h])), (ads, .inr (7, [.int nm, .int rw, .int sg, .int ms, .ref adsv, .ref adsc]))] 0 0 20 [(0, .ref ado), (1, .int nam)] [.int y_1] := by
    obtain ⟨hbz, h⟩ := ok_e (g := id) rfl h
    replace h : some y_1 = some r := h
    replace h := Option.some.inj h
    subst h
    refine hrt (some (.int y_1)) _ _ _ _ _ (⟨rfl, rfl⟩) (Nat.zero_le _) (Nat.zero_le _) (⟨dX10_isName_20, nar_z _ (of_decide_eq_true hbz)⟩)
  clear h
  have h := id_e ey_1
  clear ey_1
  refine v_if_lt (tgt := 19) hk dX10_isName_1 (by decide) (fun hc => ?_) (fun hc => ?_)
  · replace h := it_t (g := id) h hc
    refine v_iconst (v := 0) hk dX10_isName_19 (by decide) ?_
    replace h : some (0 : Int32) = some y_1 := h
    replace h := Option.some.inj h
    subst h
    exact Jy_1
  · replace h := it_f (g := id) h hc
    refine v_iload_n hk dX10_isName_4 rfl ?_
    refine v_aload_n hk dX10_isName_5 rfl ?_
    refine v_get (C := RX10) (T := TX10) (N := 6) (ci := 9) (v := .ref ads) hk dX10_isName_6 w2i_X10_isName_X100 0 rfl rfl 0 (by decide) (by decide +kernel) rfl rfl ?_
    refine v_get (C := RX8) (T := TX8) (N := 6) (ci := 7) (v := .int nm) hk dX10_isName_9 w2i_X10_isName_X80 1 rfl rfl 0 (by decide) (by decide +kernel) rfl rfl ?_
    obtain ⟨z_2, ez_2, h⟩ := lt_e (g := id) h
    have Jz_2 : V K 2 [(ado, .inr (9, [.ref ads, .ref adp, .ref adx, .ref ady, .ref adt, vs_h])), (ads, .inr (7, [.int nm, .int rw, .int sg, .int ms, .ref adsv, .ref adsc]))] 0 0 20 [(0, .ref ado), (1, .int nam)] (.int z_2 :: []) := by
      replace h : some (z_2 : Int32) = some y_1 := h
      replace h := Option.some.inj h
      subst h
      exact Jy_1
    refine v_icmp_ge (tgt := 19) hk dX10_isName_12 (by decide) (fun hc => ?_) (fun hc => ?_)
    · rw [if_pos hc] at ez_2
      subst ez_2
      refine v_iconst (v := 0) hk dX10_isName_19 (by decide) ?_
      exact Jz_2
    · rw [if_neg hc] at ez_2
      subst ez_2
      refine v_iconst (v := 1) hk dX10_isName_15 (by decide) ?_
      refine v_goto (tgt := 20) hk dX10_isName_16 (by decide) ?_
      exact Jz_2
abbrev rm_X10_isPair : Room := { frames := 1, cells := 0, slots := 0, locals := 21 }
set_option maxHeartbeats 4000000 in
set_option maxRecDepth 100000 in
theorem c_X10_isPair (l : Launch) (G : GG) (ado : Nat) (vs_h : Value) (ads : Nat) (adp : Nat) (adx : Nat) (ady : Nat) (adt : Nat) (adsv : Nat) (adsc : Nat) (nm : Int32) (rw : Int32) (sg : Int32) (ms : Int32) (p0 : Int32) (p1 : Int32) (r : Int32) (h : m_X10_isPair nm rw sg ms p0 p1 = some r) : Ctr l G yX10_isPair w2_X10_isPair rm_X10_isPair [.ref ado, .int p0, .int p1] [(ado, .inr (9, [.ref ads, .ref adp, .ref adx, .ref ady, .ref adt, vs_h])), (ads, .inr (7, [.int nm, .int rw, .int sg, .int ms, .ref adsv, .ref adsc]))] (fun v w => v = some (.int r) ∧ w = [(ado, .inr (9, [.ref ads, .ref adp, .ref adx, .ref ady, .ref adt, vs_h])), (ads, .inr (7, [.int nm, .int rw, .int sg, .int ms, .ref adsv, .ref adsc]))]) := by
  refine ctr_entry (cc := cX10_isPair) (maxL := 3) (ret := some .boolean) (lv0 := [(0, .ref ado), (1, .int p0), (2, .int p1)]) (by decide) rfl (Nat.le_of_ble_eq_true rfl) (rfl) ?_
  intro K hl9 hG9 hk hn9 hrt
  subst hl9
  subst hG9
  have hR9 : RoomGe rm_X10_isPair rm_X10_isPair := RoomGe.rf
  replace h := id_e h
  rw [em_X10_isPair] at h
  refine v_aload_n hk dX10_isPair_0 rfl ?_
  refine v_iload_n hk dX10_isPair_1 rfl ?_
  obtain ⟨r_1, er_1, h⟩ := bd_e (g := id) rfl h
  refine v_callV (n := 1) (st := []) (b := ado) (T := TX10) (N := 6) hk dX10_isPair_2 (c_X10_isName (kl K) (kG K) ado vs_h ads adp adx ady adt adsv adsc nm rw sg ms p0 r_1 er_1) rfl gd_X10_isPair_X10_isName rfl (by decide +kernel) (frok hR9 (Nat.le_of_ble_eq_true rfl) (Nat.le_of_ble_eq_true rfl)) (roomk hR9 (Nat.le_of_ble_eq_true rfl) (Nat.le_of_ble_eq_true rfl)) rfl rfl (Nat.le_of_ble_eq_true rfl) 0 rfl rfl [0, 1] [] (wr := []) rfl rfl (by decide) (by decide) (by decide) ?_
  intro v9 w9 hp9
  obtain ⟨rfl, rfl⟩ := hp9
  show V K 3 [(ado, .inr (9, [.ref ads, .ref adp, .ref adx, .ref ady, .ref adt, vs_h])), (ads, .inr (7, [.int nm, .int rw, .int sg, .int ms, .ref adsv, .ref adsc]))] 0 0 5 [(0, .ref ado), (1, .int p0), (2, .int p1)] [.int r_1]
  refine v_if_eq (tgt := 25) hk dX10_isPair_5 (by decide) (fun hc => ?_) (fun hc => ?_)
  · replace h := it_t (g := id) h hc
    refine v_iconst (v := 0) hk dX10_isPair_25 (by decide) ?_
    replace h : some 0 = some r := h
    replace h := Option.some.inj h
    subst h
    refine hrt (some (.int 0)) _ _ _ _ _ (⟨rfl, rfl⟩) (Nat.zero_le _) (Nat.zero_le _) (⟨dX10_isPair_26, rfl⟩)
  · replace h := it_f (g := id) h hc
    refine v_aload_n hk dX10_isPair_8 rfl ?_
    refine v_iload_n hk dX10_isPair_9 rfl ?_
    obtain ⟨r_2, er_2, h⟩ := bd_e (g := id) rfl h
    refine v_callV (n := 1) (st := []) (b := ado) (T := TX10) (N := 6) hk dX10_isPair_10 (c_X10_isName (kl K) (kG K) ado vs_h ads adp adx ady adt adsv adsc nm rw sg ms p1 r_2 er_2) rfl gd_X10_isPair_X10_isName rfl (by decide +kernel) (frok hR9 (Nat.le_of_ble_eq_true rfl) (Nat.le_of_ble_eq_true rfl)) (roomk hR9 (Nat.le_of_ble_eq_true rfl) (Nat.le_of_ble_eq_true rfl)) rfl rfl (Nat.le_of_ble_eq_true rfl) 0 rfl rfl [0, 1] [] (wr := []) rfl rfl (by decide) (by decide) (by decide) ?_
    intro v9 w9 hp9
    obtain ⟨rfl, rfl⟩ := hp9
    show V K 3 [(ado, .inr (9, [.ref ads, .ref adp, .ref adx, .ref ady, .ref adt, vs_h])), (ads, .inr (7, [.int nm, .int rw, .int sg, .int ms, .ref adsv, .ref adsc]))] 0 0 13 [(0, .ref ado), (1, .int p0), (2, .int p1)] [.int r_2]
    obtain ⟨y_3, ey_3, h⟩ := bd_e (g := id) rfl h
    have Jy_3 : V K 3 [(ado, .inr (9, [.ref ads, .ref adp, .ref adx, .ref ady, .ref adt, vs_h])), (ads, .inr (7, [.int nm, .int rw, .int sg, .int ms, .ref adsv, .ref adsc]))] 0 0 26 [(0, .ref ado), (1, .int p0), (2, .int p1)] [.int y_3] := by
      obtain ⟨hbz, h⟩ := ok_e (g := id) rfl h
      replace h : some y_3 = some r := h
      replace h := Option.some.inj h
      subst h
      refine hrt (some (.int y_3)) _ _ _ _ _ (⟨rfl, rfl⟩) (Nat.zero_le _) (Nat.zero_le _) (⟨dX10_isPair_26, nar_z _ (of_decide_eq_true hbz)⟩)
    clear h
    have h := id_e ey_3
    clear ey_3
    refine v_if_eq (tgt := 25) hk dX10_isPair_13 (by decide) (fun hc => ?_) (fun hc => ?_)
    · replace h := it_t (g := id) h hc
      refine v_iconst (v := 0) hk dX10_isPair_25 (by decide) ?_
      replace h : some (0 : Int32) = some y_3 := h
      replace h := Option.some.inj h
      subst h
      exact Jy_3
    · replace h := it_f (g := id) h hc
      refine v_iload_n hk dX10_isPair_16 rfl ?_
      refine v_iload_n hk dX10_isPair_17 rfl ?_
      obtain ⟨z_4, ez_4, h⟩ := lt_e (g := id) h
      have Jz_4 : V K 3 [(ado, .inr (9, [.ref ads, .ref adp, .ref adx, .ref ady, .ref adt, vs_h])), (ads, .inr (7, [.int nm, .int rw, .int sg, .int ms, .ref adsv, .ref adsc]))] 0 0 26 [(0, .ref ado), (1, .int p0), (2, .int p1)] (.int z_4 :: []) := by
        replace h : some (z_4 : Int32) = some y_3 := h
        replace h := Option.some.inj h
        subst h
        exact Jy_3
      refine v_icmp_eq (tgt := 25) hk dX10_isPair_18 (by decide) (fun hc => ?_) (fun hc => ?_)
      · rw [if_pos hc] at ez_4
        subst ez_4
        refine v_iconst (v := 0) hk dX10_isPair_25 (by decide) ?_
        exact Jz_4
      · rw [if_neg hc] at ez_4
        subst ez_4
        refine v_iconst (v := 1) hk dX10_isPair_21 (by decide) ?_
        refine v_goto (tgt := 26) hk dX10_isPair_22 (by decide) ?_
        exact Jz_4
abbrev rm_X10_isRow : Room := { frames := 0, cells := 0, slots := 0, locals := 0 }
set_option maxHeartbeats 4000000 in
set_option maxRecDepth 100000 in
theorem c_X10_isRow (l : Launch) (G : GG) (ado : Nat) (vs_h : Value) (ads : Nat) (adp : Nat) (adx : Nat) (ady : Nat) (adt : Nat) (adsv : Nat) (adsc : Nat) (nm : Int32) (rw : Int32) (sg : Int32) (ms : Int32) (row : Int32) (r : Int32) (h : m_X10_isRow nm rw sg ms row = some r) : Ctr l G yX10_isRow w2_X10_isRow rm_X10_isRow [.ref ado, .int row] [(ado, .inr (9, [.ref ads, .ref adp, .ref adx, .ref ady, .ref adt, vs_h])), (ads, .inr (7, [.int nm, .int rw, .int sg, .int ms, .ref adsv, .ref adsc]))] (fun v w => v = some (.int r) ∧ w = [(ado, .inr (9, [.ref ads, .ref adp, .ref adx, .ref ady, .ref adt, vs_h])), (ads, .inr (7, [.int nm, .int rw, .int sg, .int ms, .ref adsv, .ref adsc]))]) := by
  refine ctr_entry (cc := cX10_isRow) (maxL := 2) (ret := some .boolean) (lv0 := [(0, .ref ado), (1, .int row)]) (by decide) rfl (Nat.le_of_ble_eq_true rfl) (rfl) ?_
  intro K hl9 hG9 hk hn9 hrt
  subst hl9
  subst hG9
  have hR9 : RoomGe rm_X10_isRow rm_X10_isRow := RoomGe.rf
  replace h := id_e h
  rw [em_X10_isRow] at h
  refine v_iload_n hk dX10_isRow_0 rfl ?_
  obtain ⟨y_1, ey_1, h⟩ := bd_e (g := id) rfl h
  have Jy_1 : V K 2 [(ado, .inr (9, [.ref ads, .ref adp, .ref adx, .ref ady, .ref adt, vs_h])), (ads, .inr (7, [.int nm, .int rw, .int sg, .int ms, .ref adsv, .ref adsc]))] 0 0 20 [(0, .ref ado), (1, .int row)] [.int y_1] := by
    obtain ⟨hbz, h⟩ := ok_e (g := id) rfl h
    replace h : some y_1 = some r := h
    replace h := Option.some.inj h
    subst h
    refine hrt (some (.int y_1)) _ _ _ _ _ (⟨rfl, rfl⟩) (Nat.zero_le _) (Nat.zero_le _) (⟨dX10_isRow_20, nar_z _ (of_decide_eq_true hbz)⟩)
  clear h
  have h := id_e ey_1
  clear ey_1
  refine v_if_lt (tgt := 19) hk dX10_isRow_1 (by decide) (fun hc => ?_) (fun hc => ?_)
  · replace h := it_t (g := id) h hc
    refine v_iconst (v := 0) hk dX10_isRow_19 (by decide) ?_
    replace h : some (0 : Int32) = some y_1 := h
    replace h := Option.some.inj h
    subst h
    exact Jy_1
  · replace h := it_f (g := id) h hc
    refine v_iload_n hk dX10_isRow_4 rfl ?_
    refine v_aload_n hk dX10_isRow_5 rfl ?_
    refine v_get (C := RX10) (T := TX10) (N := 6) (ci := 9) (v := .ref ads) hk dX10_isRow_6 w2i_X10_isRow_X100 0 rfl rfl 0 (by decide) (by decide +kernel) rfl rfl ?_
    refine v_get (C := RX8) (T := TX8) (N := 6) (ci := 7) (v := .int rw) hk dX10_isRow_9 w2i_X10_isRow_X80 1 rfl rfl 1 (by decide) (by decide +kernel) rfl rfl ?_
    obtain ⟨z_2, ez_2, h⟩ := lt_e (g := id) h
    have Jz_2 : V K 2 [(ado, .inr (9, [.ref ads, .ref adp, .ref adx, .ref ady, .ref adt, vs_h])), (ads, .inr (7, [.int nm, .int rw, .int sg, .int ms, .ref adsv, .ref adsc]))] 0 0 20 [(0, .ref ado), (1, .int row)] (.int z_2 :: []) := by
      replace h : some (z_2 : Int32) = some y_1 := h
      replace h := Option.some.inj h
      subst h
      exact Jy_1
    refine v_icmp_ge (tgt := 19) hk dX10_isRow_12 (by decide) (fun hc => ?_) (fun hc => ?_)
    · rw [if_pos hc] at ez_2
      subst ez_2
      refine v_iconst (v := 0) hk dX10_isRow_19 (by decide) ?_
      exact Jz_2
    · rw [if_neg hc] at ez_2
      subst ez_2
      refine v_iconst (v := 1) hk dX10_isRow_15 (by decide) ?_
      refine v_goto (tgt := 20) hk dX10_isRow_16 (by decide) ?_
      exact Jz_2
abbrev rm_X10_isValue : Room := { frames := 1, cells := 0, slots := 0, locals := 21 }
set_option maxHeartbeats 4000000 in
set_option maxRecDepth 100000 in
theorem c_X10_isValue (l : Launch) (G : GG) (ado : Nat) (vs_h : Value) (ads : Nat) (adsv : Nat) (adp : Nat) (adx : Nat) (ady : Nat) (adt : Nat) (adsc : Nat) (nm : Int32) (rw : Int32) (sg : Int32) (ms : Int32) (nsv : Nat) (fsv : Nat → Int32) (nam : Int32) (v : Int32) (r : Int32) (h : m_X10_isValue nm rw sg ms nsv fsv nam v = some r) : Ctr l G yX10_isValue w2_X10_isValue rm_X10_isValue [.ref ado, .int nam, .int v] [(ado, .inr (9, [.ref ads, .ref adp, .ref adx, .ref ady, .ref adt, vs_h])), (ads, .inr (7, [.int nm, .int rw, .int sg, .int ms, .ref adsv, .ref adsc])), (adsv, .inl (gI G, nsv, .inl fsv))] (fun v w => v = some (.int r) ∧ w = [(ado, .inr (9, [.ref ads, .ref adp, .ref adx, .ref ady, .ref adt, vs_h])), (ads, .inr (7, [.int nm, .int rw, .int sg, .int ms, .ref adsv, .ref adsc])), (adsv, .inl (gI G, nsv, .inl fsv))]) := by
  refine ctr_entry (cc := cX10_isValue) (maxL := 3) (ret := some .boolean) (lv0 := [(0, .ref ado), (1, .int nam), (2, .int v)]) (by decide) rfl (Nat.le_of_ble_eq_true rfl) (rfl) ?_
  intro K hl9 hG9 hk hn9 hrt
  subst hl9
  subst hG9
  have hR9 : RoomGe rm_X10_isValue rm_X10_isValue := RoomGe.rf
  replace h := id_e h
  rw [em_X10_isValue] at h
  refine v_iload_n hk dX10_isValue_0 rfl ?_
  refine v_if_lt (tgt := 20) hk dX10_isValue_1 (by decide) (fun hc => ?_) (fun hc => ?_)
  · replace h := it_t (g := id) h hc
    refine v_iconst (v := 0) hk dX10_isValue_20 (by decide) ?_
    replace h : some 0 = some r := h
    replace h := Option.some.inj h
    subst h
    refine hrt (some (.int 0)) _ _ _ _ _ (⟨rfl, rfl⟩) (Nat.zero_le _) (Nat.zero_le _) (⟨dX10_isValue_21, rfl⟩)
  · replace h := it_f (g := id) h hc
    refine v_iload_n hk dX10_isValue_4 rfl ?_
    refine v_aload_n hk dX10_isValue_5 rfl ?_
    refine v_get (C := RX10) (T := TX10) (N := 6) (ci := 9) (v := .ref ads) hk dX10_isValue_6 w2i_X10_isValue_X100 0 rfl rfl 0 (by decide) (by decide +kernel) rfl rfl ?_
    refine v_iload_n hk dX10_isValue_9 rfl ?_
    obtain ⟨r_1, er_1, h⟩ := bd_e (g := id) rfl h
    refine v_callV (n := 1) (st := [.int v]) (b := ads) (T := TX8) (N := 6) hk dX10_isValue_10 (c_X8_valuesOf (kl K) (kG K) ads adsv adsc nm rw sg ms nsv fsv nam r_1 er_1) rfl gd_X10_isValue_X8_valuesOf rfl (by decide +kernel) (frok hR9 (Nat.le_of_ble_eq_true rfl) (Nat.le_of_ble_eq_true rfl)) (roomk hR9 (Nat.le_of_ble_eq_true rfl) (Nat.le_of_ble_eq_true rfl)) rfl rfl (Nat.le_of_ble_eq_true rfl) 1 rfl rfl [1, 2] [0] (wr := [(ado, .inr (9, [.ref ads, .ref adp, .ref adx, .ref ady, .ref adt, vs_h]))]) rfl rfl (by decide) (by decide) (by decide) ?_
    intro v9 w9 hp9
    obtain ⟨rfl, rfl⟩ := hp9
    show V K 3 [(ado, .inr (9, [.ref ads, .ref adp, .ref adx, .ref ady, .ref adt, vs_h])), (ads, .inr (7, [.int nm, .int rw, .int sg, .int ms, .ref adsv, .ref adsc])), (adsv, .inl (gI (kG K), nsv, .inl fsv))] 0 0 13 [(0, .ref ado), (1, .int nam), (2, .int v)] [.int r_1, .int v]
    obtain ⟨z_2, ez_2, h⟩ := lt_e (g := id) h
    have Jz_2 : V K 3 [(ado, .inr (9, [.ref ads, .ref adp, .ref adx, .ref ady, .ref adt, vs_h])), (ads, .inr (7, [.int nm, .int rw, .int sg, .int ms, .ref adsv, .ref adsc])), (adsv, .inl (gI (kG K), nsv, .inl fsv))] 0 0 21 [(0, .ref ado), (1, .int nam), (2, .int v)] (.int z_2 :: []) := by
      obtain ⟨hbz, h⟩ := ok_e (g := id) rfl h
      replace h : some z_2 = some r := h
      replace h := Option.some.inj h
      subst h
      refine hrt (some (.int z_2)) _ _ _ _ _ (⟨rfl, rfl⟩) (Nat.zero_le _) (Nat.zero_le _) (⟨dX10_isValue_21, nar_z _ (of_decide_eq_true hbz)⟩)
    refine v_icmp_ge (tgt := 20) hk dX10_isValue_13 (by decide) (fun hc => ?_) (fun hc => ?_)
    · rw [if_pos hc] at ez_2
      subst ez_2
      refine v_iconst (v := 0) hk dX10_isValue_20 (by decide) ?_
      exact Jz_2
    · rw [if_neg hc] at ez_2
      subst ez_2
      refine v_iconst (v := 1) hk dX10_isValue_16 (by decide) ?_
      refine v_goto (tgt := 21) hk dX10_isValue_17 (by decide) ?_
      exact Jz_2
abbrev rm_X10_fitsName : Room := { frames := 2, cells := 0, slots := 0, locals := 43 }
set_option maxHeartbeats 4000000 in
set_option maxRecDepth 100000 in
theorem c_X10_fitsName (l : Launch) (G : GG) (ado : Nat) (vs_h : Value) (ads : Nat) (adsv : Nat) (adp : Nat) (adx : Nat) (ady : Nat) (adt : Nat) (adsc : Nat) (nm : Int32) (rw : Int32) (sg : Int32) (ms : Int32) (nsv : Nat) (fsv : Nat → Int32) (nam : Int32) (v : Int32) (r : Int32) (h : m_X10_fitsName nm rw sg ms nsv fsv nam v = some r) : Ctr l G yX10_fitsName w2_X10_fitsName rm_X10_fitsName [.ref ado, .int nam, .int v] [(ado, .inr (9, [.ref ads, .ref adp, .ref adx, .ref ady, .ref adt, vs_h])), (ads, .inr (7, [.int nm, .int rw, .int sg, .int ms, .ref adsv, .ref adsc])), (adsv, .inl (gI G, nsv, .inl fsv))] (fun v w => v = some (.int r) ∧ w = [(ado, .inr (9, [.ref ads, .ref adp, .ref adx, .ref ady, .ref adt, vs_h])), (ads, .inr (7, [.int nm, .int rw, .int sg, .int ms, .ref adsv, .ref adsc])), (adsv, .inl (gI G, nsv, .inl fsv))]) := by
  refine ctr_entry (cc := cX10_fitsName) (maxL := 3) (ret := some .boolean) (lv0 := [(0, .ref ado), (1, .int nam), (2, .int v)]) (by decide) rfl (Nat.le_of_ble_eq_true rfl) (rfl) ?_
  intro K hl9 hG9 hk hn9 hrt
  subst hl9
  subst hG9
  have hR9 : RoomGe rm_X10_fitsName rm_X10_fitsName := RoomGe.rf
  replace h := id_e h
  rw [em_X10_fitsName] at h
  refine v_aload_n hk dX10_fitsName_0 rfl ?_
  refine v_iload_n hk dX10_fitsName_1 rfl ?_
  obtain ⟨r_1, er_1, h⟩ := bd_e (g := id) rfl h
  refine v_callV (n := 1) (st := []) (b := ado) (T := TX10) (N := 6) hk dX10_fitsName_2 (c_X10_isName (kl K) (kG K) ado vs_h ads adp adx ady adt adsv adsc nm rw sg ms nam r_1 er_1) rfl gd_X10_fitsName_X10_isName rfl (by decide +kernel) (frok hR9 (Nat.le_of_ble_eq_true rfl) (Nat.le_of_ble_eq_true rfl)) (roomk hR9 (Nat.le_of_ble_eq_true rfl) (Nat.le_of_ble_eq_true rfl)) rfl rfl (Nat.le_of_ble_eq_true rfl) 0 rfl rfl [0, 1] [2] (wr := [(adsv, .inl (gI (kG K), nsv, .inl fsv))]) rfl rfl (by decide) (by decide) (by decide) ?_
  intro v9 w9 hp9
  obtain ⟨rfl, rfl⟩ := hp9
  show V K 3 [(adsv, .inl (gI (kG K), nsv, .inl fsv)), (ado, .inr (9, [.ref ads, .ref adp, .ref adx, .ref ady, .ref adt, vs_h])), (ads, .inr (7, [.int nm, .int rw, .int sg, .int ms, .ref adsv, .ref adsc]))] 0 0 5 [(0, .ref ado), (1, .int nam), (2, .int v)] [.int r_1]
  refine v_if_eq (tgt := 17) hk dX10_fitsName_5 (by decide) (fun hc => ?_) (fun hc => ?_)
  · replace h := it_t (g := id) h hc
    refine v_iconst (v := 1) hk dX10_fitsName_17 (by decide) ?_
    refine v_goto (tgt := 22) hk dX10_fitsName_18 (by decide) ?_
    replace h : some 1 = some r := h
    replace h := Option.some.inj h
    subst h
    refine v_perm [1, 2, 0] (ws' := [(ado, .inr (9, [.ref ads, .ref adp, .ref adx, .ref ady, .ref adt, vs_h])), (ads, .inr (7, [.int nm, .int rw, .int sg, .int ms, .ref adsv, .ref adsc])), (adsv, .inl (gI (kG K), nsv, .inl fsv))]) rfl rfl (by decide) ?_
    refine hrt (some (.int 1)) _ _ _ _ _ (⟨rfl, rfl⟩) (Nat.zero_le _) (Nat.zero_le _) (⟨dX10_fitsName_22, rfl⟩)
  · replace h := it_f (g := id) h hc
    refine v_aload_n hk dX10_fitsName_8 rfl ?_
    refine v_iload_n hk dX10_fitsName_9 rfl ?_
    refine v_iload_n hk dX10_fitsName_10 rfl ?_
    obtain ⟨r_2, er_2, h⟩ := bd_e (g := id) rfl h
    refine v_callV (n := 2) (st := []) (b := ado) (T := TX10) (N := 6) hk dX10_fitsName_11 (c_X10_isValue (kl K) (kG K) ado vs_h ads adsv adp adx ady adt adsc nm rw sg ms nsv fsv nam v r_2 er_2) rfl gd_X10_fitsName_X10_isValue rfl (by decide +kernel) (frok hR9 (Nat.le_of_ble_eq_true rfl) (Nat.le_of_ble_eq_true rfl)) (roomk hR9 (Nat.le_of_ble_eq_true rfl) (Nat.le_of_ble_eq_true rfl)) rfl rfl (Nat.le_of_ble_eq_true rfl) 1 rfl rfl [1, 2, 0] [] (wr := []) rfl rfl (by decide) (by decide) (by decide) ?_
    intro v9 w9 hp9
    obtain ⟨rfl, rfl⟩ := hp9
    show V K 3 [(ado, .inr (9, [.ref ads, .ref adp, .ref adx, .ref ady, .ref adt, vs_h])), (ads, .inr (7, [.int nm, .int rw, .int sg, .int ms, .ref adsv, .ref adsc])), (adsv, .inl (gI (kG K), nsv, .inl fsv))] 0 0 14 [(0, .ref ado), (1, .int nam), (2, .int v)] [.int r_2]
    obtain ⟨z_3, ez_3, h⟩ := lt_e (g := id) h
    have Jz_3 : V K 3 [(ado, .inr (9, [.ref ads, .ref adp, .ref adx, .ref ady, .ref adt, vs_h])), (ads, .inr (7, [.int nm, .int rw, .int sg, .int ms, .ref adsv, .ref adsc])), (adsv, .inl (gI (kG K), nsv, .inl fsv))] 0 0 22 [(0, .ref ado), (1, .int nam), (2, .int v)] (.int z_3 :: []) := by
      obtain ⟨hbz, h⟩ := ok_e (g := id) rfl h
      replace h : some z_3 = some r := h
      replace h := Option.some.inj h
      subst h
      refine hrt (some (.int z_3)) _ _ _ _ _ (⟨rfl, rfl⟩) (Nat.zero_le _) (Nat.zero_le _) (⟨dX10_fitsName_22, nar_z _ (of_decide_eq_true hbz)⟩)
    refine v_if_eq (tgt := 21) hk dX10_fitsName_14 (by decide) (fun hc => ?_) (fun hc => ?_)
    · rw [if_pos hc] at ez_3
      subst ez_3
      refine v_iconst (v := 0) hk dX10_fitsName_21 (by decide) ?_
      exact Jz_3
    · rw [if_neg hc] at ez_3
      subst ez_3
      refine v_iconst (v := 1) hk dX10_fitsName_17 (by decide) ?_
      refine v_goto (tgt := 22) hk dX10_fitsName_18 (by decide) ?_
      exact Jz_3
abbrev rm_X10_coded : Room := { frames := 1, cells := 0, slots := 0, locals := 21 }
set_option maxHeartbeats 4000000 in
set_option maxRecDepth 100000 in
theorem c_X10_coded (l : Launch) (G : GG) (ado : Nat) (vs_h : Value) (ads : Nat) (adp : Nat) (adx : Nat) (ady : Nat) (adt : Nat) (adsv : Nat) (adsc : Nat) (nm : Int32) (rw : Int32) (sg : Int32) (ms : Int32) (nam : Int32) (v : Int32) (r : Int32) (h : m_X10_coded nm rw sg ms nam v = some r) : Ctr l G yX10_coded w2_X10_coded rm_X10_coded [.ref ado, .int nam, .int v] [(ado, .inr (9, [.ref ads, .ref adp, .ref adx, .ref ady, .ref adt, vs_h])), (ads, .inr (7, [.int nm, .int rw, .int sg, .int ms, .ref adsv, .ref adsc]))] (fun v w => v = some (.int r) ∧ w = [(ado, .inr (9, [.ref ads, .ref adp, .ref adx, .ref ady, .ref adt, vs_h])), (ads, .inr (7, [.int nm, .int rw, .int sg, .int ms, .ref adsv, .ref adsc]))]) := by
  refine ctr_entry (cc := cX10_coded) (maxL := 3) (ret := some .int) (lv0 := [(0, .ref ado), (1, .int nam), (2, .int v)]) (by decide) rfl (Nat.le_of_ble_eq_true rfl) (rfl) ?_
  intro K hl9 hG9 hk hn9 hrt
  subst hl9
  subst hG9
  have hR9 : RoomGe rm_X10_coded rm_X10_coded := RoomGe.rf
  replace h := id_e h
  rw [em_X10_coded] at h
  refine v_aload_n hk dX10_coded_0 rfl ?_
  refine v_iload_n hk dX10_coded_1 rfl ?_
  obtain ⟨r_1, er_1, h⟩ := bd_e (g := id) rfl h
  refine v_callV (n := 1) (st := []) (b := ado) (T := TX10) (N := 6) hk dX10_coded_2 (c_X10_isName (kl K) (kG K) ado vs_h ads adp adx ady adt adsv adsc nm rw sg ms nam r_1 er_1) rfl gd_X10_coded_X10_isName rfl (by decide +kernel) (frok hR9 (Nat.le_of_ble_eq_true rfl) (Nat.le_of_ble_eq_true rfl)) (roomk hR9 (Nat.le_of_ble_eq_true rfl) (Nat.le_of_ble_eq_true rfl)) rfl rfl (Nat.le_of_ble_eq_true rfl) 0 rfl rfl [0, 1] [] (wr := []) rfl rfl (by decide) (by decide) (by decide) ?_
  intro v9 w9 hp9
  obtain ⟨rfl, rfl⟩ := hp9
  show V K 3 [(ado, .inr (9, [.ref ads, .ref adp, .ref adx, .ref ady, .ref adt, vs_h])), (ads, .inr (7, [.int nm, .int rw, .int sg, .int ms, .ref adsv, .ref adsc]))] 0 0 5 [(0, .ref ado), (1, .int nam), (2, .int v)] [.int r_1]
  obtain ⟨y_2, ey_2, h⟩ := bd_e (g := id) rfl h
  have Jy_2 : V K 3 [(ado, .inr (9, [.ref ads, .ref adp, .ref adx, .ref ady, .ref adt, vs_h])), (ads, .inr (7, [.int nm, .int rw, .int sg, .int ms, .ref adsv, .ref adsc]))] 0 0 17 [(0, .ref ado), (1, .int nam), (2, .int v)] [.int y_2] := by
    replace h : some y_2 = some r := h
    replace h := Option.some.inj h
    subst h
    refine hrt (some (.int y_2)) _ _ _ _ _ (⟨rfl, rfl⟩) (Nat.zero_le _) (Nat.zero_le _) (dX10_coded_17)
  clear h
  have h := id_e ey_2
  clear ey_2
  refine v_if_eq (tgt := 16) hk dX10_coded_5 (by decide) (fun hc => ?_) (fun hc => ?_)
  · replace h := it_t (g := id) h hc
    refine v_iconst (v := 0) hk dX10_coded_16 (by decide) ?_
    replace h : some (0 : Int32) = some y_2 := h
    replace h := Option.some.inj h
    subst h
    exact Jy_2
  · replace h := it_f (g := id) h hc
    refine v_iload_n hk dX10_coded_8 rfl ?_
    refine v_iconst (v := 2) hk dX10_coded_9 (by decide) ?_
    refine v_iload_n hk dX10_coded_10 rfl ?_
    refine v_imul hk dX10_coded_11 ?_
    refine v_ishl hk dX10_coded_12 ?_
    refine v_goto (tgt := 17) hk dX10_coded_13 (by decide) ?_
    replace h : some (v <<< ((2 * nam) &&& 31) : Int32) = some y_2 := h
    replace h := Option.some.inj h
    subst h
    exact Jy_2
abbrev rm_X10_isGraph : Room := { frames := 4, cells := 0, slots := 0, locals := 94 }
set_option maxHeartbeats 4000000 in
set_option maxRecDepth 100000 in
theorem c_X10_isGraph (l : Launch) (G : GG) (ado : Nat) (vs_h : Value) (ads : Nat) (adp : Nat) (adx : Nat) (ady : Nat) (adt : Nat) (adsv : Nat) (adsc : Nat) (nm : Int32) (rw : Int32) (sg : Int32) (ms : Int32) (gr : Int32) (r : Int32) (h : m_X10_isGraph nm rw sg ms gr = some r) : Ctr l G yX10_isGraph w2_X10_isGraph rm_X10_isGraph [.ref ado, .int gr] [(ado, .inr (9, [.ref ads, .ref adp, .ref adx, .ref ady, .ref adt, vs_h])), (ads, .inr (7, [.int nm, .int rw, .int sg, .int ms, .ref adsv, .ref adsc]))] (fun v w => v = some (.int r) ∧ w = [(ado, .inr (9, [.ref ads, .ref adp, .ref adx, .ref ady, .ref adt, vs_h])), (ads, .inr (7, [.int nm, .int rw, .int sg, .int ms, .ref adsv, .ref adsc]))]) := by
  refine ctr_entry (cc := cX10_isGraph) (maxL := 2) (ret := some .boolean) (lv0 := [(0, .ref ado), (1, .int gr)]) (by decide) rfl (Nat.le_of_ble_eq_true rfl) (rfl) ?_
  intro K hl9 hG9 hk hn9 hrt
  subst hl9
  subst hG9
  have hR9 : RoomGe rm_X10_isGraph rm_X10_isGraph := RoomGe.rf
  replace h := id_e h
  rw [em_X10_isGraph] at h
  refine v_iload_n hk dX10_isGraph_0 rfl ?_
  refine v_aload_n hk dX10_isGraph_1 rfl ?_
  refine v_get (C := RX10) (T := TX10) (N := 6) (ci := 9) (v := .ref ads) hk dX10_isGraph_2 w2i_X10_isGraph_X100 0 rfl rfl 0 (by decide) (by decide +kernel) rfl rfl ?_
  refine v_get (C := RX8) (T := TX8) (N := 6) (ci := 7) (v := .int nm) hk dX10_isGraph_5 w2i_X10_isGraph_X80 1 rfl rfl 0 (by decide) (by decide +kernel) rfl rfl ?_
  obtain ⟨r_1, er_1, h⟩ := bd_e (g := id) rfl h
  refine v_callS (n := 2) (st := []) hk dX10_isGraph_8 (c_X0_areGraph (kl K) (kG K) gr nm r_1 er_1) gd_X10_isGraph_X0_areGraph rfl (by decide +kernel) (frok hR9 (Nat.le_of_ble_eq_true rfl) (Nat.le_of_ble_eq_true rfl)) (roomk hR9 (Nat.le_of_ble_eq_true rfl) (Nat.le_of_ble_eq_true rfl)) rfl rfl (Nat.le_of_ble_eq_true rfl) [] [0, 1] (wr := [(ado, .inr (9, [.ref ads, .ref adp, .ref adx, .ref ady, .ref adt, vs_h])), (ads, .inr (7, [.int nm, .int rw, .int sg, .int ms, .ref adsv, .ref adsc]))]) rfl rfl (by decide) (by decide) (by decide) ?_
  intro v9 w9 hp9
  obtain ⟨rfl, rfl⟩ := hp9
  show V K 2 [(ado, .inr (9, [.ref ads, .ref adp, .ref adx, .ref ady, .ref adt, vs_h])), (ads, .inr (7, [.int nm, .int rw, .int sg, .int ms, .ref adsv, .ref adsc]))] 0 0 11 [(0, .ref ado), (1, .int gr)] [.int r_1]
  obtain ⟨hbz, h⟩ := ok_e (g := id) rfl h
  replace h : some r_1 = some r := h
  replace h := Option.some.inj h
  subst h
  refine hrt (some (.int r_1)) _ _ _ _ _ (⟨rfl, rfl⟩) (Nat.zero_le _) (Nat.zero_le _) (⟨dX10_isGraph_11, nar_z _ (of_decide_eq_true hbz)⟩)
abbrev rm_X10_value : Room := { frames := 2, cells := 0, slots := 0, locals := 43 }
set_option maxHeartbeats 4000000 in
set_option maxRecDepth 100000 in
theorem c_X10_value (l : Launch) (G : GG) (ado : Nat) (vs_h : Value) (ads : Nat) (adsc : Nat) (adp : Nat) (adx : Nat) (ady : Nat) (adt : Nat) (adsv : Nat) (nm : Int32) (rw : Int32) (sg : Int32) (ms : Int32) (nsc : Nat) (fsc : Nat → Int32) (row : Int32) (nam : Int32) (r : Int32) (h : m_X10_value nm rw sg ms nsc fsc row nam = some r) : Ctr l G yX10_value w2_X10_value rm_X10_value [.ref ado, .int row, .int nam] [(ado, .inr (9, [.ref ads, .ref adp, .ref adx, .ref ady, .ref adt, vs_h])), (ads, .inr (7, [.int nm, .int rw, .int sg, .int ms, .ref adsv, .ref adsc])), (adsc, .inl (gI G, nsc, .inl fsc))] (fun v w => v = some (.int r) ∧ w = [(ado, .inr (9, [.ref ads, .ref adp, .ref adx, .ref ady, .ref adt, vs_h])), (ads, .inr (7, [.int nm, .int rw, .int sg, .int ms, .ref adsv, .ref adsc])), (adsc, .inl (gI G, nsc, .inl fsc))]) := by
  refine ctr_entry (cc := cX10_value) (maxL := 3) (ret := some .int) (lv0 := [(0, .ref ado), (1, .int row), (2, .int nam)]) (by decide) rfl (Nat.le_of_ble_eq_true rfl) (rfl) ?_
  intro K hl9 hG9 hk hn9 hrt
  subst hl9
  subst hG9
  have hR9 : RoomGe rm_X10_value rm_X10_value := RoomGe.rf
  replace h := id_e h
  rw [em_X10_value] at h
  refine v_aload_n hk dX10_value_0 rfl ?_
  refine v_iload_n hk dX10_value_1 rfl ?_
  obtain ⟨r_1, er_1, h⟩ := bd_e (g := id) rfl h
  refine v_callV (n := 1) (st := []) (b := ado) (T := TX10) (N := 6) hk dX10_value_2 (c_X10_isRow (kl K) (kG K) ado vs_h ads adp adx ady adt adsv adsc nm rw sg ms row r_1 er_1) rfl gd_X10_value_X10_isRow rfl (by decide +kernel) (frok hR9 (Nat.le_of_ble_eq_true rfl) (Nat.le_of_ble_eq_true rfl)) (roomk hR9 (Nat.le_of_ble_eq_true rfl) (Nat.le_of_ble_eq_true rfl)) rfl rfl (Nat.le_of_ble_eq_true rfl) 0 rfl rfl [0, 1] [2] (wr := [(adsc, .inl (gI (kG K), nsc, .inl fsc))]) rfl rfl (by decide) (by decide) (by decide) ?_
  intro v9 w9 hp9
  obtain ⟨rfl, rfl⟩ := hp9
  show V K 3 [(adsc, .inl (gI (kG K), nsc, .inl fsc)), (ado, .inr (9, [.ref ads, .ref adp, .ref adx, .ref ady, .ref adt, vs_h])), (ads, .inr (7, [.int nm, .int rw, .int sg, .int ms, .ref adsv, .ref adsc]))] 0 0 5 [(0, .ref ado), (1, .int row), (2, .int nam)] [.int r_1]
  refine v_if_eq (tgt := 28) hk dX10_value_5 (by decide) (fun hc => ?_) (fun hc => ?_)
  · replace h := it_t (g := id) h hc
    refine v_iconst (v := (-1)) hk dX10_value_28 (by decide) ?_
    replace h : some (-1) = some r := h
    replace h := Option.some.inj h
    subst h
    refine v_perm [1, 2, 0] (ws' := [(ado, .inr (9, [.ref ads, .ref adp, .ref adx, .ref ady, .ref adt, vs_h])), (ads, .inr (7, [.int nm, .int rw, .int sg, .int ms, .ref adsv, .ref adsc])), (adsc, .inl (gI (kG K), nsc, .inl fsc))]) rfl rfl (by decide) ?_
    refine hrt (some (.int (-1))) _ _ _ _ _ (⟨rfl, rfl⟩) (Nat.zero_le _) (Nat.zero_le _) (dX10_value_29)
  · replace h := it_f (g := id) h hc
    refine v_aload_n hk dX10_value_8 rfl ?_
    refine v_iload_n hk dX10_value_9 rfl ?_
    obtain ⟨r_2, er_2, h⟩ := bd_e (g := id) rfl h
    refine v_callV (n := 1) (st := []) (b := ado) (T := TX10) (N := 6) hk dX10_value_10 (c_X10_isName (kl K) (kG K) ado vs_h ads adp adx ady adt adsv adsc nm rw sg ms nam r_2 er_2) rfl gd_X10_value_X10_isName rfl (by decide +kernel) (frok hR9 (Nat.le_of_ble_eq_true rfl) (Nat.le_of_ble_eq_true rfl)) (roomk hR9 (Nat.le_of_ble_eq_true rfl) (Nat.le_of_ble_eq_true rfl)) rfl rfl (Nat.le_of_ble_eq_true rfl) 1 rfl rfl [1, 2] [0] (wr := [(adsc, .inl (gI (kG K), nsc, .inl fsc))]) rfl rfl (by decide) (by decide) (by decide) ?_
    intro v9 w9 hp9
    obtain ⟨rfl, rfl⟩ := hp9
    show V K 3 [(adsc, .inl (gI (kG K), nsc, .inl fsc)), (ado, .inr (9, [.ref ads, .ref adp, .ref adx, .ref ady, .ref adt, vs_h])), (ads, .inr (7, [.int nm, .int rw, .int sg, .int ms, .ref adsv, .ref adsc]))] 0 0 13 [(0, .ref ado), (1, .int row), (2, .int nam)] [.int r_2]
    refine v_if_eq (tgt := 28) hk dX10_value_13 (by decide) (fun hc => ?_) (fun hc => ?_)
    · replace h := it_t (g := id) h hc
      refine v_iconst (v := (-1)) hk dX10_value_28 (by decide) ?_
      replace h : some (-1) = some r := h
      replace h := Option.some.inj h
      subst h
      refine v_perm [1, 2, 0] (ws' := [(ado, .inr (9, [.ref ads, .ref adp, .ref adx, .ref ady, .ref adt, vs_h])), (ads, .inr (7, [.int nm, .int rw, .int sg, .int ms, .ref adsv, .ref adsc])), (adsc, .inl (gI (kG K), nsc, .inl fsc))]) rfl rfl (by decide) ?_
      refine hrt (some (.int (-1))) _ _ _ _ _ (⟨rfl, rfl⟩) (Nat.zero_le _) (Nat.zero_le _) (dX10_value_29)
    · replace h := it_f (g := id) h hc
      refine v_aload_n hk dX10_value_16 rfl ?_
      refine v_get (C := RX10) (T := TX10) (N := 6) (ci := 9) (v := .ref ads) hk dX10_value_17 w2i_X10_value_X100 1 rfl rfl 0 (by decide) (by decide +kernel) rfl rfl ?_
      refine v_iload_n hk dX10_value_20 rfl ?_
      refine v_iload_n hk dX10_value_21 rfl ?_
      obtain ⟨r_3, er_3, h⟩ := bd_e (g := id) rfl h
      refine v_callV (n := 2) (st := []) (b := ads) (T := TX8) (N := 6) hk dX10_value_22 (c_X8_valueIn (kl K) (kG K) ads adsc adsv nm rw sg ms nsc fsc row nam r_3 er_3) rfl gd_X10_value_X8_valueIn rfl (by decide +kernel) (frok hR9 (Nat.le_of_ble_eq_true rfl) (Nat.le_of_ble_eq_true rfl)) (roomk hR9 (Nat.le_of_ble_eq_true rfl) (Nat.le_of_ble_eq_true rfl)) rfl rfl (Nat.le_of_ble_eq_true rfl) 2 rfl rfl [2, 0] [1] (wr := [(ado, .inr (9, [.ref ads, .ref adp, .ref adx, .ref ady, .ref adt, vs_h]))]) rfl rfl (by decide) (by decide) (by decide) ?_
      intro v9 w9 hp9
      obtain ⟨rfl, rfl⟩ := hp9
      show V K 3 [(ado, .inr (9, [.ref ads, .ref adp, .ref adx, .ref ady, .ref adt, vs_h])), (ads, .inr (7, [.int nm, .int rw, .int sg, .int ms, .ref adsv, .ref adsc])), (adsc, .inl (gI (kG K), nsc, .inl fsc))] 0 0 25 [(0, .ref ado), (1, .int row), (2, .int nam)] [.int r_3]
      refine v_goto (tgt := 29) hk dX10_value_25 (by decide) ?_
      replace h : some r_3 = some r := h
      replace h := Option.some.inj h
      subst h
      refine hrt (some (.int r_3)) _ _ _ _ _ (⟨rfl, rfl⟩) (Nat.zero_le _) (Nat.zero_le _) (dX10_value_29)
abbrev rm_X10_about : Room := { frames := 1, cells := 0, slots := 0, locals := 21 }
set_option maxHeartbeats 4000000 in
set_option maxRecDepth 100000 in
theorem c_X10_about (l : Launch) (G : GG) (ado : Nat) (vs_h : Value) (ads : Nat) (adsv : Nat) (adp : Nat) (adx : Nat) (ady : Nat) (adt : Nat) (adsc : Nat) (nm : Int32) (rw : Int32) (sg : Int32) (ms : Int32) (nsv : Nat) (fsv : Nat → Int32) (what : Int32) (r : Int32) (h : m_X10_about nm rw sg ms nsv fsv what = some r) : Ctr l G yX10_about w2_X10_about rm_X10_about [.ref ado, .int what] [(ado, .inr (9, [.ref ads, .ref adp, .ref adx, .ref ady, .ref adt, vs_h])), (ads, .inr (7, [.int nm, .int rw, .int sg, .int ms, .ref adsv, .ref adsc])), (adsv, .inl (gI G, nsv, .inl fsv))] (fun v w => v = some (.int r) ∧ w = [(ado, .inr (9, [.ref ads, .ref adp, .ref adx, .ref ady, .ref adt, vs_h])), (ads, .inr (7, [.int nm, .int rw, .int sg, .int ms, .ref adsv, .ref adsc])), (adsv, .inl (gI G, nsv, .inl fsv))]) := by
  refine ctr_entry (cc := cX10_about) (maxL := 2) (ret := some .int) (lv0 := [(0, .ref ado), (1, .int what)]) (by decide) rfl (Nat.le_of_ble_eq_true rfl) (rfl) ?_
  intro K hl9 hG9 hk hn9 hrt
  subst hl9
  subst hG9
  have hR9 : RoomGe rm_X10_about rm_X10_about := RoomGe.rf
  replace h := id_e h
  rw [em_X10_about] at h
  refine v_iload_n hk dX10_about_0 rfl ?_
  by_cases hc0 : what = 0
  · replace h := it_t (g := id) h hc0
    refine v_tableIn (k0 := 0) (off := 31) (tgt := 32) hk dX10_about_1 hc0 (by decide) (by decide) (by decide) (by decide) ?_
    refine v_aload_n hk dX10_about_32 rfl ?_
    refine v_get (C := RX10) (T := TX10) (N := 6) (ci := 9) (v := .ref ads) hk dX10_about_33 w2i_X10_about_X100 0 rfl rfl 0 (by decide) (by decide +kernel) rfl rfl ?_
    refine v_get (C := RX8) (T := TX8) (N := 6) (ci := 7) (v := .int nm) hk dX10_about_36 w2i_X10_about_X80 1 rfl rfl 0 (by decide) (by decide +kernel) rfl rfl ?_
    replace h : some nm = some r := h
    replace h := Option.some.inj h
    subst h
    refine hrt (some (.int nm)) _ _ _ _ _ (⟨rfl, rfl⟩) (Nat.zero_le _) (Nat.zero_le _) (dX10_about_39)
  replace h := it_f (g := id) h hc0
  by_cases hc1 : what = 1
  · replace h := it_t (g := id) h hc1
    refine v_tableIn (k0 := 1) (off := 39) (tgt := 40) hk dX10_about_1 hc1 (by decide) (by decide) (by decide) (by decide) ?_
    refine v_aload_n hk dX10_about_40 rfl ?_
    refine v_get (C := RX10) (T := TX10) (N := 6) (ci := 9) (v := .ref ads) hk dX10_about_41 w2i_X10_about_X100 0 rfl rfl 0 (by decide) (by decide +kernel) rfl rfl ?_
    refine v_get (C := RX8) (T := TX8) (N := 6) (ci := 7) (v := .int rw) hk dX10_about_44 w2i_X10_about_X80 1 rfl rfl 1 (by decide) (by decide +kernel) rfl rfl ?_
    replace h : some rw = some r := h
    replace h := Option.some.inj h
    subst h
    refine hrt (some (.int rw)) _ _ _ _ _ (⟨rfl, rfl⟩) (Nat.zero_le _) (Nat.zero_le _) (dX10_about_47)
  replace h := it_f (g := id) h hc1
  by_cases hc2 : what = 2
  · replace h := it_t (g := id) h hc2
    refine v_tableIn (k0 := 2) (off := 47) (tgt := 48) hk dX10_about_1 hc2 (by decide) (by decide) (by decide) (by decide) ?_
    refine v_aload_n hk dX10_about_48 rfl ?_
    refine v_get (C := RX10) (T := TX10) (N := 6) (ci := 9) (v := .ref ads) hk dX10_about_49 w2i_X10_about_X100 0 rfl rfl 0 (by decide) (by decide +kernel) rfl rfl ?_
    refine v_get (C := RX8) (T := TX8) (N := 6) (ci := 7) (v := .int sg) hk dX10_about_52 w2i_X10_about_X80 1 rfl rfl 2 (by decide) (by decide +kernel) rfl rfl ?_
    replace h : some sg = some r := h
    replace h := Option.some.inj h
    subst h
    refine hrt (some (.int sg)) _ _ _ _ _ (⟨rfl, rfl⟩) (Nat.zero_le _) (Nat.zero_le _) (dX10_about_55)
  replace h := it_f (g := id) h hc2
  by_cases hc3 : what = 3
  · replace h := it_t (g := id) h hc3
    refine v_tableIn (k0 := 3) (off := 55) (tgt := 56) hk dX10_about_1 hc3 (by decide) (by decide) (by decide) (by decide) ?_
    refine v_aload_n hk dX10_about_56 rfl ?_
    refine v_get (C := RX10) (T := TX10) (N := 6) (ci := 9) (v := .ref ads) hk dX10_about_57 w2i_X10_about_X100 0 rfl rfl 0 (by decide) (by decide +kernel) rfl rfl ?_
    refine v_get (C := RX8) (T := TX8) (N := 6) (ci := 7) (v := .int ms) hk dX10_about_60 w2i_X10_about_X80 1 rfl rfl 3 (by decide) (by decide +kernel) rfl rfl ?_
    replace h : some ms = some r := h
    replace h := Option.some.inj h
    subst h
    refine hrt (some (.int ms)) _ _ _ _ _ (⟨rfl, rfl⟩) (Nat.zero_le _) (Nat.zero_le _) (dX10_about_63)
  replace h := it_f (g := id) h hc3
  refine v_tableOut (tgt := 64) hk dX10_about_1 (t_out3 hc0 hc1 hc2 hc3) (by decide) ?_
  refine v_iload_n hk dX10_about_64 rfl ?_
  refine v_iconst (v := 4) hk dX10_about_65 (by decide) ?_
  refine v_icmp_lt (tgt := 92) hk dX10_about_66 (by decide) (fun hc => ?_) (fun hc => ?_)
  · replace h := it_t (g := id) h hc
    refine v_iconst (v := (-1)) hk dX10_about_92 (by decide) ?_
    replace h : some (-1) = some r := h
    replace h := Option.some.inj h
    subst h
    refine hrt (some (.int (-1))) _ _ _ _ _ (⟨rfl, rfl⟩) (Nat.zero_le _) (Nat.zero_le _) (dX10_about_93)
  · replace h := it_f (g := id) h hc
    refine v_aload_n hk dX10_about_69 rfl ?_
    refine v_iload_n hk dX10_about_70 rfl ?_
    refine v_iconst (v := 4) hk dX10_about_71 (by decide) ?_
    refine v_isub hk dX10_about_72 ?_
    obtain ⟨r_1, er_1, h⟩ := bd_e (g := id) rfl h
    refine v_callV (n := 1) (st := []) (b := ado) (T := TX10) (N := 6) hk dX10_about_73 (c_X10_isName (kl K) (kG K) ado vs_h ads adp adx ady adt adsv adsc nm rw sg ms (what - 4) r_1 er_1) rfl gd_X10_about_X10_isName rfl (by decide +kernel) (frok hR9 (Nat.le_of_ble_eq_true rfl) (Nat.le_of_ble_eq_true rfl)) (roomk hR9 (Nat.le_of_ble_eq_true rfl) (Nat.le_of_ble_eq_true rfl)) rfl rfl (Nat.le_of_ble_eq_true rfl) 0 rfl rfl [0, 1] [2] (wr := [(adsv, .inl (gI (kG K), nsv, .inl fsv))]) rfl rfl (by decide) (by decide) (by decide) ?_
    intro v9 w9 hp9
    obtain ⟨rfl, rfl⟩ := hp9
    show V K 2 [(adsv, .inl (gI (kG K), nsv, .inl fsv)), (ado, .inr (9, [.ref ads, .ref adp, .ref adx, .ref ady, .ref adt, vs_h])), (ads, .inr (7, [.int nm, .int rw, .int sg, .int ms, .ref adsv, .ref adsc]))] 0 0 76 [(0, .ref ado), (1, .int what)] [.int r_1]
    refine v_if_eq (tgt := 92) hk dX10_about_76 (by decide) (fun hc => ?_) (fun hc => ?_)
    · replace h := it_t (g := id) h hc
      refine v_iconst (v := (-1)) hk dX10_about_92 (by decide) ?_
      replace h : some (-1) = some r := h
      replace h := Option.some.inj h
      subst h
      refine v_perm [1, 2, 0] (ws' := [(ado, .inr (9, [.ref ads, .ref adp, .ref adx, .ref ady, .ref adt, vs_h])), (ads, .inr (7, [.int nm, .int rw, .int sg, .int ms, .ref adsv, .ref adsc])), (adsv, .inl (gI (kG K), nsv, .inl fsv))]) rfl rfl (by decide) ?_
      refine hrt (some (.int (-1))) _ _ _ _ _ (⟨rfl, rfl⟩) (Nat.zero_le _) (Nat.zero_le _) (dX10_about_93)
    · replace h := it_f (g := id) h hc
      refine v_aload_n hk dX10_about_79 rfl ?_
      refine v_get (C := RX10) (T := TX10) (N := 6) (ci := 9) (v := .ref ads) hk dX10_about_80 w2i_X10_about_X100 1 rfl rfl 0 (by decide) (by decide +kernel) rfl rfl ?_
      refine v_iload_n hk dX10_about_83 rfl ?_
      refine v_iconst (v := 4) hk dX10_about_84 (by decide) ?_
      refine v_isub hk dX10_about_85 ?_
      obtain ⟨r_2, er_2, h⟩ := bd_e (g := id) rfl h
      refine v_callV (n := 1) (st := []) (b := ads) (T := TX8) (N := 6) hk dX10_about_86 (c_X8_valuesOf (kl K) (kG K) ads adsv adsc nm rw sg ms nsv fsv (what - 4) r_2 er_2) rfl gd_X10_about_X8_valuesOf rfl (by decide +kernel) (frok hR9 (Nat.le_of_ble_eq_true rfl) (Nat.le_of_ble_eq_true rfl)) (roomk hR9 (Nat.le_of_ble_eq_true rfl) (Nat.le_of_ble_eq_true rfl)) rfl rfl (Nat.le_of_ble_eq_true rfl) 2 rfl rfl [2, 0] [1] (wr := [(ado, .inr (9, [.ref ads, .ref adp, .ref adx, .ref ady, .ref adt, vs_h]))]) rfl rfl (by decide) (by decide) (by decide) ?_
      intro v9 w9 hp9
      obtain ⟨rfl, rfl⟩ := hp9
      show V K 2 [(ado, .inr (9, [.ref ads, .ref adp, .ref adx, .ref ady, .ref adt, vs_h])), (ads, .inr (7, [.int nm, .int rw, .int sg, .int ms, .ref adsv, .ref adsc])), (adsv, .inl (gI (kG K), nsv, .inl fsv))] 0 0 89 [(0, .ref ado), (1, .int what)] [.int r_2]
      refine v_goto (tgt := 93) hk dX10_about_89 (by decide) ?_
      replace h : some r_2 = some r := h
      replace h := Option.some.inj h
      subst h
      refine hrt (some (.int r_2)) _ _ _ _ _ (⟨rfl, rfl⟩) (Nat.zero_le _) (Nat.zero_le _) (dX10_about_93)
abbrev rm_X10_order : Room := { frames := 5, cells := 0, slots := 0, locals := 115 }
set_option maxHeartbeats 4000000 in
set_option maxRecDepth 100000 in
theorem L_X10_order_26 {K : Cx} {R9 : Room} (hk : Ok K cX10_order 6 RX10 w2_X10_order R9) (hR9 : RoomGe R9 rm_X10_order) (ado : Nat) (vs_h : Value) (ads : Nat) (adp : Nat) (adx : Nat) (ady : Nat) (adt : Nat) (adsv : Nat) (adsc : Nat) (nm : Int32) (rw : Int32) (sg : Int32) (ms : Int32) (gr : Int32) (i : Int32) (b9 : (Int32 × Int32 × Int32)) (kk0 : ∀ q9 : (Int32 × Int32 × Int32), b9 = q9 → V K 6 [(ado, .inr (9, [.ref ads, .ref adp, .ref adx, .ref ady, .ref adt, vs_h])), (ads, .inr (7, [.int nm, .int rw, .int sg, .int ms, .ref adsv, .ref adsc]))] 0 0 59 [(0, .ref ado), (1, .int gr), (2, .int i), (3, .int q9.1), (4, .int q9.2.1), (5, .int q9.2.2)] []) : ∀ (nn : Nat) (i3_3 : Int32) (i4_4 : Int32) (i5_5 : Int32), lp (b_X10_order_26 nm gr i) nn (i3_3, i4_4, i5_5) = some b9 → V K 6 [(ado, .inr (9, [.ref ads, .ref adp, .ref adx, .ref ady, .ref adt, vs_h])), (ads, .inr (7, [.int nm, .int rw, .int sg, .int ms, .ref adsv, .ref adsc]))] 0 0 26 [(0, .ref ado), (1, .int gr), (2, .int i), (3, .int i3_3), (4, .int i4_4), (5, .int i5_5)] [] := by
  intro nn
  induction nn with
  | zero => intro i3_3 i4_4 i5_5 h; exact absurd h (by simp [lp])
  | succ nn ih =>
    intro i3_3 i4_4 i5_5 h
    replace h := lp_s h
    rw [eb_X10_order_26] at h
    refine v_iload hk dX10_order_26 rfl ?_
    refine v_iload_n hk dX10_order_28 rfl ?_
    refine v_icmp_gt (tgt := 59) hk dX10_order_29 (by decide) (fun hc => ?_) (fun hc => ?_)
    · replace h := it_t (g := (lpk (lp (b_X10_order_26 nm gr i) nn))) h hc
      replace h : some (i3_3, i4_4, i5_5) = some b9 := h
      replace h := Option.some.inj h
      subst h
      exact kk0 _ rfl
    · replace h := it_f (g := (lpk (lp (b_X10_order_26 nm gr i) nn))) h hc
      refine v_iload_n hk dX10_order_32 rfl ?_
      refine v_aload_n hk dX10_order_33 rfl ?_
      refine v_get (C := RX10) (T := TX10) (N := 6) (ci := 9) (v := .ref ads) hk dX10_order_34 w2i_X10_order_X100 0 rfl rfl 0 (by decide) (by decide +kernel) rfl rfl ?_
      refine v_get (C := RX8) (T := TX8) (N := 6) (ci := 7) (v := .int nm) hk dX10_order_37 w2i_X10_order_X80 1 rfl rfl 0 (by decide) (by decide +kernel) rfl rfl ?_
      refine v_iload_n hk dX10_order_40 rfl ?_
      obtain ⟨r_6, er_6, h⟩ := bd_e (g := (lpk (lp (b_X10_order_26 nm gr i) nn))) rfl h
      refine v_callS (n := 3) (st := []) hk dX10_order_41 (c_X0_nextAfter (kl K) (kG K) gr nm i3_3 r_6 er_6) gd_X10_order_X0_nextAfter rfl (by decide +kernel) (frok hR9 (Nat.le_of_ble_eq_true rfl) (Nat.le_of_ble_eq_true rfl)) (roomk hR9 (Nat.le_of_ble_eq_true rfl) (Nat.le_of_ble_eq_true rfl)) rfl rfl (Nat.le_of_ble_eq_true rfl) [] [0, 1] (wr := [(ado, .inr (9, [.ref ads, .ref adp, .ref adx, .ref ady, .ref adt, vs_h])), (ads, .inr (7, [.int nm, .int rw, .int sg, .int ms, .ref adsv, .ref adsc]))]) rfl rfl (by decide) (by decide) (by decide) ?_
      intro v9 w9 hp9
      obtain ⟨rfl, rfl⟩ := hp9
      show V K 6 [(ado, .inr (9, [.ref ads, .ref adp, .ref adx, .ref ady, .ref adt, vs_h])), (ads, .inr (7, [.int nm, .int rw, .int sg, .int ms, .ref adsv, .ref adsc]))] 0 0 44 [(0, .ref ado), (1, .int gr), (2, .int i), (3, .int i3_3), (4, .int i4_4), (5, .int i5_5)] [.int r_6]
      refine v_istore hk dX10_order_44 (by decide) [1, 2, 3, 4, 0, 5] (lv' := [(0, .ref ado), (1, .int gr), (2, .int i), (3, .int i3_3), (4, .int r_6), (5, .int i5_5)]) rfl ?_
      refine v_iload_n hk dX10_order_46 rfl ?_
      refine v_iconst (v := 1) hk dX10_order_47 (by decide) ?_
      refine v_iload hk dX10_order_48 rfl ?_
      refine v_ishl hk dX10_order_50 ?_
      refine v_ior hk dX10_order_51 ?_
      obtain ⟨x3_7, ex3_7, h⟩ := lt_e (g := (lpk (lp (b_X10_order_26 nm gr i) nn))) h
      refine v_topi ex3_7.symm ?_
      refine v_istore_n hk dX10_order_52 rfl (by decide) [1, 2, 3, 0, 4, 5] (lv' := [(0, .ref ado), (1, .int gr), (2, .int i), (3, .int x3_7), (4, .int r_6), (5, .int i5_5)]) rfl ?_
      obtain ⟨x5_8, ex5_8, h⟩ := lt_e (g := (lpk (lp (b_X10_order_26 nm gr i) nn))) h
      refine v_iinc (v := x5_8) hk dX10_order_53 rfl (by rw [ex5_8]; rfl) (by decide) [1, 2, 3, 4, 5, 0] (lv' := [(0, .ref ado), (1, .int gr), (2, .int i), (3, .int x3_7), (4, .int r_6), (5, .int x5_8)]) rfl ?_
      refine v_goto (tgt := 26) hk dX10_order_56 (by decide) ?_
      exact ih x3_7 r_6 x5_8 h
set_option maxHeartbeats 4000000 in
set_option maxRecDepth 100000 in
theorem c_X10_order (l : Launch) (G : GG) (ado : Nat) (vs_h : Value) (ads : Nat) (adp : Nat) (adx : Nat) (ady : Nat) (adt : Nat) (adsv : Nat) (adsc : Nat) (nm : Int32) (rw : Int32) (sg : Int32) (ms : Int32) (gr : Int32) (i : Int32) (r : Int32) (h : m_X10_order nm rw sg ms gr i = some r) : Ctr l G yX10_order w2_X10_order rm_X10_order [.ref ado, .int gr, .int i] [(ado, .inr (9, [.ref ads, .ref adp, .ref adx, .ref ady, .ref adt, vs_h])), (ads, .inr (7, [.int nm, .int rw, .int sg, .int ms, .ref adsv, .ref adsc]))] (fun v w => v = some (.int r) ∧ w = [(ado, .inr (9, [.ref ads, .ref adp, .ref adx, .ref ady, .ref adt, vs_h])), (ads, .inr (7, [.int nm, .int rw, .int sg, .int ms, .ref adsv, .ref adsc]))]) := by
  refine ctr_entry (cc := cX10_order) (maxL := 6) (ret := some .int) (lv0 := [(0, .ref ado), (1, .int gr), (2, .int i)]) (by decide) rfl (Nat.le_of_ble_eq_true rfl) (rfl) ?_
  intro K hl9 hG9 hk hn9 hrt
  subst hl9
  subst hG9
  have hR9 : RoomGe rm_X10_order rm_X10_order := RoomGe.rf
  replace h := id_e h
  rw [em_X10_order] at h
  refine v_aload_n hk dX10_order_0 rfl ?_
  refine v_iload_n hk dX10_order_1 rfl ?_
  obtain ⟨r_1, er_1, h⟩ := bd_e (g := id) rfl h
  refine v_callV (n := 1) (st := []) (b := ado) (T := TX10) (N := 6) hk dX10_order_2 (c_X10_isGraph (kl K) (kG K) ado vs_h ads adp adx ady adt adsv adsc nm rw sg ms gr r_1 er_1) rfl gd_X10_order_X10_isGraph rfl (by decide +kernel) (frok hR9 (Nat.le_of_ble_eq_true rfl) (Nat.le_of_ble_eq_true rfl)) (roomk hR9 (Nat.le_of_ble_eq_true rfl) (Nat.le_of_ble_eq_true rfl)) rfl rfl (Nat.le_of_ble_eq_true rfl) 0 rfl rfl [0, 1] [] (wr := []) rfl rfl (by decide) (by decide) (by decide) ?_
  intro v9 w9 hp9
  obtain ⟨rfl, rfl⟩ := hp9
  show V K 6 [(ado, .inr (9, [.ref ads, .ref adp, .ref adx, .ref ady, .ref adt, vs_h])), (ads, .inr (7, [.int nm, .int rw, .int sg, .int ms, .ref adsv, .ref adsc]))] 0 0 5 [(0, .ref ado), (1, .int gr), (2, .int i)] [.int r_1]
  refine v_if_eq (tgt := 16) hk dX10_order_5 (by decide) (fun hc => ?_) (fun hc => ?_)
  · replace h := it_t (g := id) h hc
    refine v_iconst (v := (-1)) hk dX10_order_16 (by decide) ?_
    replace h : some (-1) = some r := h
    replace h := Option.some.inj h
    subst h
    refine hrt (some (.int (-1))) _ _ _ _ _ (⟨rfl, rfl⟩) (Nat.zero_le _) (Nat.zero_le _) (dX10_order_17)
  · replace h := it_f (g := id) h hc
    refine v_aload_n hk dX10_order_8 rfl ?_
    refine v_iload_n hk dX10_order_9 rfl ?_
    obtain ⟨r_2, er_2, h⟩ := bd_e (g := id) rfl h
    refine v_callV (n := 1) (st := []) (b := ado) (T := TX10) (N := 6) hk dX10_order_10 (c_X10_isName (kl K) (kG K) ado vs_h ads adp adx ady adt adsv adsc nm rw sg ms i r_2 er_2) rfl gd_X10_order_X10_isName rfl (by decide +kernel) (frok hR9 (Nat.le_of_ble_eq_true rfl) (Nat.le_of_ble_eq_true rfl)) (roomk hR9 (Nat.le_of_ble_eq_true rfl) (Nat.le_of_ble_eq_true rfl)) rfl rfl (Nat.le_of_ble_eq_true rfl) 0 rfl rfl [0, 1] [] (wr := []) rfl rfl (by decide) (by decide) (by decide) ?_
    intro v9 w9 hp9
    obtain ⟨rfl, rfl⟩ := hp9
    show V K 6 [(ado, .inr (9, [.ref ads, .ref adp, .ref adx, .ref ady, .ref adt, vs_h])), (ads, .inr (7, [.int nm, .int rw, .int sg, .int ms, .ref adsv, .ref adsc]))] 0 0 13 [(0, .ref ado), (1, .int gr), (2, .int i)] [.int r_2]
    refine v_if_ne (tgt := 18) hk dX10_order_13 (by decide) (fun hc => ?_) (fun hc => ?_)
    · replace h := it_f (g := id) h hc
      refine v_iconst (v := 0) hk dX10_order_18 (by decide) ?_
      refine v_istore_n hk dX10_order_19 rfl (by decide) [1, 2, 3, 0] (lv' := [(0, .ref ado), (1, .int gr), (2, .int i), (3, .int 0)]) rfl ?_
      refine v_iconst (v := 0) hk dX10_order_20 (by decide) ?_
      refine v_istore hk dX10_order_21 (by decide) [1, 2, 3, 4, 0] (lv' := [(0, .ref ado), (1, .int gr), (2, .int i), (3, .int 0), (4, .int 0)]) rfl ?_
      refine v_iconst (v := 0) hk dX10_order_23 (by decide) ?_
      refine v_istore hk dX10_order_24 (by decide) [1, 2, 3, 4, 5, 0] (lv' := [(0, .ref ado), (1, .int gr), (2, .int i), (3, .int 0), (4, .int 0), (5, .int 0)]) rfl ?_
      obtain ⟨b_10, eb_10, h⟩ := bd_e (g := id) rfl h
      refine L_X10_order_26 hk hR9 ado vs_h ads adp adx ady adt adsv adsc nm rw sg ms gr i b_10 (fun q_9 eq_9 => ?_) FU 0 0 0 eb_10
      · replace eq_9 := eq_9.symm
        subst eq_9
        refine v_iload hk dX10_order_59 rfl ?_
        replace h : some q_9.2.1 = some r := h
        replace h := Option.some.inj h
        subst h
        refine hrt (some (.int q_9.2.1)) _ _ _ _ _ (⟨rfl, rfl⟩) (Nat.zero_le _) (Nat.zero_le _) (dX10_order_61)
    · replace h := it_t (g := id) h hc
      refine v_iconst (v := (-1)) hk dX10_order_16 (by decide) ?_
      replace h : some (-1) = some r := h
      replace h := Option.some.inj h
      subst h
      refine hrt (some (.int (-1))) _ _ _ _ _ (⟨rfl, rfl⟩) (Nat.zero_le _) (Nat.zero_le _) (dX10_order_17)
abbrev rm_X10_alike : Room := { frames := 5, cells := 0, slots := 0, locals := 115 }
set_option maxHeartbeats 4000000 in
set_option maxRecDepth 100000 in
theorem c_X10_alike (l : Launch) (G : GG) (ado : Nat) (vs_h : Value) (ads : Nat) (adp : Nat) (adx : Nat) (ady : Nat) (adt : Nat) (adsv : Nat) (adsc : Nat) (nm : Int32) (rw : Int32) (sg : Int32) (ms : Int32) (gr : Int32) (ot : Int32) (r : Int32) (h : m_X10_alike nm rw sg ms gr ot = some r) : Ctr l G yX10_alike w2_X10_alike rm_X10_alike [.ref ado, .int gr, .int ot] [(ado, .inr (9, [.ref ads, .ref adp, .ref adx, .ref ady, .ref adt, vs_h])), (ads, .inr (7, [.int nm, .int rw, .int sg, .int ms, .ref adsv, .ref adsc]))] (fun v w => v = some (.int r) ∧ w = [(ado, .inr (9, [.ref ads, .ref adp, .ref adx, .ref ady, .ref adt, vs_h])), (ads, .inr (7, [.int nm, .int rw, .int sg, .int ms, .ref adsv, .ref adsc]))]) := by
  refine ctr_entry (cc := cX10_alike) (maxL := 4) (ret := some .int) (lv0 := [(0, .ref ado), (1, .int gr), (2, .int ot)]) (by decide) rfl (Nat.le_of_ble_eq_true rfl) (rfl) ?_
  intro K hl9 hG9 hk hn9 hrt
  subst hl9
  subst hG9
  have hR9 : RoomGe rm_X10_alike rm_X10_alike := RoomGe.rf
  replace h := id_e h
  rw [em_X10_alike] at h
  refine v_aload_n hk dX10_alike_0 rfl ?_
  refine v_iload_n hk dX10_alike_1 rfl ?_
  obtain ⟨r_1, er_1, h⟩ := bd_e (g := id) rfl h
  refine v_callV (n := 1) (st := []) (b := ado) (T := TX10) (N := 6) hk dX10_alike_2 (c_X10_isGraph (kl K) (kG K) ado vs_h ads adp adx ady adt adsv adsc nm rw sg ms gr r_1 er_1) rfl gd_X10_alike_X10_isGraph rfl (by decide +kernel) (frok hR9 (Nat.le_of_ble_eq_true rfl) (Nat.le_of_ble_eq_true rfl)) (roomk hR9 (Nat.le_of_ble_eq_true rfl) (Nat.le_of_ble_eq_true rfl)) rfl rfl (Nat.le_of_ble_eq_true rfl) 0 rfl rfl [0, 1] [] (wr := []) rfl rfl (by decide) (by decide) (by decide) ?_
  intro v9 w9 hp9
  obtain ⟨rfl, rfl⟩ := hp9
  show V K 4 [(ado, .inr (9, [.ref ads, .ref adp, .ref adx, .ref ady, .ref adt, vs_h])), (ads, .inr (7, [.int nm, .int rw, .int sg, .int ms, .ref adsv, .ref adsc]))] 0 0 5 [(0, .ref ado), (1, .int gr), (2, .int ot)] [.int r_1]
  refine v_if_eq (tgt := 16) hk dX10_alike_5 (by decide) (fun hc => ?_) (fun hc => ?_)
  · replace h := it_t (g := id) h hc
    refine v_iconst (v := (-1)) hk dX10_alike_16 (by decide) ?_
    replace h : some (-1) = some r := h
    replace h := Option.some.inj h
    subst h
    refine hrt (some (.int (-1))) _ _ _ _ _ (⟨rfl, rfl⟩) (Nat.zero_le _) (Nat.zero_le _) (dX10_alike_17)
  · replace h := it_f (g := id) h hc
    refine v_aload_n hk dX10_alike_8 rfl ?_
    refine v_iload_n hk dX10_alike_9 rfl ?_
    obtain ⟨r_2, er_2, h⟩ := bd_e (g := id) rfl h
    refine v_callV (n := 1) (st := []) (b := ado) (T := TX10) (N := 6) hk dX10_alike_10 (c_X10_isGraph (kl K) (kG K) ado vs_h ads adp adx ady adt adsv adsc nm rw sg ms ot r_2 er_2) rfl gd_X10_alike_X10_isGraph rfl (by decide +kernel) (frok hR9 (Nat.le_of_ble_eq_true rfl) (Nat.le_of_ble_eq_true rfl)) (roomk hR9 (Nat.le_of_ble_eq_true rfl) (Nat.le_of_ble_eq_true rfl)) rfl rfl (Nat.le_of_ble_eq_true rfl) 0 rfl rfl [0, 1] [] (wr := []) rfl rfl (by decide) (by decide) (by decide) ?_
    intro v9 w9 hp9
    obtain ⟨rfl, rfl⟩ := hp9
    show V K 4 [(ado, .inr (9, [.ref ads, .ref adp, .ref adx, .ref ady, .ref adt, vs_h])), (ads, .inr (7, [.int nm, .int rw, .int sg, .int ms, .ref adsv, .ref adsc]))] 0 0 13 [(0, .ref ado), (1, .int gr), (2, .int ot)] [.int r_2]
    refine v_if_ne (tgt := 18) hk dX10_alike_13 (by decide) (fun hc => ?_) (fun hc => ?_)
    · replace h := it_f (g := id) h hc
      refine v_iload_n hk dX10_alike_18 rfl ?_
      obtain ⟨r_3, er_3, h⟩ := bd_e (g := id) rfl h
      refine v_callS (n := 1) (st := []) hk dX10_alike_19 (c_X4_ties (kl K) (kG K) gr r_3 er_3) gd_X10_alike_X4_ties rfl (by decide +kernel) (frok hR9 (Nat.le_of_ble_eq_true rfl) (Nat.le_of_ble_eq_true rfl)) (roomk hR9 (Nat.le_of_ble_eq_true rfl) (Nat.le_of_ble_eq_true rfl)) rfl rfl (Nat.le_of_ble_eq_true rfl) [] [0, 1] (wr := [(ado, .inr (9, [.ref ads, .ref adp, .ref adx, .ref ady, .ref adt, vs_h])), (ads, .inr (7, [.int nm, .int rw, .int sg, .int ms, .ref adsv, .ref adsc]))]) rfl rfl (by decide) (by decide) (by decide) ?_
      intro v9 w9 hp9
      obtain ⟨rfl, rfl⟩ := hp9
      show V K 4 [(ado, .inr (9, [.ref ads, .ref adp, .ref adx, .ref ady, .ref adt, vs_h])), (ads, .inr (7, [.int nm, .int rw, .int sg, .int ms, .ref adsv, .ref adsc]))] 0 0 22 [(0, .ref ado), (1, .int gr), (2, .int ot)] [.int r_3]
      refine v_iload_n hk dX10_alike_22 rfl ?_
      obtain ⟨r_4, er_4, h⟩ := bd_e (g := id) rfl h
      refine v_callS (n := 1) (st := [.int r_3]) hk dX10_alike_23 (c_X4_ties (kl K) (kG K) ot r_4 er_4) gd_X10_alike_X4_ties rfl (by decide +kernel) (frok hR9 (Nat.le_of_ble_eq_true rfl) (Nat.le_of_ble_eq_true rfl)) (roomk hR9 (Nat.le_of_ble_eq_true rfl) (Nat.le_of_ble_eq_true rfl)) rfl rfl (Nat.le_of_ble_eq_true rfl) [] [0, 1] (wr := [(ado, .inr (9, [.ref ads, .ref adp, .ref adx, .ref ady, .ref adt, vs_h])), (ads, .inr (7, [.int nm, .int rw, .int sg, .int ms, .ref adsv, .ref adsc]))]) rfl rfl (by decide) (by decide) (by decide) ?_
      intro v9 w9 hp9
      obtain ⟨rfl, rfl⟩ := hp9
      show V K 4 [(ado, .inr (9, [.ref ads, .ref adp, .ref adx, .ref ady, .ref adt, vs_h])), (ads, .inr (7, [.int nm, .int rw, .int sg, .int ms, .ref adsv, .ref adsc]))] 0 0 26 [(0, .ref ado), (1, .int gr), (2, .int ot)] [.int r_4, .int r_3]
      refine v_icmp_ne (tgt := 45) hk dX10_alike_26 (by decide) (fun hc => ?_) (fun hc => ?_)
      · replace h := it_f (g := id) h hc
        refine v_iconst (v := 0) hk dX10_alike_45 (by decide) ?_
        refine v_istore_n hk dX10_alike_46 rfl (by decide) [1, 2, 3, 0] (lv' := [(0, .ref ado), (1, .int gr), (2, .int ot), (3, .int 0)]) rfl ?_
        refine v_iload_n hk dX10_alike_47 rfl ?_
        refine v_if_eq (tgt := 55) hk dX10_alike_48 (by decide) (fun _ => ?_) (fun hc => absurd hc (by decide))
        refine v_iconst (v := 0) hk dX10_alike_55 (by decide) ?_
        replace h : some 0 = some r := h
        replace h := Option.some.inj h
        subst h
        refine hrt (some (.int 0)) _ _ _ _ _ (⟨rfl, rfl⟩) (Nat.zero_le _) (Nat.zero_le _) (dX10_alike_56)
      · replace h := it_t (g := id) h hc
        refine v_iload_n hk dX10_alike_29 rfl ?_
        obtain ⟨r_5, er_5, h⟩ := bd_e (g := id) rfl h
        refine v_callS (n := 1) (st := []) hk dX10_alike_30 (c_X4_meetings (kl K) (kG K) gr r_5 er_5) gd_X10_alike_X4_meetings rfl (by decide +kernel) (frok hR9 (Nat.le_of_ble_eq_true rfl) (Nat.le_of_ble_eq_true rfl)) (roomk hR9 (Nat.le_of_ble_eq_true rfl) (Nat.le_of_ble_eq_true rfl)) rfl rfl (Nat.le_of_ble_eq_true rfl) [] [0, 1] (wr := [(ado, .inr (9, [.ref ads, .ref adp, .ref adx, .ref ady, .ref adt, vs_h])), (ads, .inr (7, [.int nm, .int rw, .int sg, .int ms, .ref adsv, .ref adsc]))]) rfl rfl (by decide) (by decide) (by decide) ?_
        intro v9 w9 hp9
        obtain ⟨rfl, rfl⟩ := hp9
        show V K 4 [(ado, .inr (9, [.ref ads, .ref adp, .ref adx, .ref ady, .ref adt, vs_h])), (ads, .inr (7, [.int nm, .int rw, .int sg, .int ms, .ref adsv, .ref adsc]))] 0 0 33 [(0, .ref ado), (1, .int gr), (2, .int ot)] [.long r_5]
        refine v_iload_n hk dX10_alike_33 rfl ?_
        obtain ⟨r_6, er_6, h⟩ := bd_e (g := id) rfl h
        refine v_callS (n := 1) (st := [.long r_5]) hk dX10_alike_34 (c_X4_meetings (kl K) (kG K) ot r_6 er_6) gd_X10_alike_X4_meetings rfl (by decide +kernel) (frok hR9 (Nat.le_of_ble_eq_true rfl) (Nat.le_of_ble_eq_true rfl)) (roomk hR9 (Nat.le_of_ble_eq_true rfl) (Nat.le_of_ble_eq_true rfl)) rfl rfl (Nat.le_of_ble_eq_true rfl) [] [0, 1] (wr := [(ado, .inr (9, [.ref ads, .ref adp, .ref adx, .ref ady, .ref adt, vs_h])), (ads, .inr (7, [.int nm, .int rw, .int sg, .int ms, .ref adsv, .ref adsc]))]) rfl rfl (by decide) (by decide) (by decide) ?_
        intro v9 w9 hp9
        obtain ⟨rfl, rfl⟩ := hp9
        show V K 4 [(ado, .inr (9, [.ref ads, .ref adp, .ref adx, .ref ady, .ref adt, vs_h])), (ads, .inr (7, [.int nm, .int rw, .int sg, .int ms, .ref adsv, .ref adsc]))] 0 0 37 [(0, .ref ado), (1, .int gr), (2, .int ot)] [.long r_6, .long r_5]
        refine v_lcmp hk dX10_alike_37 ?_
        obtain ⟨z_7, ez_7, h⟩ := lt_e (g := id) h
        have Jz_7 : V K 4 [(ado, .inr (9, [.ref ads, .ref adp, .ref adx, .ref ady, .ref adt, vs_h])), (ads, .inr (7, [.int nm, .int rw, .int sg, .int ms, .ref adsv, .ref adsc]))] 0 0 46 [(0, .ref ado), (1, .int gr), (2, .int ot)] (.int z_7 :: []) := by
          refine v_istore_n hk dX10_alike_46 rfl (by decide) [1, 2, 3, 0] (lv' := [(0, .ref ado), (1, .int gr), (2, .int ot), (3, .int z_7)]) rfl ?_
          refine v_iload_n hk dX10_alike_47 rfl ?_
          obtain ⟨z_8, ez_8, h⟩ := lt_e (g := id) h
          have Jz_8 : V K 4 [(ado, .inr (9, [.ref ads, .ref adp, .ref adx, .ref ady, .ref adt, vs_h])), (ads, .inr (7, [.int nm, .int rw, .int sg, .int ms, .ref adsv, .ref adsc]))] 0 0 56 [(0, .ref ado), (1, .int gr), (2, .int ot), (3, .int z_7)] (.int z_8 :: []) := by
            replace h : some z_8 = some r := h
            replace h := Option.some.inj h
            subst h
            refine hrt (some (.int z_8)) _ _ _ _ _ (⟨rfl, rfl⟩) (Nat.zero_le _) (Nat.zero_le _) (dX10_alike_56)
          refine v_if_eq (tgt := 55) hk dX10_alike_48 (by decide) (fun hc => ?_) (fun hc => ?_)
          · rw [if_pos hc] at ez_8
            subst ez_8
            refine v_iconst (v := 0) hk dX10_alike_55 (by decide) ?_
            exact Jz_8
          · rw [if_neg hc] at ez_8
            subst ez_8
            refine v_iconst (v := 1) hk dX10_alike_51 (by decide) ?_
            refine v_goto (tgt := 56) hk dX10_alike_52 (by decide) ?_
            exact Jz_8
        refine v_if_ne (tgt := 45) hk dX10_alike_38 (by decide) (fun hc => ?_) (fun hc => ?_)
        · rw [if_neg hc] at ez_7
          subst ez_7
          refine v_iconst (v := 0) hk dX10_alike_45 (by decide) ?_
          exact Jz_7
        · rw [if_pos hc] at ez_7
          subst ez_7
          refine v_iconst (v := 1) hk dX10_alike_41 (by decide) ?_
          refine v_goto (tgt := 46) hk dX10_alike_42 (by decide) ?_
          exact Jz_7
    · replace h := it_t (g := id) h hc
      refine v_iconst (v := (-1)) hk dX10_alike_16 (by decide) ?_
      replace h : some (-1) = some r := h
      replace h := Option.some.inj h
      subst h
      refine hrt (some (.int (-1))) _ _ _ _ _ (⟨rfl, rfl⟩) (Nat.zero_le _) (Nat.zero_le _) (dX10_alike_17)
abbrev rm_X10_wordOf : Room := { frames := 1, cells := 0, slots := 0, locals := 21 }
set_option maxHeartbeats 4000000 in
set_option maxRecDepth 100000 in
theorem c_X10_wordOf (l : Launch) (G : GG) (adb : Nat) (adw : Nat) (u : Int32) (nw : Nat) (fw : Nat → Int64) (i : Int32) (r : Int64) (h : m_X10_wordOf u nw fw i = some r) : Ctr l G yX10_wordOf w2_X10_wordOf rm_X10_wordOf [.ref adb, .int i] [(adb, .inr (0, [.ref adw, .int u])), (adw, .inl (gJ G, nw, .inr (.inl fw)))] (fun v w => v = some (.long r) ∧ w = [(adb, .inr (0, [.ref adw, .int u])), (adw, .inl (gJ G, nw, .inr (.inl fw)))]) := by
  refine ctr_entry (cc := cX10_wordOf) (maxL := 2) (ret := some .long) (lv0 := [(0, .ref adb), (1, .int i)]) (by decide) rfl (Nat.le_of_ble_eq_true rfl) (rfl) ?_
  intro K hl9 hG9 hk hn9 hrt
  subst hl9
  subst hG9
  have hR9 : RoomGe rm_X10_wordOf rm_X10_wordOf := RoomGe.rf
  replace h := id_e h
  rw [em_X10_wordOf] at h
  refine v_iload_n hk dX10_wordOf_0 rfl ?_
  refine v_if_lt (tgt := 20) hk dX10_wordOf_1 (by decide) (fun hc => ?_) (fun hc => ?_)
  · replace h := it_t (g := id) h hc
    refine v_ldc2 (v := (-1)) hk dX10_wordOf_20 (by decide +kernel) ?_
    replace h : some (-1) = some r := h
    replace h := Option.some.inj h
    subst h
    refine hrt (some (.long (-1))) _ _ _ _ _ (⟨rfl, rfl⟩) (Nat.zero_le _) (Nat.zero_le _) (dX10_wordOf_23)
  · replace h := it_f (g := id) h hc
    refine v_iload_n hk dX10_wordOf_4 rfl ?_
    refine v_aload_n hk dX10_wordOf_5 rfl ?_
    obtain ⟨r_1, er_1, h⟩ := bd_e (g := id) rfl h
    refine v_callV (n := 0) (st := [.int i]) (b := adb) (T := TX1) (N := 2) hk dX10_wordOf_6 (c_X1_length (kl K) (kG K) adb adw u nw fw r_1 er_1) rfl gd_X10_wordOf_X1_length rfl (by decide +kernel) (frok hR9 (Nat.le_of_ble_eq_true rfl) (Nat.le_of_ble_eq_true rfl)) (roomk hR9 (Nat.le_of_ble_eq_true rfl) (Nat.le_of_ble_eq_true rfl)) rfl rfl (Nat.le_of_ble_eq_true rfl) 0 rfl rfl [0, 1] [] (wr := []) rfl rfl (by decide) (by decide) (by decide) ?_
    intro v9 w9 hp9
    obtain ⟨rfl, rfl⟩ := hp9
    show V K 2 [(adb, .inr (0, [.ref adw, .int u])), (adw, .inl (gJ (kG K), nw, .inr (.inl fw)))] 0 0 9 [(0, .ref adb), (1, .int i)] [.int r_1, .int i]
    refine v_icmp_ge (tgt := 20) hk dX10_wordOf_9 (by decide) (fun hc => ?_) (fun hc => ?_)
    · replace h := it_t (g := id) h hc
      refine v_ldc2 (v := (-1)) hk dX10_wordOf_20 (by decide +kernel) ?_
      replace h : some (-1) = some r := h
      replace h := Option.some.inj h
      subst h
      refine hrt (some (.long (-1))) _ _ _ _ _ (⟨rfl, rfl⟩) (Nat.zero_le _) (Nat.zero_le _) (dX10_wordOf_23)
    · replace h := it_f (g := id) h hc
      refine v_aload_n hk dX10_wordOf_12 rfl ?_
      refine v_iload_n hk dX10_wordOf_13 rfl ?_
      obtain ⟨r_2, er_2, h⟩ := bd_e (g := id) rfl h
      refine v_callV (n := 1) (st := []) (b := adb) (T := TX1) (N := 2) hk dX10_wordOf_14 (c_X1_at (kl K) (kG K) adb adw u nw fw i r_2 er_2) rfl gd_X10_wordOf_X1_at rfl (by decide +kernel) (frok hR9 (Nat.le_of_ble_eq_true rfl) (Nat.le_of_ble_eq_true rfl)) (roomk hR9 (Nat.le_of_ble_eq_true rfl) (Nat.le_of_ble_eq_true rfl)) rfl rfl (Nat.le_of_ble_eq_true rfl) 0 rfl rfl [0, 1] [] (wr := []) rfl rfl (by decide) (by decide) (by decide) ?_
      intro v9 w9 hp9
      obtain ⟨rfl, rfl⟩ := hp9
      show V K 2 [(adb, .inr (0, [.ref adw, .int u])), (adw, .inl (gJ (kG K), nw, .inr (.inl fw)))] 0 0 17 [(0, .ref adb), (1, .int i)] [.long r_2]
      refine v_goto (tgt := 23) hk dX10_wordOf_17 (by decide) ?_
      replace h : some r_2 = some r := h
      replace h := Option.some.inj h
      subst h
      refine hrt (some (.long r_2)) _ _ _ _ _ (⟨rfl, rfl⟩) (Nat.zero_le _) (Nat.zero_le _) (dX10_wordOf_23)
abbrev rm_X10_test : Room := { frames := 4, cells := 0, slots := 0, locals := 106 }
set_option maxHeartbeats 4000000 in
set_option maxRecDepth 100000 in
theorem c_X10_test (l : Launch) (G : GG) (ado : Nat) (vs_h : Value) (adt : Nat) (adtc : Nat) (adtf : Nat) (adts : Nat) (ads : Nat) (adsv : Nat) (adsc : Nat) (adp : Nat) (adx : Nat) (ady : Nat) (ntc : Nat) (ftc : Nat → Int32) (ntf : Nat) (ftf : Nat → Int32) (nts : Nat) (fts : Nat → Int32) (nm : Int32) (rw : Int32) (sg : Int32) (ms : Int32) (nsv : Nat) (fsv : Nat → Int32) (nsc : Nat) (fsc : Nat → Int32) (p0 : Int32) (p1 : Int32) (p2 : Int32) (v : Int32) (part : Int32) (r : Int64 × (Nat → Int32) × (Nat → Int32) × (Nat → Int32)) (h : m_X10_test ntc ftc ntf ftf nts fts nm rw sg ms nsv fsv nsc fsc p0 p1 p2 v part = some r) : Ctr l G yX10_test w2_X10_test rm_X10_test [.ref ado, .int p0, .int p1, .int p2, .int v, .int part] [(ado, .inr (9, [.ref ads, .ref adp, .ref adx, .ref ady, .ref adt, vs_h])), (adt, .inr (8, [.ref ads, .ref adtc, .ref adtf, .ref adts])), (adtc, .inl (gI G, ntc, .inl ftc)), (adtf, .inl (gI G, ntf, .inl ftf)), (adts, .inl (gI G, nts, .inl fts)), (ads, .inr (7, [.int nm, .int rw, .int sg, .int ms, .ref adsv, .ref adsc])), (adsv, .inl (gI G, nsv, .inl fsv)), (adsc, .inl (gI G, nsc, .inl fsc))] (fun v w => v = some (.long r.1) ∧ w = [(ado, .inr (9, [.ref ads, .ref adp, .ref adx, .ref ady, .ref adt, vs_h])), (adt, .inr (8, [.ref ads, .ref adtc, .ref adtf, .ref adts])), (adtc, .inl (gI G, ntc, .inl r.2.1)), (adtf, .inl (gI G, ntf, .inl r.2.2.1)), (adts, .inl (gI G, nts, .inl r.2.2.2)), (ads, .inr (7, [.int nm, .int rw, .int sg, .int ms, .ref adsv, .ref adsc])), (adsv, .inl (gI G, nsv, .inl fsv)), (adsc, .inl (gI G, nsc, .inl fsc))]) := by
  refine ctr_entry (cc := cX10_test) (maxL := 6) (ret := some .long) (lv0 := [(0, .ref ado), (1, .int p0), (2, .int p1), (3, .int p2), (4, .int v), (5, .int part)]) (by decide) rfl (Nat.le_of_ble_eq_true rfl) (rfl) ?_
  intro K hl9 hG9 hk hn9 hrt
  subst hl9
  subst hG9
  have hR9 : RoomGe rm_X10_test rm_X10_test := RoomGe.rf
  replace h := id_e h
  rw [em_X10_test] at h
  refine v_aload_n hk dX10_test_0 rfl ?_
  refine v_iload_n hk dX10_test_1 rfl ?_
  refine v_iload_n hk dX10_test_2 rfl ?_
  obtain ⟨r_1, er_1, h⟩ := bd_e (g := id) rfl h
  refine v_callV (n := 2) (st := []) (b := ado) (T := TX10) (N := 6) hk dX10_test_3 (c_X10_isPair (kl K) (kG K) ado vs_h ads adp adx ady adt adsv adsc nm rw sg ms p0 p1 r_1 er_1) rfl gd_X10_test_X10_isPair rfl (by decide +kernel) (frok hR9 (Nat.le_of_ble_eq_true rfl) (Nat.le_of_ble_eq_true rfl)) (roomk hR9 (Nat.le_of_ble_eq_true rfl) (Nat.le_of_ble_eq_true rfl)) rfl rfl (Nat.le_of_ble_eq_true rfl) 0 rfl rfl [0, 5] [1, 2, 3, 4, 6, 7] (wr := [(adt, .inr (8, [.ref ads, .ref adtc, .ref adtf, .ref adts])), (adtc, .inl (gI (kG K), ntc, .inl ftc)), (adtf, .inl (gI (kG K), ntf, .inl ftf)), (adts, .inl (gI (kG K), nts, .inl fts)), (adsv, .inl (gI (kG K), nsv, .inl fsv)), (adsc, .inl (gI (kG K), nsc, .inl fsc))]) rfl rfl (by decide) (by decide) (by decide) ?_
  intro v9 w9 hp9
  obtain ⟨rfl, rfl⟩ := hp9
  show V K 6 [(adt, .inr (8, [.ref ads, .ref adtc, .ref adtf, .ref adts])), (adtc, .inl (gI (kG K), ntc, .inl ftc)), (adtf, .inl (gI (kG K), ntf, .inl ftf)), (adts, .inl (gI (kG K), nts, .inl fts)), (adsv, .inl (gI (kG K), nsv, .inl fsv)), (adsc, .inl (gI (kG K), nsc, .inl fsc)), (ado, .inr (9, [.ref ads, .ref adp, .ref adx, .ref ady, .ref adt, vs_h])), (ads, .inr (7, [.int nm, .int rw, .int sg, .int ms, .ref adsv, .ref adsc]))] 0 0 6 [(0, .ref ado), (1, .int p0), (2, .int p1), (3, .int p2), (4, .int v), (5, .int part)] [.int r_1]
  refine v_if_eq (tgt := 17) hk dX10_test_6 (by decide) (fun hc => ?_) (fun hc => ?_)
  · replace h := it_t (g := id) h hc
    refine v_ldc2 (v := (-1)) hk dX10_test_17 (by decide +kernel) ?_
    replace h : some ((-1), ftc, ftf, fts) = some r := h
    replace h := Option.some.inj h
    subst h
    refine v_perm [6, 0, 1, 2, 3, 7, 4, 5] (ws' := [(ado, .inr (9, [.ref ads, .ref adp, .ref adx, .ref ady, .ref adt, vs_h])), (adt, .inr (8, [.ref ads, .ref adtc, .ref adtf, .ref adts])), (adtc, .inl (gI (kG K), ntc, .inl ftc)), (adtf, .inl (gI (kG K), ntf, .inl ftf)), (adts, .inl (gI (kG K), nts, .inl fts)), (ads, .inr (7, [.int nm, .int rw, .int sg, .int ms, .ref adsv, .ref adsc])), (adsv, .inl (gI (kG K), nsv, .inl fsv)), (adsc, .inl (gI (kG K), nsc, .inl fsc))]) rfl rfl (by decide) ?_
    refine hrt (some (.long (-1))) _ _ _ _ _ (⟨rfl, rfl⟩) (Nat.zero_le _) (Nat.zero_le _) (dX10_test_20)
  · replace h := it_f (g := id) h hc
    refine v_iload hk dX10_test_9 rfl ?_
    obtain ⟨r_2, er_2, h⟩ := bd_e (g := id) rfl h
    refine v_callS (n := 1) (st := []) hk dX10_test_11 (c_X10_isPart (kl K) (kG K) part r_2 er_2) gd_X10_test_X10_isPart rfl (by decide +kernel) (frok hR9 (Nat.le_of_ble_eq_true rfl) (Nat.le_of_ble_eq_true rfl)) (roomk hR9 (Nat.le_of_ble_eq_true rfl) (Nat.le_of_ble_eq_true rfl)) rfl rfl (Nat.le_of_ble_eq_true rfl) [] [0, 1, 2, 3, 4, 5, 6, 7] (wr := [(adt, .inr (8, [.ref ads, .ref adtc, .ref adtf, .ref adts])), (adtc, .inl (gI (kG K), ntc, .inl ftc)), (adtf, .inl (gI (kG K), ntf, .inl ftf)), (adts, .inl (gI (kG K), nts, .inl fts)), (adsv, .inl (gI (kG K), nsv, .inl fsv)), (adsc, .inl (gI (kG K), nsc, .inl fsc)), (ado, .inr (9, [.ref ads, .ref adp, .ref adx, .ref ady, .ref adt, vs_h])), (ads, .inr (7, [.int nm, .int rw, .int sg, .int ms, .ref adsv, .ref adsc]))]) rfl rfl (by decide) (by decide) (by decide) ?_
    intro v9 w9 hp9
    obtain ⟨rfl, rfl⟩ := hp9
    show V K 6 [(adt, .inr (8, [.ref ads, .ref adtc, .ref adtf, .ref adts])), (adtc, .inl (gI (kG K), ntc, .inl ftc)), (adtf, .inl (gI (kG K), ntf, .inl ftf)), (adts, .inl (gI (kG K), nts, .inl fts)), (adsv, .inl (gI (kG K), nsv, .inl fsv)), (adsc, .inl (gI (kG K), nsc, .inl fsc)), (ado, .inr (9, [.ref ads, .ref adp, .ref adx, .ref ady, .ref adt, vs_h])), (ads, .inr (7, [.int nm, .int rw, .int sg, .int ms, .ref adsv, .ref adsc]))] 0 0 14 [(0, .ref ado), (1, .int p0), (2, .int p1), (3, .int p2), (4, .int v), (5, .int part)] [.int r_2]
    refine v_if_ne (tgt := 21) hk dX10_test_14 (by decide) (fun hc => ?_) (fun hc => ?_)
    · replace h := it_f (g := id) h hc
      refine v_iload_n hk dX10_test_21 rfl ?_
      refine v_iconst (v := (-1)) hk dX10_test_22 (by decide) ?_
      refine v_icmp_eq (tgt := 58) hk dX10_test_23 (by decide) (fun hc => ?_) (fun hc => ?_)
      · replace h := it_t (g := id) h hc
        refine v_aload_n hk dX10_test_58 rfl ?_
        refine v_get (C := RX10) (T := TX10) (N := 6) (ci := 9) (v := .ref adt) hk dX10_test_59 w2i_X10_test_X100 6 rfl rfl 4 (by decide) (by decide +kernel) rfl rfl ?_
        refine v_iload_n hk dX10_test_62 rfl ?_
        refine v_iload_n hk dX10_test_63 rfl ?_
        refine v_iload_n hk dX10_test_64 rfl ?_
        refine v_iload hk dX10_test_65 rfl ?_
        obtain ⟨r_3, er_3, h⟩ := bd_e (g := id) rfl h
        refine v_callV (n := 4) (st := []) (b := adt) (T := TX9) (N := 4) hk dX10_test_67 (c_X9_count (kl K) (kG K) adt adtc adtf adts ads adsc adsv ntc ftc ntf ftf nts fts nm rw sg ms nsc fsc p0 p1 p2 v r_3 er_3) rfl gd_X10_test_X9_count rfl (by decide +kernel) (frok hR9 (Nat.le_of_ble_eq_true rfl) (Nat.le_of_ble_eq_true rfl)) (roomk hR9 (Nat.le_of_ble_eq_true rfl) (Nat.le_of_ble_eq_true rfl)) rfl rfl (Nat.le_of_ble_eq_true rfl) 0 rfl rfl [0, 1, 2, 3, 7, 5] [4, 6] (wr := [(adsv, .inl (gI (kG K), nsv, .inl fsv)), (ado, .inr (9, [.ref ads, .ref adp, .ref adx, .ref ady, .ref adt, vs_h]))]) rfl rfl (by decide) (by decide) (by decide) ?_
        intro v9 w9 hp9
        obtain ⟨rfl, rfl⟩ := hp9
        show V K 6 [(adsv, .inl (gI (kG K), nsv, .inl fsv)), (ado, .inr (9, [.ref ads, .ref adp, .ref adx, .ref ady, .ref adt, vs_h])), (adt, .inr (8, [.ref ads, .ref adtc, .ref adtf, .ref adts])), (adtc, .inl (gI (kG K), ntc, .inl r_3.1)), (adtf, .inl (gI (kG K), ntf, .inl r_3.2.1)), (adts, .inl (gI (kG K), nts, .inl r_3.2.2)), (ads, .inr (7, [.int nm, .int rw, .int sg, .int ms, .ref adsv, .ref adsc])), (adsc, .inl (gI (kG K), nsc, .inl fsc))] 0 0 70 [(0, .ref ado), (1, .int p0), (2, .int p1), (3, .int p2), (4, .int v), (5, .int part)] []
        refine v_iload hk dX10_test_70 rfl ?_
        refine v_if_ne (tgt := 85) hk dX10_test_72 (by decide) (fun hc => ?_) (fun hc => ?_)
        · replace h := it_f (g := id) h hc
          refine v_aload_n hk dX10_test_85 rfl ?_
          refine v_get (C := RX10) (T := TX10) (N := 6) (ci := 9) (v := .ref adt) hk dX10_test_86 w2i_X10_test_X100 1 rfl rfl 4 (by decide) (by decide +kernel) rfl rfl ?_
          obtain ⟨r_4, er_4, h⟩ := bd_e (g := id) rfl h
          refine v_callV (n := 0) (st := []) (b := adt) (T := TX9) (N := 4) hk dX10_test_89 (c_X9_allWays (kl K) (kG K) adt adts ads adtc adtf nts r_3.2.2 r_4 er_4) rfl gd_X10_test_X9_allWays rfl (by decide +kernel) (frok hR9 (Nat.le_of_ble_eq_true rfl) (Nat.le_of_ble_eq_true rfl)) (roomk hR9 (Nat.le_of_ble_eq_true rfl) (Nat.le_of_ble_eq_true rfl)) rfl rfl (Nat.le_of_ble_eq_true rfl) 2 rfl rfl [2, 5] [0, 1, 3, 4, 6, 7] (wr := [(adsv, .inl (gI (kG K), nsv, .inl fsv)), (ado, .inr (9, [.ref ads, .ref adp, .ref adx, .ref ady, .ref adt, vs_h])), (adtc, .inl (gI (kG K), ntc, .inl r_3.1)), (adtf, .inl (gI (kG K), ntf, .inl r_3.2.1)), (ads, .inr (7, [.int nm, .int rw, .int sg, .int ms, .ref adsv, .ref adsc])), (adsc, .inl (gI (kG K), nsc, .inl fsc))]) rfl rfl (by decide) (by decide) (by decide) ?_
          intro v9 w9 hp9
          obtain ⟨rfl, rfl⟩ := hp9
          show V K 6 [(adsv, .inl (gI (kG K), nsv, .inl fsv)), (ado, .inr (9, [.ref ads, .ref adp, .ref adx, .ref ady, .ref adt, vs_h])), (adtc, .inl (gI (kG K), ntc, .inl r_3.1)), (adtf, .inl (gI (kG K), ntf, .inl r_3.2.1)), (ads, .inr (7, [.int nm, .int rw, .int sg, .int ms, .ref adsv, .ref adsc])), (adsc, .inl (gI (kG K), nsc, .inl fsc)), (adt, .inr (8, [.ref ads, .ref adtc, .ref adtf, .ref adts])), (adts, .inl (gI (kG K), nts, .inl r_3.2.2))] 0 0 92 [(0, .ref ado), (1, .int p0), (2, .int p1), (3, .int p2), (4, .int v), (5, .int part)] [.long r_4]
          replace h : some (r_4, r_3.1, r_3.2.1, r_3.2.2) = some r := h
          replace h := Option.some.inj h
          subst h
          refine v_perm [1, 6, 2, 3, 7, 4, 0, 5] (ws' := [(ado, .inr (9, [.ref ads, .ref adp, .ref adx, .ref ady, .ref adt, vs_h])), (adt, .inr (8, [.ref ads, .ref adtc, .ref adtf, .ref adts])), (adtc, .inl (gI (kG K), ntc, .inl r_3.1)), (adtf, .inl (gI (kG K), ntf, .inl r_3.2.1)), (adts, .inl (gI (kG K), nts, .inl r_3.2.2)), (ads, .inr (7, [.int nm, .int rw, .int sg, .int ms, .ref adsv, .ref adsc])), (adsv, .inl (gI (kG K), nsv, .inl fsv)), (adsc, .inl (gI (kG K), nsc, .inl fsc))]) rfl rfl (by decide) ?_
          refine hrt (some (.long r_4)) _ _ _ _ _ (⟨rfl, rfl⟩) (Nat.zero_le _) (Nat.zero_le _) (dX10_test_92)
        · replace h := it_t (g := id) h hc
          refine v_aload_n hk dX10_test_75 rfl ?_
          refine v_get (C := RX10) (T := TX10) (N := 6) (ci := 9) (v := .ref adt) hk dX10_test_76 w2i_X10_test_X100 1 rfl rfl 4 (by decide) (by decide +kernel) rfl rfl ?_
          obtain ⟨r_5, er_5, h⟩ := bd_e (g := id) rfl h
          refine v_callV (n := 0) (st := []) (b := adt) (T := TX9) (N := 4) hk dX10_test_79 (c_X9_waysNotAbove (kl K) (kG K) adt adtc adtf adts ads ntc r_3.1 ntf r_3.2.1 nts r_3.2.2 r_5 er_5) rfl gd_X10_test_X9_waysNotAbove rfl (by decide +kernel) (frok hR9 (Nat.le_of_ble_eq_true rfl) (Nat.le_of_ble_eq_true rfl)) (roomk hR9 (Nat.le_of_ble_eq_true rfl) (Nat.le_of_ble_eq_true rfl)) rfl rfl (Nat.le_of_ble_eq_true rfl) 2 rfl rfl [2, 3, 4, 5] [0, 1, 6, 7] (wr := [(adsv, .inl (gI (kG K), nsv, .inl fsv)), (ado, .inr (9, [.ref ads, .ref adp, .ref adx, .ref ady, .ref adt, vs_h])), (ads, .inr (7, [.int nm, .int rw, .int sg, .int ms, .ref adsv, .ref adsc])), (adsc, .inl (gI (kG K), nsc, .inl fsc))]) rfl rfl (by decide) (by decide) (by decide) ?_
          intro v9 w9 hp9
          obtain ⟨rfl, rfl⟩ := hp9
          show V K 6 [(adsv, .inl (gI (kG K), nsv, .inl fsv)), (ado, .inr (9, [.ref ads, .ref adp, .ref adx, .ref ady, .ref adt, vs_h])), (ads, .inr (7, [.int nm, .int rw, .int sg, .int ms, .ref adsv, .ref adsc])), (adsc, .inl (gI (kG K), nsc, .inl fsc)), (adt, .inr (8, [.ref ads, .ref adtc, .ref adtf, .ref adts])), (adtc, .inl (gI (kG K), ntc, .inl r_3.1)), (adtf, .inl (gI (kG K), ntf, .inl r_3.2.1)), (adts, .inl (gI (kG K), nts, .inl r_3.2.2))] 0 0 82 [(0, .ref ado), (1, .int p0), (2, .int p1), (3, .int p2), (4, .int v), (5, .int part)] [.long r_5]
          refine v_goto (tgt := 92) hk dX10_test_82 (by decide) ?_
          replace h : some (r_5, r_3.1, r_3.2.1, r_3.2.2) = some r := h
          replace h := Option.some.inj h
          subst h
          refine v_perm [1, 4, 5, 6, 7, 2, 0, 3] (ws' := [(ado, .inr (9, [.ref ads, .ref adp, .ref adx, .ref ady, .ref adt, vs_h])), (adt, .inr (8, [.ref ads, .ref adtc, .ref adtf, .ref adts])), (adtc, .inl (gI (kG K), ntc, .inl r_3.1)), (adtf, .inl (gI (kG K), ntf, .inl r_3.2.1)), (adts, .inl (gI (kG K), nts, .inl r_3.2.2)), (ads, .inr (7, [.int nm, .int rw, .int sg, .int ms, .ref adsv, .ref adsc])), (adsv, .inl (gI (kG K), nsv, .inl fsv)), (adsc, .inl (gI (kG K), nsc, .inl fsc))]) rfl rfl (by decide) ?_
          refine hrt (some (.long r_5)) _ _ _ _ _ (⟨rfl, rfl⟩) (Nat.zero_le _) (Nat.zero_le _) (dX10_test_92)
      · replace h := it_f (g := id) h hc
        refine v_aload_n hk dX10_test_26 rfl ?_
        refine v_iload_n hk dX10_test_27 rfl ?_
        refine v_iload_n hk dX10_test_28 rfl ?_
        obtain ⟨r_6, er_6, h⟩ := bd_e (g := id) rfl h
        refine v_callV (n := 2) (st := []) (b := ado) (T := TX10) (N := 6) hk dX10_test_29 (c_X10_isPair (kl K) (kG K) ado vs_h ads adp adx ady adt adsv adsc nm rw sg ms p0 p2 r_6 er_6) rfl gd_X10_test_X10_isPair rfl (by decide +kernel) (frok hR9 (Nat.le_of_ble_eq_true rfl) (Nat.le_of_ble_eq_true rfl)) (roomk hR9 (Nat.le_of_ble_eq_true rfl) (Nat.le_of_ble_eq_true rfl)) rfl rfl (Nat.le_of_ble_eq_true rfl) 6 rfl rfl [6, 7] [0, 1, 2, 3, 4, 5] (wr := [(adt, .inr (8, [.ref ads, .ref adtc, .ref adtf, .ref adts])), (adtc, .inl (gI (kG K), ntc, .inl ftc)), (adtf, .inl (gI (kG K), ntf, .inl ftf)), (adts, .inl (gI (kG K), nts, .inl fts)), (adsv, .inl (gI (kG K), nsv, .inl fsv)), (adsc, .inl (gI (kG K), nsc, .inl fsc))]) rfl rfl (by decide) (by decide) (by decide) ?_
        intro v9 w9 hp9
        obtain ⟨rfl, rfl⟩ := hp9
        show V K 6 [(adt, .inr (8, [.ref ads, .ref adtc, .ref adtf, .ref adts])), (adtc, .inl (gI (kG K), ntc, .inl ftc)), (adtf, .inl (gI (kG K), ntf, .inl ftf)), (adts, .inl (gI (kG K), nts, .inl fts)), (adsv, .inl (gI (kG K), nsv, .inl fsv)), (adsc, .inl (gI (kG K), nsc, .inl fsc)), (ado, .inr (9, [.ref ads, .ref adp, .ref adx, .ref ady, .ref adt, vs_h])), (ads, .inr (7, [.int nm, .int rw, .int sg, .int ms, .ref adsv, .ref adsc]))] 0 0 32 [(0, .ref ado), (1, .int p0), (2, .int p1), (3, .int p2), (4, .int v), (5, .int part)] [.int r_6]
        refine v_if_eq (tgt := 54) hk dX10_test_32 (by decide) (fun hc => ?_) (fun hc => ?_)
        · replace h := it_t (g := id) h hc
          refine v_ldc2 (v := (-1)) hk dX10_test_54 (by decide +kernel) ?_
          replace h : some ((-1), ftc, ftf, fts) = some r := h
          replace h := Option.some.inj h
          subst h
          refine v_perm [6, 0, 1, 2, 3, 7, 4, 5] (ws' := [(ado, .inr (9, [.ref ads, .ref adp, .ref adx, .ref ady, .ref adt, vs_h])), (adt, .inr (8, [.ref ads, .ref adtc, .ref adtf, .ref adts])), (adtc, .inl (gI (kG K), ntc, .inl ftc)), (adtf, .inl (gI (kG K), ntf, .inl ftf)), (adts, .inl (gI (kG K), nts, .inl fts)), (ads, .inr (7, [.int nm, .int rw, .int sg, .int ms, .ref adsv, .ref adsc])), (adsv, .inl (gI (kG K), nsv, .inl fsv)), (adsc, .inl (gI (kG K), nsc, .inl fsc))]) rfl rfl (by decide) ?_
          refine hrt (some (.long (-1))) _ _ _ _ _ (⟨rfl, rfl⟩) (Nat.zero_le _) (Nat.zero_le _) (dX10_test_57)
        · replace h := it_f (g := id) h hc
          refine v_aload_n hk dX10_test_35 rfl ?_
          refine v_iload_n hk dX10_test_36 rfl ?_
          refine v_iload_n hk dX10_test_37 rfl ?_
          obtain ⟨r_7, er_7, h⟩ := bd_e (g := id) rfl h
          refine v_callV (n := 2) (st := []) (b := ado) (T := TX10) (N := 6) hk dX10_test_38 (c_X10_isPair (kl K) (kG K) ado vs_h ads adp adx ady adt adsv adsc nm rw sg ms p1 p2 r_7 er_7) rfl gd_X10_test_X10_isPair rfl (by decide +kernel) (frok hR9 (Nat.le_of_ble_eq_true rfl) (Nat.le_of_ble_eq_true rfl)) (roomk hR9 (Nat.le_of_ble_eq_true rfl) (Nat.le_of_ble_eq_true rfl)) rfl rfl (Nat.le_of_ble_eq_true rfl) 6 rfl rfl [6, 7] [0, 1, 2, 3, 4, 5] (wr := [(adt, .inr (8, [.ref ads, .ref adtc, .ref adtf, .ref adts])), (adtc, .inl (gI (kG K), ntc, .inl ftc)), (adtf, .inl (gI (kG K), ntf, .inl ftf)), (adts, .inl (gI (kG K), nts, .inl fts)), (adsv, .inl (gI (kG K), nsv, .inl fsv)), (adsc, .inl (gI (kG K), nsc, .inl fsc))]) rfl rfl (by decide) (by decide) (by decide) ?_
          intro v9 w9 hp9
          obtain ⟨rfl, rfl⟩ := hp9
          show V K 6 [(adt, .inr (8, [.ref ads, .ref adtc, .ref adtf, .ref adts])), (adtc, .inl (gI (kG K), ntc, .inl ftc)), (adtf, .inl (gI (kG K), ntf, .inl ftf)), (adts, .inl (gI (kG K), nts, .inl fts)), (adsv, .inl (gI (kG K), nsv, .inl fsv)), (adsc, .inl (gI (kG K), nsc, .inl fsc)), (ado, .inr (9, [.ref ads, .ref adp, .ref adx, .ref ady, .ref adt, vs_h])), (ads, .inr (7, [.int nm, .int rw, .int sg, .int ms, .ref adsv, .ref adsc]))] 0 0 41 [(0, .ref ado), (1, .int p0), (2, .int p1), (3, .int p2), (4, .int v), (5, .int part)] [.int r_7]
          refine v_if_eq (tgt := 54) hk dX10_test_41 (by decide) (fun hc => ?_) (fun hc => ?_)
          · replace h := it_t (g := id) h hc
            refine v_ldc2 (v := (-1)) hk dX10_test_54 (by decide +kernel) ?_
            replace h : some ((-1), ftc, ftf, fts) = some r := h
            replace h := Option.some.inj h
            subst h
            refine v_perm [6, 0, 1, 2, 3, 7, 4, 5] (ws' := [(ado, .inr (9, [.ref ads, .ref adp, .ref adx, .ref ady, .ref adt, vs_h])), (adt, .inr (8, [.ref ads, .ref adtc, .ref adtf, .ref adts])), (adtc, .inl (gI (kG K), ntc, .inl ftc)), (adtf, .inl (gI (kG K), ntf, .inl ftf)), (adts, .inl (gI (kG K), nts, .inl fts)), (ads, .inr (7, [.int nm, .int rw, .int sg, .int ms, .ref adsv, .ref adsc])), (adsv, .inl (gI (kG K), nsv, .inl fsv)), (adsc, .inl (gI (kG K), nsc, .inl fsc))]) rfl rfl (by decide) ?_
            refine hrt (some (.long (-1))) _ _ _ _ _ (⟨rfl, rfl⟩) (Nat.zero_le _) (Nat.zero_le _) (dX10_test_57)
          · replace h := it_f (g := id) h hc
            refine v_aload_n hk dX10_test_44 rfl ?_
            refine v_iload_n hk dX10_test_45 rfl ?_
            refine v_iload hk dX10_test_46 rfl ?_
            obtain ⟨r_8, er_8, h⟩ := bd_e (g := id) rfl h
            refine v_callV (n := 2) (st := []) (b := ado) (T := TX10) (N := 6) hk dX10_test_48 (c_X10_isValue (kl K) (kG K) ado vs_h ads adsv adp adx ady adt adsc nm rw sg ms nsv fsv p2 v r_8 er_8) rfl gd_X10_test_X10_isValue rfl (by decide +kernel) (frok hR9 (Nat.le_of_ble_eq_true rfl) (Nat.le_of_ble_eq_true rfl)) (roomk hR9 (Nat.le_of_ble_eq_true rfl) (Nat.le_of_ble_eq_true rfl)) rfl rfl (Nat.le_of_ble_eq_true rfl) 6 rfl rfl [6, 7, 4] [0, 1, 2, 3, 5] (wr := [(adt, .inr (8, [.ref ads, .ref adtc, .ref adtf, .ref adts])), (adtc, .inl (gI (kG K), ntc, .inl ftc)), (adtf, .inl (gI (kG K), ntf, .inl ftf)), (adts, .inl (gI (kG K), nts, .inl fts)), (adsc, .inl (gI (kG K), nsc, .inl fsc))]) rfl rfl (by decide) (by decide) (by decide) ?_
            intro v9 w9 hp9
            obtain ⟨rfl, rfl⟩ := hp9
            show V K 6 [(adt, .inr (8, [.ref ads, .ref adtc, .ref adtf, .ref adts])), (adtc, .inl (gI (kG K), ntc, .inl ftc)), (adtf, .inl (gI (kG K), ntf, .inl ftf)), (adts, .inl (gI (kG K), nts, .inl fts)), (adsc, .inl (gI (kG K), nsc, .inl fsc)), (ado, .inr (9, [.ref ads, .ref adp, .ref adx, .ref ady, .ref adt, vs_h])), (ads, .inr (7, [.int nm, .int rw, .int sg, .int ms, .ref adsv, .ref adsc])), (adsv, .inl (gI (kG K), nsv, .inl fsv))] 0 0 51 [(0, .ref ado), (1, .int p0), (2, .int p1), (3, .int p2), (4, .int v), (5, .int part)] [.int r_8]
            refine v_if_ne (tgt := 58) hk dX10_test_51 (by decide) (fun hc => ?_) (fun hc => ?_)
            · replace h := it_f (g := id) h hc
              refine v_aload_n hk dX10_test_58 rfl ?_
              refine v_get (C := RX10) (T := TX10) (N := 6) (ci := 9) (v := .ref adt) hk dX10_test_59 w2i_X10_test_X100 5 rfl rfl 4 (by decide) (by decide +kernel) rfl rfl ?_
              refine v_iload_n hk dX10_test_62 rfl ?_
              refine v_iload_n hk dX10_test_63 rfl ?_
              refine v_iload_n hk dX10_test_64 rfl ?_
              refine v_iload hk dX10_test_65 rfl ?_
              obtain ⟨r_9, er_9, h⟩ := bd_e (g := id) rfl h
              refine v_callV (n := 4) (st := []) (b := adt) (T := TX9) (N := 4) hk dX10_test_67 (c_X9_count (kl K) (kG K) adt adtc adtf adts ads adsc adsv ntc ftc ntf ftf nts fts nm rw sg ms nsc fsc p0 p1 p2 v r_9 er_9) rfl gd_X10_test_X9_count rfl (by decide +kernel) (frok hR9 (Nat.le_of_ble_eq_true rfl) (Nat.le_of_ble_eq_true rfl)) (roomk hR9 (Nat.le_of_ble_eq_true rfl) (Nat.le_of_ble_eq_true rfl)) rfl rfl (Nat.le_of_ble_eq_true rfl) 0 rfl rfl [0, 1, 2, 3, 6, 4] [5, 7] (wr := [(ado, .inr (9, [.ref ads, .ref adp, .ref adx, .ref ady, .ref adt, vs_h])), (adsv, .inl (gI (kG K), nsv, .inl fsv))]) rfl rfl (by decide) (by decide) (by decide) ?_
              intro v9 w9 hp9
              obtain ⟨rfl, rfl⟩ := hp9
              show V K 6 [(ado, .inr (9, [.ref ads, .ref adp, .ref adx, .ref ady, .ref adt, vs_h])), (adsv, .inl (gI (kG K), nsv, .inl fsv)), (adt, .inr (8, [.ref ads, .ref adtc, .ref adtf, .ref adts])), (adtc, .inl (gI (kG K), ntc, .inl r_9.1)), (adtf, .inl (gI (kG K), ntf, .inl r_9.2.1)), (adts, .inl (gI (kG K), nts, .inl r_9.2.2)), (ads, .inr (7, [.int nm, .int rw, .int sg, .int ms, .ref adsv, .ref adsc])), (adsc, .inl (gI (kG K), nsc, .inl fsc))] 0 0 70 [(0, .ref ado), (1, .int p0), (2, .int p1), (3, .int p2), (4, .int v), (5, .int part)] []
              refine v_iload hk dX10_test_70 rfl ?_
              refine v_if_ne (tgt := 85) hk dX10_test_72 (by decide) (fun hc => ?_) (fun hc => ?_)
              · replace h := it_f (g := id) h hc
                refine v_aload_n hk dX10_test_85 rfl ?_
                refine v_get (C := RX10) (T := TX10) (N := 6) (ci := 9) (v := .ref adt) hk dX10_test_86 w2i_X10_test_X100 0 rfl rfl 4 (by decide) (by decide +kernel) rfl rfl ?_
                obtain ⟨r_10, er_10, h⟩ := bd_e (g := id) rfl h
                refine v_callV (n := 0) (st := []) (b := adt) (T := TX9) (N := 4) hk dX10_test_89 (c_X9_allWays (kl K) (kG K) adt adts ads adtc adtf nts r_9.2.2 r_10 er_10) rfl gd_X10_test_X9_allWays rfl (by decide +kernel) (frok hR9 (Nat.le_of_ble_eq_true rfl) (Nat.le_of_ble_eq_true rfl)) (roomk hR9 (Nat.le_of_ble_eq_true rfl) (Nat.le_of_ble_eq_true rfl)) rfl rfl (Nat.le_of_ble_eq_true rfl) 2 rfl rfl [2, 5] [0, 1, 3, 4, 6, 7] (wr := [(ado, .inr (9, [.ref ads, .ref adp, .ref adx, .ref ady, .ref adt, vs_h])), (adsv, .inl (gI (kG K), nsv, .inl fsv)), (adtc, .inl (gI (kG K), ntc, .inl r_9.1)), (adtf, .inl (gI (kG K), ntf, .inl r_9.2.1)), (ads, .inr (7, [.int nm, .int rw, .int sg, .int ms, .ref adsv, .ref adsc])), (adsc, .inl (gI (kG K), nsc, .inl fsc))]) rfl rfl (by decide) (by decide) (by decide) ?_
                intro v9 w9 hp9
                obtain ⟨rfl, rfl⟩ := hp9
                show V K 6 [(ado, .inr (9, [.ref ads, .ref adp, .ref adx, .ref ady, .ref adt, vs_h])), (adsv, .inl (gI (kG K), nsv, .inl fsv)), (adtc, .inl (gI (kG K), ntc, .inl r_9.1)), (adtf, .inl (gI (kG K), ntf, .inl r_9.2.1)), (ads, .inr (7, [.int nm, .int rw, .int sg, .int ms, .ref adsv, .ref adsc])), (adsc, .inl (gI (kG K), nsc, .inl fsc)), (adt, .inr (8, [.ref ads, .ref adtc, .ref adtf, .ref adts])), (adts, .inl (gI (kG K), nts, .inl r_9.2.2))] 0 0 92 [(0, .ref ado), (1, .int p0), (2, .int p1), (3, .int p2), (4, .int v), (5, .int part)] [.long r_10]
                replace h : some (r_10, r_9.1, r_9.2.1, r_9.2.2) = some r := h
                replace h := Option.some.inj h
                subst h
                refine v_perm [0, 6, 2, 3, 7, 4, 1, 5] (ws' := [(ado, .inr (9, [.ref ads, .ref adp, .ref adx, .ref ady, .ref adt, vs_h])), (adt, .inr (8, [.ref ads, .ref adtc, .ref adtf, .ref adts])), (adtc, .inl (gI (kG K), ntc, .inl r_9.1)), (adtf, .inl (gI (kG K), ntf, .inl r_9.2.1)), (adts, .inl (gI (kG K), nts, .inl r_9.2.2)), (ads, .inr (7, [.int nm, .int rw, .int sg, .int ms, .ref adsv, .ref adsc])), (adsv, .inl (gI (kG K), nsv, .inl fsv)), (adsc, .inl (gI (kG K), nsc, .inl fsc))]) rfl rfl (by decide) ?_
                refine hrt (some (.long r_10)) _ _ _ _ _ (⟨rfl, rfl⟩) (Nat.zero_le _) (Nat.zero_le _) (dX10_test_92)
              · replace h := it_t (g := id) h hc
                refine v_aload_n hk dX10_test_75 rfl ?_
                refine v_get (C := RX10) (T := TX10) (N := 6) (ci := 9) (v := .ref adt) hk dX10_test_76 w2i_X10_test_X100 0 rfl rfl 4 (by decide) (by decide +kernel) rfl rfl ?_
                obtain ⟨r_11, er_11, h⟩ := bd_e (g := id) rfl h
                refine v_callV (n := 0) (st := []) (b := adt) (T := TX9) (N := 4) hk dX10_test_79 (c_X9_waysNotAbove (kl K) (kG K) adt adtc adtf adts ads ntc r_9.1 ntf r_9.2.1 nts r_9.2.2 r_11 er_11) rfl gd_X10_test_X9_waysNotAbove rfl (by decide +kernel) (frok hR9 (Nat.le_of_ble_eq_true rfl) (Nat.le_of_ble_eq_true rfl)) (roomk hR9 (Nat.le_of_ble_eq_true rfl) (Nat.le_of_ble_eq_true rfl)) rfl rfl (Nat.le_of_ble_eq_true rfl) 2 rfl rfl [2, 3, 4, 5] [0, 1, 6, 7] (wr := [(ado, .inr (9, [.ref ads, .ref adp, .ref adx, .ref ady, .ref adt, vs_h])), (adsv, .inl (gI (kG K), nsv, .inl fsv)), (ads, .inr (7, [.int nm, .int rw, .int sg, .int ms, .ref adsv, .ref adsc])), (adsc, .inl (gI (kG K), nsc, .inl fsc))]) rfl rfl (by decide) (by decide) (by decide) ?_
                intro v9 w9 hp9
                obtain ⟨rfl, rfl⟩ := hp9
                show V K 6 [(ado, .inr (9, [.ref ads, .ref adp, .ref adx, .ref ady, .ref adt, vs_h])), (adsv, .inl (gI (kG K), nsv, .inl fsv)), (ads, .inr (7, [.int nm, .int rw, .int sg, .int ms, .ref adsv, .ref adsc])), (adsc, .inl (gI (kG K), nsc, .inl fsc)), (adt, .inr (8, [.ref ads, .ref adtc, .ref adtf, .ref adts])), (adtc, .inl (gI (kG K), ntc, .inl r_9.1)), (adtf, .inl (gI (kG K), ntf, .inl r_9.2.1)), (adts, .inl (gI (kG K), nts, .inl r_9.2.2))] 0 0 82 [(0, .ref ado), (1, .int p0), (2, .int p1), (3, .int p2), (4, .int v), (5, .int part)] [.long r_11]
                refine v_goto (tgt := 92) hk dX10_test_82 (by decide) ?_
                replace h : some (r_11, r_9.1, r_9.2.1, r_9.2.2) = some r := h
                replace h := Option.some.inj h
                subst h
                refine v_perm [0, 4, 5, 6, 7, 2, 1, 3] (ws' := [(ado, .inr (9, [.ref ads, .ref adp, .ref adx, .ref ady, .ref adt, vs_h])), (adt, .inr (8, [.ref ads, .ref adtc, .ref adtf, .ref adts])), (adtc, .inl (gI (kG K), ntc, .inl r_9.1)), (adtf, .inl (gI (kG K), ntf, .inl r_9.2.1)), (adts, .inl (gI (kG K), nts, .inl r_9.2.2)), (ads, .inr (7, [.int nm, .int rw, .int sg, .int ms, .ref adsv, .ref adsc])), (adsv, .inl (gI (kG K), nsv, .inl fsv)), (adsc, .inl (gI (kG K), nsc, .inl fsc))]) rfl rfl (by decide) ?_
                refine hrt (some (.long r_11)) _ _ _ _ _ (⟨rfl, rfl⟩) (Nat.zero_le _) (Nat.zero_le _) (dX10_test_92)
            · replace h := it_t (g := id) h hc
              refine v_ldc2 (v := (-1)) hk dX10_test_54 (by decide +kernel) ?_
              replace h : some ((-1), ftc, ftf, fts) = some r := h
              replace h := Option.some.inj h
              subst h
              refine v_perm [5, 0, 1, 2, 3, 6, 7, 4] (ws' := [(ado, .inr (9, [.ref ads, .ref adp, .ref adx, .ref ady, .ref adt, vs_h])), (adt, .inr (8, [.ref ads, .ref adtc, .ref adtf, .ref adts])), (adtc, .inl (gI (kG K), ntc, .inl ftc)), (adtf, .inl (gI (kG K), ntf, .inl ftf)), (adts, .inl (gI (kG K), nts, .inl fts)), (ads, .inr (7, [.int nm, .int rw, .int sg, .int ms, .ref adsv, .ref adsc])), (adsv, .inl (gI (kG K), nsv, .inl fsv)), (adsc, .inl (gI (kG K), nsc, .inl fsc))]) rfl rfl (by decide) ?_
              refine hrt (some (.long (-1))) _ _ _ _ _ (⟨rfl, rfl⟩) (Nat.zero_le _) (Nat.zero_le _) (dX10_test_57)
    · replace h := it_t (g := id) h hc
      refine v_ldc2 (v := (-1)) hk dX10_test_17 (by decide +kernel) ?_
      replace h : some ((-1), ftc, ftf, fts) = some r := h
      replace h := Option.some.inj h
      subst h
      refine v_perm [6, 0, 1, 2, 3, 7, 4, 5] (ws' := [(ado, .inr (9, [.ref ads, .ref adp, .ref adx, .ref ady, .ref adt, vs_h])), (adt, .inr (8, [.ref ads, .ref adtc, .ref adtf, .ref adts])), (adtc, .inl (gI (kG K), ntc, .inl ftc)), (adtf, .inl (gI (kG K), ntf, .inl ftf)), (adts, .inl (gI (kG K), nts, .inl fts)), (ads, .inr (7, [.int nm, .int rw, .int sg, .int ms, .ref adsv, .ref adsc])), (adsv, .inl (gI (kG K), nsv, .inl fsv)), (adsc, .inl (gI (kG K), nsc, .inl fsc))]) rfl rfl (by decide) ?_
      refine hrt (some (.long (-1))) _ _ _ _ _ (⟨rfl, rfl⟩) (Nat.zero_le _) (Nat.zero_le _) (dX10_test_20)
abbrev rm_X10_name : Room := { frames := 0, cells := 0, slots := 0, locals := 0 }
set_option maxHeartbeats 4000000 in
set_option maxRecDepth 100000 in
theorem c_X10_name (l : Launch) (G : GG) (ado : Nat) (vs_h : Value) (ads : Nat) (adsv : Nat) (adsc : Nat) (adp : Nat) (adx : Nat) (ady : Nat) (adt : Nat) (nm : Int32) (rw : Int32) (sg : Int32) (ms : Int32) (nsv : Nat) (fsv : Nat → Int32) (nsc : Nat) (fsc : Nat → Int32) (v : Int32) (r : Int32) (h : m_X10_name nm rw sg ms nsv fsv nsc fsc v = some r) : Ctr l G yX10_name w2_X10_name rm_X10_name [.ref ado, .int v] [(ado, .inr (9, [.ref ads, .ref adp, .ref adx, .ref ady, .ref adt, vs_h])), (ads, .inr (7, [.int nm, .int rw, .int sg, .int ms, .ref adsv, .ref adsc])), (adsv, .inl (gI G, nsv, .inl fsv)), (adsc, .inl (gI G, nsc, .inl fsc))] (fun v w => v = some (.int r) ∧ w = [(ado, .inr (9, [.ref ads, .ref adp, .ref adx, .ref ady, .ref adt, vs_h])), (ads, .inr (7, [.int nm, .int rw, .int sg, .int ms, .ref adsv, .ref adsc])), (adsv, .inl (gI G, nsv, .inl fsv)), (adsc, .inl (gI G, nsc, .inl fsc))]) := by
  refine ctr_entry (cc := cX10_name) (maxL := 2) (ret := some .int) (lv0 := [(0, .ref ado), (1, .int v)]) (by decide) rfl (Nat.le_of_ble_eq_true rfl) (rfl) ?_
  intro K hl9 hG9 hk hn9 hrt
  subst hl9
  subst hG9
  have hR9 : RoomGe rm_X10_name rm_X10_name := RoomGe.rf
  replace h := id_e h
  rw [em_X10_name] at h
  refine v_iload_n hk dX10_name_0 rfl ?_
  refine v_iconst (v := 2) hk dX10_name_1 (by decide) ?_
  refine v_icmp_eq (tgt := 12) hk dX10_name_2 (by decide) (fun hc => ?_) (fun hc => ?_)
  · replace h := it_t (g := id) h hc
    refine v_aload_n hk dX10_name_12 rfl ?_
    refine v_get (C := RX10) (T := TX10) (N := 6) (ci := 9) (v := .ref ads) hk dX10_name_13 w2i_X10_name_X100 0 rfl rfl 0 (by decide) (by decide +kernel) rfl rfl ?_
    refine v_get (C := RX8) (T := TX8) (N := 6) (ci := 7) (v := .int rw) hk dX10_name_16 w2i_X10_name_X80 1 rfl rfl 1 (by decide) (by decide +kernel) rfl rfl ?_
    refine v_if_le (tgt := 25) hk dX10_name_19 (by decide) (fun hc => ?_) (fun hc => ?_)
    · replace h := it_t (g := id) h hc
      refine v_aload_n hk dX10_name_25 rfl ?_
      refine v_get (C := RX10) (T := TX10) (N := 6) (ci := 9) (v := .ref ads) hk dX10_name_26 w2i_X10_name_X100 0 rfl rfl 0 (by decide) (by decide +kernel) rfl rfl ?_
      refine v_get (C := RX8) (T := TX8) (N := 6) (ci := 7) (v := .int nm) hk dX10_name_29 w2i_X10_name_X80 1 rfl rfl 0 (by decide) (by decide +kernel) rfl rfl ?_
      refine v_iconst (v := 5) hk dX10_name_32 (by decide) ?_
      refine v_icmp_lt (tgt := 39) hk dX10_name_33 (by decide) (fun hc => ?_) (fun hc => ?_)
      · replace h := it_t (g := id) h hc
        refine v_aload_n hk dX10_name_39 rfl ?_
        exact nn_e (g := id) rfl h
      · replace h := it_f (g := id) h hc
        refine v_bipush (v := (-3)) hk dX10_name_36 (by decide) ?_
        replace h : some (-3) = some r := h
        replace h := Option.some.inj h
        subst h
        refine hrt (some (.int (-3))) _ _ _ _ _ (⟨rfl, rfl⟩) (Nat.zero_le _) (Nat.zero_le _) (dX10_name_38)
    · replace h := it_f (g := id) h hc
      refine v_bipush (v := (-2)) hk dX10_name_22 (by decide) ?_
      replace h : some (-2) = some r := h
      replace h := Option.some.inj h
      subst h
      refine hrt (some (.int (-2))) _ _ _ _ _ (⟨rfl, rfl⟩) (Nat.zero_le _) (Nat.zero_le _) (dX10_name_24)
  · replace h := it_f (g := id) h hc
    refine v_iload_n hk dX10_name_5 rfl ?_
    refine v_iconst (v := 3) hk dX10_name_6 (by decide) ?_
    refine v_icmp_eq (tgt := 12) hk dX10_name_7 (by decide) (fun hc => ?_) (fun hc => ?_)
    · replace h := it_t (g := id) h hc
      refine v_aload_n hk dX10_name_12 rfl ?_
      refine v_get (C := RX10) (T := TX10) (N := 6) (ci := 9) (v := .ref ads) hk dX10_name_13 w2i_X10_name_X100 0 rfl rfl 0 (by decide) (by decide +kernel) rfl rfl ?_
      refine v_get (C := RX8) (T := TX8) (N := 6) (ci := 7) (v := .int rw) hk dX10_name_16 w2i_X10_name_X80 1 rfl rfl 1 (by decide) (by decide +kernel) rfl rfl ?_
      refine v_if_le (tgt := 25) hk dX10_name_19 (by decide) (fun hc => ?_) (fun hc => ?_)
      · replace h := it_t (g := id) h hc
        refine v_aload_n hk dX10_name_25 rfl ?_
        refine v_get (C := RX10) (T := TX10) (N := 6) (ci := 9) (v := .ref ads) hk dX10_name_26 w2i_X10_name_X100 0 rfl rfl 0 (by decide) (by decide +kernel) rfl rfl ?_
        refine v_get (C := RX8) (T := TX8) (N := 6) (ci := 7) (v := .int nm) hk dX10_name_29 w2i_X10_name_X80 1 rfl rfl 0 (by decide) (by decide +kernel) rfl rfl ?_
        refine v_iconst (v := 5) hk dX10_name_32 (by decide) ?_
        refine v_icmp_lt (tgt := 39) hk dX10_name_33 (by decide) (fun hc => ?_) (fun hc => ?_)
        · replace h := it_t (g := id) h hc
          refine v_aload_n hk dX10_name_39 rfl ?_
          exact nn_e (g := id) rfl h
        · replace h := it_f (g := id) h hc
          refine v_bipush (v := (-3)) hk dX10_name_36 (by decide) ?_
          replace h : some (-3) = some r := h
          replace h := Option.some.inj h
          subst h
          refine hrt (some (.int (-3))) _ _ _ _ _ (⟨rfl, rfl⟩) (Nat.zero_le _) (Nat.zero_le _) (dX10_name_38)
      · replace h := it_f (g := id) h hc
        refine v_bipush (v := (-2)) hk dX10_name_22 (by decide) ?_
        replace h : some (-2) = some r := h
        replace h := Option.some.inj h
        subst h
        refine hrt (some (.int (-2))) _ _ _ _ _ (⟨rfl, rfl⟩) (Nat.zero_le _) (Nat.zero_le _) (dX10_name_24)
    · replace h := it_f (g := id) h hc
      refine v_iconst (v := (-1)) hk dX10_name_10 (by decide) ?_
      replace h : some (-1) = some r := h
      replace h := Option.some.inj h
      subst h
      refine hrt (some (.int (-1))) _ _ _ _ _ (⟨rfl, rfl⟩) (Nat.zero_le _) (Nat.zero_le _) (dX10_name_11)
abbrev rm_X10_row : Room := { frames := 3, cells := 0, slots := 0, locals := 65 }
set_option maxHeartbeats 4000000 in
set_option maxRecDepth 100000 in
theorem c_X10_row (l : Launch) (G : GG) (ado : Nat) (vs_h : Value) (ads : Nat) (adsv : Nat) (adsc : Nat) (adp : Nat) (adx : Nat) (ady : Nat) (adt : Nat) (nm : Int32) (rw : Int32) (sg : Int32) (ms : Int32) (nsv : Nat) (fsv : Nat → Int32) (nsc : Nat) (fsc : Nat → Int32) (p0 : Int32) (p1 : Int32) (p2 : Int32) (p3 : Int32) (p4 : Int32) (r : Int32) (h : m_X10_row nm rw sg ms nsv fsv nsc fsc p0 p1 p2 p3 p4 = some r) : Ctr l G yX10_row w2_X10_row rm_X10_row [.ref ado, .int p0, .int p1, .int p2, .int p3, .int p4] [(ado, .inr (9, [.ref ads, .ref adp, .ref adx, .ref ady, .ref adt, vs_h])), (ads, .inr (7, [.int nm, .int rw, .int sg, .int ms, .ref adsv, .ref adsc])), (adsv, .inl (gI G, nsv, .inl fsv)), (adsc, .inl (gI G, nsc, .inl fsc))] (fun v w => v = some (.int r) ∧ w = [(ado, .inr (9, [.ref ads, .ref adp, .ref adx, .ref ady, .ref adt, vs_h])), (ads, .inr (7, [.int nm, .int rw, .int sg, .int ms, .ref adsv, .ref adsc])), (adsv, .inl (gI G, nsv, .inl fsv)), (adsc, .inl (gI G, nsc, .inl fsc))]) := by
  refine ctr_entry (cc := cX10_row) (maxL := 7) (ret := some .int) (lv0 := [(0, .ref ado), (1, .int p0), (2, .int p1), (3, .int p2), (4, .int p3), (5, .int p4)]) (by decide) rfl (Nat.le_of_ble_eq_true rfl) (rfl) ?_
  intro K hl9 hG9 hk hn9 hrt
  subst hl9
  subst hG9
  have hR9 : RoomGe rm_X10_row rm_X10_row := RoomGe.rf
  replace h := id_e h
  rw [em_X10_row] at h
  refine v_aload_n hk dX10_row_0 rfl ?_
  refine v_iconst (v := 0) hk dX10_row_1 (by decide) ?_
  refine v_iload_n hk dX10_row_2 rfl ?_
  obtain ⟨r_1, er_1, h⟩ := bd_e (g := id) rfl h
  refine v_callV (n := 2) (st := []) (b := ado) (T := TX10) (N := 6) hk dX10_row_3 (c_X10_fitsName (kl K) (kG K) ado vs_h ads adsv adp adx ady adt adsc nm rw sg ms nsv fsv 0 p0 r_1 er_1) rfl gd_X10_row_X10_fitsName rfl (by decide +kernel) (frok hR9 (Nat.le_of_ble_eq_true rfl) (Nat.le_of_ble_eq_true rfl)) (roomk hR9 (Nat.le_of_ble_eq_true rfl) (Nat.le_of_ble_eq_true rfl)) rfl rfl (Nat.le_of_ble_eq_true rfl) 0 rfl rfl [0, 1, 2] [3] (wr := [(adsc, .inl (gI (kG K), nsc, .inl fsc))]) rfl rfl (by decide) (by decide) (by decide) ?_
  intro v9 w9 hp9
  obtain ⟨rfl, rfl⟩ := hp9
  show V K 7 [(adsc, .inl (gI (kG K), nsc, .inl fsc)), (ado, .inr (9, [.ref ads, .ref adp, .ref adx, .ref ady, .ref adt, vs_h])), (ads, .inr (7, [.int nm, .int rw, .int sg, .int ms, .ref adsv, .ref adsc])), (adsv, .inl (gI (kG K), nsv, .inl fsv))] 0 0 6 [(0, .ref ado), (1, .int p0), (2, .int p1), (3, .int p2), (4, .int p3), (5, .int p4)] [.int r_1]
  refine v_if_eq (tgt := 47) hk dX10_row_6 (by decide) (fun hc => ?_) (fun hc => ?_)
  · replace h := it_t (g := id) h hc
    refine v_iconst (v := (-1)) hk dX10_row_47 (by decide) ?_
    replace h : some (-1) = some r := h
    replace h := Option.some.inj h
    subst h
    refine v_perm [1, 2, 3, 0] (ws' := [(ado, .inr (9, [.ref ads, .ref adp, .ref adx, .ref ady, .ref adt, vs_h])), (ads, .inr (7, [.int nm, .int rw, .int sg, .int ms, .ref adsv, .ref adsc])), (adsv, .inl (gI (kG K), nsv, .inl fsv)), (adsc, .inl (gI (kG K), nsc, .inl fsc))]) rfl rfl (by decide) ?_
    refine hrt (some (.int (-1))) _ _ _ _ _ (⟨rfl, rfl⟩) (Nat.zero_le _) (Nat.zero_le _) (dX10_row_48)
  · replace h := it_f (g := id) h hc
    refine v_aload_n hk dX10_row_9 rfl ?_
    refine v_iconst (v := 1) hk dX10_row_10 (by decide) ?_
    refine v_iload_n hk dX10_row_11 rfl ?_
    obtain ⟨r_2, er_2, h⟩ := bd_e (g := id) rfl h
    refine v_callV (n := 2) (st := []) (b := ado) (T := TX10) (N := 6) hk dX10_row_12 (c_X10_fitsName (kl K) (kG K) ado vs_h ads adsv adp adx ady adt adsc nm rw sg ms nsv fsv 1 p1 r_2 er_2) rfl gd_X10_row_X10_fitsName rfl (by decide +kernel) (frok hR9 (Nat.le_of_ble_eq_true rfl) (Nat.le_of_ble_eq_true rfl)) (roomk hR9 (Nat.le_of_ble_eq_true rfl) (Nat.le_of_ble_eq_true rfl)) rfl rfl (Nat.le_of_ble_eq_true rfl) 1 rfl rfl [1, 2, 3] [0] (wr := [(adsc, .inl (gI (kG K), nsc, .inl fsc))]) rfl rfl (by decide) (by decide) (by decide) ?_
    intro v9 w9 hp9
    obtain ⟨rfl, rfl⟩ := hp9
    show V K 7 [(adsc, .inl (gI (kG K), nsc, .inl fsc)), (ado, .inr (9, [.ref ads, .ref adp, .ref adx, .ref ady, .ref adt, vs_h])), (ads, .inr (7, [.int nm, .int rw, .int sg, .int ms, .ref adsv, .ref adsc])), (adsv, .inl (gI (kG K), nsv, .inl fsv))] 0 0 15 [(0, .ref ado), (1, .int p0), (2, .int p1), (3, .int p2), (4, .int p3), (5, .int p4)] [.int r_2]
    refine v_if_eq (tgt := 47) hk dX10_row_15 (by decide) (fun hc => ?_) (fun hc => ?_)
    · replace h := it_t (g := id) h hc
      refine v_iconst (v := (-1)) hk dX10_row_47 (by decide) ?_
      replace h : some (-1) = some r := h
      replace h := Option.some.inj h
      subst h
      refine v_perm [1, 2, 3, 0] (ws' := [(ado, .inr (9, [.ref ads, .ref adp, .ref adx, .ref ady, .ref adt, vs_h])), (ads, .inr (7, [.int nm, .int rw, .int sg, .int ms, .ref adsv, .ref adsc])), (adsv, .inl (gI (kG K), nsv, .inl fsv)), (adsc, .inl (gI (kG K), nsc, .inl fsc))]) rfl rfl (by decide) ?_
      refine hrt (some (.int (-1))) _ _ _ _ _ (⟨rfl, rfl⟩) (Nat.zero_le _) (Nat.zero_le _) (dX10_row_48)
    · replace h := it_f (g := id) h hc
      refine v_aload_n hk dX10_row_18 rfl ?_
      refine v_iconst (v := 2) hk dX10_row_19 (by decide) ?_
      refine v_iload_n hk dX10_row_20 rfl ?_
      obtain ⟨r_3, er_3, h⟩ := bd_e (g := id) rfl h
      refine v_callV (n := 2) (st := []) (b := ado) (T := TX10) (N := 6) hk dX10_row_21 (c_X10_fitsName (kl K) (kG K) ado vs_h ads adsv adp adx ady adt adsc nm rw sg ms nsv fsv 2 p2 r_3 er_3) rfl gd_X10_row_X10_fitsName rfl (by decide +kernel) (frok hR9 (Nat.le_of_ble_eq_true rfl) (Nat.le_of_ble_eq_true rfl)) (roomk hR9 (Nat.le_of_ble_eq_true rfl) (Nat.le_of_ble_eq_true rfl)) rfl rfl (Nat.le_of_ble_eq_true rfl) 1 rfl rfl [1, 2, 3] [0] (wr := [(adsc, .inl (gI (kG K), nsc, .inl fsc))]) rfl rfl (by decide) (by decide) (by decide) ?_
      intro v9 w9 hp9
      obtain ⟨rfl, rfl⟩ := hp9
      show V K 7 [(adsc, .inl (gI (kG K), nsc, .inl fsc)), (ado, .inr (9, [.ref ads, .ref adp, .ref adx, .ref ady, .ref adt, vs_h])), (ads, .inr (7, [.int nm, .int rw, .int sg, .int ms, .ref adsv, .ref adsc])), (adsv, .inl (gI (kG K), nsv, .inl fsv))] 0 0 24 [(0, .ref ado), (1, .int p0), (2, .int p1), (3, .int p2), (4, .int p3), (5, .int p4)] [.int r_3]
      refine v_if_eq (tgt := 47) hk dX10_row_24 (by decide) (fun hc => ?_) (fun hc => ?_)
      · replace h := it_t (g := id) h hc
        refine v_iconst (v := (-1)) hk dX10_row_47 (by decide) ?_
        replace h : some (-1) = some r := h
        replace h := Option.some.inj h
        subst h
        refine v_perm [1, 2, 3, 0] (ws' := [(ado, .inr (9, [.ref ads, .ref adp, .ref adx, .ref ady, .ref adt, vs_h])), (ads, .inr (7, [.int nm, .int rw, .int sg, .int ms, .ref adsv, .ref adsc])), (adsv, .inl (gI (kG K), nsv, .inl fsv)), (adsc, .inl (gI (kG K), nsc, .inl fsc))]) rfl rfl (by decide) ?_
        refine hrt (some (.int (-1))) _ _ _ _ _ (⟨rfl, rfl⟩) (Nat.zero_le _) (Nat.zero_le _) (dX10_row_48)
      · replace h := it_f (g := id) h hc
        refine v_aload_n hk dX10_row_27 rfl ?_
        refine v_iconst (v := 3) hk dX10_row_28 (by decide) ?_
        refine v_iload hk dX10_row_29 rfl ?_
        obtain ⟨r_4, er_4, h⟩ := bd_e (g := id) rfl h
        refine v_callV (n := 2) (st := []) (b := ado) (T := TX10) (N := 6) hk dX10_row_31 (c_X10_fitsName (kl K) (kG K) ado vs_h ads adsv adp adx ady adt adsc nm rw sg ms nsv fsv 3 p3 r_4 er_4) rfl gd_X10_row_X10_fitsName rfl (by decide +kernel) (frok hR9 (Nat.le_of_ble_eq_true rfl) (Nat.le_of_ble_eq_true rfl)) (roomk hR9 (Nat.le_of_ble_eq_true rfl) (Nat.le_of_ble_eq_true rfl)) rfl rfl (Nat.le_of_ble_eq_true rfl) 1 rfl rfl [1, 2, 3] [0] (wr := [(adsc, .inl (gI (kG K), nsc, .inl fsc))]) rfl rfl (by decide) (by decide) (by decide) ?_
        intro v9 w9 hp9
        obtain ⟨rfl, rfl⟩ := hp9
        show V K 7 [(adsc, .inl (gI (kG K), nsc, .inl fsc)), (ado, .inr (9, [.ref ads, .ref adp, .ref adx, .ref ady, .ref adt, vs_h])), (ads, .inr (7, [.int nm, .int rw, .int sg, .int ms, .ref adsv, .ref adsc])), (adsv, .inl (gI (kG K), nsv, .inl fsv))] 0 0 34 [(0, .ref ado), (1, .int p0), (2, .int p1), (3, .int p2), (4, .int p3), (5, .int p4)] [.int r_4]
        refine v_if_eq (tgt := 47) hk dX10_row_34 (by decide) (fun hc => ?_) (fun hc => ?_)
        · replace h := it_t (g := id) h hc
          refine v_iconst (v := (-1)) hk dX10_row_47 (by decide) ?_
          replace h : some (-1) = some r := h
          replace h := Option.some.inj h
          subst h
          refine v_perm [1, 2, 3, 0] (ws' := [(ado, .inr (9, [.ref ads, .ref adp, .ref adx, .ref ady, .ref adt, vs_h])), (ads, .inr (7, [.int nm, .int rw, .int sg, .int ms, .ref adsv, .ref adsc])), (adsv, .inl (gI (kG K), nsv, .inl fsv)), (adsc, .inl (gI (kG K), nsc, .inl fsc))]) rfl rfl (by decide) ?_
          refine hrt (some (.int (-1))) _ _ _ _ _ (⟨rfl, rfl⟩) (Nat.zero_le _) (Nat.zero_le _) (dX10_row_48)
        · replace h := it_f (g := id) h hc
          refine v_aload_n hk dX10_row_37 rfl ?_
          refine v_iconst (v := 4) hk dX10_row_38 (by decide) ?_
          refine v_iload hk dX10_row_39 rfl ?_
          obtain ⟨r_5, er_5, h⟩ := bd_e (g := id) rfl h
          refine v_callV (n := 2) (st := []) (b := ado) (T := TX10) (N := 6) hk dX10_row_41 (c_X10_fitsName (kl K) (kG K) ado vs_h ads adsv adp adx ady adt adsc nm rw sg ms nsv fsv 4 p4 r_5 er_5) rfl gd_X10_row_X10_fitsName rfl (by decide +kernel) (frok hR9 (Nat.le_of_ble_eq_true rfl) (Nat.le_of_ble_eq_true rfl)) (roomk hR9 (Nat.le_of_ble_eq_true rfl) (Nat.le_of_ble_eq_true rfl)) rfl rfl (Nat.le_of_ble_eq_true rfl) 1 rfl rfl [1, 2, 3] [0] (wr := [(adsc, .inl (gI (kG K), nsc, .inl fsc))]) rfl rfl (by decide) (by decide) (by decide) ?_
          intro v9 w9 hp9
          obtain ⟨rfl, rfl⟩ := hp9
          show V K 7 [(adsc, .inl (gI (kG K), nsc, .inl fsc)), (ado, .inr (9, [.ref ads, .ref adp, .ref adx, .ref ady, .ref adt, vs_h])), (ads, .inr (7, [.int nm, .int rw, .int sg, .int ms, .ref adsv, .ref adsc])), (adsv, .inl (gI (kG K), nsv, .inl fsv))] 0 0 44 [(0, .ref ado), (1, .int p0), (2, .int p1), (3, .int p2), (4, .int p3), (5, .int p4)] [.int r_5]
          refine v_if_ne (tgt := 49) hk dX10_row_44 (by decide) (fun hc => ?_) (fun hc => ?_)
          · replace h := it_f (g := id) h hc
            refine v_aload_n hk dX10_row_49 rfl ?_
            refine v_get (C := RX10) (T := TX10) (N := 6) (ci := 9) (v := .ref ads) hk dX10_row_50 w2i_X10_row_X100 1 rfl rfl 0 (by decide) (by decide +kernel) rfl rfl ?_
            refine v_get (C := RX8) (T := TX8) (N := 6) (ci := 7) (v := .int nm) hk dX10_row_53 w2i_X10_row_X80 2 rfl rfl 0 (by decide) (by decide +kernel) rfl rfl ?_
            refine v_if_ne (tgt := 62) hk dX10_row_56 (by decide) (fun hc => ?_) (fun hc => ?_)
            · replace h := it_f (g := id) h hc
              refine v_aload_n hk dX10_row_62 rfl ?_
              refine v_get (C := RX10) (T := TX10) (N := 6) (ci := 9) (v := .ref ads) hk dX10_row_63 w2i_X10_row_X100 1 rfl rfl 0 (by decide) (by decide +kernel) rfl rfl ?_
              refine v_get (C := RX8) (T := TX8) (N := 6) (ci := 7) (v := .int rw) hk dX10_row_66 w2i_X10_row_X80 2 rfl rfl 1 (by decide) (by decide +kernel) rfl rfl ?_
              refine v_bipush (v := 16) hk dX10_row_69 (by decide) ?_
              refine v_icmp_lt (tgt := 77) hk dX10_row_71 (by decide) (fun hc => ?_) (fun hc => ?_)
              · replace h := it_t (g := id) h hc
                refine v_aload_n hk dX10_row_77 rfl ?_
                exact nn_e (g := id) rfl h
              · replace h := it_f (g := id) h hc
                refine v_bipush (v := (-3)) hk dX10_row_74 (by decide) ?_
                replace h : some (-3) = some r := h
                replace h := Option.some.inj h
                subst h
                refine v_perm [1, 2, 3, 0] (ws' := [(ado, .inr (9, [.ref ads, .ref adp, .ref adx, .ref ady, .ref adt, vs_h])), (ads, .inr (7, [.int nm, .int rw, .int sg, .int ms, .ref adsv, .ref adsc])), (adsv, .inl (gI (kG K), nsv, .inl fsv)), (adsc, .inl (gI (kG K), nsc, .inl fsc))]) rfl rfl (by decide) ?_
                refine hrt (some (.int (-3))) _ _ _ _ _ (⟨rfl, rfl⟩) (Nat.zero_le _) (Nat.zero_le _) (dX10_row_76)
            · replace h := it_t (g := id) h hc
              refine v_bipush (v := (-2)) hk dX10_row_59 (by decide) ?_
              replace h : some (-2) = some r := h
              replace h := Option.some.inj h
              subst h
              refine v_perm [1, 2, 3, 0] (ws' := [(ado, .inr (9, [.ref ads, .ref adp, .ref adx, .ref ady, .ref adt, vs_h])), (ads, .inr (7, [.int nm, .int rw, .int sg, .int ms, .ref adsv, .ref adsc])), (adsv, .inl (gI (kG K), nsv, .inl fsv)), (adsc, .inl (gI (kG K), nsc, .inl fsc))]) rfl rfl (by decide) ?_
              refine hrt (some (.int (-2))) _ _ _ _ _ (⟨rfl, rfl⟩) (Nat.zero_le _) (Nat.zero_le _) (dX10_row_61)
          · replace h := it_t (g := id) h hc
            refine v_iconst (v := (-1)) hk dX10_row_47 (by decide) ?_
            replace h : some (-1) = some r := h
            replace h := Option.some.inj h
            subst h
            refine v_perm [1, 2, 3, 0] (ws' := [(ado, .inr (9, [.ref ads, .ref adp, .ref adx, .ref ady, .ref adt, vs_h])), (ads, .inr (7, [.int nm, .int rw, .int sg, .int ms, .ref adsv, .ref adsc])), (adsv, .inl (gI (kG K), nsv, .inl fsv)), (adsc, .inl (gI (kG K), nsc, .inl fsc))]) rfl rfl (by decide) ?_
            refine hrt (some (.int (-1))) _ _ _ _ _ (⟨rfl, rfl⟩) (Nat.zero_le _) (Nat.zero_le _) (dX10_row_48)
abbrev rm_X10_drop : Room := { frames := 1, cells := 0, slots := 0, locals := 21 }
set_option maxHeartbeats 4000000 in
set_option maxRecDepth 100000 in
theorem c_X10_drop (l : Launch) (G : GG) (ado : Nat) (vs_h : Value) (ads : Nat) (adsv : Nat) (adsc : Nat) (adp : Nat) (adx : Nat) (ady : Nat) (adt : Nat) (nm : Int32) (rw : Int32) (sg : Int32) (ms : Int32) (nsv : Nat) (fsv : Nat → Int32) (nsc : Nat) (fsc : Nat → Int32) (row : Int32) (r : Int32) (h : m_X10_drop nm rw sg ms nsv fsv nsc fsc row = some r) : Ctr l G yX10_drop w2_X10_drop rm_X10_drop [.ref ado, .int row] [(ado, .inr (9, [.ref ads, .ref adp, .ref adx, .ref ady, .ref adt, vs_h])), (ads, .inr (7, [.int nm, .int rw, .int sg, .int ms, .ref adsv, .ref adsc])), (adsv, .inl (gI G, nsv, .inl fsv)), (adsc, .inl (gI G, nsc, .inl fsc))] (fun v w => v = some (.int r) ∧ w = [(ado, .inr (9, [.ref ads, .ref adp, .ref adx, .ref ady, .ref adt, vs_h])), (ads, .inr (7, [.int nm, .int rw, .int sg, .int ms, .ref adsv, .ref adsc])), (adsv, .inl (gI G, nsv, .inl fsv)), (adsc, .inl (gI G, nsc, .inl fsc))]) := by
  refine ctr_entry (cc := cX10_drop) (maxL := 2) (ret := some .int) (lv0 := [(0, .ref ado), (1, .int row)]) (by decide) rfl (Nat.le_of_ble_eq_true rfl) (rfl) ?_
  intro K hl9 hG9 hk hn9 hrt
  subst hl9
  subst hG9
  have hR9 : RoomGe rm_X10_drop rm_X10_drop := RoomGe.rf
  replace h := id_e h
  rw [em_X10_drop] at h
  refine v_aload_n hk dX10_drop_0 rfl ?_
  refine v_iload_n hk dX10_drop_1 rfl ?_
  obtain ⟨r_1, er_1, h⟩ := bd_e (g := id) rfl h
  refine v_callV (n := 1) (st := []) (b := ado) (T := TX10) (N := 6) hk dX10_drop_2 (c_X10_isRow (kl K) (kG K) ado vs_h ads adp adx ady adt adsv adsc nm rw sg ms row r_1 er_1) rfl gd_X10_drop_X10_isRow rfl (by decide +kernel) (frok hR9 (Nat.le_of_ble_eq_true rfl) (Nat.le_of_ble_eq_true rfl)) (roomk hR9 (Nat.le_of_ble_eq_true rfl) (Nat.le_of_ble_eq_true rfl)) rfl rfl (Nat.le_of_ble_eq_true rfl) 0 rfl rfl [0, 1] [2, 3] (wr := [(adsv, .inl (gI (kG K), nsv, .inl fsv)), (adsc, .inl (gI (kG K), nsc, .inl fsc))]) rfl rfl (by decide) (by decide) (by decide) ?_
  intro v9 w9 hp9
  obtain ⟨rfl, rfl⟩ := hp9
  show V K 2 [(adsv, .inl (gI (kG K), nsv, .inl fsv)), (adsc, .inl (gI (kG K), nsc, .inl fsc)), (ado, .inr (9, [.ref ads, .ref adp, .ref adx, .ref ady, .ref adt, vs_h])), (ads, .inr (7, [.int nm, .int rw, .int sg, .int ms, .ref adsv, .ref adsc]))] 0 0 5 [(0, .ref ado), (1, .int row)] [.int r_1]
  refine v_if_ne (tgt := 10) hk dX10_drop_5 (by decide) (fun hc => ?_) (fun hc => ?_)
  · replace h := it_f (g := id) h hc
    refine v_aload_n hk dX10_drop_10 rfl ?_
    exact nn_e (g := id) rfl h
  · replace h := it_t (g := id) h hc
    refine v_iconst (v := (-1)) hk dX10_drop_8 (by decide) ?_
    replace h : some (-1) = some r := h
    replace h := Option.some.inj h
    subst h
    refine v_perm [2, 3, 0, 1] (ws' := [(ado, .inr (9, [.ref ads, .ref adp, .ref adx, .ref ady, .ref adt, vs_h])), (ads, .inr (7, [.int nm, .int rw, .int sg, .int ms, .ref adsv, .ref adsc])), (adsv, .inl (gI (kG K), nsv, .inl fsv)), (adsc, .inl (gI (kG K), nsc, .inl fsc))]) rfl rfl (by decide) ?_
    refine hrt (some (.int (-1))) _ _ _ _ _ (⟨rfl, rfl⟩) (Nat.zero_le _) (Nat.zero_le _) (dX10_drop_9)
abbrev rm_X10_set : Room := { frames := 0, cells := 0, slots := 0, locals := 0 }
set_option maxHeartbeats 4000000 in
set_option maxRecDepth 100000 in
theorem c_X10_set (l : Launch) (G : GG) (ado : Nat) (vs_h : Value) (ads : Nat) (adsv : Nat) (adsc : Nat) (adp : Nat) (adx : Nat) (ady : Nat) (adt : Nat) (nm : Int32) (rw : Int32) (sg : Int32) (ms : Int32) (nsv : Nat) (fsv : Nat → Int32) (nsc : Nat) (fsc : Nat → Int32) (what : Int32) (v : Int32) (r : Int32 × Int32 × Int32) (h : m_X10_set nm rw sg ms nsv fsv nsc fsc what v = some r) : Ctr l G yX10_set w2_X10_set rm_X10_set [.ref ado, .int what, .int v] [(ado, .inr (9, [.ref ads, .ref adp, .ref adx, .ref ady, .ref adt, vs_h])), (ads, .inr (7, [.int nm, .int rw, .int sg, .int ms, .ref adsv, .ref adsc])), (adsv, .inl (gI G, nsv, .inl fsv)), (adsc, .inl (gI G, nsc, .inl fsc))] (fun v w => v = some (.int r.1) ∧ w = [(ado, .inr (9, [.ref ads, .ref adp, .ref adx, .ref ady, .ref adt, vs_h])), (ads, .inr (7, [.int nm, .int rw, .int r.2.1, .int r.2.2, .ref adsv, .ref adsc])), (adsv, .inl (gI G, nsv, .inl fsv)), (adsc, .inl (gI G, nsc, .inl fsc))]) := by
  refine ctr_entry (cc := cX10_set) (maxL := 4) (ret := some .int) (lv0 := [(0, .ref ado), (1, .int what), (2, .int v)]) (by decide) rfl (Nat.le_of_ble_eq_true rfl) (rfl) ?_
  intro K hl9 hG9 hk hn9 hrt
  subst hl9
  subst hG9
  have hR9 : RoomGe rm_X10_set rm_X10_set := RoomGe.rf
  replace h := id_e h
  rw [em_X10_set] at h
  refine v_iload_n hk dX10_set_0 rfl ?_
  refine v_if_ne (tgt := 37) hk dX10_set_1 (by decide) (fun hc => ?_) (fun hc => ?_)
  · replace h := it_f (g := id) h hc
    refine v_iload_n hk dX10_set_37 rfl ?_
    refine v_iconst (v := 1) hk dX10_set_38 (by decide) ?_
    refine v_icmp_ne (tgt := 73) hk dX10_set_39 (by decide) (fun hc => ?_) (fun hc => ?_)
    · replace h := it_f (g := id) h hc
      refine v_iconst (v := (-1)) hk dX10_set_73 (by decide) ?_
      replace h : some ((-1), sg, ms) = some r := h
      replace h := Option.some.inj h
      subst h
      refine hrt (some (.int (-1))) _ _ _ _ _ (⟨rfl, rfl⟩) (Nat.zero_le _) (Nat.zero_le _) (dX10_set_74)
    · replace h := it_t (g := id) h hc
      refine v_iload_n hk dX10_set_42 rfl ?_
      refine v_if_lt (tgt := 73) hk dX10_set_43 (by decide) (fun hc => ?_) (fun hc => ?_)
      · replace h := it_t (g := id) h hc
        refine v_iconst (v := (-1)) hk dX10_set_73 (by decide) ?_
        replace h : some ((-1), sg, ms) = some r := h
        replace h := Option.some.inj h
        subst h
        refine hrt (some (.int (-1))) _ _ _ _ _ (⟨rfl, rfl⟩) (Nat.zero_le _) (Nat.zero_le _) (dX10_set_74)
      · replace h := it_f (g := id) h hc
        refine v_iload_n hk dX10_set_46 rfl ?_
        refine v_iconst (v := 4) hk dX10_set_47 (by decide) ?_
        refine v_icmp_gt (tgt := 73) hk dX10_set_48 (by decide) (fun hc => ?_) (fun hc => ?_)
        · replace h := it_t (g := id) h hc
          refine v_iconst (v := (-1)) hk dX10_set_73 (by decide) ?_
          replace h : some ((-1), sg, ms) = some r := h
          replace h := Option.some.inj h
          subst h
          refine hrt (some (.int (-1))) _ _ _ _ _ (⟨rfl, rfl⟩) (Nat.zero_le _) (Nat.zero_le _) (dX10_set_74)
        · replace h := it_f (g := id) h hc
          refine v_aload_n hk dX10_set_51 rfl ?_
          refine v_get (C := RX10) (T := TX10) (N := 6) (ci := 9) (v := .ref ads) hk dX10_set_52 w2i_X10_set_X100 0 rfl rfl 0 (by decide) (by decide +kernel) rfl rfl ?_
          refine v_get (C := RX8) (T := TX8) (N := 6) (ci := 7) (v := .int ms) hk dX10_set_55 w2i_X10_set_X80 1 rfl rfl 3 (by decide) (by decide +kernel) rfl rfl ?_
          refine v_istore_n hk dX10_set_58 rfl (by decide) [1, 2, 3, 0] (lv' := [(0, .ref ado), (1, .int what), (2, .int v), (3, .int ms)]) rfl ?_
          refine v_aload_n hk dX10_set_59 rfl ?_
          refine v_get (C := RX10) (T := TX10) (N := 6) (ci := 9) (v := .ref ads) hk dX10_set_60 w2i_X10_set_X100 0 rfl rfl 0 (by decide) (by decide +kernel) rfl rfl ?_
          refine v_iload_n hk dX10_set_63 rfl ?_
          refine v_put (C := RX8) (T := TX8) (N := 6) (ci := 7) (v := .int v) (ty := .int) hk dX10_set_64 w2i_X10_set_X80 tyX8 tyX8_ok nmX8 1 rfl rfl 3 (by decide) (by decide +kernel) rfl rfl (by decide +kernel) rfl rfl (Nat.le_of_ble_eq_true rfl) (ws' := [(ado, .inr (9, [.ref ads, .ref adp, .ref adx, .ref ady, .ref adt, vs_h])), (ads, .inr (7, [.int nm, .int rw, .int sg, .int v, .ref adsv, .ref adsc])), (adsv, .inl (gI (kG K), nsv, .inl fsv)), (adsc, .inl (gI (kG K), nsc, .inl fsc))]) rfl ?_
          refine v_aload_n hk dX10_set_67 rfl ?_
          exact nn_e (g := id) rfl h
  · replace h := it_t (g := id) h hc
    refine v_iload_n hk dX10_set_4 rfl ?_
    refine v_iconst (v := 1) hk dX10_set_5 (by decide) ?_
    refine v_icmp_lt (tgt := 37) hk dX10_set_6 (by decide) (fun hc => ?_) (fun hc => ?_)
    · replace h := it_t (g := id) h hc
      refine v_iload_n hk dX10_set_37 rfl ?_
      refine v_iconst (v := 1) hk dX10_set_38 (by decide) ?_
      refine v_icmp_ne (tgt := 73) hk dX10_set_39 (by decide) (fun hc => ?_) (fun hc => ?_)
      · replace h := it_f (g := id) h hc
        refine v_iconst (v := (-1)) hk dX10_set_73 (by decide) ?_
        replace h : some ((-1), sg, ms) = some r := h
        replace h := Option.some.inj h
        subst h
        refine hrt (some (.int (-1))) _ _ _ _ _ (⟨rfl, rfl⟩) (Nat.zero_le _) (Nat.zero_le _) (dX10_set_74)
      · replace h := it_t (g := id) h hc
        refine v_iload_n hk dX10_set_42 rfl ?_
        refine v_if_lt (tgt := 73) hk dX10_set_43 (by decide) (fun hc => ?_) (fun hc => ?_)
        · replace h := it_t (g := id) h hc
          refine v_iconst (v := (-1)) hk dX10_set_73 (by decide) ?_
          replace h : some ((-1), sg, ms) = some r := h
          replace h := Option.some.inj h
          subst h
          refine hrt (some (.int (-1))) _ _ _ _ _ (⟨rfl, rfl⟩) (Nat.zero_le _) (Nat.zero_le _) (dX10_set_74)
        · replace h := it_f (g := id) h hc
          refine v_iload_n hk dX10_set_46 rfl ?_
          refine v_iconst (v := 4) hk dX10_set_47 (by decide) ?_
          refine v_icmp_gt (tgt := 73) hk dX10_set_48 (by decide) (fun hc => ?_) (fun hc => ?_)
          · replace h := it_t (g := id) h hc
            refine v_iconst (v := (-1)) hk dX10_set_73 (by decide) ?_
            replace h : some ((-1), sg, ms) = some r := h
            replace h := Option.some.inj h
            subst h
            refine hrt (some (.int (-1))) _ _ _ _ _ (⟨rfl, rfl⟩) (Nat.zero_le _) (Nat.zero_le _) (dX10_set_74)
          · replace h := it_f (g := id) h hc
            refine v_aload_n hk dX10_set_51 rfl ?_
            refine v_get (C := RX10) (T := TX10) (N := 6) (ci := 9) (v := .ref ads) hk dX10_set_52 w2i_X10_set_X100 0 rfl rfl 0 (by decide) (by decide +kernel) rfl rfl ?_
            refine v_get (C := RX8) (T := TX8) (N := 6) (ci := 7) (v := .int ms) hk dX10_set_55 w2i_X10_set_X80 1 rfl rfl 3 (by decide) (by decide +kernel) rfl rfl ?_
            refine v_istore_n hk dX10_set_58 rfl (by decide) [1, 2, 3, 0] (lv' := [(0, .ref ado), (1, .int what), (2, .int v), (3, .int ms)]) rfl ?_
            refine v_aload_n hk dX10_set_59 rfl ?_
            refine v_get (C := RX10) (T := TX10) (N := 6) (ci := 9) (v := .ref ads) hk dX10_set_60 w2i_X10_set_X100 0 rfl rfl 0 (by decide) (by decide +kernel) rfl rfl ?_
            refine v_iload_n hk dX10_set_63 rfl ?_
            refine v_put (C := RX8) (T := TX8) (N := 6) (ci := 7) (v := .int v) (ty := .int) hk dX10_set_64 w2i_X10_set_X80 tyX8 tyX8_ok nmX8 1 rfl rfl 3 (by decide) (by decide +kernel) rfl rfl (by decide +kernel) rfl rfl (Nat.le_of_ble_eq_true rfl) (ws' := [(ado, .inr (9, [.ref ads, .ref adp, .ref adx, .ref ady, .ref adt, vs_h])), (ads, .inr (7, [.int nm, .int rw, .int sg, .int v, .ref adsv, .ref adsc])), (adsv, .inl (gI (kG K), nsv, .inl fsv)), (adsc, .inl (gI (kG K), nsc, .inl fsc))]) rfl ?_
            refine v_aload_n hk dX10_set_67 rfl ?_
            exact nn_e (g := id) rfl h
    · replace h := it_f (g := id) h hc
      refine v_iload_n hk dX10_set_9 rfl ?_
      refine v_bipush (v := 9) hk dX10_set_10 (by decide) ?_
      refine v_icmp_gt (tgt := 37) hk dX10_set_12 (by decide) (fun hc => ?_) (fun hc => ?_)
      · replace h := it_t (g := id) h hc
        refine v_iload_n hk dX10_set_37 rfl ?_
        refine v_iconst (v := 1) hk dX10_set_38 (by decide) ?_
        refine v_icmp_ne (tgt := 73) hk dX10_set_39 (by decide) (fun hc => ?_) (fun hc => ?_)
        · replace h := it_f (g := id) h hc
          refine v_iconst (v := (-1)) hk dX10_set_73 (by decide) ?_
          replace h : some ((-1), sg, ms) = some r := h
          replace h := Option.some.inj h
          subst h
          refine hrt (some (.int (-1))) _ _ _ _ _ (⟨rfl, rfl⟩) (Nat.zero_le _) (Nat.zero_le _) (dX10_set_74)
        · replace h := it_t (g := id) h hc
          refine v_iload_n hk dX10_set_42 rfl ?_
          refine v_if_lt (tgt := 73) hk dX10_set_43 (by decide) (fun hc => ?_) (fun hc => ?_)
          · replace h := it_t (g := id) h hc
            refine v_iconst (v := (-1)) hk dX10_set_73 (by decide) ?_
            replace h : some ((-1), sg, ms) = some r := h
            replace h := Option.some.inj h
            subst h
            refine hrt (some (.int (-1))) _ _ _ _ _ (⟨rfl, rfl⟩) (Nat.zero_le _) (Nat.zero_le _) (dX10_set_74)
          · replace h := it_f (g := id) h hc
            refine v_iload_n hk dX10_set_46 rfl ?_
            refine v_iconst (v := 4) hk dX10_set_47 (by decide) ?_
            refine v_icmp_gt (tgt := 73) hk dX10_set_48 (by decide) (fun hc => ?_) (fun hc => ?_)
            · replace h := it_t (g := id) h hc
              refine v_iconst (v := (-1)) hk dX10_set_73 (by decide) ?_
              replace h : some ((-1), sg, ms) = some r := h
              replace h := Option.some.inj h
              subst h
              refine hrt (some (.int (-1))) _ _ _ _ _ (⟨rfl, rfl⟩) (Nat.zero_le _) (Nat.zero_le _) (dX10_set_74)
            · replace h := it_f (g := id) h hc
              refine v_aload_n hk dX10_set_51 rfl ?_
              refine v_get (C := RX10) (T := TX10) (N := 6) (ci := 9) (v := .ref ads) hk dX10_set_52 w2i_X10_set_X100 0 rfl rfl 0 (by decide) (by decide +kernel) rfl rfl ?_
              refine v_get (C := RX8) (T := TX8) (N := 6) (ci := 7) (v := .int ms) hk dX10_set_55 w2i_X10_set_X80 1 rfl rfl 3 (by decide) (by decide +kernel) rfl rfl ?_
              refine v_istore_n hk dX10_set_58 rfl (by decide) [1, 2, 3, 0] (lv' := [(0, .ref ado), (1, .int what), (2, .int v), (3, .int ms)]) rfl ?_
              refine v_aload_n hk dX10_set_59 rfl ?_
              refine v_get (C := RX10) (T := TX10) (N := 6) (ci := 9) (v := .ref ads) hk dX10_set_60 w2i_X10_set_X100 0 rfl rfl 0 (by decide) (by decide +kernel) rfl rfl ?_
              refine v_iload_n hk dX10_set_63 rfl ?_
              refine v_put (C := RX8) (T := TX8) (N := 6) (ci := 7) (v := .int v) (ty := .int) hk dX10_set_64 w2i_X10_set_X80 tyX8 tyX8_ok nmX8 1 rfl rfl 3 (by decide) (by decide +kernel) rfl rfl (by decide +kernel) rfl rfl (Nat.le_of_ble_eq_true rfl) (ws' := [(ado, .inr (9, [.ref ads, .ref adp, .ref adx, .ref ady, .ref adt, vs_h])), (ads, .inr (7, [.int nm, .int rw, .int sg, .int v, .ref adsv, .ref adsc])), (adsv, .inl (gI (kG K), nsv, .inl fsv)), (adsc, .inl (gI (kG K), nsc, .inl fsc))]) rfl ?_
              refine v_aload_n hk dX10_set_67 rfl ?_
              exact nn_e (g := id) rfl h
      · replace h := it_f (g := id) h hc
        refine v_aload_n hk dX10_set_15 rfl ?_
        refine v_get (C := RX10) (T := TX10) (N := 6) (ci := 9) (v := .ref ads) hk dX10_set_16 w2i_X10_set_X100 0 rfl rfl 0 (by decide) (by decide +kernel) rfl rfl ?_
        refine v_get (C := RX8) (T := TX8) (N := 6) (ci := 7) (v := .int sg) hk dX10_set_19 w2i_X10_set_X80 1 rfl rfl 2 (by decide) (by decide +kernel) rfl rfl ?_
        refine v_istore_n hk dX10_set_22 rfl (by decide) [1, 2, 3, 0] (lv' := [(0, .ref ado), (1, .int what), (2, .int v), (3, .int sg)]) rfl ?_
        refine v_aload_n hk dX10_set_23 rfl ?_
        refine v_get (C := RX10) (T := TX10) (N := 6) (ci := 9) (v := .ref ads) hk dX10_set_24 w2i_X10_set_X100 0 rfl rfl 0 (by decide) (by decide +kernel) rfl rfl ?_
        refine v_iload_n hk dX10_set_27 rfl ?_
        refine v_put (C := RX8) (T := TX8) (N := 6) (ci := 7) (v := .int v) (ty := .int) hk dX10_set_28 w2i_X10_set_X80 tyX8 tyX8_ok nmX8 1 rfl rfl 2 (by decide) (by decide +kernel) rfl rfl (by decide +kernel) rfl rfl (Nat.le_of_ble_eq_true rfl) (ws' := [(ado, .inr (9, [.ref ads, .ref adp, .ref adx, .ref ady, .ref adt, vs_h])), (ads, .inr (7, [.int nm, .int rw, .int v, .int ms, .ref adsv, .ref adsc])), (adsv, .inl (gI (kG K), nsv, .inl fsv)), (adsc, .inl (gI (kG K), nsc, .inl fsc))]) rfl ?_
        refine v_aload_n hk dX10_set_31 rfl ?_
        exact nn_e (g := id) rfl h
