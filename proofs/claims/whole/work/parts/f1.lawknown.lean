/-! what is known at the start -/
theorem law_K {s : State} {args : Array Value} (hts : ∀ w ∈ lw_tbl, w.before args s = true) : ∃ G : GG, va_K G.1 vwCl (gT G) s := by
  obtain ⟨c0, i0, h0⟩ := u_known (C := RX1) (T := TX1) (N := 2) (n := 2) hts tc_wsX10 (hts (.instantiable RX1 2) (List.mem_of_getElem? (i := 153) (by decide +kernel)))
  obtain ⟨c1, i1, h1⟩ := u_known (C := RX2) (T := TX2) (N := 8) (n := 8) hts tc_wsX20 (hts (.instantiable RX2 8) (List.mem_of_getElem? (i := 144) (by decide +kernel)))
  obtain ⟨c2, i2, h2⟩ := u_known (C := RX3) (T := TX3) (N := 3) (n := 3) hts tc_wsX30 (hts (.instantiable RX3 3) (List.mem_of_getElem? (i := 151) (by decide +kernel)))
  obtain ⟨c3, i3, h3⟩ := u_known (C := RX4) (T := TX4) (N := 4) (n := 4) hts tc_wsX40 (hts (.instantiable RX4 4) (List.mem_of_getElem? (i := 572) (by decide +kernel)))
  obtain ⟨c4, i4, h4⟩ := u_known (C := RX5) (T := TX5) (N := 2) (n := 2) hts tc_wsX50 (hts (.instantiable RX5 2) (List.mem_of_getElem? (i := 131) (by decide +kernel)))
  obtain ⟨c5, i5, h5⟩ := u_known (C := RX6) (T := TX6) (N := 3) (n := 3) hts tc_wsX60 (hts (.instantiable RX6 3) (List.mem_of_getElem? (i := 212) (by decide +kernel)))
  obtain ⟨c6, i6, h6⟩ := u_known (C := RX7) (T := TX7) (N := 12) (n := 12) hts tc_wsX70 (hts (.instantiable RX7 12) (List.mem_of_getElem? (i := 623) (by decide +kernel)))
  obtain ⟨c7, i7, h7⟩ := u_known (C := RX8) (T := TX8) (N := 6) (n := 6) hts tc_wsX80 (hts (.instantiable RX8 6) (List.mem_of_getElem? (i := 91) (by decide +kernel)))
  obtain ⟨c8, i8, h8⟩ := u_known (C := RX9) (T := TX9) (N := 4) (n := 4) hts tc_wsX90 (hts (.instantiable RX9 4) (List.mem_of_getElem? (i := 228) (by decide +kernel)))
  obtain ⟨c9, i9, h9⟩ := u_known (C := RX10) (T := TX10) (N := 6) (n := 6) hts tc_wsX100 (hts (.instantiable RX10 6) (List.mem_of_getElem? (i := 83) (by decide +kernel)))
  obtain ⟨c10, i10, h10⟩ := u_known (C := RX11) (T := TX11) (N := 39) (n := 39) hts tc_wsX110 (hts (.instantiable RX11 39) (List.mem_of_getElem? (i := 842) (by decide +kernel)))
  obtain ⟨aI, kI, mI, fI, gI, eI⟩ := Cond.arrayClass_spec (hts (.arrayClass .int) (List.mem_of_getElem? (i := 129) (by decide +kernel)))
  obtain ⟨aJ, kJ, mJ, fJ, gJ, eJ⟩ := Cond.arrayClass_spec (hts (.arrayClass .long) (List.mem_of_getElem? (i := 165) (by decide +kernel)))
  obtain ⟨aZ, kZ, mZ, fZ, gZ, eZ⟩ := Cond.arrayClass_spec (hts (.arrayClass .boolean) (List.mem_of_getElem? (i := 965) (by decide +kernel)))
  obtain ⟨mB, aB, kB, fB, -, gB, eB, nB⟩ := Cond.arrayOver_spec (hts (.arrayOver (.object "StructureSearch$Big")) (List.mem_of_getElem? (i := 631) (by decide +kernel)))
  obtain ⟨mF, aF, kF, fF, -, gF, eF, nF⟩ := Cond.arrayOver_spec (hts (.arrayOver (.object "StructureSearch$Fraction")) (List.mem_of_getElem? (i := 150) (by decide +kernel)))
  refine ⟨((fun k => [c0, c1, c2, c3, c4, c5, c6, c7, c8, c9, c10].getD k c0, fun k => [i0, i1, i2, i3, i4, i5, i6, i7, i8, i9, i10].getD k i0), aI, aJ, aZ, aB, aF), ?_, ?_⟩
  · intro k q hq
    have hlt : k < 11 := (List.getElem?_eq_some_iff.mp hq).1
    match k, hlt, hq with
    | 0, _, hq => cases hq; exact h0
    | 1, _, hq => cases hq; exact h1
    | 2, _, hq => cases hq; exact h2
    | 3, _, hq => cases hq; exact h3
    | 4, _, hq => cases hq; exact h4
    | 5, _, hq => cases hq; exact h5
    | 6, _, hq => cases hq; exact h6
    | 7, _, hq => cases hq; exact h7
    | 8, _, hq => cases hq; exact h8
    | 9, _, hq => cases hq; exact h9
    | 10, _, hq => cases hq; exact h10
  · intro k q hq
    have hlt : k < 5 := (List.getElem?_eq_some_iff.mp hq).1
    match k, hlt, hq with
    | 0, _, hq => cases hq; exact ⟨fun n z => ⟨fun k h => (by cases h), kI, gI, mI, eI⟩, fI⟩
    | 1, _, hq => cases hq; exact ⟨fun n z => ⟨fun k h => (by cases h), kJ, gJ, mJ, eJ⟩, fJ⟩
    | 2, _, hq => cases hq; exact ⟨fun n z => ⟨fun k h => (by cases h), kZ, gZ, mZ, eZ⟩, fZ⟩
    | 3, _, hq => cases hq; exact ⟨fun n z => ⟨fun k h => (by cases h), kB, gB, mB, eB⟩, kB, mB, gB, eB, fB, nB⟩
    | 4, _, hq => cases hq; exact ⟨fun n z => ⟨fun k h => (by cases h), kF, gF, mF, eF⟩, kF, mF, gF, eF, fF, nF⟩
theorem law_S {s : State} {args : Array Value} (hts : ∀ w ∈ lw_tbl, w.before args s = true) (hgv : (Jvm.Cond.and given_1 narrow_1).before args s = true) : gS (fun q => s.heap.size ≤ q) s s.heap := by
  have hs := flat_of_before _ hgv
  have hA : ∀ a : Nat, a < s.heap.size → ¬ (fun q : Nat => s.heap.size ≤ q) a := fun a h => Nat.not_le.mpr h
  have p0 := va_eqt (hs (.eq (.elem (.static "StructureSearch$Powers" "SMALL_PRIMES" "[I") (.int 0)) (.int 2)) (by decide +kernel))
  have p1 := va_eqt (hs (.eq (.elem (.static "StructureSearch$Powers" "SMALL_PRIMES" "[I") (.int 1)) (.int 3)) (by decide +kernel))
  have p2 := va_eqt (hs (.eq (.elem (.static "StructureSearch$Powers" "SMALL_PRIMES" "[I") (.int 2)) (.int 5)) (by decide +kernel))
  have p3 := va_eqt (hs (.eq (.elem (.static "StructureSearch$Powers" "SMALL_PRIMES" "[I") (.int 3)) (.int 7)) (by decide +kernel))
  have p4 := va_eqt (hs (.eq (.elem (.static "StructureSearch$Powers" "SMALL_PRIMES" "[I") (.int 4)) (.int 11)) (by decide +kernel))
  have p5 := va_eqt (hs (.eq (.elem (.static "StructureSearch$Powers" "SMALL_PRIMES" "[I") (.int 5)) (.int 13)) (by decide +kernel))
  have p6 := va_eqt (hs (.eq (.elem (.static "StructureSearch$Powers" "SMALL_PRIMES" "[I") (.int 6)) (.int 17)) (by decide +kernel))
  have p7 := va_eqt (hs (.eq (.elem (.static "StructureSearch$Powers" "SMALL_PRIMES" "[I") (.int 7)) (.int 19)) (by decide +kernel))
  have p8 := va_eqt (hs (.eq (.elem (.static "StructureSearch$Powers" "SMALL_PRIMES" "[I") (.int 8)) (.int 23)) (by decide +kernel))
  have p9 := va_eqt (hs (.eq (.elem (.static "StructureSearch$Powers" "SMALL_PRIMES" "[I") (.int 9)) (.int 29)) (by decide +kernel))
  have p10 := va_eqt (hs (.eq (.elem (.static "StructureSearch$Powers" "SMALL_PRIMES" "[I") (.int 10)) (.int 31)) (by decide +kernel))
  have p11 := va_eqt (hs (.eq (.elem (.static "StructureSearch$Powers" "SMALL_PRIMES" "[I") (.int 11)) (.int 37)) (by decide +kernel))
  have p12 := va_eqt (hs (.eq (.elem (.static "StructureSearch$Powers" "SMALL_PRIMES" "[I") (.int 12)) (.int 41)) (by decide +kernel))
  have p13 := va_eqt (hs (.eq (.elem (.static "StructureSearch$Powers" "SMALL_PRIMES" "[I") (.int 13)) (.int 43)) (by decide +kernel))
  have p14 := va_eqt (hs (.eq (.elem (.static "StructureSearch$Powers" "SMALL_PRIMES" "[I") (.int 14)) (.int 47)) (by decide +kernel))
  have p15 := va_eqt (hs (.eq (.elem (.static "StructureSearch$Powers" "SMALL_PRIMES" "[I") (.int 15)) (.int 53)) (by decide +kernel))
  have p16 := va_eqt (hs (.eq (.elem (.static "StructureSearch$Powers" "SMALL_PRIMES" "[I") (.int 16)) (.int 59)) (by decide +kernel))
  have q0 := va_eqtl (hs (.eq (.elem (.static "StructureSearch$Tables" "FACTORIALS" "[J") (.int 0)) (.long 1)) (by decide +kernel))
  have q1 := va_eqtl (hs (.eq (.elem (.static "StructureSearch$Tables" "FACTORIALS" "[J") (.int 1)) (.long 1)) (by decide +kernel))
  have q2 := va_eqtl (hs (.eq (.elem (.static "StructureSearch$Tables" "FACTORIALS" "[J") (.int 2)) (.long 2)) (by decide +kernel))
  have q3 := va_eqtl (hs (.eq (.elem (.static "StructureSearch$Tables" "FACTORIALS" "[J") (.int 3)) (.long 6)) (by decide +kernel))
  have q4 := va_eqtl (hs (.eq (.elem (.static "StructureSearch$Tables" "FACTORIALS" "[J") (.int 4)) (.long 24)) (by decide +kernel))
  have q5 := va_eqtl (hs (.eq (.elem (.static "StructureSearch$Tables" "FACTORIALS" "[J") (.int 5)) (.long 120)) (by decide +kernel))
  have q6 := va_eqtl (hs (.eq (.elem (.static "StructureSearch$Tables" "FACTORIALS" "[J") (.int 6)) (.long 720)) (by decide +kernel))
  have q7 := va_eqtl (hs (.eq (.elem (.static "StructureSearch$Tables" "FACTORIALS" "[J") (.int 7)) (.long 5040)) (by decide +kernel))
  have q8 := va_eqtl (hs (.eq (.elem (.static "StructureSearch$Tables" "FACTORIALS" "[J") (.int 8)) (.long 40320)) (by decide +kernel))
  have q9 := va_eqtl (hs (.eq (.elem (.static "StructureSearch$Tables" "FACTORIALS" "[J") (.int 9)) (.long 362880)) (by decide +kernel))
  have q10 := va_eqtl (hs (.eq (.elem (.static "StructureSearch$Tables" "FACTORIALS" "[J") (.int 10)) (.long 3628800)) (by decide +kernel))
  have q11 := va_eqtl (hs (.eq (.elem (.static "StructureSearch$Tables" "FACTORIALS" "[J") (.int 11)) (.long 39916800)) (by decide +kernel))
  have q12 := va_eqtl (hs (.eq (.elem (.static "StructureSearch$Tables" "FACTORIALS" "[J") (.int 12)) (.long 479001600)) (by decide +kernel))
  have q13 := va_eqtl (hs (.eq (.elem (.static "StructureSearch$Tables" "FACTORIALS" "[J") (.int 13)) (.long 6227020800)) (by decide +kernel))
  have q14 := va_eqtl (hs (.eq (.elem (.static "StructureSearch$Tables" "FACTORIALS" "[J") (.int 14)) (.long 87178291200)) (by decide +kernel))
  have q15 := va_eqtl (hs (.eq (.elem (.static "StructureSearch$Tables" "FACTORIALS" "[J") (.int 15)) (.long 1307674368000)) (by decide +kernel))
  have q16 := va_eqtl (hs (.eq (.elem (.static "StructureSearch$Tables" "FACTORIALS" "[J") (.int 16)) (.long 20922789888000)) (by decide +kernel))
  obtain ⟨t1, e1, T1⟩ := va_Tof (tm := (.static "StructureSearch$Powers" "SMALL_PRIMES" "[I")) (ty := .int) (N := 17) (f := fun j => .int (nI (primeAt j))) (A := fun q => s.heap.size ≤ q) (by decide) (hs (.arrayOf (.static "StructureSearch$Powers" "SMALL_PRIMES" "[I") .int) (by decide +kernel)) (va_eqt (hs (.eq (.length (.static "StructureSearch$Powers" "SMALL_PRIMES" "[I")) (.int 17)) (by decide +kernel))) (fun j hj => by
    match j, hj with
    | 0, _ => exact p0
    | 1, _ => exact p1
    | 2, _ => exact p2
    | 3, _ => exact p3
    | 4, _ => exact p4
    | 5, _ => exact p5
    | 6, _ => exact p6
    | 7, _ => exact p7
    | 8, _ => exact p8
    | 9, _ => exact p9
    | 10, _ => exact p10
    | 11, _ => exact p11
    | 12, _ => exact p12
    | 13, _ => exact p13
    | 14, _ => exact p14
    | 15, _ => exact p15
    | 16, _ => exact p16
    | n + 17, h => exact absurd h (by omega)) hA
  obtain ⟨t2, e2, T2⟩ := va_Tof (tm := (.static "StructureSearch$Tables" "FACTORIALS" "[J")) (ty := .long) (N := 17) (f := fun j => .long (lN (factAt j))) (A := fun q => s.heap.size ≤ q) (by decide) (hs (.arrayOf (.static "StructureSearch$Tables" "FACTORIALS" "[J") .long) (by decide +kernel)) (va_eqt (hs (.eq (.length (.static "StructureSearch$Tables" "FACTORIALS" "[J")) (.int 17)) (by decide +kernel))) (fun j hj => by
    match j, hj with
    | 0, _ => exact q0
    | 1, _ => exact q1
    | 2, _ => exact q2
    | 3, _ => exact q3
    | 4, _ => exact q4
    | 5, _ => exact q5
    | 6, _ => exact q6
    | 7, _ => exact q7
    | 8, _ => exact q8
    | 9, _ => exact q9
    | 10, _ => exact q10
    | 11, _ => exact q11
    | 12, _ => exact q12
    | 13, _ => exact q13
    | 14, _ => exact q14
    | 15, _ => exact q15
    | 16, _ => exact q16
    | n + 17, h => exact absurd h (by omega)) hA
  exact ⟨⟨t1, t2, va_Zof (hts (.laysStatic "StructureSearch$Powers" "SMALL_PRIMES" "[I") (List.mem_of_getElem? (i := 412) (by decide +kernel))) (hts (.initialized RX5) (List.mem_of_getElem? (i := 68) (by decide +kernel))) e1 hA, T1, va_Zof (hts (.laysStatic "StructureSearch$Tables" "FACTORIALS" "[J") (List.mem_of_getElem? (i := 821) (by decide +kernel))) (hts (.initialized RX9) (List.mem_of_getElem? (i := 73) (by decide +kernel))) e2 hA, T2⟩, va_AO.of (hts (.arrayOver (.object "StructureSearch$Big")) (List.mem_of_getElem? (i := 631) (by decide +kernel))), va_AO.of (hts (.arrayOver (.object "StructureSearch$Fraction")) (List.mem_of_getElem? (i := 150) (by decide +kernel)))⟩
