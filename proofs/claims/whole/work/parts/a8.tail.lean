/-! worlds with a tail: calls and makings; arrays of references; a contract inside a larger world -/
theorem pm_tail {L wr wc wx : va_W} (h : L.Perm (wr ++ wc)) : (L ++ wx).Perm ((wr ++ wx) ++ wc) := by
  refine (h.append_right wx).trans ?_
  rw [List.append_assoc, List.append_assoc]
  exact List.Perm.append_left wr List.perm_append_comm
theorem pm_back {wr w' wx : va_W} : ((wr ++ wx) ++ w').Perm ((wr ++ w') ++ wx) := by
  rw [List.append_assoc, List.append_assoc]
  exact List.Perm.append_left wr List.perm_append_comm
theorem perm_ixn {α : Type} {as bs : List α} (is : List Nat) (n : Nat) (hn : as.length = n) (hp : is.Perm (List.range n)) (h : is.map (fun i => as[i]?) = bs.map some) : as.Perm bs := perm_ix is (by rw [hn]; exact hp) h
theorem pm_pl {L wr wc : va_W} (isR isC : List Nat) (n : Nat) (hn : L.length = n) (hp : (isR ++ isC).Perm (List.range n)) (hR : isR.map (fun i => L[i]?) = wr.map some) (hC : isC.map (fun i => L[i]?) = wc.map some) : L.Perm (wr ++ wc) :=
  perm_ixn (isR ++ isC) n hn hp (by rw [List.map_append, List.map_append, hR, hC])
section VT
variable {K : Cx} {cc : ByteArray} {nL : Nat} {own : String} {Ts : List Cond} {R : Room} {L wx : va_W} {ce sl pc : Nat} {lv : LV} {st : List Value}
theorem v_callSGT {y : MethodName} {wsy ws' : List Cond} {bytes : ByteArray} {maxL : Nat} {ret : Option FieldType} {rm : Room} {av : List Value} {wc wr : va_W} {post : Option Value → va_W → Prop} {stk : List Value} {index n : Nat} (hk : Ok K cc nL own Ts R) (hdg : decode cc pc = .ok (.invokestatic index, 3)) (hM : Ctr (kl K) (kG K) y wsy rm av wc post) (hG : GoodIn Ts (va_wsS own index y wsy)) (hw : wsy = Cond.code y bytes maxL ret :: ws')
    (hd : y.cls ≠ "java/lang/invoke/MethodHandle" ∧ y.cls ≠ "java/lang/invoke/VarHandle" ∧ (parseMethodDescriptor y.desc).map (fun d => d.parameters.length) = some n) (hfr : rm.frames + 1 ≤ R.frames ∧ 8 + (maxL + 11) + rm.locals ≤ R.locals) (hroom : ce + rm.cells ≤ R.cells ∧ sl + rm.slots ≤ R.slots) (hn : av.length = n) (hst : stk = av.reverse ++ st) (hst8 : (st.map fun v => v.category).sum ≤ 8) (isR isC : List Nat) (nl : Nat) (hnl : L.length = nl) (hpl : (isR ++ isC).Perm (List.range nl)) (hRl : isR.map (fun i => L[i]?) = wr.map some) (hCl : isC.map (fun i => L[i]?) = wc.map some)
    (kk : ∀ (v : Option Value) (w' : va_W), post v w' → V K nL ((wr ++ w') ++ wx) (ce + rm.cells) (sl + rm.slots) (pc + 3) lv (v.toList ++ st)) : V K nL (L ++ wx) ce sl pc lv stk :=
  v_callSG hk hdg hM hG hw hd hfr hroom hn hst hst8 (pm_tail (pm_pl isR isC nl hnl hpl hRl hCl)) (fun v w' hpo => v_lperm pm_back (kk v w' hpo))
theorem v_callSUT {y : MethodName} {wsy ws' : List Cond} {bytes : ByteArray} {maxL : Nat} {ret : Option FieldType} {rm : Room} {av : List Value} {wc wr : va_W} {post : Option Value → va_W → Nat → Nat → Prop} {stk : List Value} {index n : Nat} (hk : Ok K cc nL own Ts R) (hdg : decode cc pc = .ok (.invokestatic index, 3)) (hM : CtrU (kl K) (kG K) y wsy rm av wc post) (hG : GoodIn Ts (va_wsS own index y wsy)) (hw : wsy = Cond.code y bytes maxL ret :: ws')
    (hd : y.cls ≠ "java/lang/invoke/MethodHandle" ∧ y.cls ≠ "java/lang/invoke/VarHandle" ∧ (parseMethodDescriptor y.desc).map (fun d => d.parameters.length) = some n) (hfr : rm.frames + 1 ≤ R.frames ∧ 8 + (maxL + 11) + rm.locals ≤ R.locals) (hroom : ce + rm.cells ≤ R.cells ∧ sl + rm.slots ≤ R.slots) (hn : av.length = n) (hst : stk = av.reverse ++ st) (hst8 : (st.map fun v => v.category).sum ≤ 8) (isR isC : List Nat) (nl : Nat) (hnl : L.length = nl) (hpl : (isR ++ isC).Perm (List.range nl)) (hRl : isR.map (fun i => L[i]?) = wr.map some) (hCl : isC.map (fun i => L[i]?) = wc.map some)
    (kk : ∀ (v : Option Value) (w' : va_W) (dc ds : Nat), post v w' dc ds → V K nL ((wr ++ w') ++ wx) (ce + dc) (sl + ds) (pc + 3) lv (v.toList ++ st)) : V K nL (L ++ wx) ce sl pc lv stk :=
  v_callSU hk hdg hM hG hw hd hfr hroom hn hst hst8 (pm_tail (pm_pl isR isC nl hnl hpl hRl hCl)) (fun v w' dc ds hpo => v_lperm pm_back (kk v w' dc ds hpo))
theorem v_callVGT {y : MethodName} {wsy ws' : List Cond} {bytes : ByteArray} {maxL : Nat} {ret : Option FieldType} {rm : Room} {av As : List Value} {wc wr : va_W} {post : Option Value → va_W → Prop} {stk : List Value} {index n b : Nat} {C : String} {T : u_T} {N ci : Nat} {fs : List Value} (hk : Ok K cc nL own Ts R) (hdg : decode cc pc = .ok (.invokevirtual index, 3)) (hM : Ctr (kl K) (kG K) y wsy rm av wc post) (hav : av = .ref b :: As) (hG : GoodIn Ts (wsV own index C y wsy)) (hw : wsy = Cond.code y bytes maxL ret :: ws')
    (hd : y.cls = C ∧ y.cls ≠ "java/lang/invoke/MethodHandle" ∧ y.cls ≠ "java/lang/invoke/VarHandle" ∧ (parseMethodDescriptor y.desc).map (fun d => d.parameters.length) = some n) (hfr : rm.frames + 1 ≤ R.frames ∧ 8 + (maxL + 11) + rm.locals ≤ R.locals) (hroom : ce + rm.cells ≤ R.cells ∧ sl + rm.slots ≤ R.slots) (hn : As.length = n) (hst : stk = As.reverse ++ .ref b :: st) (hst8 : (st.map fun v => v.category).sum ≤ 8)
    (q0 : Nat) (hq0 : L[q0]? = some (b, .inr (ci, fs))) (hc : vwCl[ci]? = some (C, T, N)) (isR isC : List Nat) (nl : Nat) (hnl : L.length = nl) (hpl : (isR ++ isC).Perm (List.range nl)) (hRl : isR.map (fun i => L[i]?) = wr.map some) (hCl : isC.map (fun i => L[i]?) = wc.map some)
    (kk : ∀ (v : Option Value) (w' : va_W), post v w' → V K nL ((wr ++ w') ++ wx) (ce + rm.cells) (sl + rm.slots) (pc + 3) lv (v.toList ++ st)) : V K nL (L ++ wx) ce sl pc lv stk :=
  v_callVG hk hdg hM hav hG hw hd hfr hroom hn hst hst8 (List.mem_append_left _ (List.mem_of_getElem? hq0)) hc (pm_tail (pm_pl isR isC nl hnl hpl hRl hCl)) (fun v w' hpo => v_lperm pm_back (kk v w' hpo))
theorem v_callVUT {y : MethodName} {wsy ws' : List Cond} {bytes : ByteArray} {maxL : Nat} {ret : Option FieldType} {rm : Room} {av As : List Value} {wc wr : va_W} {post : Option Value → va_W → Nat → Nat → Prop} {stk : List Value} {index n b : Nat} {C : String} {T : u_T} {N ci : Nat} {fs : List Value} (hk : Ok K cc nL own Ts R) (hdg : decode cc pc = .ok (.invokevirtual index, 3)) (hM : CtrU (kl K) (kG K) y wsy rm av wc post) (hav : av = .ref b :: As) (hG : GoodIn Ts (wsV own index C y wsy)) (hw : wsy = Cond.code y bytes maxL ret :: ws')
    (hd : y.cls = C ∧ y.cls ≠ "java/lang/invoke/MethodHandle" ∧ y.cls ≠ "java/lang/invoke/VarHandle" ∧ (parseMethodDescriptor y.desc).map (fun d => d.parameters.length) = some n) (hfr : rm.frames + 1 ≤ R.frames ∧ 8 + (maxL + 11) + rm.locals ≤ R.locals) (hroom : ce + rm.cells ≤ R.cells ∧ sl + rm.slots ≤ R.slots) (hn : As.length = n) (hst : stk = As.reverse ++ .ref b :: st) (hst8 : (st.map fun v => v.category).sum ≤ 8)
    (q0 : Nat) (hq0 : L[q0]? = some (b, .inr (ci, fs))) (hc : vwCl[ci]? = some (C, T, N)) (isR isC : List Nat) (nl : Nat) (hnl : L.length = nl) (hpl : (isR ++ isC).Perm (List.range nl)) (hRl : isR.map (fun i => L[i]?) = wr.map some) (hCl : isC.map (fun i => L[i]?) = wc.map some)
    (kk : ∀ (v : Option Value) (w' : va_W) (dc ds : Nat), post v w' dc ds → V K nL ((wr ++ w') ++ wx) (ce + dc) (sl + ds) (pc + 3) lv (v.toList ++ st)) : V K nL (L ++ wx) ce sl pc lv stk :=
  v_callVU hk hdg hM hav hG hw hd hfr hroom hn hst hst8 (List.mem_append_left _ (List.mem_of_getElem? hq0)) hc (pm_tail (pm_pl isR isC nl hnl hpl hRl hCl)) (fun v w' dc ds hpo => v_lperm pm_back (kk v w' dc ds hpo))
theorem v_callIGT {y : MethodName} {wsy ws' : List Cond} {bytes : ByteArray} {maxL : Nat} {rm : Room} {av As : List Value} {wc wr : va_W} {post : Option Value → va_W → Prop} {stk : List Value} {index n b : Nat} (hk : Ok K cc nL own Ts R) (hdg : decode cc pc = .ok (.invokespecial index, 3)) (hM : Ctr (kl K) (kG K) y wsy rm av wc post) (hav : av = .ref b :: As) (hG : GoodIn Ts wsy) (hw : wsy = Cond.code y bytes maxL none :: ws') (h1 : Cond.initialized y.cls ∈ Ts) (h2 : Cond.methodLink own index y ∈ Ts) (h3 : Cond.instanceMethod y ∈ Ts) (hy : y.name = "<init>")
    (hd : y.cls ≠ "java/lang/invoke/MethodHandle" ∧ y.cls ≠ "java/lang/invoke/VarHandle" ∧ (parseMethodDescriptor y.desc).map (fun d => d.parameters.length) = some n) (hfr : rm.frames + 1 ≤ R.frames ∧ 8 + (maxL + 11) + rm.locals ≤ R.locals) (hroom : ce + rm.cells ≤ R.cells ∧ sl + rm.slots ≤ R.slots) (hn : As.length = n) (hst : stk = As.reverse ++ .ref b :: st) (hst8 : (st.map fun v => v.category).sum ≤ 8) (isR isC : List Nat) (nl : Nat) (hnl : L.length = nl) (hpl : (isR ++ isC).Perm (List.range nl)) (hRl : isR.map (fun i => L[i]?) = wr.map some) (hCl : isC.map (fun i => L[i]?) = wc.map some)
    (kk : ∀ (v : Option Value) (w' : va_W), post v w' → V K nL ((wr ++ w') ++ wx) (ce + rm.cells) (sl + rm.slots) (pc + 3) lv (v.toList ++ st)) : V K nL (L ++ wx) ce sl pc lv stk :=
  v_callIG hk hdg hM hav hG hw h1 h2 h3 hy hd hfr hroom hn hst hst8 (pm_tail (pm_pl isR isC nl hnl hpl hRl hCl)) (fun v w' hpo => v_lperm pm_back (kk v w' hpo))
theorem v_callIUT {y : MethodName} {wsy ws' : List Cond} {bytes : ByteArray} {maxL : Nat} {rm : Room} {av As : List Value} {wc wr : va_W} {post : Option Value → va_W → Nat → Nat → Prop} {stk : List Value} {index n b : Nat} (hk : Ok K cc nL own Ts R) (hdg : decode cc pc = .ok (.invokespecial index, 3)) (hM : CtrU (kl K) (kG K) y wsy rm av wc post) (hav : av = .ref b :: As) (hG : GoodIn Ts wsy) (hw : wsy = Cond.code y bytes maxL none :: ws') (h1 : Cond.initialized y.cls ∈ Ts) (h2 : Cond.methodLink own index y ∈ Ts) (h3 : Cond.instanceMethod y ∈ Ts) (hy : y.name = "<init>")
    (hd : y.cls ≠ "java/lang/invoke/MethodHandle" ∧ y.cls ≠ "java/lang/invoke/VarHandle" ∧ (parseMethodDescriptor y.desc).map (fun d => d.parameters.length) = some n) (hfr : rm.frames + 1 ≤ R.frames ∧ 8 + (maxL + 11) + rm.locals ≤ R.locals) (hroom : ce + rm.cells ≤ R.cells ∧ sl + rm.slots ≤ R.slots) (hn : As.length = n) (hst : stk = As.reverse ++ .ref b :: st) (hst8 : (st.map fun v => v.category).sum ≤ 8) (isR isC : List Nat) (nl : Nat) (hnl : L.length = nl) (hpl : (isR ++ isC).Perm (List.range nl)) (hRl : isR.map (fun i => L[i]?) = wr.map some) (hCl : isC.map (fun i => L[i]?) = wc.map some)
    (kk : ∀ (v : Option Value) (w' : va_W) (dc ds : Nat), post v w' dc ds → V K nL ((wr ++ w') ++ wx) (ce + dc) (sl + ds) (pc + 3) lv (v.toList ++ st)) : V K nL (L ++ wx) ce sl pc lv stk :=
  v_callIU hk hdg hM hav hG hw h1 h2 h3 hy hd hfr hroom hn hst hst8 (pm_tail (pm_pl isR isC nl hnl hpl hRl hCl)) (fun v w' dc ds hpo => v_lperm pm_back (kk v w' dc ds hpo))
theorem v_newT {C : String} {T : u_T} {N ci index : Nat} {fs : List Value} (hk : Ok K cc nL own Ts R) (hdg : decode cc pc = .ok (.new index, 3)) (hin : ∀ w ∈ u_ws C T N, w ∈ Ts) (ty : Nat → FieldType) (hty : ∀ k, k < N → parseFieldDescriptor (T k).2.2.1 = some (ty k)) (h1 : Cond.classLink own index C ∈ Ts) (h2 : Cond.instantiable C N ∈ Ts) (h3 : Cond.initialized C ∈ Ts) (hc : vwCl[ci]? = some (C, T, N)) (hfs : ∀ j, j < N → defaultValue (ty j) = vp_V fs j) (hcells : ce + 1 ≤ R.cells) (hslots : sl + N ≤ R.slots) (k : ∀ q : Nat, V K nL ((L ++ [(q, .inr (ci, fs))]) ++ wx) (ce + 1) (sl + N) (pc + 3) lv (.ref q :: st)) : V K nL (L ++ wx) ce sl pc lv st :=
  v_new hk hdg hin ty hty h1 h2 h3 hc hfs hcells hslots (fun q => v_lperm pm_back (k q))
theorem v_newIT {n : Int32} {N : Nat} (hk : Ok K cc nL own Ts R) (hdg : decode cc pc = .ok (.newarray .int, 2)) (ha : Cond.arrayClass .int ∈ Ts) (hn : n = nI N) (hN : N < 2 ^ 20) (hcells : ce + 1 ≤ R.cells) (hslots : sl + N ≤ R.slots) (k : ∀ q : Nat, V K nL ((L ++ [(q, .inl (gI (kG K), N, .inl (fun _ => 0)))]) ++ wx) (ce + 1) (sl + N) (pc + 2) lv (.ref q :: st)) : V K nL (L ++ wx) ce sl pc lv (.int n :: st) :=
  v_newI hk hdg ha hn hN hcells hslots (fun q => v_lperm pm_back (k q))
theorem v_newJT {n : Int32} {N : Nat} (hk : Ok K cc nL own Ts R) (hdg : decode cc pc = .ok (.newarray .long, 2)) (ha : Cond.arrayClass .long ∈ Ts) (hn : n = nI N) (hN : N < 2 ^ 20) (hcells : ce + 1 ≤ R.cells) (hslots : sl + N ≤ R.slots) (k : ∀ q : Nat, V K nL ((L ++ [(q, .inl (gJ (kG K), N, .inr (.inl (fun _ => 0))))]) ++ wx) (ce + 1) (sl + N) (pc + 2) lv (.ref q :: st)) : V K nL (L ++ wx) ce sl pc lv (.int n :: st) :=
  v_newJ hk hdg ha hn hN hcells hslots (fun q => v_lperm pm_back (k q))
theorem v_newZT {n : Int32} {N : Nat} (hk : Ok K cc nL own Ts R) (hdg : decode cc pc = .ok (.newarray .boolean, 2)) (ha : Cond.arrayClass .boolean ∈ Ts) (hn : n = nI N) (hN : N < 2 ^ 20) (hcells : ce + 1 ≤ R.cells) (hslots : sl + N ≤ R.slots) (k : ∀ q : Nat, V K nL ((L ++ [(q, .inl (gZ (kG K), N, .inl (fun _ => 0)))]) ++ wx) (ce + 1) (sl + N) (pc + 2) lv (.ref q :: st)) : V K nL (L ++ wx) ce sl pc lv (.int n :: st) := by
  subst hn
  intro H locs ls hP hD hS hl
  refine va_newa (atype := .boolean) (a0 := (N, .inl (fun _ => 0))) (ty := .boolean) hk.1 hk.2.1 (hk.ts _ ha) rfl hk.G hP hD hS hk.A (fun cA => rfl) (nI_pos (by omega)) (nI_clamp (by omega)) (by show N * 1 ≤ _; omega) (by rw [hk.room]; exact hcells) (by rw [hk.room]; exact hslots) hdg (fun q cA H1 hK1 hP1 hD1 hS1 => ?_)
  have e1 := (hK1.2 5 _ rfl).2
  have e2 := (hk.G.2 2 _ rfl).2
  have e : cA = gZ (kG K) := Option.some.inj (e1.symm.trans e2)
  subst e
  exact v_lperm pm_back (k q) H1 locs ls hP1 hD1 hS1 hl
theorem v_newBT {n : Int32} {N index : Nat} (hk : Ok K cc nL own Ts R) (hdg : decode cc pc = .ok (.anewarray index, 3)) (h1 : Cond.classLink own index "StructureSearch$Big" ∈ Ts) (hn : n = nI N) (hN : N < 2 ^ 20) (hcells : ce + 1 ≤ R.cells) (hslots : sl + N ≤ R.slots) (k : ∀ q : Nat, V K nL ((L ++ [(q, .inl (gB (kG K), N, .inr (.inr (.inr (.inr (fun _ => none))))))]) ++ wx) (ce + 1) (sl + N) (pc + 3) lv (.ref q :: st)) : V K nL (L ++ wx) ce sl pc lv (.int n :: st) := by
  subst hn
  intro H locs ls hP hD hS hl
  refine va_newq hk.1 hk.2.1 hk.2.2.2.1 (hk.ts _ h1) hk.stA.2.1 hk.G hP hD hS hk.A (nI_pos (by omega)) (nI_clamp (by omega)) (by omega) (by rw [hk.room]; exact hcells) (by rw [hk.room]; exact hslots) hdg (fun q cA H1 hK1 hP1 hD1 hS1 => ?_)
  obtain ⟨_, _, _, _, _, e1⟩ := (hK1.2 5 _ rfl).2
  obtain ⟨_, _, _, _, _, e2⟩ := (hk.G.2 3 _ rfl).2
  have e : cA = gB (kG K) := Option.some.inj (e1.symm.trans e2)
  subst e
  exact v_lperm pm_back (k q) H1 locs ls hP1 hD1 hS1 hl
theorem v_aaldB {ws : va_W} {a n : Nat} {f : Nat → Option Nat} {i : Int32} {v : Value} (hk : Ok K cc nL own Ts R) (hdg : decode cc pc = .ok (.aaload, 1)) (q0 : Nat) (ha : ws[q0]? = some (a, .inl (gB (kG K), n, .inr (.inr (.inr (.inr f)))))) (hi : vp_in i n) (hv : va_rf (f i.toNatClampNeg) = v) (k : V K nL ws ce sl (pc + 1) lv (v :: st)) : V K nL ws ce sl pc lv (.int i :: .ref a :: st) := by
  subst hv
  exact fun H locs ls hP hD hS hl => va_aldq hk.1 hk.2.1 hk.G hP q0 3 ha rfl hi hdg (k H locs ls hP hD hS hl)
theorem v_aastB {ws ws' : va_W} {a n v ci : Nat} {f : Nat → Option Nat} {i : Int32} {T : u_T} {N : Nat} {vs : List Value} (hk : Ok K cc nL own Ts R) (hdg : decode cc pc = .ok (.aastore, 1)) (q0 qk : Nat) (ha : ws[q0]? = some (a, .inl (gB (kG K), n, .inr (.inr (.inr (.inr f)))))) (hv : ws[qk]? = some (v, .inr (ci, vs))) (hc : vwCl[ci]? = some ("StructureSearch$Big", T, N)) (hi : vp_in i n) (hw : ws.set q0 (a, .inl (gB (kG K), n, .inr (.inr (.inr (.inr (va_up f i.toNatClampNeg (some v))))))) = ws') (k : V K nL ws' ce sl (pc + 1) lv st) : V K nL ws ce sl pc lv (.ref v :: .int i :: .ref a :: st) := by
  subst hw
  exact fun H locs ls hP hD hS hl => va_astq hk.1 hk.2.1 hk.G hP hD hS q0 3 qk ci ha rfl hv hc hi hdg (fun H1 locs1 hP1 hD1 hS1 => k H1 locs1 ls hP1 hD1 hS1 hl)
theorem v_newFT {n : Int32} {N index : Nat} (hk : Ok K cc nL own Ts R) (hdg : decode cc pc = .ok (.anewarray index, 3)) (h1 : Cond.classLink own index "StructureSearch$Fraction" ∈ Ts) (hn : n = nI N) (hN : N < 2 ^ 20) (hcells : ce + 1 ≤ R.cells) (hslots : sl + N ≤ R.slots) (k : ∀ q : Nat, V K nL ((L ++ [(q, .inl (gF (kG K), N, .inr (.inr (.inr (.inr (fun _ => none))))))]) ++ wx) (ce + 1) (sl + N) (pc + 3) lv (.ref q :: st)) : V K nL (L ++ wx) ce sl pc lv (.int n :: st) := by
  subst hn
  intro H locs ls hP hD hS hl
  refine va_newq hk.1 hk.2.1 hk.2.2.2.1 (hk.ts _ h1) hk.stA.2.2 hk.G hP hD hS hk.A (nI_pos (by omega)) (nI_clamp (by omega)) (by omega) (by rw [hk.room]; exact hcells) (by rw [hk.room]; exact hslots) hdg (fun q cA H1 hK1 hP1 hD1 hS1 => ?_)
  obtain ⟨_, _, _, _, _, e1⟩ := (hK1.2 5 _ rfl).2
  obtain ⟨_, _, _, _, _, e2⟩ := (hk.G.2 4 _ rfl).2
  have e : cA = gF (kG K) := Option.some.inj (e1.symm.trans e2)
  subst e
  exact v_lperm pm_back (k q) H1 locs ls hP1 hD1 hS1 hl
theorem v_aaldF {ws : va_W} {a n : Nat} {f : Nat → Option Nat} {i : Int32} {v : Value} (hk : Ok K cc nL own Ts R) (hdg : decode cc pc = .ok (.aaload, 1)) (q0 : Nat) (ha : ws[q0]? = some (a, .inl (gF (kG K), n, .inr (.inr (.inr (.inr f)))))) (hi : vp_in i n) (hv : va_rf (f i.toNatClampNeg) = v) (k : V K nL ws ce sl (pc + 1) lv (v :: st)) : V K nL ws ce sl pc lv (.int i :: .ref a :: st) := by
  subst hv
  exact fun H locs ls hP hD hS hl => va_aldq hk.1 hk.2.1 hk.G hP q0 4 ha rfl hi hdg (k H locs ls hP hD hS hl)
theorem v_aastF {ws ws' : va_W} {a n v ci : Nat} {f : Nat → Option Nat} {i : Int32} {T : u_T} {N : Nat} {vs : List Value} (hk : Ok K cc nL own Ts R) (hdg : decode cc pc = .ok (.aastore, 1)) (q0 qk : Nat) (ha : ws[q0]? = some (a, .inl (gF (kG K), n, .inr (.inr (.inr (.inr f)))))) (hv : ws[qk]? = some (v, .inr (ci, vs))) (hc : vwCl[ci]? = some ("StructureSearch$Fraction", T, N)) (hi : vp_in i n) (hw : ws.set q0 (a, .inl (gF (kG K), n, .inr (.inr (.inr (.inr (va_up f i.toNatClampNeg (some v))))))) = ws') (k : V K nL ws' ce sl (pc + 1) lv st) : V K nL ws ce sl pc lv (.ref v :: .int i :: .ref a :: st) := by
  subst hw
  exact fun H locs ls hP hD hS hl => va_astq hk.1 hk.2.1 hk.G hP hD hS q0 4 qk ci ha rfl hv hc hi hdg (fun H1 locs1 hP1 hD1 hS1 => k H1 locs1 ls hP1 hD1 hS1 hl)
end VT
/-- a contract holds in a larger world too -/
theorem ctr_frame {l : Launch} {G : GG} {y : MethodName} {wsy : List Cond} {rm : Room} {av : List Value} {ws wr wc : va_W} {post : Option Value → va_W → Prop} (hp : ws.Perm (wr ++ wc)) (h : Ctr l G y wsy rm av wc post) : Ctr l G y wsy rm av ws (fun v w' => ∃ w1, post v w1 ∧ w' = wr ++ w1) := by
  intro sz p e h1 h2 h3 s m args below hf hS hP hK
  obtain ⟨hav, hsz, hPw, hKw, hDw, hGw⟩ := hP
  subst hsz
  have hP' := hPw.lperm hp
  have hsub : ∀ q, va_A wc s.heap.size q → va_A ws s.heap.size q := by
    rintro q (⟨k, e0, hq⟩ | hq)
    · obtain ⟨k', hk'⟩ := List.getElem?_of_mem (hp.mem_iff.mpr (List.mem_append_right wr (List.mem_of_getElem? hq)))
      exact Or.inl ⟨k', e0, hk'⟩
    · exact Or.inr hq
  have hPc : va_P G.1 vwCl wc s.heap := va_P_mem.mpr fun q hq => va_P_mem.mp hP' q (List.mem_append_right _ hq)
  have hD' := (hDw.self (sz := s.heap.size)).lperm hp
  have hDc : va_D (fun _ => True) wc := by
    have hh := va_D_nd.mp (hDw.lperm hp)
    rw [List.map_append] at hh
    exact va_D_nd.mpr ⟨(List.nodup_append.mp hh.1).2.1, fun _ _ => trivial⟩
  obtain ⟨n, o, w1, w2, w3, ⟨v, w', ho, hpost, hP1, hD1, hz, hk1⟩, Ls, hL1, hL2⟩ := h s.heap.size p e h1 h2 h3 s m args below hf hS ⟨hav, rfl, hPc, hKw, hDc, hGw.narrow hsub⟩ hK
  obtain ⟨hPj, hDj⟩ := va_join (wr := wr) (w1 := w') hP' hD' _ _ (ixs_c wr wc) (ixs_r wr wc) (nd_range _) (dis_rc wr wc) hk1 hsub hP1 hD1
  exact ⟨n, o, w1, w2, w3, ⟨v, wr ++ w', ho, ⟨w', hpost, rfl⟩, hPj, hDj, hz, fun q a b => hk1 q a (fun z => b (hsub q z))⟩, Ls, hL1, fun q hq => hsub _ (hL2 q hq)⟩
