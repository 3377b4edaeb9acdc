theorem nd_app {l : List Nat} {a : Nat} (h : va_nd l = true) (ha : a ∉ l) : va_nd (l ++ [a]) = true := by
  induction l with
  | nil => rfl
  | cons b l ih =>
    simp only [va_nd, List.cons_append, Bool.and_eq_true, decide_eq_true_eq] at h ⊢
    refine ⟨fun hb => ?_, ih h.2 (fun z => ha (List.mem_cons_of_mem _ z))⟩
    rcases List.mem_append.mp hb with q | q
    · exact h.1 q
    · exact ha (by rw [List.mem_singleton.mp q]; exact List.mem_cons_self)
theorem nd_range (n : Nat) : va_nd (List.range n) = true := by
  induction n with
  | zero => rfl
  | succ n ih => rw [List.range_succ]; exact nd_app ih (fun h => by rw [List.mem_range] at h; omega)
theorem dis_rc {α : Type} (wr wc : List α) : ∀ i ∈ List.range wr.length, i ∉ (List.range wc.length).map (fun i => wr.length + i) := by
  intro i hi hj
  rw [List.mem_range] at hi
  obtain ⟨j, -, hj⟩ := List.mem_map.mp hj
  omega
section VG
variable {K : Cx} {cc : ByteArray} {nL : Nat} {own : String} {Ts : List Cond} {R : Room} {ws : va_W} {ce sl pc : Nat} {lv : LV} {st : List Value}
theorem v_runU {rm : Room} {av : List Value} {wc wr : va_W} {post : Option Value → va_W → Nat → Nat → Prop} {stk : List Value} {a : Array Value} (hk : Ok K cc nL own Ts R) (hp : ws.Perm (wr ++ wc))
    (hrun : ∀ (H : Heap) (locs : List Loc) (ls : Array Slot), va_P (kG K).1 vwCl ws H → (∀ q, va_A wc H.size q → kA K q) → va_S (kA K) (ks K).heap H locs → lv_has ls nL lv → (∀ U : State, U.heap = H → (ks K).WarmedH U.vm → cPc (kG K) av wc H.size av.toArray U) → va_Run (kp K) (kl K) (ke K) (kR K) (ks K) (km K) (ka K) (kb K) (kM K) (kc K) H locs ce sl rm.cells rm.slots (F0 (km K) pc ls stk) st (cQu (kG K) wc H.size post a) (va_A wc H.size))
    (kk : ∀ (v : Option Value) (w' : va_W) (dc ds : Nat), post v w' dc ds → V K nL (wr ++ w') (ce + dc) (sl + ds) (pc + 3) lv (v.toList ++ st)) : V K nL ws ce sl pc lv stk := by
  intro H locs ls hP0 hD0 hS hl
  have hP := hP0.lperm hp
  have hD := hD0.lperm hp
  have hPc : va_P (kG K).1 vwCl wc H := va_P_mem.mpr fun q hq => va_P_mem.mp hP q (List.mem_append_right _ hq)
  have hDc : va_D (kA K) wc := by
    have h := va_D_nd.mp hD
    rw [List.map_append] at h
    exact va_D_nd.mpr ⟨(List.nodup_append.mp h.1).2.1, fun q hq => h.2 q (List.mem_append_right _ hq)⟩
  have hC := ixs_c wr wc
  have hR := ixs_r wr wc
  have hFc := va_free (wc := wc) hD hS hk.A _ hC
  have hpre : ∀ U : State, U.heap = H → (ks K).WarmedH U.vm → cPc (kG K) av wc H.size av.toArray U := by
    intro U hU hW
    refine ⟨rfl, by rw [hU], by rw [hU]; exact hPc, va_K.moved hW.alike hk.G, hDc.weaken (fun _ _ _ _ => trivial), ?_⟩
    rw [hU]
    exact ((hk.stA.kept (fun a h1 h2 => hS.2.1 a h1 h2)).narrow hFc).moved hW.alike
  intro T hT X
  obtain ⟨v, st₀, t, T', L, h0, X', hL, e1, e2, ⟨v', w', dc, ds, hv, hp1, hP1, hD1, ⟨hz, hk1⟩, g1, g2⟩, stp⟩ := hrun H locs ls hP0 hFc hS hl hpre T hT X
  cases hv
  rw [h0] at hz hk1 g1 g2
  have hk2 : ∀ q : Nat, q < H.size → ¬ va_A wc H.size q → T'.heap[q]? = H[q]? := fun q h1 h2 => by rw [e1]; exact hk1 q h1 h2
  obtain ⟨hPj, hDj⟩ := va_join (wr := wr) (w1 := w') hP hD _ _ hC hR (nd_range _) (dis_rc wr wc) hk2 hFc (by rw [e1]; exact hP1) hD1
  · have u1 : T.heap.size ≤ (ks K).heap.size + ce := X.heapSize
    have u2 := tot_le X
    rw [hT] at u1 u2
    have X2 := stand_tight (k := ce + dc) (n := sl + ds) X' (by rw [e1]; omega) (by rw [e1]; omega)
    obtain ⟨t2, a1, b1⟩ := kk v w' dc ds hp1 T'.heap (locs ++ L) ls hPj hDj ⟨Nat.le_trans hS.1 (by rw [e1]; exact hz), fun q h1 h2 => by rw [hk2 q (Nat.lt_of_lt_of_le h1 hS.1) (fun z => h2 (hFc q z))]; exact hS.2.1 q h1 h2, fun q hq => by
        rcases List.mem_append.mp hq with h | h
        · exact hS.2.2 q h
        · exact hFc _ (hL q h)⟩ hl T' rfl X2
    exact ⟨t2, stp t2 a1, b1⟩
theorem v_runG {rm : Room} {av : List Value} {wc wr : va_W} {post : Option Value → va_W → Prop} {stk : List Value} {a : Array Value} (hk : Ok K cc nL own Ts R) (hp : ws.Perm (wr ++ wc))
    (hrun : ∀ (H : Heap) (locs : List Loc) (ls : Array Slot), va_P (kG K).1 vwCl ws H → (∀ q, va_A wc H.size q → kA K q) → va_S (kA K) (ks K).heap H locs → lv_has ls nL lv → (∀ U : State, U.heap = H → (ks K).WarmedH U.vm → cPc (kG K) av wc H.size av.toArray U) → va_Run (kp K) (kl K) (ke K) (kR K) (ks K) (km K) (ka K) (kb K) (kM K) (kc K) H locs ce sl rm.cells rm.slots (F0 (km K) pc ls stk) st (cQc (kG K) wc H.size post a) (va_A wc H.size))
    (kk : ∀ (v : Option Value) (w' : va_W), post v w' → V K nL (wr ++ w') (ce + rm.cells) (sl + rm.slots) (pc + 3) lv (v.toList ++ st)) : V K nL ws ce sl pc lv stk := by
  intro H locs ls hP0 hD0 hS hl
  have hP := hP0.lperm hp
  have hD := hD0.lperm hp
  have hPc : va_P (kG K).1 vwCl wc H := va_P_mem.mpr fun q hq => va_P_mem.mp hP q (List.mem_append_right _ hq)
  have hDc : va_D (kA K) wc := by
    have h := va_D_nd.mp hD
    rw [List.map_append] at h
    exact va_D_nd.mpr ⟨(List.nodup_append.mp h.1).2.1, fun q hq => h.2 q (List.mem_append_right _ hq)⟩
  have hC := ixs_c wr wc
  have hR := ixs_r wr wc
  have hFc := va_free (wc := wc) hD hS hk.A _ hC
  have hpre : ∀ U : State, U.heap = H → (ks K).WarmedH U.vm → cPc (kG K) av wc H.size av.toArray U := by
    intro U hU hW
    refine ⟨rfl, by rw [hU], by rw [hU]; exact hPc, va_K.moved hW.alike hk.G, hDc.weaken (fun _ _ _ _ => trivial), ?_⟩
    rw [hU]
    exact ((hk.stA.kept (fun a h1 h2 => hS.2.1 a h1 h2)).narrow hFc).moved hW.alike
  intro T hT X
  obtain ⟨v, st₀, t, T', L, h0, X', hL, e1, e2, ⟨v', w', hv, hp1, hP1, hD1, ⟨hz, hk1⟩⟩, stp⟩ := hrun H locs ls hP0 hFc hS hl hpre T hT X
  cases hv
  rw [h0] at hz hk1
  have hk2 : ∀ q : Nat, q < H.size → ¬ va_A wc H.size q → T'.heap[q]? = H[q]? := fun q h1 h2 => by rw [e1]; exact hk1 q h1 h2
  obtain ⟨hPj, hDj⟩ := va_join (wr := wr) (w1 := w') hP hD _ _ hC hR (nd_range _) (dis_rc wr wc) hk2 hFc (by rw [e1]; exact hP1) hD1
  · obtain ⟨t2, a1, b1⟩ := kk v w' hp1 T'.heap (locs ++ L) ls hPj hDj ⟨Nat.le_trans hS.1 (by rw [e1]; exact hz), fun q h1 h2 => by rw [hk2 q (Nat.lt_of_lt_of_le h1 hS.1) (fun z => h2 (hFc q z))]; exact hS.2.1 q h1 h2, fun q hq => by
        rcases List.mem_append.mp hq with h | h
        · exact hS.2.2 q h
        · exact hFc _ (hL q h)⟩ hl T' rfl X'
    exact ⟨t2, stp t2 a1, b1⟩
theorem v_callSU {y : MethodName} {wsy ws' : List Cond} {bytes : ByteArray} {maxL : Nat} {ret : Option FieldType} {rm : Room} {av : List Value} {wc wr : va_W} {post : Option Value → va_W → Nat → Nat → Prop} {stk : List Value} {index n : Nat} (hk : Ok K cc nL own Ts R) (hdg : decode cc pc = .ok (.invokestatic index, 3)) (hM : CtrU (kl K) (kG K) y wsy rm av wc post) (hG : GoodIn Ts (va_wsS own index y wsy)) (hw : wsy = Cond.code y bytes maxL ret :: ws')
    (hd : y.cls ≠ "java/lang/invoke/MethodHandle" ∧ y.cls ≠ "java/lang/invoke/VarHandle" ∧ (parseMethodDescriptor y.desc).map (fun d => d.parameters.length) = some n) (hfr : rm.frames + 1 ≤ R.frames ∧ 8 + (maxL + 11) + rm.locals ≤ R.locals) (hroom : ce + rm.cells ≤ R.cells ∧ sl + rm.slots ≤ R.slots) (hn : av.length = n) (hst : stk = av.reverse ++ st) (hst8 : (st.map fun v => v.category).sum ≤ 8)
    (hp : ws.Perm (wr ++ wc)) (kk : ∀ (v : Option Value) (w' : va_W) (dc ds : Nat), post v w' dc ds → V K nL (wr ++ w') (ce + dc) (sl + ds) (pc + 3) lv (v.toList ++ st)) : V K nL ws ce sl pc lv stk := by
  refine v_runU (rm := rm) (av := av) (a := av.toArray) hk hp ?_ kk
  intro H locs ls hP hFc hS hl hpre
  exact va_runS (As := av) (rest := st) (Ts := Ts) ⟨hk.1, hk.2.1, hk.2.2.1, hk.2.2.2.1, hk.ts⟩ (hM H.size) (va_cwS n hk.ts hG hw rfl rfl hd (by rw [hk.room]; exact hfr)) ⟨cPc_blind, hpre⟩ rfl hn hl.1 hst (lv_room hst8) hdg (by rw [hk.room]; exact hroom)
theorem v_callVU {y : MethodName} {wsy ws' : List Cond} {bytes : ByteArray} {maxL : Nat} {ret : Option FieldType} {rm : Room} {av As : List Value} {wc wr : va_W} {post : Option Value → va_W → Nat → Nat → Prop} {stk : List Value} {index n b : Nat} {C : String} {T : u_T} {N ci : Nat} {fs : List Value} (hk : Ok K cc nL own Ts R) (hdg : decode cc pc = .ok (.invokevirtual index, 3)) (hM : CtrU (kl K) (kG K) y wsy rm av wc post) (hav : av = .ref b :: As) (hG : GoodIn Ts (wsV own index C y wsy)) (hw : wsy = Cond.code y bytes maxL ret :: ws')
    (hd : y.cls = C ∧ y.cls ≠ "java/lang/invoke/MethodHandle" ∧ y.cls ≠ "java/lang/invoke/VarHandle" ∧ (parseMethodDescriptor y.desc).map (fun d => d.parameters.length) = some n) (hfr : rm.frames + 1 ≤ R.frames ∧ 8 + (maxL + 11) + rm.locals ≤ R.locals) (hroom : ce + rm.cells ≤ R.cells ∧ sl + rm.slots ≤ R.slots) (hn : As.length = n) (hst : stk = As.reverse ++ .ref b :: st) (hst8 : (st.map fun v => v.category).sum ≤ 8)
    (hq0 : ((b, .inr (ci, fs)) : Nat × va_E) ∈ ws) (hc : vwCl[ci]? = some (C, T, N))
    (hp : ws.Perm (wr ++ wc)) (kk : ∀ (v : Option Value) (w' : va_W) (dc ds : Nat), post v w' dc ds → V K nL (wr ++ w') (ce + dc) (sl + ds) (pc + 3) lv (v.toList ++ st)) : V K nL ws ce sl pc lv stk := by
  subst hav
  refine v_runU (rm := rm) (av := .ref b :: As) (a := (Value.ref b :: As).toArray) hk hp ?_ kk
  intro H locs ls hP hFc hS hl hpre
  obtain ⟨q0, hq0⟩ := List.getElem?_of_mem hq0
  exact va_runV (As := As) (rest := st) (Ts := Ts) ⟨hk.1, hk.2.1, hk.2.2.1, hk.2.2.2.1, hk.ts⟩ (hM H.size) (cwV n hk.ts hG hw rfl rfl hd (by rw [hk.room]; exact hfr)) ⟨cPc_blind, va_recv hk.G hP hc hq0, hpre⟩ rfl hn hl.1 hst (lv_room hst8) hdg (by rw [hk.room]; exact hroom)
theorem v_callIU {y : MethodName} {wsy ws' : List Cond} {bytes : ByteArray} {maxL : Nat} {rm : Room} {av As : List Value} {wc wr : va_W} {post : Option Value → va_W → Nat → Nat → Prop} {stk : List Value} {index n b : Nat} (hk : Ok K cc nL own Ts R) (hdg : decode cc pc = .ok (.invokespecial index, 3)) (hM : CtrU (kl K) (kG K) y wsy rm av wc post) (hav : av = .ref b :: As) (hG : GoodIn Ts wsy) (hw : wsy = Cond.code y bytes maxL none :: ws') (h1 : Cond.initialized y.cls ∈ Ts) (h2 : Cond.methodLink own index y ∈ Ts) (h3 : Cond.instanceMethod y ∈ Ts) (hy : y.name = "<init>")
    (hd : y.cls ≠ "java/lang/invoke/MethodHandle" ∧ y.cls ≠ "java/lang/invoke/VarHandle" ∧ (parseMethodDescriptor y.desc).map (fun d => d.parameters.length) = some n) (hfr : rm.frames + 1 ≤ R.frames ∧ 8 + (maxL + 11) + rm.locals ≤ R.locals) (hroom : ce + rm.cells ≤ R.cells ∧ sl + rm.slots ≤ R.slots) (hn : As.length = n) (hst : stk = As.reverse ++ .ref b :: st) (hst8 : (st.map fun v => v.category).sum ≤ 8)
    (hp : ws.Perm (wr ++ wc)) (kk : ∀ (v : Option Value) (w' : va_W) (dc ds : Nat), post v w' dc ds → V K nL (wr ++ w') (ce + dc) (sl + ds) (pc + 3) lv (v.toList ++ st)) : V K nL ws ce sl pc lv stk := by
  subst hav
  refine v_runU (rm := rm) (av := .ref b :: As) (a := (Value.ref b :: As).toArray) hk hp ?_ kk
  intro H locs ls hP hFc hS hl hpre
  exact va_runI (As := As) (rest := st) (Ts := Ts) ⟨hk.1, hk.2.1, hk.2.2.1, hk.2.2.2.1, hk.ts⟩ (hM H.size) (cwI n hk.ts hG hw rfl rfl (hk.ts _ h1) (hk.ts _ h2) (hk.ts _ h3) hy hd (by rw [hk.room]; exact hfr)) ⟨cPc_blind, hpre⟩ rfl hn hl.1 hst (lv_room hst8) hdg (by rw [hk.room]; exact hroom)
theorem v_callSG {y : MethodName} {wsy ws' : List Cond} {bytes : ByteArray} {maxL : Nat} {ret : Option FieldType} {rm : Room} {av : List Value} {wc wr : va_W} {post : Option Value → va_W → Prop} {stk : List Value} {index n : Nat} (hk : Ok K cc nL own Ts R) (hdg : decode cc pc = .ok (.invokestatic index, 3)) (hM : Ctr (kl K) (kG K) y wsy rm av wc post) (hG : GoodIn Ts (va_wsS own index y wsy)) (hw : wsy = Cond.code y bytes maxL ret :: ws')
    (hd : y.cls ≠ "java/lang/invoke/MethodHandle" ∧ y.cls ≠ "java/lang/invoke/VarHandle" ∧ (parseMethodDescriptor y.desc).map (fun d => d.parameters.length) = some n) (hfr : rm.frames + 1 ≤ R.frames ∧ 8 + (maxL + 11) + rm.locals ≤ R.locals) (hroom : ce + rm.cells ≤ R.cells ∧ sl + rm.slots ≤ R.slots) (hn : av.length = n) (hst : stk = av.reverse ++ st) (hst8 : (st.map fun v => v.category).sum ≤ 8)
    (hp : ws.Perm (wr ++ wc)) (kk : ∀ (v : Option Value) (w' : va_W), post v w' → V K nL (wr ++ w') (ce + rm.cells) (sl + rm.slots) (pc + 3) lv (v.toList ++ st)) : V K nL ws ce sl pc lv stk := by
  refine v_runG (rm := rm) (av := av) (a := av.toArray) hk hp ?_ kk
  intro H locs ls hP hFc hS hl hpre
  exact va_runS (As := av) (rest := st) (Ts := Ts) ⟨hk.1, hk.2.1, hk.2.2.1, hk.2.2.2.1, hk.ts⟩ (hM H.size) (va_cwS n hk.ts hG hw rfl rfl hd (by rw [hk.room]; exact hfr)) ⟨cPc_blind, hpre⟩ rfl hn hl.1 hst (lv_room hst8) hdg (by rw [hk.room]; exact hroom)
theorem v_callVG {y : MethodName} {wsy ws' : List Cond} {bytes : ByteArray} {maxL : Nat} {ret : Option FieldType} {rm : Room} {av As : List Value} {wc wr : va_W} {post : Option Value → va_W → Prop} {stk : List Value} {index n b : Nat} {C : String} {T : u_T} {N ci : Nat} {fs : List Value} (hk : Ok K cc nL own Ts R) (hdg : decode cc pc = .ok (.invokevirtual index, 3)) (hM : Ctr (kl K) (kG K) y wsy rm av wc post) (hav : av = .ref b :: As) (hG : GoodIn Ts (wsV own index C y wsy)) (hw : wsy = Cond.code y bytes maxL ret :: ws')
    (hd : y.cls = C ∧ y.cls ≠ "java/lang/invoke/MethodHandle" ∧ y.cls ≠ "java/lang/invoke/VarHandle" ∧ (parseMethodDescriptor y.desc).map (fun d => d.parameters.length) = some n) (hfr : rm.frames + 1 ≤ R.frames ∧ 8 + (maxL + 11) + rm.locals ≤ R.locals) (hroom : ce + rm.cells ≤ R.cells ∧ sl + rm.slots ≤ R.slots) (hn : As.length = n) (hst : stk = As.reverse ++ .ref b :: st) (hst8 : (st.map fun v => v.category).sum ≤ 8)
    (hq0 : ((b, .inr (ci, fs)) : Nat × va_E) ∈ ws) (hc : vwCl[ci]? = some (C, T, N))
    (hp : ws.Perm (wr ++ wc)) (kk : ∀ (v : Option Value) (w' : va_W), post v w' → V K nL (wr ++ w') (ce + rm.cells) (sl + rm.slots) (pc + 3) lv (v.toList ++ st)) : V K nL ws ce sl pc lv stk := by
  subst hav
  refine v_runG (rm := rm) (av := .ref b :: As) (a := (Value.ref b :: As).toArray) hk hp ?_ kk
  intro H locs ls hP hFc hS hl hpre
  obtain ⟨q0, hq0⟩ := List.getElem?_of_mem hq0
  exact va_runV (As := As) (rest := st) (Ts := Ts) ⟨hk.1, hk.2.1, hk.2.2.1, hk.2.2.2.1, hk.ts⟩ (hM H.size) (cwV n hk.ts hG hw rfl rfl hd (by rw [hk.room]; exact hfr)) ⟨cPc_blind, va_recv hk.G hP hc hq0, hpre⟩ rfl hn hl.1 hst (lv_room hst8) hdg (by rw [hk.room]; exact hroom)
theorem v_callIG {y : MethodName} {wsy ws' : List Cond} {bytes : ByteArray} {maxL : Nat} {rm : Room} {av As : List Value} {wc wr : va_W} {post : Option Value → va_W → Prop} {stk : List Value} {index n b : Nat} (hk : Ok K cc nL own Ts R) (hdg : decode cc pc = .ok (.invokespecial index, 3)) (hM : Ctr (kl K) (kG K) y wsy rm av wc post) (hav : av = .ref b :: As) (hG : GoodIn Ts wsy) (hw : wsy = Cond.code y bytes maxL none :: ws') (h1 : Cond.initialized y.cls ∈ Ts) (h2 : Cond.methodLink own index y ∈ Ts) (h3 : Cond.instanceMethod y ∈ Ts) (hy : y.name = "<init>")
    (hd : y.cls ≠ "java/lang/invoke/MethodHandle" ∧ y.cls ≠ "java/lang/invoke/VarHandle" ∧ (parseMethodDescriptor y.desc).map (fun d => d.parameters.length) = some n) (hfr : rm.frames + 1 ≤ R.frames ∧ 8 + (maxL + 11) + rm.locals ≤ R.locals) (hroom : ce + rm.cells ≤ R.cells ∧ sl + rm.slots ≤ R.slots) (hn : As.length = n) (hst : stk = As.reverse ++ .ref b :: st) (hst8 : (st.map fun v => v.category).sum ≤ 8)
    (hp : ws.Perm (wr ++ wc)) (kk : ∀ (v : Option Value) (w' : va_W), post v w' → V K nL (wr ++ w') (ce + rm.cells) (sl + rm.slots) (pc + 3) lv (v.toList ++ st)) : V K nL ws ce sl pc lv stk := by
  subst hav
  refine v_runG (rm := rm) (av := .ref b :: As) (a := (Value.ref b :: As).toArray) hk hp ?_ kk
  intro H locs ls hP hFc hS hl hpre
  exact va_runI (As := As) (rest := st) (Ts := Ts) ⟨hk.1, hk.2.1, hk.2.2.1, hk.2.2.2.1, hk.ts⟩ (hM H.size) (cwI n hk.ts hG hw rfl rfl (hk.ts _ h1) (hk.ts _ h2) (hk.ts _ h3) hy hd (by rw [hk.room]; exact hfr)) ⟨cPc_blind, hpre⟩ rfl hn hl.1 hst (lv_room hst8) hdg (by rw [hk.room]; exact hroom)
end VG
