/-! walks beside the family of Shares -/
noncomputable def pexp (f : Nat → Int32) : Nat → Int := fun k => if k ≤ 3672 then (f k).toInt else 0
noncomputable def fWri (lg : Int32) (f : Nat → Int32) (v : Nat → Nat) (i : Nat) : Option (Nat → Nat) := @ite _ (pJ i = true ∧ PE (pexp f) f (u3 lg) ∧ (∀ k, pexp f k < 100000 ∧ -100000 < pexp f k) ∧ ppw (pexp f) 3673 < BB ^ nwJ i) (Classical.propDecidable _) (some (uN v i (ppw (pexp f) 3673))) none
theorem c_fWri (l : Launch) (G : GG) (ad aw : Nat → Nat) (adp adpw : Nat) {lg : Int32} {f : Nat → Int32} {v v' : Nat → Nat} {i : Nat} (h : fWri lg f v i = some v') : CtrF l G (SB G ad aw v) (SB G ad aw v') yX5_write w2_X5_write rm_X5_write [.ref adp, .int 1, .ref (ad i)] [(adp, .inr (4, [.ref adpw, .int lg])), (adpw, .inl (gI G, 3673, .inl f))] (fun r w' => r = none ∧ w' = [(adp, .inr (4, [.ref adpw, .int lg])), (adpw, .inl (gI G, 3673, .inl f))]) := by
  obtain ⟨⟨h1, h2, h3, h4⟩, rfl⟩ := @ifs _ _ (Classical.propDecidable _) _ _ h
  refine cf_one h1 ?_
  intro u fw hB
  have hn := nwJ_ok i
  obtain ⟨c, g, m1, m2⟩ := t_write (nw := nwJ i) (iu := nI u) (fw := fw) true h2 h3 h4 hn.1 (by omega)
  rw [nI_u3] at m1
  exact ⟨c, g, m2, c_X5_write l G adp adpw (ad i) (aw i) lg 3673 f (nI u) (nwJ i) fw 1 (nI c, g) m1⟩
def RtF (K : Cx) (FB : va_W → Nat → Prop) (cc : ByteArray) (nL : Nat) (ret : Option FieldType) (post : Option Value → va_W → Prop) : Prop :=
  ∀ (v : Option Value) (w' : va_W) (pc : Nat) (lv : LV), post v w' → RetOk ret cc pc v → VB K FB 0 nL w' pc lv v.toList
theorem ctrF_entry {l : Launch} {G : GG} {FB FB' : va_W → Nat → Prop} {y : MethodName} {wsy ws' : List Cond} {rm : Room} {av : List Value} {w : va_W} {post : Option Value → va_W → Prop} {cc : ByteArray} {maxL : Nat} {ret : Option FieldType} (hF0 : ∀ wx n, FB wx n → n = 0) (hF1 : ∀ wx n, FB' wx n → n = 0) (hy : plainName y.cls = true) (hw : wsy = Cond.code y cc maxL ret :: ws') (hlen : (lg_sl av).length ≤ maxL) {lv0 : LV} (hlv : lv_args 0 av = lv0)
    (body : ∀ (K : Cx), kl K = l → kG K = G → Ok K cc maxL y.cls wsy rm → (kM K).name = y.name → RtF K FB' cc maxL ret post → VB K FB 0 maxL w 0 lv0 []) : CtrF l G FB FB' y wsy rm av w post := by
  intro wx n hf
  refine ctr_entry (cc := cc) (maxL := maxL) (ret := ret) hy hw hlen hlv ?_
  intro K hl hG hk hn hrt
  refine body K hl hG hk hn ?_ wx n 0 0 hf (Nat.zero_le _) (Nat.zero_le _) (Nat.zero_le _)
  intro v w' pc lv hp hr wx' n' ce sl hf' hn' hc hs
  have h0 := hF0 wx n hf
  have h1 := hF1 wx' n' hf'
  subst h0 h1
  exact hrt v _ ce sl pc lv ⟨w', wx', hp, rfl, hf'⟩ (by omega) (by omega) hr
section VYC
variable {K : Cx} {FB FB' : va_W → Nat → Prop} {n0 : Nat} {cc : ByteArray} {nL : Nat} {own : String} {Ts : List Cond} {R : Room} {L : va_W} {pc : Nat} {lv : LV} {st : List Value}
theorem vy_callS {y : MethodName} {wsy ws' : List Cond} {bytes : ByteArray} {maxL : Nat} {ret : Option FieldType} {rm : Room} {av : List Value} {wc wr : va_W} {post : Option Value → va_W → Prop} {stk : List Value} {index n : Nat} (hk : Ok K cc nL own Ts R) (hdg : decode cc pc = .ok (.invokestatic index, 3)) (hM : Ctr (kl K) (kG K) y wsy rm av wc post) (hG : GoodIn Ts (va_wsS own index y wsy)) (hw : wsy = Cond.code y bytes maxL ret :: ws')
    (hd : y.cls ≠ "java/lang/invoke/MethodHandle" ∧ y.cls ≠ "java/lang/invoke/VarHandle" ∧ (parseMethodDescriptor y.desc).map (fun d => d.parameters.length) = some n) (hfr : rm.frames + 1 ≤ R.frames ∧ 8 + (maxL + 11) + rm.locals ≤ R.locals) (hroom : rm.cells = 0 ∧ rm.slots = 0) (hF0 : ∀ wx n, FB wx n → n = 0) (hn : av.length = n) (hst : stk = av.reverse ++ st) (hst8 : (st.map fun v => v.category).sum ≤ 8) (isR isC : List Nat) (nl : Nat) (hnl : L.length = nl) (hpl : (isR ++ isC).Perm (List.range nl)) (hRl : isR.map (fun i => L[i]?) = wr.map some) (hCl : isC.map (fun i => L[i]?) = wc.map some)
    (kk : ∀ (v : Option Value) (w' : va_W), post v w' → VB K FB n0 nL (wr ++ w') (pc + 3) lv (v.toList ++ st)) : VB K FB n0 nL L pc lv stk := by
  intro wx n9 ce sl hf hn9 hc9 hs9
  have hle := hF0 wx n9 hf
  refine v_callSGT hk hdg hM hG hw hd hfr ⟨by rw [hroom.1]; omega, by rw [hroom.2]; omega⟩ hn hst hst8 isR isC nl hnl hpl hRl hCl ?_
  intro v w' hpo
  rw [hroom.1, hroom.2]
  exact kk v w' hpo wx n9 ce sl hf hn9 hc9 hs9
theorem vy_callV {y : MethodName} {wsy ws' : List Cond} {bytes : ByteArray} {maxL : Nat} {ret : Option FieldType} {rm : Room} {av As : List Value} {wc wr : va_W} {post : Option Value → va_W → Prop} {stk : List Value} {index n b : Nat} {C : String} {T : u_T} {N ci : Nat} {fs : List Value} (hk : Ok K cc nL own Ts R) (hdg : decode cc pc = .ok (.invokevirtual index, 3)) (hM : Ctr (kl K) (kG K) y wsy rm av wc post) (hav : av = .ref b :: As) (hG : GoodIn Ts (wsV own index C y wsy)) (hw : wsy = Cond.code y bytes maxL ret :: ws')
    (hd : y.cls = C ∧ y.cls ≠ "java/lang/invoke/MethodHandle" ∧ y.cls ≠ "java/lang/invoke/VarHandle" ∧ (parseMethodDescriptor y.desc).map (fun d => d.parameters.length) = some n) (hfr : rm.frames + 1 ≤ R.frames ∧ 8 + (maxL + 11) + rm.locals ≤ R.locals) (hroom : rm.cells = 0 ∧ rm.slots = 0) (hF0 : ∀ wx n, FB wx n → n = 0) (hn : As.length = n) (hst : stk = As.reverse ++ .ref b :: st) (hst8 : (st.map fun v => v.category).sum ≤ 8)
    (q0 : Nat) (hq0 : L[q0]? = some (b, .inr (ci, fs))) (hc : vwCl[ci]? = some (C, T, N)) (isR isC : List Nat) (nl : Nat) (hnl : L.length = nl) (hpl : (isR ++ isC).Perm (List.range nl)) (hRl : isR.map (fun i => L[i]?) = wr.map some) (hCl : isC.map (fun i => L[i]?) = wc.map some)
    (kk : ∀ (v : Option Value) (w' : va_W), post v w' → VB K FB n0 nL (wr ++ w') (pc + 3) lv (v.toList ++ st)) : VB K FB n0 nL L pc lv stk := by
  intro wx n9 ce sl hf hn9 hc9 hs9
  have hle := hF0 wx n9 hf
  refine v_callVGT hk hdg hM hav hG hw hd hfr ⟨by rw [hroom.1]; omega, by rw [hroom.2]; omega⟩ hn hst hst8 q0 hq0 hc isR isC nl hnl hpl hRl hCl ?_
  intro v w' hpo
  rw [hroom.1, hroom.2]
  exact kk v w' hpo wx n9 ce sl hf hn9 hc9 hs9
theorem vy_callFS {y : MethodName} {wsy ws' : List Cond} {bytes : ByteArray} {maxL : Nat} {ret : Option FieldType} {rm : Room} {av : List Value} {wc wr : va_W} {post : Option Value → va_W → Prop} {stk : List Value} {index n : Nat} (hk : Ok K cc nL own Ts R) (hdg : decode cc pc = .ok (.invokestatic index, 3)) (hM : CtrF (kl K) (kG K) FB FB' y wsy rm av wc post) (hG : GoodIn Ts (va_wsS own index y wsy)) (hw : wsy = Cond.code y bytes maxL ret :: ws')
    (hd : y.cls ≠ "java/lang/invoke/MethodHandle" ∧ y.cls ≠ "java/lang/invoke/VarHandle" ∧ (parseMethodDescriptor y.desc).map (fun d => d.parameters.length) = some n) (hfr : rm.frames + 1 ≤ R.frames ∧ 8 + (maxL + 11) + rm.locals ≤ R.locals) (hroom : rm.cells = 0 ∧ rm.slots = 0) (hF0 : ∀ wx n, FB wx n → n = 0) (hn : av.length = n) (hst : stk = av.reverse ++ st) (hst8 : (st.map fun v => v.category).sum ≤ 8) (isR isC : List Nat) (nl : Nat) (hnl : L.length = nl) (hpl : (isR ++ isC).Perm (List.range nl)) (hRl : isR.map (fun i => L[i]?) = wr.map some) (hCl : isC.map (fun i => L[i]?) = wc.map some)
    (kk : ∀ (v : Option Value) (w' : va_W), post v w' → VB K FB' n0 nL (wr ++ w') (pc + 3) lv (v.toList ++ st)) : VB K FB n0 nL L pc lv stk := by
  intro wx n9 ce sl hf hn9 hc9 hs9
  have hle := hF0 wx n9 hf
  refine v_callSG hk hdg (hM wx n9 hf) hG hw hd hfr ⟨by rw [hroom.1]; omega, by rw [hroom.2]; omega⟩ hn hst hst8 (pm_front (pm_pl isR isC nl hnl hpl hRl hCl)) ?_
  rintro v _ ⟨w1, wx', hpo, rfl, hf'⟩
  rw [← List.append_assoc, hroom.1, hroom.2]
  exact kk v w1 hpo wx' n9 ce sl hf' hn9 hc9 hs9
theorem vy_callF {y : MethodName} {wsy ws' : List Cond} {bytes : ByteArray} {maxL : Nat} {ret : Option FieldType} {rm : Room} {av As : List Value} {wc wr : va_W} {post : Option Value → va_W → Prop} {stk : List Value} {index n b : Nat} {C : String} {T : u_T} {N ci : Nat}  (hk : Ok K cc nL own Ts R) (hdg : decode cc pc = .ok (.invokevirtual index, 3)) (hM : CtrF (kl K) (kG K) FB FB' y wsy rm av wc post) (hav : av = .ref b :: As) (hG : GoodIn Ts (wsV own index C y wsy)) (hw : wsy = Cond.code y bytes maxL ret :: ws')
    (hd : y.cls = C ∧ y.cls ≠ "java/lang/invoke/MethodHandle" ∧ y.cls ≠ "java/lang/invoke/VarHandle" ∧ (parseMethodDescriptor y.desc).map (fun d => d.parameters.length) = some n) (hfr : rm.frames + 1 ≤ R.frames ∧ 8 + (maxL + 11) + rm.locals ≤ R.locals) (hroom : rm.cells = 0 ∧ rm.slots = 0) (hF0 : ∀ wx n, FB wx n → n = 0) (hn : As.length = n) (hst : stk = As.reverse ++ .ref b :: st) (hst8 : (st.map fun v => v.category).sum ≤ 8)
    (hq0 : ∀ wx n, FB wx n → ∃ fs, ((b, .inr (ci, fs)) : Nat × va_E) ∈ L ++ wx) (hc : vwCl[ci]? = some (C, T, N)) (isR isC : List Nat) (nl : Nat) (hnl : L.length = nl) (hpl : (isR ++ isC).Perm (List.range nl)) (hRl : isR.map (fun i => L[i]?) = wr.map some) (hCl : isC.map (fun i => L[i]?) = wc.map some)
    (kk : ∀ (v : Option Value) (w' : va_W), post v w' → VB K FB' n0 nL (wr ++ w') (pc + 3) lv (v.toList ++ st)) : VB K FB n0 nL L pc lv stk := by
  intro wx n9 ce sl hf hn9 hc9 hs9
  have hle := hF0 wx n9 hf
  obtain ⟨fs, hq⟩ := hq0 wx n9 hf
  refine v_callVG hk hdg (hM wx n9 hf) hav hG hw hd hfr ⟨by rw [hroom.1]; omega, by rw [hroom.2]; omega⟩ hn hst hst8 hq hc (pm_front (pm_pl isR isC nl hnl hpl hRl hCl)) ?_
  rintro v _ ⟨w1, wx', hpo, rfl, hf'⟩
  rw [← List.append_assoc, hroom.1, hroom.2]
  exact kk v w1 hpo wx' n9 ce sl hf' hn9 hc9 hs9
end VYC
