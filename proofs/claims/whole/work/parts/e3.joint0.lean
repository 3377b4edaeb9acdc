/-! contracts of both sides in one form -/
def CG (kc ks9 : Nat) (l : Launch) (G : GG) (y : MethodName) (wsy : List Cond) (av : List Value) (w : va_W) (post : Option Value → va_W → Prop) : Prop :=
  ∃ rm : Room, rm.frames ≤ 10 ∧ rm.locals ≤ 400 ∧ rm.cells ≤ 5000 ∧ rm.slots ≤ 16000 ∧ ((rm.cells ≤ kc ∧ rm.slots ≤ ks9 ∧ Ctr l G y wsy rm av w post) ∨ CtrU l G y wsy rm av w (fun v u dc ds => post v u ∧ dc ≤ kc ∧ ds ≤ ks9))
theorem v_callX {kc ks9 : Nat} {K : Cx} {cc : ByteArray} {nL : Nat} {own : String} {Ts : List Cond} {R : Room} {ws : va_W} {ce sl pc : Nat} {lv : LV} {st : List Value} {y : MethodName} {wsy ws' : List Cond} {bytes : ByteArray} {maxL : Nat} {ret : Option FieldType} {av As : List Value} {wc wr : va_W} {post : Option Value → va_W → Prop} {stk : List Value} {index n b : Nat} {C : String} {T : u_T} {N ci : Nat} {fs : List Value} (hk : Ok K cc nL own Ts R) (hdg : decode cc pc = .ok (.invokevirtual index, 3)) (hM : CG kc ks9 (kl K) (kG K) y wsy av wc post) (hav : av = .ref b :: As) (hG : GoodIn Ts (wsV own index C y wsy)) (hw : wsy = Cond.code y bytes maxL ret :: ws')
    (hd : y.cls = C ∧ y.cls ≠ "java/lang/invoke/MethodHandle" ∧ y.cls ≠ "java/lang/invoke/VarHandle" ∧ (parseMethodDescriptor y.desc).map (fun d => d.parameters.length) = some n) (hfr : 11 ≤ R.frames ∧ 8 + (maxL + 11) + 400 ≤ R.locals) (hroom : ce + 5000 ≤ R.cells ∧ sl + 16000 ≤ R.slots) (hn : As.length = n) (hst : stk = As.reverse ++ .ref b :: st) (hst8 : (st.map fun v => v.category).sum ≤ 8)
    (hq0 : ((b, .inr (ci, fs)) : Nat × va_E) ∈ ws) (hc : vwCl[ci]? = some (C, T, N))
    (hp : ws.Perm (wr ++ wc)) (kk : ∀ (v : Option Value) (w' : va_W) (ce' sl' : Nat), post v w' → ce' ≤ ce + kc → sl' ≤ sl + ks9 → V K nL (wr ++ w') ce' sl' (pc + 3) lv (v.toList ++ st)) : V K nL ws ce sl pc lv stk := by
  obtain ⟨rm, r1, r2, r3, r4, h⟩ := hM
  rcases h with ⟨c1, c2, h⟩ | h
  · exact v_callVG hk hdg h hav hG hw hd ⟨by omega, by omega⟩ ⟨by omega, by omega⟩ hn hst hst8 hq0 hc hp (fun v w' hpo => kk v w' _ _ hpo (by omega) (by omega))
  · exact v_callVU hk hdg h hav hG hw hd ⟨by omega, by omega⟩ ⟨by omega, by omega⟩ hn hst hst8 hq0 hc hp (fun v w' dc ds hpo => kk v w' _ _ hpo.1 (by have := hpo.2.1; omega) (by have := hpo.2.2; omega))
theorem CG.conv {kc ks9 : Nat} {l : Launch} {G : GG} {y : MethodName} {wsy : List Cond} {av : List Value} {ws wr wc : va_W} {post post2 : Option Value → va_W → Prop} (hp : ws.Perm (wr ++ wc)) (h : CG kc ks9 l G y wsy av wc post) (hpost : ∀ v w1, post v w1 → ∃ w2, (wr ++ w1).Perm w2 ∧ post2 v w2) : CG kc ks9 l G y wsy av ws post2 := by
  obtain ⟨rm, r1, r2, r3, r4, h⟩ := h
  refine ⟨rm, r1, r2, r3, r4, ?_⟩
  rcases h with ⟨c1, c2, h⟩ | h
  · exact Or.inl ⟨c1, c2, ctr_conv hp h hpost⟩
  · refine Or.inr (ctrU_conv hp h (fun v w1 dc ds hpo => ?_))
    obtain ⟨w2, a, b⟩ := hpost v w1 hpo.1
    exact ⟨w2, a, b, hpo.2⟩
/-- the reference's cells: the object, and its arrays by their fields -/
abbrev rW (G : GG) (o : Nat) (B : Nat → Nat) (i1 i2 i3 i4 i5 i6 : Int32) (F : Nat → Nat → Int32) : va_W := [(o, .inr (10, oM B i1 i2 i3 i4 i5 i6)), (B 1, .inl (gI G, 5, .inl (F 1))), (B 3, .inl (gI G, 80, .inl (F 3))), (B 6, .inl (gI G, 320, .inl (F 6))), (B 7, .inl (gI G, 320, .inl (F 7))), (B 8, .inl (gI G, 320, .inl (F 8))), (B 9, .inl (gI G, 320, .inl (F 9))), (B 10, .inl (gI G, 320, .inl (F 10))), (B 11, .inl (gZ G, 160, .inl (F 11))), (B 12, .inl (gI G, 1280, .inl (F 12))), (B 13, .inl (gI G, 1280, .inl (F 13))), (B 14, .inl (gI G, 320, .inl (F 14))), (B 15, .inl (gI G, 320, .inl (F 15))), (B 16, .inl (gI G, 320, .inl (F 16))), (B 17, .inl (gI G, 320, .inl (F 17))), (B 18, .inl (gI G, 320, .inl (F 18))), (B 19, .inl (gI G, 320, .inl (F 19))), (B 20, .inl (gI G, 320, .inl (F 20))), (B 21, .inl (gI G, 320, .inl (F 21))), (B 22, .inl (gI G, 320, .inl (F 22))), (B 23, .inl (gI G, 320, .inl (F 23))), (B 26, .inl (gI G, 32, .inl (F 26))), (B 27, .inl (gI G, 10, .inl (F 27))), (B 28, .inl (gI G, 10, .inl (F 28))), (B 29, .inl (gI G, 5120, .inl (F 29))), (B 30, .inl (gI G, 5120, .inl (F 30))), (B 31, .inl (gI G, 5120, .inl (F 31))), (B 32, .inl (gI G, 320, .inl (F 32))), (B 33, .inl (gI G, 320, .inl (F 33))), (B 34, .inl (gI G, 320, .inl (F 34))), (B 35, .inl (gI G, 320, .inl (F 35))), (B 36, .inl (gI G, 3, .inl (F 36))), (B 37, .inl (gI G, 3, .inl (F 37))), (B 38, .inl (gI G, 9, .inl (F 38)))]
def sF (F : Nat → Nat → Int32) : List (Nat × (Nat → Int32)) → Nat → Nat → Int32
  | [], j => F j
  | (i, f) :: r, j => match Nat.beq j i with
    | true => f
    | false => sF F r j
def RW (G : GG) (o : Nat) (B : Nat → Nat) (cell : Nat → Nat → Nat) (vals : Nat → Nat) (N R w ms : Nat) (wy : va_W) : Prop :=
  ∃ (i5 i6 : Int32) (F : Nat → Nat → Int32), MS N R w vals cell (F 1) (F 3) ∧ MK cell vals N R w (F 11) (F 12) (F 13) ∧ TOLD cell vals N R w ms i5 i6 (F 9) (F 10) ∧ wy = rW G o B (nI N) (nI R) (nI w) (nI ms) i5 i6 F
/-- the class's cells beside the kept FITS and shares -/
abbrev cL (G : GG) (A : Nat → Nat) (vs : Value) (i1 i2 i3 i4 : Int32) (fsv fsc fbo ftc ftf fts : Nat → Int32) : va_W := [((A 17), .inr (9, [.ref (A 14), .ref (A 1), .ref (A 0), .ref (A 18), .ref (A 20), vs])), ((A 14), .inr (7, [.int i1, .int i2, .int i3, .int i4, .ref (A 15), .ref (A 16)])), ((A 15), .inl (gI G, 5, .inl fsv)), ((A 16), .inl (gI G, 16, .inl fsc)), ((A 18), .inr (5, [.ref (A 14), .ref (A 0), .ref (A 19)])), ((A 19), .inl (gI G, 32, .inl fbo)), ((A 20), .inr (8, [.ref (A 14), .ref (A 21), .ref (A 22), .ref (A 23)])), ((A 21), .inl (gI G, 9, .inl ftc)), ((A 22), .inl (gI G, 3, .inl ftf)), ((A 23), .inl (gI G, 3, .inl fts))]
def CW (G : GG) (A : Nat → Nat) (cell : Nat → Nat → Nat) (vals : Nat → Nat) (N R w ms : Nat) (wx : va_W) : Prop :=
  ∃ (n : Nat) (vs : Value) (fsv fsc fbo ftc ftf fts : Nat → Int32) (wxF wxS : va_W), CS N R w vals cell fsv fsc ∧ ms ≤ 4 ∧ FBk G A cell vals N R w wxF n ∧ SHR G A (QS cell vals N R w ms) vs wxS ∧ wx = cL G A vs (nI N) (nI R) (nI w) (nI ms) fsv fsc fbo ftc ftf fts ++ (wxF ++ wxS)
def JN (l : Launch) (G : GG) (A : Nat → Nat) (o : Nat) (B : Nat → Nat) (y1 : MethodName) (ws1 : List Cond) (y2 : MethodName) (ws2 : List Cond) (as : List Value) (P : Value → Prop) (wx wy : va_W) : Prop :=
  ∃ (r : Value) (cell : Nat → Nat → Nat) (vals : Nat → Nat) (N R w ms : Nat), P r ∧ CG 820 10400 l G y1 ws1 (.ref (A 17) :: as) wx (fun v u => v = some r ∧ CW G A cell vals N R w ms u) ∧ CG 0 0 l G y2 ws2 (.ref o :: as) wy (fun v u => v = some r ∧ RW G o B cell vals N R w ms u)
def isI (v : Value) : Prop := ∃ x : Int32, v = .int x
def isL (v : Value) : Prop := ∃ x : Int64, v = .long x
theorem SHR.to {G : GG} {A : Nat → Nat} {Q Q' : Int32 → Int32 → Int32 → (Nat → Nat) → Prop} {vs : Value} {wx : va_W} (hQ : ∀ a b c v, Q a b c v → Q' a b c v) (h : SHR G A Q vs wx) : SHR G A Q' vs wx := by
  unfold SHR at h ⊢
  rcases h with h | h
  · exact Or.inl h
  · right
    obtain ⟨ad, aw, h1⟩ := h
    refine ⟨ad, aw, ?_⟩
    obtain ⟨h0, lp, lpw, wa, sa, shr, sf, st, rdy, lgl, flp, el, v, wf, e1, e2, e3, e4, e5⟩ := h1
    exact ⟨h0, lp, lpw, wa, sa, shr, sf, st, rdy, lgl, flp, el, v, wf, e1, e2, e3, hQ _ _ _ _ e4, e5⟩
