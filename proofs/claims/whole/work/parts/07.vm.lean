/-! contexts: a walk's fixed things in one tuple; V: the walk stands at pc with world ws, locals lv, stack st -/
abbrev GG : Type := va_G × ClassId × ClassId × ClassId × ClassId × ClassId
abbrev gI (G : GG) : ClassId := G.2.1
abbrev gJ (G : GG) : ClassId := G.2.2.1
abbrev gZ (G : GG) : ClassId := G.2.2.2.1
abbrev gB (G : GG) : ClassId := G.2.2.2.2.1
abbrev gF (G : GG) : ClassId := G.2.2.2.2.2
def gT (G : GG) : List (ClassId × FieldType) := [(gI G, .int), (gJ G, .long), (gZ G, .boolean), (gB G, .object "StructureSearch$Big"), (gF G, .object "StructureSearch$Fraction")]
/-- the two constant arrays of the class -/
def gS0 (A : Nat → Prop) (U : State) (H : Heap) : Prop := ∃ t1 t2 : Nat, va_Z "StructureSearch$Powers" "SMALL_PRIMES" "[I" (.ref t1) A U H ∧ va_T .int t1 17 (fun j => .int (nI (primeAt j))) A U H ∧ va_Z "StructureSearch$Tables" "FACTORIALS" "[J" (.ref t2) A U H ∧ va_T .long t2 17 (fun j => .long (lN (factAt j))) A U H
theorem gS0.moved {A : Nat → Prop} {u U : State} {H : Heap} (hvm : u.vm.Alike U.vm) (h : gS0 A u H) : gS0 A U H := by
  obtain ⟨t1, t2, h1, h2, h3, h4⟩ := h
  exact ⟨t1, t2, h1.moved hvm, h2.moved hvm, h3.moved hvm, h4.moved hvm⟩
theorem gS0.kept {A : Nat → Prop} {U : State} {H H1 : Heap} (h : gS0 A U H) (hq : ∀ a : Nat, a < H.size → ¬ A a → H1[a]? = H[a]?) : gS0 A U H1 := by
  obtain ⟨t1, t2, h1, ⟨c2, a1, a2, a3, a4, a5, a6, a7⟩, h3, ⟨c4, b1, b2, b3, b4, b5, b6, b7⟩⟩ := h
  exact ⟨t1, t2, h1.kept hq, ⟨c2, by rw [hq t1 (Array.getElem?_eq_some_iff.mp a1).1 a7]; exact a1, a2, a3, a4, a5, a6, a7⟩, h3.kept hq, ⟨c4, by rw [hq t2 (Array.getElem?_eq_some_iff.mp b1).1 b7]; exact b1, b2, b3, b4, b5, b6, b7⟩⟩
theorem gS0.narrow {A B : Nat → Prop} {U : State} {H : Heap} (h : gS0 A U H) (hAB : ∀ q, B q → A q) : gS0 B U H := by
  obtain ⟨t1, t2, h1, ⟨c2, a1, a2, a3, a4, a5, a6, a7⟩, h3, ⟨c4, b1, b2, b3, b4, b5, b6, b7⟩⟩ := h
  exact ⟨t1, t2, h1.narrow hAB, ⟨c2, a1, a2, a3, a4, a5, a6, fun z => a7 (hAB _ z)⟩, h3.narrow hAB, ⟨c4, b1, b2, b3, b4, b5, b6, fun z => b7 (hAB _ z)⟩⟩
/-- the constant arrays, and the two classes of arrays of references -/
def gS (A : Nat → Prop) (U : State) (H : Heap) : Prop := gS0 A U H ∧ va_AO "StructureSearch$Big" U ∧ va_AO "StructureSearch$Fraction" U
theorem gS.moved {A : Nat → Prop} {u U : State} {H : Heap} (hvm : u.vm.Alike U.vm) (h : gS A u H) : gS A U H := ⟨h.1.moved hvm, h.2.1.moved hvm, h.2.2.moved hvm⟩
theorem gS.kept {A : Nat → Prop} {U : State} {H H1 : Heap} (h : gS A U H) (hq : ∀ a : Nat, a < H.size → ¬ A a → H1[a]? = H[a]?) : gS A U H1 := ⟨h.1.kept hq, h.2⟩
theorem gS.narrow {A B : Nat → Prop} {U : State} {H : Heap} (h : gS A U H) (hAB : ∀ q, B q → A q) : gS B U H := ⟨h.1.narrow hAB, h.2⟩
abbrev Cx : Type := Program × Launch × Env × Room × State × MethodId × Array Value × List Frame × Method × Code × (State → Prop) × (Nat → Prop) × GG
abbrev kp (K : Cx) : Program := K.1
abbrev kl (K : Cx) : Launch := K.2.1
abbrev ke (K : Cx) : Env := K.2.2.1
abbrev kR (K : Cx) : Room := K.2.2.2.1
abbrev ks (K : Cx) : State := K.2.2.2.2.1
abbrev km (K : Cx) : MethodId := K.2.2.2.2.2.1
abbrev ka (K : Cx) : Array Value := K.2.2.2.2.2.2.1
abbrev kb (K : Cx) : List Frame := K.2.2.2.2.2.2.2.1
abbrev kM (K : Cx) : Method := K.2.2.2.2.2.2.2.2.1
abbrev kc (K : Cx) : Code := K.2.2.2.2.2.2.2.2.2.1
abbrev kQ (K : Cx) : State → Prop := K.2.2.2.2.2.2.2.2.2.2.1
abbrev kA (K : Cx) : Nat → Prop := K.2.2.2.2.2.2.2.2.2.2.2.1
abbrev kG (K : Cx) : GG := K.2.2.2.2.2.2.2.2.2.2.2.2
abbrev LV : Type := List (Nat × Value)
def V (K : Cx) (nL : Nat) (ws : va_W) (ce sl : Nat) (pc : Nat) (lv : LV) (st : List Value) : Prop :=
  ∀ (H : Heap) (locs : List Loc) (ls : Array Slot), va_P (kG K).1 vwCl ws H → va_D (kA K) ws → va_S (kA K) (ks K).heap H locs → lv_has ls nL lv →
    W (kp K) (kl K) (ke K) (kR K) (ks K) (km K) (ka K) (kb K) (kM K) (kc K) H locs ce sl (kQ K) (F0 (km K) pc ls st)
/-- what is known of a context: machine, code, words, classes, constant arrays, room -/
def Ok (K : Cx) (cc : ByteArray) (nL : Nat) (own : String) (Ts : List Cond) (R : Room) : Prop :=
  (kp K).tables.exec = Jvm.exec ∧ (kc K).code = cc ∧ (kc K).maxLocals = nL ∧ (ks K).vm.findClass own = some (km K).cls ∧ (∀ w ∈ Ts, w.before (ka K) (ks K) = true) ∧
  va_K (kG K).1 vwCl (gT (kG K)) (ks K) ∧ (∀ q, (ks K).heap.size ≤ q → kA K q) ∧ gS (kA K) (ks K) (ks K).heap ∧ kR K = R
def lg (lv : LV) (i : Nat) : Option Value := match lv with
  | [] => none
  | (j, v) :: r => match Nat.beq j i with
    | true => some v
    | false => lg r i
theorem lg_mem {lv : LV} {i : Nat} {v : Value} (h : lg lv i = some v) : (i, v) ∈ lv := by
  induction lv with
  | nil => cases h
  | cons a r ih =>
    obtain ⟨j, u⟩ := a
    unfold lg at h
    cases hb : Nat.beq j i with
    | true =>
      rw [hb] at h
      cases h
      have : j = i := Nat.eq_of_beq_eq_true hb
      subst this
      exact List.mem_cons_self
    | false =>
      rw [hb] at h
      exact List.mem_cons_of_mem _ (ih h)
theorem lg_at {ls : Array Slot} {nL : Nat} {lv : LV} (h : lv_has ls nL lv) {i : Nat} {v : Value} (hk : lg lv i = some v) : ls[i]? = some (.val v) := h.2.2 (i, v) (lg_mem hk)
section VR
variable {K : Cx} {cc : ByteArray} {nL : Nat} {own : String} {Ts : List Cond} {R : Room} {ws : va_W} {ce sl pc : Nat} {lv : LV} {st : List Value}
theorem Ok.G (hk : Ok K cc nL own Ts R) : va_K (kG K).1 vwCl (gT (kG K)) (ks K) := hk.2.2.2.2.2.1
theorem Ok.ts (hk : Ok K cc nL own Ts R) : ∀ w ∈ Ts, w.before (ka K) (ks K) = true := hk.2.2.2.2.1
theorem Ok.stA (hk : Ok K cc nL own Ts R) : gS (kA K) (ks K) (ks K).heap := hk.2.2.2.2.2.2.2.1
theorem Ok.sta (hk : Ok K cc nL own Ts R) : gS0 (kA K) (ks K) (ks K).heap := hk.stA.1
theorem Ok.room (hk : Ok K cc nL own Ts R) : kR K = R := hk.2.2.2.2.2.2.2.2
theorem Ok.A (hk : Ok K cc nL own Ts R) : ∀ q, (ks K).heap.size ≤ q → kA K q := hk.2.2.2.2.2.2.1
/-- fewer locals are listed, or in another order -/
theorem v_loc {lv' : LV} (ks0 : List Nat) (h : lv_pick lv ks0 = lv') (k : V K nL ws ce sl pc lv' st) : V K nL ws ce sl pc lv st :=
  fun H locs ls hP hD hS hl => k H locs ls hP hD hS (lv_sub hl ks0 h)
theorem v_widen {ce' sl' : Nat} (h1 : ce ≤ ce') (h2 : sl ≤ sl') (k : V K nL ws ce' sl' pc lv st) : V K nL ws ce sl pc lv st :=
  fun H locs ls hP hD hS hl => W.widen h1 h2 (k H locs ls hP hD hS hl)
/-- the world told otherwise -/
theorem v_ws {ws' : va_W} (e : ws = ws') (k : V K nL ws' ce sl pc lv st) : V K nL ws ce sl pc lv st := e ▸ k
theorem v_topi {x y : Int32} (e : x = y) (k : V K nL ws ce sl pc lv (.int y :: st)) : V K nL ws ce sl pc lv (.int x :: st) := e ▸ k
theorem v_topl {x y : Int64} (e : x = y) (k : V K nL ws ce sl pc lv (.long y :: st)) : V K nL ws ce sl pc lv (.long x :: st) := e ▸ k
theorem v_iconst {n : Int} {v : Int32} (hk : Ok K cc nL own Ts R) (hdg : decode cc pc = .ok (.iconst n, 1)) (hv : Int32.ofInt n = v) (k : V K nL ws ce sl (pc + 1) lv (.int v :: st)) : V K nL ws ce sl pc lv st :=
  fun H locs ls hP hD hS hl => lv_iconst hk.1 hk.2.1 hdg hv (k H locs ls hP hD hS hl)
theorem v_bipush {n : Int} {v : Int32} (hk : Ok K cc nL own Ts R) (hdg : decode cc pc = .ok (.bipush n, 2)) (hv : (Int8.ofInt n).toInt32 = v) (k : V K nL ws ce sl (pc + 2) lv (.int v :: st)) : V K nL ws ce sl pc lv st :=
  fun H locs ls hP hD hS hl => lv_bipush hk.1 hk.2.1 hdg hv (k H locs ls hP hD hS hl)
theorem v_sipush {n : Int} {v : Int32} (hk : Ok K cc nL own Ts R) (hdg : decode cc pc = .ok (.sipush n, 3)) (hv : (Int16.ofInt n).toInt32 = v) (k : V K nL ws ce sl (pc + 3) lv (.int v :: st)) : V K nL ws ce sl pc lv st :=
  fun H locs ls hP hD hS hl => lv_sipush hk.1 hk.2.1 hdg hv (k H locs ls hP hD hS hl)
theorem v_lconst {n : Fin 2} {v : Int64} (hk : Ok K cc nL own Ts R) (hdg : decode cc pc = .ok (.lconst n, 1)) (hv : Int64.ofNat (n : Nat) = v) (k : V K nL ws ce sl (pc + 1) lv (.long v :: st)) : V K nL ws ce sl pc lv st :=
  fun H locs ls hP hD hS hl => lv_lconst hk.1 hk.2.1 hdg hv (k H locs ls hP hD hS hl)
theorem v_ldc {index : Nat} {v : Int32} (hk : Ok K cc nL own Ts R) (hdg : decode cc pc = .ok (.ldc index, 2)) (hc : Cond.constant own index v ∈ Ts) (k : V K nL ws ce sl (pc + 2) lv (.int v :: st)) : V K nL ws ce sl pc lv st :=
  fun H locs ls hP hD hS hl => lv_ldc hk.1 hk.2.1 hk.2.2.2.1 (hk.ts _ hc) hdg (k H locs ls hP hD hS hl)
theorem v_ldcw {index : Nat} {v : Int32} (hk : Ok K cc nL own Ts R) (hdg : decode cc pc = .ok (.ldc_w index, 3)) (hc : Cond.constant own index v ∈ Ts) (k : V K nL ws ce sl (pc + 3) lv (.int v :: st)) : V K nL ws ce sl pc lv st :=
  fun H locs ls hP hD hS hl => lv_ldcw hk.1 hk.2.1 hk.2.2.2.1 (hk.ts _ hc) hdg (k H locs ls hP hD hS hl)
theorem v_ldc2 {index : Nat} {v : Int64} (hk : Ok K cc nL own Ts R) (hdg : decode cc pc = .ok (.ldc2_w index, 3)) (hc : Cond.constantLong own index v ∈ Ts) (k : V K nL ws ce sl (pc + 3) lv (.long v :: st)) : V K nL ws ce sl pc lv st :=
  fun H locs ls hP hD hS hl => lv_ldc2 hk.1 hk.2.1 hk.2.2.2.1 (hk.ts _ hc) hdg (k H locs ls hP hD hS hl)
theorem v_iload_n {i : Fin 4} {x : Int32} (hk : Ok K cc nL own Ts R) (hdg : decode cc pc = .ok (.iload_n i, 1)) (hl0 : lg lv i.val = some (.int x)) (k : V K nL ws ce sl (pc + 1) lv (.int x :: st)) : V K nL ws ce sl pc lv st :=
  fun H locs ls hP hD hS hl => lv_iload_n hk.1 hk.2.1 hdg rfl (lg_at hl hl0) (k H locs ls hP hD hS hl)
theorem v_iload {i : Nat} {x : Int32} (hk : Ok K cc nL own Ts R) (hdg : decode cc pc = .ok (.iload i, 2)) (hl0 : lg lv i = some (.int x)) (k : V K nL ws ce sl (pc + 2) lv (.int x :: st)) : V K nL ws ce sl pc lv st :=
  fun H locs ls hP hD hS hl => lv_iload hk.1 hk.2.1 hdg (lg_at hl hl0) (k H locs ls hP hD hS hl)
theorem v_lload_n {i : Fin 4} {x : Int64} (hk : Ok K cc nL own Ts R) (hdg : decode cc pc = .ok (.lload_n i, 1)) (hl0 : lg lv i.val = some (.long x)) (k : V K nL ws ce sl (pc + 1) lv (.long x :: st)) : V K nL ws ce sl pc lv st :=
  fun H locs ls hP hD hS hl => lv_lload_n hk.1 hk.2.1 hdg rfl (lg_at hl hl0) (k H locs ls hP hD hS hl)
theorem v_lload {i : Nat} {x : Int64} (hk : Ok K cc nL own Ts R) (hdg : decode cc pc = .ok (.lload i, 2)) (hl0 : lg lv i = some (.long x)) (k : V K nL ws ce sl (pc + 2) lv (.long x :: st)) : V K nL ws ce sl pc lv st :=
  fun H locs ls hP hD hS hl => lv_lload hk.1 hk.2.1 hdg (lg_at hl hl0) (k H locs ls hP hD hS hl)
theorem v_aload_n {i : Fin 4} {x : Nat} (hk : Ok K cc nL own Ts R) (hdg : decode cc pc = .ok (.aload_n i, 1)) (hl0 : lg lv i.val = some (.ref x)) (k : V K nL ws ce sl (pc + 1) lv (.ref x :: st)) : V K nL ws ce sl pc lv st :=
  fun H locs ls hP hD hS hl => lv_aload_n hk.1 hk.2.1 hdg rfl (lg_at hl hl0) (k H locs ls hP hD hS hl)
theorem v_aload {i : Nat} {x : Nat} (hk : Ok K cc nL own Ts R) (hdg : decode cc pc = .ok (.aload i, 2)) (hl0 : lg lv i = some (.ref x)) (k : V K nL ws ce sl (pc + 2) lv (.ref x :: st)) : V K nL ws ce sl pc lv st :=
  fun H locs ls hP hD hS hl => lv_aload hk.1 hk.2.1 hdg (lg_at hl hl0) (k H locs ls hP hD hS hl)
theorem v_aload_nN {i : Fin 4} (hk : Ok K cc nL own Ts R) (hdg : decode cc pc = .ok (.aload_n i, 1)) (hl0 : lg lv i.val = some .null) (k : V K nL ws ce sl (pc + 1) lv (.null :: st)) : V K nL ws ce sl pc lv st :=
  fun H locs ls hP hD hS hl => lv_aload_nN hk.1 hk.2.1 hdg rfl (lg_at hl hl0) (k H locs ls hP hD hS hl)
theorem v_istore_n {j : Fin 4} {i : Nat} {x : Int32} {lv' : LV} (hk : Ok K cc nL own Ts R) (hdg : decode cc pc = .ok (.istore_n j, 1)) (hi : j.val = i) (hn : i < nL) (ks0 : List Nat) (hl0 : lv_pick ((i, Value.int x) :: lv.filter (fun q => !(q.1 == i) && !(q.1 + 1 == i && q.2.category == 2))) ks0 = lv') (k : V K nL ws ce sl (pc + 1) lv' st) : V K nL ws ce sl pc lv (.int x :: st) :=
  fun H locs ls hP hD hS hl => lv_istore_n hk.1 hk.2.1 hdg hi hl hn rfl (fun ls' hl' => k H locs ls' hP hD hS (lv_sub hl' ks0 hl0))
theorem v_istore {i : Nat} {x : Int32} {lv' : LV} (hk : Ok K cc nL own Ts R) (hdg : decode cc pc = .ok (.istore i, 2)) (hn : i < nL) (ks0 : List Nat) (hl0 : lv_pick ((i, Value.int x) :: lv.filter (fun q => !(q.1 == i) && !(q.1 + 1 == i && q.2.category == 2))) ks0 = lv') (k : V K nL ws ce sl (pc + 2) lv' st) : V K nL ws ce sl pc lv (.int x :: st) :=
  fun H locs ls hP hD hS hl => lv_istore hk.1 hk.2.1 hdg hl hn rfl (fun ls' hl' => k H locs ls' hP hD hS (lv_sub hl' ks0 hl0))
theorem v_lstore_n {j : Fin 4} {i : Nat} {x : Int64} {lv' : LV} (hk : Ok K cc nL own Ts R) (hdg : decode cc pc = .ok (.lstore_n j, 1)) (hi : j.val = i) (hn : i + 1 < nL) (ks0 : List Nat) (hl0 : lv_pick ((i, Value.long x) :: lv.filter (fun q => !(q.1 == i) && (!(q.1 == i + 1) && !(q.1 + 1 == i && q.2.category == 2)))) ks0 = lv') (k : V K nL ws ce sl (pc + 1) lv' st) : V K nL ws ce sl pc lv (.long x :: st) :=
  fun H locs ls hP hD hS hl => lv_lstore_n hk.1 hk.2.1 hdg hi hl hn rfl (fun ls' hl' => k H locs ls' hP hD hS (lv_sub hl' ks0 hl0))
theorem v_lstore {i : Nat} {x : Int64} {lv' : LV} (hk : Ok K cc nL own Ts R) (hdg : decode cc pc = .ok (.lstore i, 2)) (hn : i + 1 < nL) (ks0 : List Nat) (hl0 : lv_pick ((i, Value.long x) :: lv.filter (fun q => !(q.1 == i) && (!(q.1 == i + 1) && !(q.1 + 1 == i && q.2.category == 2)))) ks0 = lv') (k : V K nL ws ce sl (pc + 2) lv' st) : V K nL ws ce sl pc lv (.long x :: st) :=
  fun H locs ls hP hD hS hl => lv_lstore hk.1 hk.2.1 hdg hl hn rfl (fun ls' hl' => k H locs ls' hP hD hS (lv_sub hl' ks0 hl0))
theorem v_astore_n {j : Fin 4} {i : Nat} {x : Nat} {lv' : LV} (hk : Ok K cc nL own Ts R) (hdg : decode cc pc = .ok (.astore_n j, 1)) (hi : j.val = i) (hn : i < nL) (ks0 : List Nat) (hl0 : lv_pick ((i, Value.ref x) :: lv.filter (fun q => !(q.1 == i) && !(q.1 + 1 == i && q.2.category == 2))) ks0 = lv') (k : V K nL ws ce sl (pc + 1) lv' st) : V K nL ws ce sl pc lv (.ref x :: st) :=
  fun H locs ls hP hD hS hl => lv_astore_n hk.1 hk.2.1 hdg hi hl hn rfl (fun ls' hl' => k H locs ls' hP hD hS (lv_sub hl' ks0 hl0))
theorem v_astore {i : Nat} {x : Nat} {lv' : LV} (hk : Ok K cc nL own Ts R) (hdg : decode cc pc = .ok (.astore i, 2)) (hn : i < nL) (ks0 : List Nat) (hl0 : lv_pick ((i, Value.ref x) :: lv.filter (fun q => !(q.1 == i) && !(q.1 + 1 == i && q.2.category == 2))) ks0 = lv') (k : V K nL ws ce sl (pc + 2) lv' st) : V K nL ws ce sl pc lv (.ref x :: st) :=
  fun H locs ls hP hD hS hl => lv_astore hk.1 hk.2.1 hdg hl hn rfl (fun ls' hl' => k H locs ls' hP hD hS (lv_sub hl' ks0 hl0))
theorem v_iinc {i : Nat} {n : Int} {x v : Int32} {lv' : LV} (hk : Ok K cc nL own Ts R) (hdg : decode cc pc = .ok (.iinc i n, 3)) (hg : lg lv i = some (.int x)) (hv : x + Int32.ofInt n = v) (hn : i < nL) (ks0 : List Nat) (hl0 : lv_pick ((i, Value.int v) :: lv.filter (fun q => !(q.1 == i) && !(q.1 + 1 == i && q.2.category == 2))) ks0 = lv') (k : V K nL ws ce sl (pc + 3) lv' st) : V K nL ws ce sl pc lv st := by
  intro H locs ls hP hD hS hl
  obtain ⟨j, hj⟩ := List.getElem?_of_mem (lg_mem hg)
  exact lv_iinc (k := j) hk.1 hk.2.1 hdg hl hj hv hn rfl (fun ls' hl' => k H locs ls' hP hD hS (lv_sub hl' ks0 hl0))
theorem v_iadd {x y : Int32} (hk : Ok K cc nL own Ts R) (hdg : decode cc pc = .ok (.iadd, 1)) (k : V K nL ws ce sl (pc + 1) lv (.int (x + y) :: st)) : V K nL ws ce sl pc lv (.int y :: .int x :: st) :=
  fun H locs ls hP hD hS hl => lv_iadd hk.1 hk.2.1 hdg (k H locs ls hP hD hS hl)
theorem v_isub {x y : Int32} (hk : Ok K cc nL own Ts R) (hdg : decode cc pc = .ok (.isub, 1)) (k : V K nL ws ce sl (pc + 1) lv (.int (x - y) :: st)) : V K nL ws ce sl pc lv (.int y :: .int x :: st) :=
  fun H locs ls hP hD hS hl => lv_isub hk.1 hk.2.1 hdg (k H locs ls hP hD hS hl)
theorem v_imul {x y : Int32} (hk : Ok K cc nL own Ts R) (hdg : decode cc pc = .ok (.imul, 1)) (k : V K nL ws ce sl (pc + 1) lv (.int (x * y) :: st)) : V K nL ws ce sl pc lv (.int y :: .int x :: st) :=
  fun H locs ls hP hD hS hl => lv_imul hk.1 hk.2.1 hdg (k H locs ls hP hD hS hl)
theorem v_iand {x y : Int32} (hk : Ok K cc nL own Ts R) (hdg : decode cc pc = .ok (.iand, 1)) (k : V K nL ws ce sl (pc + 1) lv (.int (x &&& y) :: st)) : V K nL ws ce sl pc lv (.int y :: .int x :: st) :=
  fun H locs ls hP hD hS hl => lv_iand hk.1 hk.2.1 hdg (k H locs ls hP hD hS hl)
theorem v_ior {x y : Int32} (hk : Ok K cc nL own Ts R) (hdg : decode cc pc = .ok (.ior, 1)) (k : V K nL ws ce sl (pc + 1) lv (.int (x ||| y) :: st)) : V K nL ws ce sl pc lv (.int y :: .int x :: st) :=
  fun H locs ls hP hD hS hl => lv_ior hk.1 hk.2.1 hdg (k H locs ls hP hD hS hl)
theorem v_ixor {x y : Int32} (hk : Ok K cc nL own Ts R) (hdg : decode cc pc = .ok (.ixor, 1)) (k : V K nL ws ce sl (pc + 1) lv (.int (x ^^^ y) :: st)) : V K nL ws ce sl pc lv (.int y :: .int x :: st) :=
  fun H locs ls hP hD hS hl => lv_ixor hk.1 hk.2.1 hdg (k H locs ls hP hD hS hl)
theorem v_ishl {x y : Int32} (hk : Ok K cc nL own Ts R) (hdg : decode cc pc = .ok (.ishl, 1)) (k : V K nL ws ce sl (pc + 1) lv (.int (x <<< (y &&& 31)) :: st)) : V K nL ws ce sl pc lv (.int y :: .int x :: st) :=
  fun H locs ls hP hD hS hl => lv_ishl hk.1 hk.2.1 hdg (k H locs ls hP hD hS hl)
theorem v_ishr {x y : Int32} (hk : Ok K cc nL own Ts R) (hdg : decode cc pc = .ok (.ishr, 1)) (k : V K nL ws ce sl (pc + 1) lv (.int (x >>> (y &&& 31)) :: st)) : V K nL ws ce sl pc lv (.int y :: .int x :: st) :=
  fun H locs ls hP hD hS hl => lv_ishr hk.1 hk.2.1 hdg (k H locs ls hP hD hS hl)
theorem v_idiv {x y : Int32} (hk : Ok K cc nL own Ts R) (hdg : decode cc pc = .ok (.idiv, 1)) (hne : ¬ y = 0) (k : V K nL ws ce sl (pc + 1) lv (.int (x / y) :: st)) : V K nL ws ce sl pc lv (.int y :: .int x :: st) :=
  fun H locs ls hP hD hS hl => lv_idiv hk.1 hk.2.1 hdg hne (k H locs ls hP hD hS hl)
theorem v_irem {x y : Int32} (hk : Ok K cc nL own Ts R) (hdg : decode cc pc = .ok (.irem, 1)) (hne : ¬ y = 0) (k : V K nL ws ce sl (pc + 1) lv (.int (x - x / y * y) :: st)) : V K nL ws ce sl pc lv (.int y :: .int x :: st) :=
  fun H locs ls hP hD hS hl => lv_irem hk.1 hk.2.1 hdg hne (k H locs ls hP hD hS hl)
theorem v_ladd {x y : Int64} (hk : Ok K cc nL own Ts R) (hdg : decode cc pc = .ok (.ladd, 1)) (k : V K nL ws ce sl (pc + 1) lv (.long (x + y) :: st)) : V K nL ws ce sl pc lv (.long y :: .long x :: st) :=
  fun H locs ls hP hD hS hl => lv_ladd hk.1 hk.2.1 hdg (k H locs ls hP hD hS hl)
theorem v_lsub {x y : Int64} (hk : Ok K cc nL own Ts R) (hdg : decode cc pc = .ok (.lsub, 1)) (k : V K nL ws ce sl (pc + 1) lv (.long (x - y) :: st)) : V K nL ws ce sl pc lv (.long y :: .long x :: st) :=
  fun H locs ls hP hD hS hl => lv_lsub hk.1 hk.2.1 hdg (k H locs ls hP hD hS hl)
theorem v_lmul {x y : Int64} (hk : Ok K cc nL own Ts R) (hdg : decode cc pc = .ok (.lmul, 1)) (k : V K nL ws ce sl (pc + 1) lv (.long (x * y) :: st)) : V K nL ws ce sl pc lv (.long y :: .long x :: st) :=
  fun H locs ls hP hD hS hl => lv_lmul hk.1 hk.2.1 hdg (k H locs ls hP hD hS hl)
theorem v_land {x y : Int64} (hk : Ok K cc nL own Ts R) (hdg : decode cc pc = .ok (.land, 1)) (k : V K nL ws ce sl (pc + 1) lv (.long (x &&& y) :: st)) : V K nL ws ce sl pc lv (.long y :: .long x :: st) :=
  fun H locs ls hP hD hS hl => lv_land hk.1 hk.2.1 hdg (k H locs ls hP hD hS hl)
theorem v_lor {x y : Int64} (hk : Ok K cc nL own Ts R) (hdg : decode cc pc = .ok (.lor, 1)) (k : V K nL ws ce sl (pc + 1) lv (.long (x ||| y) :: st)) : V K nL ws ce sl pc lv (.long y :: .long x :: st) :=
  fun H locs ls hP hD hS hl => lv_lor hk.1 hk.2.1 hdg (k H locs ls hP hD hS hl)
theorem v_ldiv {x y : Int64} (hk : Ok K cc nL own Ts R) (hdg : decode cc pc = .ok (.ldiv, 1)) (hne : ¬ y = 0) (k : V K nL ws ce sl (pc + 1) lv (.long (x / y) :: st)) : V K nL ws ce sl pc lv (.long y :: .long x :: st) :=
  fun H locs ls hP hD hS hl => lv_ldiv hk.1 hk.2.1 hdg hne (k H locs ls hP hD hS hl)
theorem v_iushr {x y : Int32} (hk : Ok K cc nL own Ts R) (hdg : decode cc pc = .ok (.iushr, 1)) (k : V K nL ws ce sl (pc + 1) lv (.int (x.toUInt32 >>> (y.toUInt32 &&& Int32.toUInt32 31)).toInt32 :: st)) : V K nL ws ce sl pc lv (.int y :: .int x :: st) :=
  fun H locs ls hP hD hS hl => lv_iushr hk.1 hk.2.1 hdg rfl (k H locs ls hP hD hS hl)
theorem v_lushr {x : Int64} {y : Int32} (hk : Ok K cc nL own Ts R) (hdg : decode cc pc = .ok (.lushr, 1)) (k : V K nL ws ce sl (pc + 1) lv (.long (x.toUInt64 >>> (y.toInt64.toUInt64 &&& Int64.toUInt64 63)).toInt64 :: st)) : V K nL ws ce sl pc lv (.int y :: .long x :: st) :=
  fun H locs ls hP hD hS hl => lv_lushr hk.1 hk.2.1 hdg rfl (k H locs ls hP hD hS hl)
theorem v_lshl {x : Int64} {y : Int32} (hk : Ok K cc nL own Ts R) (hdg : decode cc pc = .ok (.lshl, 1)) (k : V K nL ws ce sl (pc + 1) lv (.long (x <<< (y.toInt64 &&& 63)) :: st)) : V K nL ws ce sl pc lv (.int y :: .long x :: st) :=
  fun H locs ls hP hD hS hl => lv_lshl hk.1 hk.2.1 hdg rfl (k H locs ls hP hD hS hl)
theorem v_i2l {x : Int32} (hk : Ok K cc nL own Ts R) (hdg : decode cc pc = .ok (.i2l, 1)) (k : V K nL ws ce sl (pc + 1) lv (.long x.toInt64 :: st)) : V K nL ws ce sl pc lv (.int x :: st) :=
  fun H locs ls hP hD hS hl => lv_i2l hk.1 hk.2.1 hdg rfl (k H locs ls hP hD hS hl)
theorem v_l2i {x : Int64} (hk : Ok K cc nL own Ts R) (hdg : decode cc pc = .ok (.l2i, 1)) (k : V K nL ws ce sl (pc + 1) lv (.int x.toInt32 :: st)) : V K nL ws ce sl pc lv (.long x :: st) :=
  fun H locs ls hP hD hS hl => lv_l2i hk.1 hk.2.1 hdg rfl (k H locs ls hP hD hS hl)
theorem v_lcmp {x y : Int64} (hk : Ok K cc nL own Ts R) (hdg : decode cc pc = .ok (.lcmp, 1)) (k : V K nL ws ce sl (pc + 1) lv (.int (lg_cmp x y) :: st)) : V K nL ws ce sl pc lv (.long y :: .long x :: st) :=
  fun H locs ls hP hD hS hl => W.lcmp hk.1 hk.2.1 hdg (k H locs ls hP hD hS hl)
theorem v_dup {va : Value} (hk : Ok K cc nL own Ts R) (hdg : decode cc pc = .ok (.dup, 1)) (hva : va.category = 1) (k : V K nL ws ce sl (pc + 1) lv (va :: va :: st)) : V K nL ws ce sl pc lv (va :: st) :=
  fun H locs ls hP hD hS hl => lv_dup hk.1 hk.2.1 hdg hva (k H locs ls hP hD hS hl)
theorem v_dup2 {va vb : Value} (hk : Ok K cc nL own Ts R) (hdg : decode cc pc = .ok (.dup2, 1)) (hva : va.category = 1) (hvb : vb.category = 1) (k : V K nL ws ce sl (pc + 1) lv (va :: vb :: va :: vb :: st)) : V K nL ws ce sl pc lv (va :: vb :: st) :=
  fun H locs ls hP hD hS hl => lv_dup2_11 hk.1 hk.2.1 hdg hva hvb (k H locs ls hP hD hS hl)
theorem v_null (hk : Ok K cc nL own Ts R) (hdg : decode cc pc = .ok (.aconst_null, 1)) (k : V K nL ws ce sl (pc + 1) lv (.null :: st)) : V K nL ws ce sl pc lv st :=
  fun H locs ls hP hD hS hl => lv_null hk.1 hk.2.1 hdg (k H locs ls hP hD hS hl)
theorem v_goto {off : Int} {tgt : Nat} (hk : Ok K cc nL own Ts R) (hdg : decode cc pc = .ok (.goto off, 3)) (ht : (pc : Int) + off = (tgt : Int)) (k : V K nL ws ce sl tgt lv st) : V K nL ws ce sl pc lv st :=
  fun H locs ls hP hD hS hl => lv_goto hk.1 hk.2.1 hdg ht (k H locs ls hP hD hS hl)
theorem v_ifnull {x : Nat} {off : Int} (hk : Ok K cc nL own Ts R) (hdg : decode cc pc = .ok (.ifnull off, 3)) (k : V K nL ws ce sl (pc + 3) lv st) : V K nL ws ce sl pc lv (.ref x :: st) :=
  fun H locs ls hP hD hS hl => lv_ifnull hk.1 hk.2.1 hdg (k H locs ls hP hD hS hl)
theorem v_ifnullN {off : Int} {tgt : Nat} (hk : Ok K cc nL own Ts R) (hdg : decode cc pc = .ok (.ifnull off, 3)) (ht : (pc : Int) + off = (tgt : Int)) (k : V K nL ws ce sl tgt lv st) : V K nL ws ce sl pc lv (.null :: st) :=
  fun H locs ls hP hD hS hl => lv_ifnullN hk.1 hk.2.1 hdg ht (k H locs ls hP hD hS hl)
theorem v_ifnonnull {x : Nat} {off : Int} {tgt : Nat} (hk : Ok K cc nL own Ts R) (hdg : decode cc pc = .ok (.ifnonnull off, 3)) (ht : (pc : Int) + off = (tgt : Int)) (k : V K nL ws ce sl tgt lv st) : V K nL ws ce sl pc lv (.ref x :: st) :=
  fun H locs ls hP hD hS hl => lv_ifnonnull hk.1 hk.2.1 hdg ht (k H locs ls hP hD hS hl)
theorem v_ifnonnullN {off : Int} (hk : Ok K cc nL own Ts R) (hdg : decode cc pc = .ok (.ifnonnull off, 3)) (k : V K nL ws ce sl (pc + 3) lv st) : V K nL ws ce sl pc lv (.null :: st) :=
  fun H locs ls hP hD hS hl => lv_ifnonnullN hk.1 hk.2.1 hdg (k H locs ls hP hD hS hl)
theorem v_if_eq {x : Int32} {off : Int} {tgt : Nat} (hk : Ok K cc nL own Ts R) (hdg : decode cc pc = .ok (.ifCond .eq off, 3)) (ht : (pc : Int) + off = (tgt : Int)) (kt : x = 0 → V K nL ws ce sl tgt lv st) (kf : ¬ (x = 0) → V K nL ws ce sl (pc + 3) lv st) : V K nL ws ce sl pc lv (.int x :: st) :=
  fun H locs ls hP hD hS hl => lv_if_eq hk.1 hk.2.1 hdg ht (fun h => kt h H locs ls hP hD hS hl) (fun h => kf h H locs ls hP hD hS hl)
theorem v_icmp_eq {x y : Int32} {off : Int} {tgt : Nat} (hk : Ok K cc nL own Ts R) (hdg : decode cc pc = .ok (.if_icmp .eq off, 3)) (ht : (pc : Int) + off = (tgt : Int)) (kt : x = y → V K nL ws ce sl tgt lv st) (kf : ¬ (x = y) → V K nL ws ce sl (pc + 3) lv st) : V K nL ws ce sl pc lv (.int y :: .int x :: st) :=
  fun H locs ls hP hD hS hl => lv_icmp_eq hk.1 hk.2.1 hdg ht (fun h => kt h H locs ls hP hD hS hl) (fun h => kf h H locs ls hP hD hS hl)
theorem v_if_ne {x : Int32} {off : Int} {tgt : Nat} (hk : Ok K cc nL own Ts R) (hdg : decode cc pc = .ok (.ifCond .ne off, 3)) (ht : (pc : Int) + off = (tgt : Int)) (kt : ¬ x = 0 → V K nL ws ce sl tgt lv st) (kf : x = 0 → V K nL ws ce sl (pc + 3) lv st) : V K nL ws ce sl pc lv (.int x :: st) :=
  fun H locs ls hP hD hS hl => lv_if_ne hk.1 hk.2.1 hdg ht (fun h => kt h H locs ls hP hD hS hl) (fun h => kf h H locs ls hP hD hS hl)
theorem v_icmp_ne {x y : Int32} {off : Int} {tgt : Nat} (hk : Ok K cc nL own Ts R) (hdg : decode cc pc = .ok (.if_icmp .ne off, 3)) (ht : (pc : Int) + off = (tgt : Int)) (kt : ¬ x = y → V K nL ws ce sl tgt lv st) (kf : x = y → V K nL ws ce sl (pc + 3) lv st) : V K nL ws ce sl pc lv (.int y :: .int x :: st) :=
  fun H locs ls hP hD hS hl => lv_icmp_ne hk.1 hk.2.1 hdg ht (fun h => kt h H locs ls hP hD hS hl) (fun h => kf h H locs ls hP hD hS hl)
theorem v_if_lt {x : Int32} {off : Int} {tgt : Nat} (hk : Ok K cc nL own Ts R) (hdg : decode cc pc = .ok (.ifCond .lt off, 3)) (ht : (pc : Int) + off = (tgt : Int)) (kt : x < 0 → V K nL ws ce sl tgt lv st) (kf : ¬ (x < 0) → V K nL ws ce sl (pc + 3) lv st) : V K nL ws ce sl pc lv (.int x :: st) :=
  fun H locs ls hP hD hS hl => lv_if_lt hk.1 hk.2.1 hdg ht (fun h => kt h H locs ls hP hD hS hl) (fun h => kf h H locs ls hP hD hS hl)
theorem v_icmp_lt {x y : Int32} {off : Int} {tgt : Nat} (hk : Ok K cc nL own Ts R) (hdg : decode cc pc = .ok (.if_icmp .lt off, 3)) (ht : (pc : Int) + off = (tgt : Int)) (kt : x < y → V K nL ws ce sl tgt lv st) (kf : ¬ (x < y) → V K nL ws ce sl (pc + 3) lv st) : V K nL ws ce sl pc lv (.int y :: .int x :: st) :=
  fun H locs ls hP hD hS hl => lv_icmp_lt hk.1 hk.2.1 hdg ht (fun h => kt h H locs ls hP hD hS hl) (fun h => kf h H locs ls hP hD hS hl)
theorem v_if_ge {x : Int32} {off : Int} {tgt : Nat} (hk : Ok K cc nL own Ts R) (hdg : decode cc pc = .ok (.ifCond .ge off, 3)) (ht : (pc : Int) + off = (tgt : Int)) (kt : 0 ≤ x → V K nL ws ce sl tgt lv st) (kf : ¬ (0 ≤ x) → V K nL ws ce sl (pc + 3) lv st) : V K nL ws ce sl pc lv (.int x :: st) :=
  fun H locs ls hP hD hS hl => lv_if_ge hk.1 hk.2.1 hdg ht (fun h => kt h H locs ls hP hD hS hl) (fun h => kf h H locs ls hP hD hS hl)
theorem v_icmp_ge {x y : Int32} {off : Int} {tgt : Nat} (hk : Ok K cc nL own Ts R) (hdg : decode cc pc = .ok (.if_icmp .ge off, 3)) (ht : (pc : Int) + off = (tgt : Int)) (kt : y ≤ x → V K nL ws ce sl tgt lv st) (kf : ¬ (y ≤ x) → V K nL ws ce sl (pc + 3) lv st) : V K nL ws ce sl pc lv (.int y :: .int x :: st) :=
  fun H locs ls hP hD hS hl => lv_icmp_ge hk.1 hk.2.1 hdg ht (fun h => kt h H locs ls hP hD hS hl) (fun h => kf h H locs ls hP hD hS hl)
theorem v_if_gt {x : Int32} {off : Int} {tgt : Nat} (hk : Ok K cc nL own Ts R) (hdg : decode cc pc = .ok (.ifCond .gt off, 3)) (ht : (pc : Int) + off = (tgt : Int)) (kt : 0 < x → V K nL ws ce sl tgt lv st) (kf : ¬ (0 < x) → V K nL ws ce sl (pc + 3) lv st) : V K nL ws ce sl pc lv (.int x :: st) :=
  fun H locs ls hP hD hS hl => lv_if_gt hk.1 hk.2.1 hdg ht (fun h => kt h H locs ls hP hD hS hl) (fun h => kf h H locs ls hP hD hS hl)
theorem v_icmp_gt {x y : Int32} {off : Int} {tgt : Nat} (hk : Ok K cc nL own Ts R) (hdg : decode cc pc = .ok (.if_icmp .gt off, 3)) (ht : (pc : Int) + off = (tgt : Int)) (kt : y < x → V K nL ws ce sl tgt lv st) (kf : ¬ (y < x) → V K nL ws ce sl (pc + 3) lv st) : V K nL ws ce sl pc lv (.int y :: .int x :: st) :=
  fun H locs ls hP hD hS hl => lv_icmp_gt hk.1 hk.2.1 hdg ht (fun h => kt h H locs ls hP hD hS hl) (fun h => kf h H locs ls hP hD hS hl)
theorem v_if_le {x : Int32} {off : Int} {tgt : Nat} (hk : Ok K cc nL own Ts R) (hdg : decode cc pc = .ok (.ifCond .le off, 3)) (ht : (pc : Int) + off = (tgt : Int)) (kt : x ≤ 0 → V K nL ws ce sl tgt lv st) (kf : ¬ (x ≤ 0) → V K nL ws ce sl (pc + 3) lv st) : V K nL ws ce sl pc lv (.int x :: st) :=
  fun H locs ls hP hD hS hl => lv_if_le hk.1 hk.2.1 hdg ht (fun h => kt h H locs ls hP hD hS hl) (fun h => kf h H locs ls hP hD hS hl)
theorem v_icmp_le {x y : Int32} {off : Int} {tgt : Nat} (hk : Ok K cc nL own Ts R) (hdg : decode cc pc = .ok (.if_icmp .le off, 3)) (ht : (pc : Int) + off = (tgt : Int)) (kt : x ≤ y → V K nL ws ce sl tgt lv st) (kf : ¬ (x ≤ y) → V K nL ws ce sl (pc + 3) lv st) : V K nL ws ce sl pc lv (.int y :: .int x :: st) :=
  fun H locs ls hP hD hS hl => lv_icmp_le hk.1 hk.2.1 hdg ht (fun h => kt h H locs ls hP hD hS hl) (fun h => kf h H locs ls hP hD hS hl)
theorem v_get {C ref : String} {T : u_T} {N ci index a : Nat} {fs : List Value} {v : Value} (hk : Ok K cc nL own Ts R) (hdg : decode cc pc = .ok (.getfield index, 3)) (hin : ∀ w ∈ u_ws C T N, w ∈ Ts) (q0 : Nat) (he : ws[q0]? = some (a, .inr (ci, fs))) (hc : vwCl[ci]? = some (C, T, N)) (j : Nat) (hj : j < N) (hlink : Cond.fieldLink own index ref (T j).2.1 (T j).2.2.1 ∈ Ts) (hs : ref = (T j).1) (hv : fs[j]? = some v) (k : V K nL ws ce sl (pc + 3) lv (v :: st)) : V K nL ws ce sl pc lv (.ref a :: st) :=
  fun H locs ls hP hD hS hl => va_get hk.1 hk.2.1 hk.ts hin hk.2.2.2.1 hk.G hP q0 he hc j hj (hk.ts _ hlink) (fun _ h => by rw [hs]; exact h) hv hdg (k H locs ls hP hD hS hl)
theorem v_put {C ref : String} {T : u_T} {N ci index a : Nat} {fs : List Value} {v : Value} {ws' : va_W} (hk : Ok K cc nL own Ts R) (hdg : decode cc pc = .ok (.putfield index, 3)) (hin : ∀ w ∈ u_ws C T N, w ∈ Ts) (ty0 : Nat → FieldType) (hty : ∀ k, k < N → parseFieldDescriptor (T k).2.2.1 = some (ty0 k)) (hnm : ∀ a, a < N → ∀ b, b < N → a ≠ b → (T a).2.1 ≠ (T b).2.1) (q0 : Nat) (he : ws[q0]? = some (a, .inr (ci, fs))) (hc : vwCl[ci]? = some (C, T, N)) (j : Nat) (hj : j < N) (hlink : Cond.fieldLink own index ref (T j).2.1 (T j).2.2.1 ∈ Ts) (hs : ref = (T j).1) (hfin : (T j).2.2.2 = false) {ty : FieldType} (hd : parseFieldDescriptor (T j).2.2.1 = some ty) (hn : narrow ty v = v) (hfit : fits ty v = true) (hl0 : j < fs.length) (hw : ws.set q0 (a, .inr (ci, fs.set j v)) = ws') (k : V K nL ws' ce sl (pc + 3) lv st) : V K nL ws ce sl pc lv (v :: .ref a :: st) := by
  subst hw
  exact fun H locs ls hP hD hS hl => va_put hk.1 hk.2.1 hk.ts hin ty0 hty hnm hk.2.2.2.1 hk.G hP hD hS q0 he hc j hj (hk.ts _ hlink) (fun _ h => by rw [hs]; exact h) hfin hd hn hfit hl0 hdg (fun H1 locs1 hP1 hD1 hS1 => k H1 locs1 ls hP1 hD1 hS1 hl)
theorem v_putF {C ref : String} {T : u_T} {N ci index a : Nat} {fs : List Value} {v : Value} {ws' : va_W} (hk : Ok K cc nL own Ts R) (hdg : decode cc pc = .ok (.putfield index, 3)) (hin : ∀ w ∈ u_ws C T N, w ∈ Ts) (ty0 : Nat → FieldType) (hty : ∀ k, k < N → parseFieldDescriptor (T k).2.2.1 = some (ty0 k)) (hnm : ∀ a, a < N → ∀ b, b < N → a ≠ b → (T a).2.1 ≠ (T b).2.1) (q0 : Nat) (he : ws[q0]? = some (a, .inr (ci, fs))) (hc : vwCl[ci]? = some (C, T, N)) (j : Nat) (hj : j < N) (hlink : Cond.fieldLink own index ref (T j).2.1 (T j).2.2.1 ∈ Ts) (hs : ref = (T j).1) (hfin : (T j).2.2.2 = true) (hi : (kM K).name = "<init>") (hoC : (T j).1 = own) {ty : FieldType} (hd : parseFieldDescriptor (T j).2.2.1 = some ty) (hn : narrow ty v = v) (hfit : fits ty v = true) (hl0 : j < fs.length) (hw : ws.set q0 (a, .inr (ci, fs.set j v)) = ws') (k : V K nL ws' ce sl (pc + 3) lv st) : V K nL ws ce sl pc lv (v :: .ref a :: st) := by
  subst hw
  exact fun H locs ls hP hD hS hl => va_putF hk.1 hk.2.1 hk.ts hin ty0 hty hnm hk.2.2.2.1 hk.G hP hD hS q0 he hc j hj (hk.ts _ hlink) (fun _ h => by rw [hs]; exact h) hfin hi hoC hd hn hfit hl0 hdg (fun H1 locs1 hP1 hD1 hS1 => k H1 locs1 ls hP1 hD1 hS1 hl)
theorem v_iald {a n j : Nat} {f : Nat → Int32} {i : Int32} (hk : Ok K cc nL own Ts R) (hdg : decode cc pc = .ok (.iaload, 1)) (q0 : Nat) (ha : ws[q0]? = some (a, .inl (gI (kG K), n, .inl f))) (hi : i = nI j) (hj : j < n) (hn : n < 2 ^ 31) (k : V K nL ws ce sl (pc + 1) lv (.int (f j) :: st)) : V K nL ws ce sl pc lv (.int i :: .ref a :: st) := by
  subst hi
  intro H locs ls hP hD hS hl
  have e : (nI j).toNatClampNeg = j := nI_clamp (Nat.lt_trans hj hn)
  refine va_iald hk.1 hk.2.1 hk.G hP q0 0 ha rfl (vp_in_nI hj hn) hdg ?_
  rw [e]
  exact k H locs ls hP hD hS hl
theorem v_ialdV {a n : Nat} {f : Nat → Int32} {i : Int32} (hk : Ok K cc nL own Ts R) (hdg : decode cc pc = .ok (.iaload, 1)) (q0 : Nat) (ha : ws[q0]? = some (a, .inl (gI (kG K), n, .inl f))) (hi : vp_in i n) (k : V K nL ws ce sl (pc + 1) lv (.int (f i.toNatClampNeg) :: st)) : V K nL ws ce sl pc lv (.int i :: .ref a :: st) :=
  fun H locs ls hP hD hS hl => va_iald hk.1 hk.2.1 hk.G hP q0 0 ha rfl hi hdg (k H locs ls hP hD hS hl)
theorem v_iastV {a n : Nat} {f : Nat → Int32} {i : Int32} {x : Int32} {ws' : va_W} (hk : Ok K cc nL own Ts R) (hdg : decode cc pc = .ok (.iastore, 1)) (q0 : Nat) (ha : ws[q0]? = some (a, .inl (gI (kG K), n, .inl f))) (hi : vp_in i n) (hw : ws.set q0 (a, .inl (gI (kG K), n, .inl (upd f i.toNatClampNeg x))) = ws') (k : V K nL ws' ce sl (pc + 1) lv st) : V K nL ws ce sl pc lv (.int x :: .int i :: .ref a :: st) := by
  subst hw
  intro H locs ls hP hD hS hl
  exact va_iast hk.1 hk.2.1 hk.G hP hD hS q0 0 ha rfl hi hdg (fun H1 locs1 hP1 hD1 hS1 => k H1 locs1 ls hP1 hD1 hS1 hl)
theorem v_iast {a n j : Nat} {f : Nat → Int32} {i : Int32} {x : Int32} {ws' : va_W} (hk : Ok K cc nL own Ts R) (hdg : decode cc pc = .ok (.iastore, 1)) (q0 : Nat) (ha : ws[q0]? = some (a, .inl (gI (kG K), n, .inl f))) (hi : i = nI j) (hj : j < n) (hn : n < 2 ^ 31) (hw : ws.set q0 (a, .inl (gI (kG K), n, .inl (upd f j x))) = ws') (k : V K nL ws' ce sl (pc + 1) lv st) : V K nL ws ce sl pc lv (.int x :: .int i :: .ref a :: st) := by
  subst hi
  subst hw
  intro H locs ls hP hD hS hl
  have e : (nI j).toNatClampNeg = j := nI_clamp (Nat.lt_trans hj hn)
  refine va_iast hk.1 hk.2.1 hk.G hP hD hS q0 0 ha rfl (vp_in_nI hj hn) hdg ?_
  rw [e]
  exact fun H1 locs1 hP1 hD1 hS1 => k H1 locs1 ls hP1 hD1 hS1 hl
theorem v_lald {a n j : Nat} {f : Nat → Int64} {i : Int32} (hk : Ok K cc nL own Ts R) (hdg : decode cc pc = .ok (.laload, 1)) (q0 : Nat) (ha : ws[q0]? = some (a, .inl (gJ (kG K), n, .inr (.inl f)))) (hi : i = nI j) (hj : j < n) (hn : n < 2 ^ 31) (k : V K nL ws ce sl (pc + 1) lv (.long (f j) :: st)) : V K nL ws ce sl pc lv (.int i :: .ref a :: st) := by
  subst hi
  intro H locs ls hP hD hS hl
  have e : (nI j).toNatClampNeg = j := nI_clamp (Nat.lt_trans hj hn)
  refine va_lald hk.1 hk.2.1 hk.G hP q0 1 ha rfl (vp_in_nI hj hn) hdg ?_
  rw [e]
  exact k H locs ls hP hD hS hl
theorem v_laldV {a n : Nat} {f : Nat → Int64} {i : Int32} (hk : Ok K cc nL own Ts R) (hdg : decode cc pc = .ok (.laload, 1)) (q0 : Nat) (ha : ws[q0]? = some (a, .inl (gJ (kG K), n, .inr (.inl f)))) (hi : vp_in i n) (k : V K nL ws ce sl (pc + 1) lv (.long (f i.toNatClampNeg) :: st)) : V K nL ws ce sl pc lv (.int i :: .ref a :: st) :=
  fun H locs ls hP hD hS hl => va_lald hk.1 hk.2.1 hk.G hP q0 1 ha rfl hi hdg (k H locs ls hP hD hS hl)
theorem v_lastV {a n : Nat} {f : Nat → Int64} {i : Int32} {x : Int64} {ws' : va_W} (hk : Ok K cc nL own Ts R) (hdg : decode cc pc = .ok (.lastore, 1)) (q0 : Nat) (ha : ws[q0]? = some (a, .inl (gJ (kG K), n, .inr (.inl f)))) (hi : vp_in i n) (hw : ws.set q0 (a, .inl (gJ (kG K), n, .inr (.inl (vp_updL f i.toNatClampNeg x)))) = ws') (k : V K nL ws' ce sl (pc + 1) lv st) : V K nL ws ce sl pc lv (.long x :: .int i :: .ref a :: st) := by
  subst hw
  intro H locs ls hP hD hS hl
  exact va_last hk.1 hk.2.1 hk.G hP hD hS q0 1 ha rfl hi hdg (fun H1 locs1 hP1 hD1 hS1 => k H1 locs1 ls hP1 hD1 hS1 hl)
theorem v_last {a n j : Nat} {f : Nat → Int64} {i : Int32} {x : Int64} {ws' : va_W} (hk : Ok K cc nL own Ts R) (hdg : decode cc pc = .ok (.lastore, 1)) (q0 : Nat) (ha : ws[q0]? = some (a, .inl (gJ (kG K), n, .inr (.inl f)))) (hi : i = nI j) (hj : j < n) (hn : n < 2 ^ 31) (hw : ws.set q0 (a, .inl (gJ (kG K), n, .inr (.inl (vp_updL f j x)))) = ws') (k : V K nL ws' ce sl (pc + 1) lv st) : V K nL ws ce sl pc lv (.long x :: .int i :: .ref a :: st) := by
  subst hi
  subst hw
  intro H locs ls hP hD hS hl
  have e : (nI j).toNatClampNeg = j := nI_clamp (Nat.lt_trans hj hn)
  refine va_last hk.1 hk.2.1 hk.G hP hD hS q0 1 ha rfl (vp_in_nI hj hn) hdg ?_
  rw [e]
  exact fun H1 locs1 hP1 hD1 hS1 => k H1 locs1 ls hP1 hD1 hS1 hl
theorem v_zald {a n j : Nat} {f : Nat → Int32} {i : Int32} (hk : Ok K cc nL own Ts R) (hdg : decode cc pc = .ok (.baload, 1)) (q0 : Nat) (ha : ws[q0]? = some (a, .inl (gZ (kG K), n, .inl f))) (hi : i = nI j) (hj : j < n) (hn : n < 2 ^ 31) (k : V K nL ws ce sl (pc + 1) lv (.int (f j) :: st)) : V K nL ws ce sl pc lv (.int i :: .ref a :: st) := by
  subst hi
  intro H locs ls hP hD hS hl
  have e : (nI j).toNatClampNeg = j := nI_clamp (Nat.lt_trans hj hn)
  refine va_zald hk.1 hk.2.1 hk.G hP q0 2 ha rfl (vp_in_nI hj hn) hdg ?_
  rw [e]
  exact k H locs ls hP hD hS hl
theorem v_zaldV {a n : Nat} {f : Nat → Int32} {i : Int32} (hk : Ok K cc nL own Ts R) (hdg : decode cc pc = .ok (.baload, 1)) (q0 : Nat) (ha : ws[q0]? = some (a, .inl (gZ (kG K), n, .inl f))) (hi : vp_in i n) (k : V K nL ws ce sl (pc + 1) lv (.int (f i.toNatClampNeg) :: st)) : V K nL ws ce sl pc lv (.int i :: .ref a :: st) :=
  fun H locs ls hP hD hS hl => va_zald hk.1 hk.2.1 hk.G hP q0 2 ha rfl hi hdg (k H locs ls hP hD hS hl)
theorem v_zastV {a n : Nat} {f : Nat → Int32} {i : Int32} {x : Int32} {ws' : va_W} (hk : Ok K cc nL own Ts R) (hdg : decode cc pc = .ok (.bastore, 1)) (q0 : Nat) (ha : ws[q0]? = some (a, .inl (gZ (kG K), n, .inl f))) (hi : vp_in i n) (hz : vp_nar .boolean x = x) (hw : ws.set q0 (a, .inl (gZ (kG K), n, .inl (upd f i.toNatClampNeg x))) = ws') (k : V K nL ws' ce sl (pc + 1) lv st) : V K nL ws ce sl pc lv (.int x :: .int i :: .ref a :: st) := by
  subst hw
  intro H locs ls hP hD hS hl
  refine va_zast hk.1 hk.2.1 hk.G hP hD hS q0 2 ha rfl hi hdg ?_
  rw [hz]
  exact fun H1 locs1 hP1 hD1 hS1 => k H1 locs1 ls hP1 hD1 hS1 hl
theorem bz_0 : vp_nar .boolean 0 = 0 := rfl
theorem bz_1 : vp_nar .boolean 1 = 1 := rfl
theorem v_gets {C n d ref : String} {v : Value} {index : Nat} (hk : Ok K cc nL own Ts R) (hdg : decode cc pc = .ok (.getstatic index, 3)) (hZ : va_Z C n d v (kA K) (ks K) (ks K).heap) (hlink : Cond.fieldLink own index ref n d ∈ Ts) (hs : ref = C) (k : V K nL ws ce sl (pc + 3) lv (v :: st)) : V K nL ws ce sl pc lv st :=
  fun H locs ls hP hD hS hl => va_gets hk.1 hk.2.1 hZ hS hk.2.2.2.1 (hk.ts _ hlink) (fun _ h => by rw [hs]; exact h) hdg (k H locs ls hP hD hS hl)
theorem v_ti {t N : Nat} {f : Nat → Value} {i : Int32} {v : Value} (hk : Ok K cc nL own Ts R) (hdg : decode cc pc = .ok (.iaload, 1)) (hT : va_T .int t N f (kA K) (ks K) (ks K).heap) (hi : vp_in i N) (hv : f i.toNatClampNeg = v) (k : V K nL ws ce sl (pc + 1) lv (v :: st)) : V K nL ws ce sl pc lv (.int i :: .ref t :: st) :=
  fun H locs ls hP hD hS hl => va_ti hk.1 hk.2.1 hT hS hi hv hdg (k H locs ls hP hD hS hl)
theorem v_tl {t N : Nat} {f : Nat → Value} {i : Int32} {v : Value} (hk : Ok K cc nL own Ts R) (hdg : decode cc pc = .ok (.laload, 1)) (hT : va_T .long t N f (kA K) (ks K) (ks K).heap) (hi : vp_in i N) (hv : f i.toNatClampNeg = v) (k : V K nL ws ce sl (pc + 1) lv (v :: st)) : V K nL ws ce sl pc lv (.int i :: .ref t :: st) :=
  fun H locs ls hP hD hS hl => va_tl hk.1 hk.2.1 hT hS hi hv hdg (k H locs ls hP hD hS hl)
theorem v_tlen {t N : Nat} {f : Nat → Value} {ty : FieldType} {v : Int32} (hk : Ok K cc nL own Ts R) (hdg : decode cc pc = .ok (.arraylength, 1)) (hT : va_T ty t N f (kA K) (ks K) (ks K).heap) (hv : nI N = v) (k : V K nL ws ce sl (pc + 1) lv (.int v :: st)) : V K nL ws ce sl pc lv (.ref t :: st) :=
  fun H locs ls hP hD hS hl => va_tlen hk.1 hk.2.1 hT hS hv hdg (k H locs ls hP hD hS hl)
theorem v_lmax {index : Nat} {x y : Int64} (hk : Ok K cc nL own Ts R) (hdg : decode cc pc = .ok (.invokestatic index, 3)) (h1 : Cond.methodLink own index Lib.MathLoose.max_long.x ∈ Ts) (h2 : Cond.static Lib.MathLoose.max_long.x ∈ Ts) (h3 : Cond.initialized "java/lang/Math" ∈ Ts) (h4 : Cond.code Lib.MathLoose.max_long.x Lib.MathLoose.max_long.code 4 (some .long) ∈ Ts) (hf : 1 ≤ R.frames) (hlo : (st.map fun v => v.category).sum + 15 ≤ R.locals) (hc : ce ≤ R.cells) (hs : sl ≤ R.slots) (k : V K nL ws ce sl (pc + 3) lv (.long (if y < x then x else y) :: st)) : V K nL ws ce sl pc lv (.long y :: .long x :: st) := by
  intro H locs ls hP hD hS hl T hT X
  obtain ⟨vm', X', stp⟩ := va_max_longV X hk.1 hk.2.2.2.1 (hk.ts _ h1) (hk.ts _ h2) (hk.ts _ h3) (hk.ts _ h4) (g := F0 (km K) pc ls (.long y :: .long x :: st)) rfl (hl.1.trans hk.2.2.1.symm) (a := x) (b := y) (rest := st) rfl (by rw [hk.2.1]; exact hdg) (by rw [hk.room]; exact hf) (by rw [hk.room]; show 2 * 0 + _ + 15 ≤ _; omega) (by rw [hk.room]; exact hc) (by rw [hk.room]; exact hs)
  obtain ⟨t, a1, b1⟩ := k H locs ls hP hD hS hl (T.setVm vm') hT X'
  exact ⟨t, stp t a1, b1⟩
theorem v_lmin {index : Nat} {x y : Int64} (hk : Ok K cc nL own Ts R) (hdg : decode cc pc = .ok (.invokestatic index, 3)) (h1 : Cond.methodLink own index Lib.MathLoose.min_long.x ∈ Ts) (h2 : Cond.static Lib.MathLoose.min_long.x ∈ Ts) (h3 : Cond.initialized "java/lang/Math" ∈ Ts) (h4 : Cond.code Lib.MathLoose.min_long.x Lib.MathLoose.min_long.code 4 (some .long) ∈ Ts) (hf : 1 ≤ R.frames) (hlo : (st.map fun v => v.category).sum + 15 ≤ R.locals) (hc : ce ≤ R.cells) (hs : sl ≤ R.slots) (k : V K nL ws ce sl (pc + 3) lv (.long (if y < x then y else x) :: st)) : V K nL ws ce sl pc lv (.long y :: .long x :: st) := by
  intro H locs ls hP hD hS hl T hT X
  obtain ⟨vm', X', stp⟩ := va_min_longV X hk.1 hk.2.2.2.1 (hk.ts _ h1) (hk.ts _ h2) (hk.ts _ h3) (hk.ts _ h4) (g := F0 (km K) pc ls (.long y :: .long x :: st)) rfl (hl.1.trans hk.2.2.1.symm) (a := x) (b := y) (rest := st) rfl (by rw [hk.2.1]; exact hdg) (by rw [hk.room]; exact hf) (by rw [hk.room]; show 2 * 0 + _ + 15 ≤ _; omega) (by rw [hk.room]; exact hc) (by rw [hk.room]; exact hs)
  obtain ⟨t, a1, b1⟩ := k H locs ls hP hD hS hl (T.setVm vm') hT X'
  exact ⟨t, stp t a1, b1⟩
theorem v_copyl {index a a0 n0 n1 : Nat} {f g : Nat → Int64} {sp dp n : Int32} {ws' : va_W} (hk : Ok K cc nL own Ts R) (hdg : decode cc pc = .ok (.invokestatic index, 3)) (h1 : Cond.methodLink own index arraycopyName ∈ Ts) (h2 : Cond.native arraycopyName ∈ Ts) (h3 : Cond.static arraycopyName ∈ Ts) (h4 : Cond.initialized "java/lang/System" ∈ Ts) (q0 q1 : Nat) (ha0 : ws[q0]? = some (a0, .inl (gJ (kG K), n0, .inr (.inl f)))) (ha1 : ws[q1]? = some (a, .inl (gJ (kG K), n1, .inr (.inl g)))) (e1 : ¬ sp < 0) (e2 : ¬ dp < 0) (e3 : ¬ n < 0) (e4 : sp.toNatClampNeg + n.toNatClampNeg ≤ n0) (e5 : dp.toNatClampNeg + n.toNatClampNeg ≤ n1) (hf : 1 ≤ R.frames) (hlo : (st.map fun v => v.category).sum + (nativeFrameWords "java/lang/System" "arraycopy" 5 + 11) ≤ R.locals) (hw : ws.set q1 (a, .inl (gJ (kG K), n1, .inr (.inl (va_cpy f g sp.toNatClampNeg dp.toNatClampNeg n.toNatClampNeg)))) = ws') (k : V K nL ws' ce sl (pc + 3) lv st) : V K nL ws ce sl pc lv (.int n :: .int dp :: .ref a :: .int sp :: .ref a0 :: st) := by
  subst hw
  intro H locs ls hP hD hS hl
  exact va_copyl (ty := .long) hk.1 hk.2.1 (hk.2.2.1.trans hl.1.symm) hk.2.2.2.1 (hk.ts _ h1) (hk.ts _ h2) (hk.ts _ h3) (hk.ts _ h4) hk.G hP hD hS q0 q1 1 1 ha0 ha1 rfl rfl rfl e1 e2 e3 e4 e5 (fun _ _ => rfl) (by rw [hk.room]; exact hf) (by rw [hk.room]; exact hlo) hdg (fun H1 locs1 hP1 hD1 hS1 => k H1 locs1 ls hP1 hD1 hS1 hl)
theorem v_tableIn {dflt lo hi off : Int} {offs : Array Int} {len tgt : Nat} {x k0 : Int32} (hk : Ok K cc nL own Ts R) (hdg : decode cc pc = .ok (.tableswitch dflt lo hi offs, len)) (hx : x = k0) (h1 : ¬ k0.toInt < lo) (h2 : ¬ hi < k0.toInt) (ho : offs[(k0.toInt - lo).toNat]? = some off) (ht : (pc : Int) + off = (tgt : Int)) (k : V K nL ws ce sl tgt lv st) : V K nL ws ce sl pc lv (.int x :: st) := by
  subst hx
  exact fun H locs ls hP hD hS hl => lv_tableIn hk.1 hk.2.1 hdg h1 h2 ho ht (k H locs ls hP hD hS hl)
theorem v_tableOut {dflt lo hi : Int} {offs : Array Int} {len tgt : Nat} {x : Int32} (hk : Ok K cc nL own Ts R) (hdg : decode cc pc = .ok (.tableswitch dflt lo hi offs, len)) (h1 : x.toInt < lo ∨ hi < x.toInt) (ht : (pc : Int) + dflt = (tgt : Int)) (k : V K nL ws ce sl tgt lv st) : V K nL ws ce sl pc lv (.int x :: st) :=
  fun H locs ls hP hD hS hl => lv_tableOut hk.1 hk.2.1 hdg h1 ht (k H locs ls hP hD hS hl)
theorem ne_toInt {x k0 : Int32} (h : ¬ x = k0) : x.toInt ≠ k0.toInt := fun e => h (Int32.toInt_inj.mp e)
theorem t_out2 {x : Int32} (h0 : ¬ x = 0) (h1 : ¬ x = 1) (h2 : ¬ x = 2) : x.toInt < 0 ∨ 2 < x.toInt := by
  have a0 := ne_toInt h0
  have a1 := ne_toInt h1
  have a2 := ne_toInt h2
  rw [show (0 : Int32).toInt = 0 from rfl] at a0
  rw [show (1 : Int32).toInt = 1 from rfl] at a1
  rw [show (2 : Int32).toInt = 2 from rfl] at a2
  omega
theorem t_out3 {x : Int32} (h0 : ¬ x = 0) (h1 : ¬ x = 1) (h2 : ¬ x = 2) (h3 : ¬ x = 3) : x.toInt < 0 ∨ 3 < x.toInt := by
  have a := t_out2 h0 h1 h2
  have a3 := ne_toInt h3
  rw [show (3 : Int32).toInt = 3 from rfl] at a3
  omega
theorem v_alenI {a : Nat} {x : vp_A} {v : Int32} (hk : Ok K cc nL own Ts R) (hdg : decode cc pc = .ok (.arraylength, 1)) (q0 : Nat) (ha : ws[q0]? = some (a, .inl (gI (kG K), x))) (hv : nI x.1 = v) (k : V K nL ws ce sl (pc + 1) lv (.int v :: st)) : V K nL ws ce sl pc lv (.ref a :: st) :=
  fun H locs ls hP hD hS hl => va_alen hk.1 hk.2.1 hk.G hP q0 0 ha rfl hv hdg (k H locs ls hP hD hS hl)
theorem v_alenJ {a : Nat} {x : vp_A} {v : Int32} (hk : Ok K cc nL own Ts R) (hdg : decode cc pc = .ok (.arraylength, 1)) (q0 : Nat) (ha : ws[q0]? = some (a, .inl (gJ (kG K), x))) (hv : nI x.1 = v) (k : V K nL ws ce sl (pc + 1) lv (.int v :: st)) : V K nL ws ce sl pc lv (.ref a :: st) :=
  fun H locs ls hP hD hS hl => va_alen hk.1 hk.2.1 hk.G hP q0 1 ha rfl hv hdg (k H locs ls hP hD hS hl)
theorem v_alenB {a : Nat} {x : vp_A} {v : Int32} (hk : Ok K cc nL own Ts R) (hdg : decode cc pc = .ok (.arraylength, 1)) (q0 : Nat) (ha : ws[q0]? = some (a, .inl (gB (kG K), x))) (hv : nI x.1 = v) (k : V K nL ws ce sl (pc + 1) lv (.int v :: st)) : V K nL ws ce sl pc lv (.ref a :: st) :=
  fun H locs ls hP hD hS hl => va_alen hk.1 hk.2.1 hk.G hP q0 3 ha rfl hv hdg (k H locs ls hP hD hS hl)
theorem v_alenF {a : Nat} {x : vp_A} {v : Int32} (hk : Ok K cc nL own Ts R) (hdg : decode cc pc = .ok (.arraylength, 1)) (q0 : Nat) (ha : ws[q0]? = some (a, .inl (gF (kG K), x))) (hv : nI x.1 = v) (k : V K nL ws ce sl (pc + 1) lv (.int v :: st)) : V K nL ws ce sl pc lv (.ref a :: st) :=
  fun H locs ls hP hD hS hl => va_alen hk.1 hk.2.1 hk.G hP q0 4 ha rfl hv hdg (k H locs ls hP hD hS hl)
/-- Math.max, Math.min of ints -/
theorem v_mmax {index : Nat} {x y : Int32} (hk : Ok K cc nL own Ts R) (hdg : decode cc pc = .ok (.invokestatic index, 3)) (h1 : Cond.methodLink own index Lib.Math.max.name ∈ Ts) (h2 : Cond.static Lib.Math.max.name ∈ Ts) (h3 : Cond.initialized "java/lang/Math" ∈ Ts) (h4 : Cond.code Lib.Math.max.name Lib.Math.max.code 2 (some .int) ∈ Ts) (hf : 1 ≤ R.frames) (hlo : (st.map fun v => v.category).sum + 13 ≤ R.locals) (hc : ce ≤ R.cells) (hs : sl ≤ R.slots) (k : V K nL ws ce sl (pc + 3) lv (.int (if x < y then y else x) :: st)) : V K nL ws ce sl pc lv (.int y :: .int x :: st) := by
  intro H locs ls hP hD hS hl
  exact va_mmax hk.1 hk.2.1 (hk.2.2.1.trans hl.1.symm) hk.2.2.2.1 (hk.ts _ h1) (hk.ts _ h2) (hk.ts _ h3) (hk.ts _ h4) (by rw [hk.room]; exact hf) (by rw [hk.room]; exact hlo) (by rw [hk.room]; exact hc) (by rw [hk.room]; exact hs) hdg (k H locs ls hP hD hS hl)
theorem v_mmin {index : Nat} {x y : Int32} (hk : Ok K cc nL own Ts R) (hdg : decode cc pc = .ok (.invokestatic index, 3)) (h1 : Cond.methodLink own index Lib.Math.min.name ∈ Ts) (h2 : Cond.static Lib.Math.min.name ∈ Ts) (h3 : Cond.initialized "java/lang/Math" ∈ Ts) (h4 : Cond.code Lib.Math.min.name Lib.Math.min.code 2 (some .int) ∈ Ts) (hf : 1 ≤ R.frames) (hlo : (st.map fun v => v.category).sum + 13 ≤ R.locals) (hc : ce ≤ R.cells) (hs : sl ≤ R.slots) (k : V K nL ws ce sl (pc + 3) lv (.int (if y < x then y else x) :: st)) : V K nL ws ce sl pc lv (.int y :: .int x :: st) := by
  intro H locs ls hP hD hS hl
  exact va_mmin hk.1 hk.2.1 (hk.2.2.1.trans hl.1.symm) hk.2.2.2.1 (hk.ts _ h1) (hk.ts _ h2) (hk.ts _ h3) (hk.ts _ h4) (by rw [hk.room]; exact hf) (by rw [hk.room]; exact hlo) (by rw [hk.room]; exact hc) (by rw [hk.room]; exact hs) hdg (k H locs ls hP hD hS hl)
/-- Object's constructor -/
theorem v_objInit {index a : Nat} (hk : Ok K cc nL own Ts R) (hdg : decode cc pc = .ok (.invokespecial index, 3)) (h1 : Cond.methodLink own index Lib.objectInit ∈ Ts) (h2 : Cond.instanceMethod Lib.objectInit ∈ Ts) (h3 : Cond.code Lib.objectInit ⟨#[0xb1]⟩ 1 none ∈ Ts) (hf : 1 ≤ R.frames) (hlo : 2 * 0 + (st.map fun v => v.category).sum + 12 ≤ R.locals) (k : V K nL ws ce sl (pc + 3) lv st) : V K nL ws ce sl pc lv (.ref a :: st) := by
  intro H locs ls hP hD hS hl
  exact W.objInit hk.1 hk.2.1 hk.2.2.2.1 (hk.ts _ h1) (hk.ts _ h2) (hk.ts _ h3) rfl (hl.1.trans hk.2.2.1.symm) rfl hdg (by rw [hk.room]; exact hf) (by rw [hk.room]; exact hlo) (k H locs ls hP hD hS hl)
/-- making an object; its cell stands last -/
theorem v_new {C : String} {T : u_T} {N ci index : Nat} {fs : List Value} (hk : Ok K cc nL own Ts R) (hdg : decode cc pc = .ok (.new index, 3)) (hin : ∀ w ∈ u_ws C T N, w ∈ Ts) (ty : Nat → FieldType) (hty : ∀ k, k < N → parseFieldDescriptor (T k).2.2.1 = some (ty k)) (h1 : Cond.classLink own index C ∈ Ts) (h2 : Cond.instantiable C N ∈ Ts) (h3 : Cond.initialized C ∈ Ts) (hc : vwCl[ci]? = some (C, T, N)) (hfs : ∀ j, j < N → defaultValue (ty j) = vp_V fs j) (hcells : ce + 1 ≤ R.cells) (hslots : sl + N ≤ R.slots) (k : ∀ q : Nat, V K nL (ws ++ [(q, .inr (ci, fs))]) (ce + 1) (sl + N) (pc + 3) lv (.ref q :: st)) : V K nL ws ce sl pc lv st := by
  intro H locs ls hP hD hS hl
  exact va_new hk.1 hk.2.1 hk.ts hin ty hty hk.2.2.2.1 (hk.ts _ h1) (hk.ts _ h2) (hk.ts _ h3) hk.G hP hD hS hk.A hc hfs (by rw [hk.room]; exact hcells) (by rw [hk.room]; exact hslots) hdg (fun q H1 hP1 hD1 hS1 => k q H1 locs ls hP1 hD1 hS1 hl)
theorem v_newI {n : Int32} {N : Nat} (hk : Ok K cc nL own Ts R) (hdg : decode cc pc = .ok (.newarray .int, 2)) (ha : Cond.arrayClass .int ∈ Ts) (hn : n = nI N) (hN : N < 2 ^ 20) (hcells : ce + 1 ≤ R.cells) (hslots : sl + N ≤ R.slots) (k : ∀ q : Nat, V K nL (ws ++ [(q, .inl (gI (kG K), N, .inl (fun _ => 0)))]) (ce + 1) (sl + N) (pc + 2) lv (.ref q :: st)) : V K nL ws ce sl pc lv (.int n :: st) := by
  subst hn
  intro H locs ls hP hD hS hl
  refine va_newa (atype := .int) (a0 := (N, .inl (fun _ => 0))) (ty := .int) hk.1 hk.2.1 (hk.ts _ ha) rfl hk.G hP hD hS hk.A (fun cA => rfl) (nI_pos (by omega)) (nI_clamp (by omega)) (by show N * 4 ≤ _; omega) (by rw [hk.room]; exact hcells) (by rw [hk.room]; exact hslots) hdg (fun q cA H1 hK1 hP1 hD1 hS1 => ?_)
  have e1 := (hK1.2 5 _ rfl).2
  have e2 := (hk.G.2 0 _ rfl).2
  have e : cA = gI (kG K) := Option.some.inj (e1.symm.trans e2)
  subst e
  exact k q H1 locs ls hP1 hD1 hS1 hl
theorem v_newJ {n : Int32} {N : Nat} (hk : Ok K cc nL own Ts R) (hdg : decode cc pc = .ok (.newarray .long, 2)) (ha : Cond.arrayClass .long ∈ Ts) (hn : n = nI N) (hN : N < 2 ^ 20) (hcells : ce + 1 ≤ R.cells) (hslots : sl + N ≤ R.slots) (k : ∀ q : Nat, V K nL (ws ++ [(q, .inl (gJ (kG K), N, .inr (.inl (fun _ => 0))))]) (ce + 1) (sl + N) (pc + 2) lv (.ref q :: st)) : V K nL ws ce sl pc lv (.int n :: st) := by
  subst hn
  intro H locs ls hP hD hS hl
  refine va_newa (atype := .long) (a0 := (N, .inr (.inl (fun _ => 0)))) (ty := .long) hk.1 hk.2.1 (hk.ts _ ha) rfl hk.G hP hD hS hk.A (fun cA => rfl) (nI_pos (by omega)) (nI_clamp (by omega)) (by show N * 8 ≤ _; omega) (by rw [hk.room]; exact hcells) (by rw [hk.room]; exact hslots) hdg (fun q cA H1 hK1 hP1 hD1 hS1 => ?_)
  have e1 := (hK1.2 5 _ rfl).2
  have e2 := (hk.G.2 1 _ rfl).2
  have e : cA = gJ (kG K) := Option.some.inj (e1.symm.trans e2)
  subst e
  exact k q H1 locs ls hP1 hD1 hS1 hl
end VR
/-- a contract over its own cells w: arguments av, answer and cells behind it by 'post', at most mc cells of ms slots made -/
def cPc (G : GG) (av : List Value) (w : va_W) (sz : Nat) : Array Value → State → Prop := va_Pc av (fun U => U.heap.size = sz ∧ va_P G.1 vwCl w U.heap ∧ va_K G.1 vwCl (gT G) U ∧ va_D (fun _ => True) w ∧ gS (va_A w sz) U U.heap)
def cQc (G : GG) (w : va_W) (sz : Nat) (post : Option Value → va_W → Prop) : Array Value → State → Outcome → State → Prop := fun _ st oc t => ∃ (v : Option Value) (w' : va_W), oc = .returned v ∧ post v w' ∧ va_P G.1 vwCl w' t.heap ∧ va_D (va_A w sz) w' ∧ va_F (va_A w sz) st t
def Ctr (l : Launch) (G : GG) (y : MethodName) (wsy : List Cond) (rm : Room) (av : List Value) (w : va_W) (post : Option Value → va_W → Prop) : Prop := ∀ sz : Nat, Met l y wsy rm (cPc G av w sz) (cQc G w sz post) rm.cells rm.slots (va_A w sz)
theorem cPc_blind {G : GG} {av : List Value} {w : va_W} {sz : Nat} : FrameBlind (cPc G av w sz) := by
  intro a U g mk q
  obtain ⟨q0, q1, qP, qK, qD, qS⟩ := q
  exact ⟨q0, q1, qP, va_K.moved (u := U) (U := U.calling g mk a) (Vm.Alike.refl U.vm) qK, qD, gS.moved (u := U) (U := U.calling g mk a) (Vm.Alike.refl U.vm) qS⟩
def RetOk (ret : Option FieldType) (cc : ByteArray) (pc : Nat) (v : Option Value) : Prop := match ret, v with
  | none, none => decode cc pc = .ok (.return_, 1)
  | some .int, some (.int _) => decode cc pc = .ok (.ireturn, 1)
  | some .boolean, some (.int x) => decode cc pc = .ok (.ireturn, 1) ∧ narrow .boolean (.int x) = .int x
  | some .long, some (.long _) => decode cc pc = .ok (.lreturn, 1)
  | some (.object _), some (.ref _) => decode cc pc = .ok (.areturn, 1)
  | _, _ => False
/-- how a walk ends -/
def Rt (K : Cx) (cc : ByteArray) (nL : Nat) (ret : Option FieldType) (R : Room) (post : Option Value → va_W → Prop) : Prop :=
  ∀ (v : Option Value) (w' : va_W) (ce sl pc : Nat) (lv : LV), post v w' → ce ≤ R.cells → sl ≤ R.slots → RetOk ret cc pc v → V K nL w' ce sl pc lv v.toList
theorem ctr_entry {l : Launch} {G : GG} {y : MethodName} {wsy ws' : List Cond} {rm : Room} {av : List Value} {w : va_W} {post : Option Value → va_W → Prop} {cc : ByteArray} {maxL : Nat} {ret : Option FieldType} (hy : plainName y.cls = true) (hw : wsy = Cond.code y cc maxL ret :: ws') (hlen : (lg_sl av).length ≤ maxL) {lv0 : LV} (hlv : lv_args 0 av = lv0)
    (body : ∀ K : Cx, kl K = l → kG K = G → Ok K cc maxL y.cls wsy rm → (kM K).name = y.name → Rt K cc maxL ret rm post → V K maxL w 0 0 0 lv0 []) : Ctr l G y wsy rm av w post := by
  subst hlv
  intro sz
  refine Met.ofW (cc := cc) (maxL := maxL) (ret := ret) hy hw ?_
  intro p e s m args below meth c s₁ B hml hv
  obtain ⟨rfl, hsz, hP, hK, hD0, hG⟩ := hv
  subst hsz
  have hD := hD0.self (sz := s.heap.size)
  have hl := lv_entry av (n := maxL) hlen
  have hlocks := B.notSynchronized
  have hr := B.returns
  rw [lg_entry_eq]
  refine body (p, l, e, rm, s, m, av.toArray, below, meth, c, MQ below (cQc G w s.heap.size post) av.toArray s rm.cells rm.slots (va_A w s.heap.size), va_A w s.heap.size, G) rfl rfl ⟨B.exec, B.bytes, hml, findClass_of_methodNamed B.named, atoms_spec (ws := wsy) B.pre, hK, fun q h => Or.inr h, hG, rfl⟩ (name_of_methodNamed B.named B.method).1 ?_ s.heap [] _ hP hD va_S.rf hl
  intro v w' ce sl pc lv hpost hce hsl hret H locs ls hP' hD' hS' hl'
  refine W.widen hce hsl ?_
  have hq : ∀ t : State, t.heap = H → s.WarmedH t.vm → cQc G w s.heap.size post av.toArray s (.returned v) t := fun t ht _ => ⟨v, w', rfl, hpost, by rw [ht]; exact hP', hD', hS'.F ht⟩
  match ret, v, hret, hr, hq with
  | none, none, hret, hr, hq => exact W.vret B.exec B.bytes hr hq hS'.2.2 hret hlocks
  | some .int, some (.int x), hret, hr, hq => exact W.iret B.exec B.bytes hr hq hS'.2.2 hret hlocks
  | some .boolean, some (.int x), hret, hr, hq => exact W.zret B.exec B.bytes hr hret.2 hq hS'.2.2 hret.1 hlocks
  | some .long, some (.long x), hret, hr, hq => exact W.lret B.exec B.bytes hr hq hS'.2.2 hret hlocks
  | some (.object n), some (.ref a), hret, hr, hq => exact W.aret B.exec B.bytes hr (Or.inl ⟨n, rfl⟩) (Or.inr ⟨a, rfl⟩) hq hS'.2.2 hret hlocks
section VC
variable {K : Cx} {cc : ByteArray} {nL : Nat} {own : String} {Ts : List Cond} {R : Room} {ws : va_W} {ce sl pc : Nat} {lv : LV} {st : List Value}
theorem v_run {y : MethodName} {rm : Room} {av : List Value} {wc wr : va_W} {post : Option Value → va_W → Prop} {stk : List Value} {a : Array Value} (hk : Ok K cc nL own Ts R) (isC isR : List Nat) (hC : isC.map (fun i => ws[i]?) = wc.map some) (hR : isR.map (fun i => ws[i]?) = wr.map some) (hn : va_nd isR = true) (hdis : ∀ i ∈ isR, i ∉ isC)
    (hrun : ∀ (H : Heap) (locs : List Loc) (ls : Array Slot), va_P (kG K).1 vwCl ws H → va_P (kG K).1 vwCl wc H → (∀ q, va_A wc H.size q → kA K q) → va_S (kA K) (ks K).heap H locs → lv_has ls nL lv → (∀ U : State, U.heap = H → (ks K).WarmedH U.vm → cPc (kG K) av wc H.size av.toArray U) → va_Run (kp K) (kl K) (ke K) (kR K) (ks K) (km K) (ka K) (kb K) (kM K) (kc K) H locs ce sl rm.cells rm.slots (F0 (km K) pc ls stk) st (cQc (kG K) wc H.size post a) (va_A wc H.size))
    (hnC : va_nd isC = true) (kk : ∀ (v : Option Value) (w' : va_W), post v w' → V K nL (wr ++ w') (ce + rm.cells) (sl + rm.slots) (pc + 3) lv (v.toList ++ st)) : V K nL ws ce sl pc lv stk := by
  intro H locs ls hP hD hS hl
  have hPc : va_P (kG K).1 vwCl wc H := by
    refine hP.sub isC ?_
    have : isC.filterMap (fun i => ws[i]?) = (isC.map (fun i => ws[i]?)).filterMap id := by rw [List.filterMap_map]; rfl
    rw [this, hC, List.filterMap_map]
    show wc.filterMap some = wc
    exact List.filterMap_some
  have hDc := hD.sub isC hnC hC
  have hFc := va_free (wc := wc) hD hS hk.A isC hC
  have hpre : ∀ U : State, U.heap = H → (ks K).WarmedH U.vm → cPc (kG K) av wc H.size av.toArray U := by
    intro U hU hW
    refine ⟨rfl, by rw [hU], by rw [hU]; exact hPc, va_K.moved hW.alike hk.G, hDc.weaken (fun _ _ _ _ => trivial), ?_⟩
    rw [hU]
    exact ((hk.stA.kept (fun a h1 h2 => hS.2.1 a h1 h2)).narrow hFc).moved hW.alike
  intro T hT X
  obtain ⟨v, st₀, t, T', L, h0, X', hL, e1, e2, ⟨v', w', hv, hp, hP1, hD1, hz, hk1⟩, stp⟩ := hrun H locs ls hP hPc hFc hS hl hpre T hT X
  cases hv
  rw [h0] at hz hk1
  have hk2 : ∀ q : Nat, q < H.size → ¬ va_A wc H.size q → T'.heap[q]? = H[q]? := fun q h1 h2 => by rw [e1]; exact hk1 q h1 h2
  obtain ⟨hPj, hDj⟩ := va_join (wr := wr) (w1 := w') hP hD isC isR hC hR hn hdis hk2 hFc (by rw [e1]; exact hP1) hD1
  obtain ⟨t2, a1, b1⟩ := kk v w' hp T'.heap (locs ++ L) ls hPj hDj ⟨Nat.le_trans hS.1 (by rw [e1]; exact hz), fun q h1 h2 => by rw [hk2 q (Nat.lt_of_lt_of_le h1 hS.1) (fun z => h2 (hFc q z))]; exact hS.2.1 q h1 h2, fun q hq => by
      rcases List.mem_append.mp hq with h | h
      · exact hS.2.2 q h
      · exact hFc _ (hL q h)⟩ hl T' rfl X'
  exact ⟨t2, stp t2 a1, b1⟩
theorem v_callS {y : MethodName} {wsy ws' : List Cond} {bytes : ByteArray} {maxL : Nat} {ret : Option FieldType} {rm : Room} {av : List Value} {wc wr : va_W} {post : Option Value → va_W → Prop} {stk : List Value} {index n : Nat} (hk : Ok K cc nL own Ts R) (hdg : decode cc pc = .ok (.invokestatic index, 3)) (hM : Ctr (kl K) (kG K) y wsy rm av wc post) (hG : GoodIn Ts (va_wsS own index y wsy)) (hw : wsy = Cond.code y bytes maxL ret :: ws')
    (hd : y.cls ≠ "java/lang/invoke/MethodHandle" ∧ y.cls ≠ "java/lang/invoke/VarHandle" ∧ (parseMethodDescriptor y.desc).map (fun d => d.parameters.length) = some n) (hfr : rm.frames + 1 ≤ R.frames ∧ 8 + (maxL + 11) + rm.locals ≤ R.locals) (hroom : ce + rm.cells ≤ R.cells ∧ sl + rm.slots ≤ R.slots) (hn : av.length = n) (hst : stk = av.reverse ++ st) (hst8 : (st.map fun v => v.category).sum ≤ 8)
    (isC isR : List Nat) (hC : isC.map (fun i => ws[i]?) = wc.map some) (hR : isR.map (fun i => ws[i]?) = wr.map some) (hnC : va_nd isC = true) (hnR : va_nd isR = true) (hdis : ∀ i ∈ isR, i ∉ isC)
    (kk : ∀ (v : Option Value) (w' : va_W), post v w' → V K nL (wr ++ w') (ce + rm.cells) (sl + rm.slots) (pc + 3) lv (v.toList ++ st)) : V K nL ws ce sl pc lv stk := by
  refine v_run (y := y) (rm := rm) (av := av) (a := av.toArray) hk isC isR hC hR hnR hdis ?_ hnC kk
  intro H locs ls hP hPc hFc hS hl hpre
  exact va_runS (As := av) (rest := st) (Ts := Ts) ⟨hk.1, hk.2.1, hk.2.2.1, hk.2.2.2.1, hk.ts⟩ (hM H.size) (va_cwS n hk.ts hG hw rfl rfl hd (by rw [hk.room]; exact hfr)) ⟨cPc_blind, hpre⟩ rfl hn hl.1 hst (lv_room hst8) hdg (by rw [hk.room]; exact hroom)
theorem v_callV {y : MethodName} {wsy ws' : List Cond} {bytes : ByteArray} {maxL : Nat} {ret : Option FieldType} {rm : Room} {av As : List Value} {wc wr : va_W} {post : Option Value → va_W → Prop} {stk : List Value} {index n b : Nat} {C : String} {T : u_T} {N ci : Nat} {fs : List Value} (hk : Ok K cc nL own Ts R) (hdg : decode cc pc = .ok (.invokevirtual index, 3)) (hM : Ctr (kl K) (kG K) y wsy rm av wc post) (hav : av = .ref b :: As) (hG : GoodIn Ts (wsV own index C y wsy)) (hw : wsy = Cond.code y bytes maxL ret :: ws')
    (hd : y.cls = C ∧ y.cls ≠ "java/lang/invoke/MethodHandle" ∧ y.cls ≠ "java/lang/invoke/VarHandle" ∧ (parseMethodDescriptor y.desc).map (fun d => d.parameters.length) = some n) (hfr : rm.frames + 1 ≤ R.frames ∧ 8 + (maxL + 11) + rm.locals ≤ R.locals) (hroom : ce + rm.cells ≤ R.cells ∧ sl + rm.slots ≤ R.slots) (hn : As.length = n) (hst : stk = As.reverse ++ .ref b :: st) (hst8 : (st.map fun v => v.category).sum ≤ 8)
    (q0 : Nat) (hq0 : ws[q0]? = some (b, .inr (ci, fs))) (hc : vwCl[ci]? = some (C, T, N))
    (isC isR : List Nat) (hC : isC.map (fun i => ws[i]?) = wc.map some) (hR : isR.map (fun i => ws[i]?) = wr.map some) (hnC : va_nd isC = true) (hnR : va_nd isR = true) (hdis : ∀ i ∈ isR, i ∉ isC)
    (kk : ∀ (v : Option Value) (w' : va_W), post v w' → V K nL (wr ++ w') (ce + rm.cells) (sl + rm.slots) (pc + 3) lv (v.toList ++ st)) : V K nL ws ce sl pc lv stk := by
  subst hav
  refine v_run (y := y) (rm := rm) (av := .ref b :: As) (a := (Value.ref b :: As).toArray) hk isC isR hC hR hnR hdis ?_ hnC kk
  intro H locs ls hP hPc hFc hS hl hpre
  exact va_runV (As := As) (rest := st) (Ts := Ts) ⟨hk.1, hk.2.1, hk.2.2.1, hk.2.2.2.1, hk.ts⟩ (hM H.size) (cwV n hk.ts hG hw rfl rfl hd (by rw [hk.room]; exact hfr)) ⟨cPc_blind, va_recv hk.G hP hc hq0, hpre⟩ rfl hn hl.1 hst (lv_room hst8) hdg (by rw [hk.room]; exact hroom)
theorem v_callI {y : MethodName} {wsy ws' : List Cond} {bytes : ByteArray} {maxL : Nat} {rm : Room} {av As : List Value} {wc wr : va_W} {post : Option Value → va_W → Prop} {stk : List Value} {index n b : Nat} (hk : Ok K cc nL own Ts R) (hdg : decode cc pc = .ok (.invokespecial index, 3)) (hM : Ctr (kl K) (kG K) y wsy rm av wc post) (hav : av = .ref b :: As) (hG : GoodIn Ts wsy) (hw : wsy = Cond.code y bytes maxL none :: ws') (h1 : Cond.initialized y.cls ∈ Ts) (h2 : Cond.methodLink own index y ∈ Ts) (h3 : Cond.instanceMethod y ∈ Ts) (hy : y.name = "<init>")
    (hd : y.cls ≠ "java/lang/invoke/MethodHandle" ∧ y.cls ≠ "java/lang/invoke/VarHandle" ∧ (parseMethodDescriptor y.desc).map (fun d => d.parameters.length) = some n) (hfr : rm.frames + 1 ≤ R.frames ∧ 8 + (maxL + 11) + rm.locals ≤ R.locals) (hroom : ce + rm.cells ≤ R.cells ∧ sl + rm.slots ≤ R.slots) (hn : As.length = n) (hst : stk = As.reverse ++ .ref b :: st) (hst8 : (st.map fun v => v.category).sum ≤ 8)
    (isC isR : List Nat) (hC : isC.map (fun i => ws[i]?) = wc.map some) (hR : isR.map (fun i => ws[i]?) = wr.map some) (hnC : va_nd isC = true) (hnR : va_nd isR = true) (hdis : ∀ i ∈ isR, i ∉ isC)
    (kk : ∀ (v : Option Value) (w' : va_W), post v w' → V K nL (wr ++ w') (ce + rm.cells) (sl + rm.slots) (pc + 3) lv (v.toList ++ st)) : V K nL ws ce sl pc lv stk := by
  subst hav
  refine v_run (y := y) (rm := rm) (av := .ref b :: As) (a := (Value.ref b :: As).toArray) hk isC isR hC hR hnR hdis ?_ hnC kk
  intro H locs ls hP hPc hFc hS hl hpre
  exact va_runI (As := As) (rest := st) (Ts := Ts) ⟨hk.1, hk.2.1, hk.2.2.1, hk.2.2.2.1, hk.ts⟩ (hM H.size) (cwI n hk.ts hG hw rfl rfl (hk.ts _ h1) (hk.ts _ h2) (hk.ts _ h3) hy hd (by rw [hk.room]; exact hfr)) ⟨cPc_blind, hpre⟩ rfl hn hl.1 hst (lv_room hst8) hdg (by rw [hk.room]; exact hroom)
end VC
/-- the world's cells in another order -/
theorem v_perm {K : Cx} {nL : Nat} {ws ws' : va_W} {ce sl pc : Nat} {lv : LV} {st : List Value} (is : List Nat) (h1 : is.filterMap (fun i => ws[i]?) = ws') (h2 : is.map (fun i => ws[i]?) = ws'.map some) (hn : va_nd is = true) (k : V K nL ws' ce sl pc lv st) : V K nL ws ce sl pc lv st :=
  fun H locs ls hP hD hS hl => k H locs ls (hP.sub is h1) (hD.sub is hn h2) hS hl
section MR
variable {α β γ : Type} {g : Option α → Option β} {r : β}
theorem it_t {c : Prop} [Decidable c] {a b : Option α} (h : g (if c then a else b) = some r) (hc : c) : g a = some r := by rw [if_pos hc] at h; exact h
theorem it_f {c : Prop} [Decidable c] {a b : Option α} (h : g (if c then a else b) = some r) (hc : ¬ c) : g b = some r := by rw [if_neg hc] at h; exact h
theorem ok_e {c : Prop} [Decidable c] {a : Option α} (hg : g none = none) (h : g (if c then a else none) = some r) : c ∧ g a = some r := by
  by_cases hc : c
  · rw [if_pos hc] at h; exact ⟨hc, h⟩
  · rw [if_neg hc, hg] at h; cases h
theorem nz_e {c : Prop} [Decidable c] {a : Option α} (hg : g none = none) (h : g (if c then none else a) = some r) : ¬ c ∧ g a = some r := by
  by_cases hc : c
  · rw [if_pos hc, hg] at h; cases h
  · rw [if_neg hc] at h; exact ⟨hc, h⟩
theorem bd_e {o : Option γ} {f : γ → Option α} (hg : g none = none) (h : g (o.bind f) = some r) : ∃ x, o = some x ∧ g (f x) = some r := by
  cases o with
  | none => rw [Option.bind_none, hg] at h; cases h
  | some x => exact ⟨x, rfl, h⟩
theorem lt_e {a : γ} {f : γ → Option α} (h : g (lt a f) = some r) : ∃ x, x = a ∧ g (f x) = some r := ⟨a, rfl, h⟩
theorem lp_s {α β : Type} {body : α → Option (α ⊕ β)} {n : Nat} {a : α} {b : β} (h : lp body (n + 1) a = some b) : lpk (lp body n) (body a) = some b := h
theorem id_e {o : Option α} {x : α} (h : o = some x) : id o = some x := h
end MR
def RoomGe (R rm : Room) : Prop := rm.frames ≤ R.frames ∧ rm.cells ≤ R.cells ∧ rm.slots ≤ R.slots ∧ rm.locals ≤ R.locals
theorem RoomGe.rf {R : Room} : RoomGe R R := ⟨Nat.le_refl _, Nat.le_refl _, Nat.le_refl _, Nat.le_refl _⟩
theorem frok {R rm : Room} {a b : Nat} (h : RoomGe R rm) (h1 : a ≤ rm.frames) (h2 : b ≤ rm.locals) : a ≤ R.frames ∧ b ≤ R.locals := ⟨Nat.le_trans h1 h.1, Nat.le_trans h2 h.2.2.2⟩
theorem roomk {R rm : Room} {a b : Nat} (h : RoomGe R rm) (h1 : a ≤ rm.cells) (h2 : b ≤ rm.slots) : a ≤ R.cells ∧ b ≤ R.slots := ⟨Nat.le_trans h1 h.2.1, Nat.le_trans h2 h.2.2.1⟩
theorem cpok_e {sp dp n : Int32} {n0 n1 : Nat} (h : cpok sp dp n n0 n1 = true) : ¬ sp < 0 ∧ ¬ dp < 0 ∧ ¬ n < 0 ∧ sp.toNatClampNeg + n.toNatClampNeg ≤ n0 ∧ dp.toNatClampNeg + n.toNatClampNeg ≤ n1 := of_decide_eq_true h
theorem nar_z (x : Int32) (h : x = 0 ∨ x = 1) : narrow .boolean (.int x) = .int x := by rcases h with rfl | rfl <;> rfl
theorem fit_z (x : Int32) (h : x = 0 ∨ x = 1) : fits .boolean (.int x) = true := by rcases h with rfl | rfl <;> rfl
