/-! walks beside a block of which only a predicate is known -/
def VB (K : Cx) (FB : va_W → Nat → Prop) (n0 nL : Nat) (ws : va_W) (pc : Nat) (lv : LV) (st : List Value) : Prop := ∀ (wx : va_W) (n ce sl : Nat), FB wx n → n0 ≤ n → ce ≤ 5 * (n - n0) → sl ≤ 19 * (n - n0) → V K nL (ws ++ wx) ce sl pc lv st
theorem gl {ws wx : va_W} {q0 : Nat} {x : Nat × va_E} (h : ws[q0]? = some x) : (ws ++ wx)[q0]? = some x := by
  rw [List.getElem?_append_left (List.getElem?_eq_some_iff.mp h).1]
  exact h
theorem gs {ws wx ws' : va_W} {q0 : Nat} {x y : Nat × va_E} (h : ws[q0]? = some x) (hw : ws.set q0 y = ws') : (ws ++ wx).set q0 y = ws' ++ wx := by
  rw [← hw, List.set_append_left _ _ (List.getElem?_eq_some_iff.mp h).1]
section VBR
variable {K : Cx} {FB : va_W → Nat → Prop} {n0 : Nat} {cc : ByteArray} {nL : Nat} {own : String} {Ts : List Cond} {R : Room} {ws : va_W} {pc : Nat} {lv : LV} {st : List Value}
theorem vx_loc {lv' : LV} (ks0 : List Nat) (h : lv_pick lv ks0 = lv') (k : VB K FB n0 nL ws pc lv' st) : VB K FB n0 nL ws pc lv st :=
  fun wx9 n9 ce9 sl9 hf9 hn9 hc9 hs9 => v_loc ks0 h (k wx9 n9 ce9 sl9 hf9 hn9 hc9 hs9)
theorem vx_topi {x y : Int32} (e : x = y) (k : VB K FB n0 nL ws pc lv (.int y :: st)) : VB K FB n0 nL ws pc lv (.int x :: st) :=
  fun wx9 n9 ce9 sl9 hf9 hn9 hc9 hs9 => v_topi e (k wx9 n9 ce9 sl9 hf9 hn9 hc9 hs9)
theorem vx_topl {x y : Int64} (e : x = y) (k : VB K FB n0 nL ws pc lv (.long y :: st)) : VB K FB n0 nL ws pc lv (.long x :: st) :=
  fun wx9 n9 ce9 sl9 hf9 hn9 hc9 hs9 => v_topl e (k wx9 n9 ce9 sl9 hf9 hn9 hc9 hs9)
theorem vx_iconst {n : Int} {v : Int32} (hk : Ok K cc nL own Ts R) (hdg : decode cc pc = .ok (.iconst n, 1)) (hv : Int32.ofInt n = v) (k : VB K FB n0 nL ws (pc + 1) lv (.int v :: st)) : VB K FB n0 nL ws pc lv st :=
  fun wx9 n9 ce9 sl9 hf9 hn9 hc9 hs9 => v_iconst hk hdg hv (k wx9 n9 ce9 sl9 hf9 hn9 hc9 hs9)
theorem vx_bipush {n : Int} {v : Int32} (hk : Ok K cc nL own Ts R) (hdg : decode cc pc = .ok (.bipush n, 2)) (hv : (Int8.ofInt n).toInt32 = v) (k : VB K FB n0 nL ws (pc + 2) lv (.int v :: st)) : VB K FB n0 nL ws pc lv st :=
  fun wx9 n9 ce9 sl9 hf9 hn9 hc9 hs9 => v_bipush hk hdg hv (k wx9 n9 ce9 sl9 hf9 hn9 hc9 hs9)
theorem vx_sipush {n : Int} {v : Int32} (hk : Ok K cc nL own Ts R) (hdg : decode cc pc = .ok (.sipush n, 3)) (hv : (Int16.ofInt n).toInt32 = v) (k : VB K FB n0 nL ws (pc + 3) lv (.int v :: st)) : VB K FB n0 nL ws pc lv st :=
  fun wx9 n9 ce9 sl9 hf9 hn9 hc9 hs9 => v_sipush hk hdg hv (k wx9 n9 ce9 sl9 hf9 hn9 hc9 hs9)
theorem vx_lconst {n : Fin 2} {v : Int64} (hk : Ok K cc nL own Ts R) (hdg : decode cc pc = .ok (.lconst n, 1)) (hv : Int64.ofNat (n : Nat) = v) (k : VB K FB n0 nL ws (pc + 1) lv (.long v :: st)) : VB K FB n0 nL ws pc lv st :=
  fun wx9 n9 ce9 sl9 hf9 hn9 hc9 hs9 => v_lconst hk hdg hv (k wx9 n9 ce9 sl9 hf9 hn9 hc9 hs9)
theorem vx_ldc {index : Nat} {v : Int32} (hk : Ok K cc nL own Ts R) (hdg : decode cc pc = .ok (.ldc index, 2)) (hc : Cond.constant own index v ∈ Ts) (k : VB K FB n0 nL ws (pc + 2) lv (.int v :: st)) : VB K FB n0 nL ws pc lv st :=
  fun wx9 n9 ce9 sl9 hf9 hn9 hc9 hs9 => v_ldc hk hdg hc (k wx9 n9 ce9 sl9 hf9 hn9 hc9 hs9)
theorem vx_ldcw {index : Nat} {v : Int32} (hk : Ok K cc nL own Ts R) (hdg : decode cc pc = .ok (.ldc_w index, 3)) (hc : Cond.constant own index v ∈ Ts) (k : VB K FB n0 nL ws (pc + 3) lv (.int v :: st)) : VB K FB n0 nL ws pc lv st :=
  fun wx9 n9 ce9 sl9 hf9 hn9 hc9 hs9 => v_ldcw hk hdg hc (k wx9 n9 ce9 sl9 hf9 hn9 hc9 hs9)
theorem vx_ldc2 {index : Nat} {v : Int64} (hk : Ok K cc nL own Ts R) (hdg : decode cc pc = .ok (.ldc2_w index, 3)) (hc : Cond.constantLong own index v ∈ Ts) (k : VB K FB n0 nL ws (pc + 3) lv (.long v :: st)) : VB K FB n0 nL ws pc lv st :=
  fun wx9 n9 ce9 sl9 hf9 hn9 hc9 hs9 => v_ldc2 hk hdg hc (k wx9 n9 ce9 sl9 hf9 hn9 hc9 hs9)
theorem vx_iload_n {i : Fin 4} {x : Int32} (hk : Ok K cc nL own Ts R) (hdg : decode cc pc = .ok (.iload_n i, 1)) (hl0 : lg lv i.val = some (.int x)) (k : VB K FB n0 nL ws (pc + 1) lv (.int x :: st)) : VB K FB n0 nL ws pc lv st :=
  fun wx9 n9 ce9 sl9 hf9 hn9 hc9 hs9 => v_iload_n hk hdg hl0 (k wx9 n9 ce9 sl9 hf9 hn9 hc9 hs9)
theorem vx_iload {i : Nat} {x : Int32} (hk : Ok K cc nL own Ts R) (hdg : decode cc pc = .ok (.iload i, 2)) (hl0 : lg lv i = some (.int x)) (k : VB K FB n0 nL ws (pc + 2) lv (.int x :: st)) : VB K FB n0 nL ws pc lv st :=
  fun wx9 n9 ce9 sl9 hf9 hn9 hc9 hs9 => v_iload hk hdg hl0 (k wx9 n9 ce9 sl9 hf9 hn9 hc9 hs9)
theorem vx_lload_n {i : Fin 4} {x : Int64} (hk : Ok K cc nL own Ts R) (hdg : decode cc pc = .ok (.lload_n i, 1)) (hl0 : lg lv i.val = some (.long x)) (k : VB K FB n0 nL ws (pc + 1) lv (.long x :: st)) : VB K FB n0 nL ws pc lv st :=
  fun wx9 n9 ce9 sl9 hf9 hn9 hc9 hs9 => v_lload_n hk hdg hl0 (k wx9 n9 ce9 sl9 hf9 hn9 hc9 hs9)
theorem vx_lload {i : Nat} {x : Int64} (hk : Ok K cc nL own Ts R) (hdg : decode cc pc = .ok (.lload i, 2)) (hl0 : lg lv i = some (.long x)) (k : VB K FB n0 nL ws (pc + 2) lv (.long x :: st)) : VB K FB n0 nL ws pc lv st :=
  fun wx9 n9 ce9 sl9 hf9 hn9 hc9 hs9 => v_lload hk hdg hl0 (k wx9 n9 ce9 sl9 hf9 hn9 hc9 hs9)
theorem vx_aload_n {i : Fin 4} {x : Nat} (hk : Ok K cc nL own Ts R) (hdg : decode cc pc = .ok (.aload_n i, 1)) (hl0 : lg lv i.val = some (.ref x)) (k : VB K FB n0 nL ws (pc + 1) lv (.ref x :: st)) : VB K FB n0 nL ws pc lv st :=
  fun wx9 n9 ce9 sl9 hf9 hn9 hc9 hs9 => v_aload_n hk hdg hl0 (k wx9 n9 ce9 sl9 hf9 hn9 hc9 hs9)
theorem vx_aload {i : Nat} {x : Nat} (hk : Ok K cc nL own Ts R) (hdg : decode cc pc = .ok (.aload i, 2)) (hl0 : lg lv i = some (.ref x)) (k : VB K FB n0 nL ws (pc + 2) lv (.ref x :: st)) : VB K FB n0 nL ws pc lv st :=
  fun wx9 n9 ce9 sl9 hf9 hn9 hc9 hs9 => v_aload hk hdg hl0 (k wx9 n9 ce9 sl9 hf9 hn9 hc9 hs9)
theorem vx_aload_nN {i : Fin 4} (hk : Ok K cc nL own Ts R) (hdg : decode cc pc = .ok (.aload_n i, 1)) (hl0 : lg lv i.val = some .null) (k : VB K FB n0 nL ws (pc + 1) lv (.null :: st)) : VB K FB n0 nL ws pc lv st :=
  fun wx9 n9 ce9 sl9 hf9 hn9 hc9 hs9 => v_aload_nN hk hdg hl0 (k wx9 n9 ce9 sl9 hf9 hn9 hc9 hs9)
theorem vx_istore_n {j : Fin 4} {i : Nat} {x : Int32} {lv' : LV} (hk : Ok K cc nL own Ts R) (hdg : decode cc pc = .ok (.istore_n j, 1)) (hi : j.val = i) (hn : i < nL) (ks0 : List Nat) (hl0 : lv_pick ((i, Value.int x) :: lv.filter (fun q => !(q.1 == i) && !(q.1 + 1 == i && q.2.category == 2))) ks0 = lv') (k : VB K FB n0 nL ws (pc + 1) lv' st) : VB K FB n0 nL ws pc lv (.int x :: st) :=
  fun wx9 n9 ce9 sl9 hf9 hn9 hc9 hs9 => v_istore_n hk hdg hi hn ks0 hl0 (k wx9 n9 ce9 sl9 hf9 hn9 hc9 hs9)
theorem vx_istore {i : Nat} {x : Int32} {lv' : LV} (hk : Ok K cc nL own Ts R) (hdg : decode cc pc = .ok (.istore i, 2)) (hn : i < nL) (ks0 : List Nat) (hl0 : lv_pick ((i, Value.int x) :: lv.filter (fun q => !(q.1 == i) && !(q.1 + 1 == i && q.2.category == 2))) ks0 = lv') (k : VB K FB n0 nL ws (pc + 2) lv' st) : VB K FB n0 nL ws pc lv (.int x :: st) :=
  fun wx9 n9 ce9 sl9 hf9 hn9 hc9 hs9 => v_istore hk hdg hn ks0 hl0 (k wx9 n9 ce9 sl9 hf9 hn9 hc9 hs9)
theorem vx_lstore_n {j : Fin 4} {i : Nat} {x : Int64} {lv' : LV} (hk : Ok K cc nL own Ts R) (hdg : decode cc pc = .ok (.lstore_n j, 1)) (hi : j.val = i) (hn : i + 1 < nL) (ks0 : List Nat) (hl0 : lv_pick ((i, Value.long x) :: lv.filter (fun q => !(q.1 == i) && (!(q.1 == i + 1) && !(q.1 + 1 == i && q.2.category == 2)))) ks0 = lv') (k : VB K FB n0 nL ws (pc + 1) lv' st) : VB K FB n0 nL ws pc lv (.long x :: st) :=
  fun wx9 n9 ce9 sl9 hf9 hn9 hc9 hs9 => v_lstore_n hk hdg hi hn ks0 hl0 (k wx9 n9 ce9 sl9 hf9 hn9 hc9 hs9)
theorem vx_lstore {i : Nat} {x : Int64} {lv' : LV} (hk : Ok K cc nL own Ts R) (hdg : decode cc pc = .ok (.lstore i, 2)) (hn : i + 1 < nL) (ks0 : List Nat) (hl0 : lv_pick ((i, Value.long x) :: lv.filter (fun q => !(q.1 == i) && (!(q.1 == i + 1) && !(q.1 + 1 == i && q.2.category == 2)))) ks0 = lv') (k : VB K FB n0 nL ws (pc + 2) lv' st) : VB K FB n0 nL ws pc lv (.long x :: st) :=
  fun wx9 n9 ce9 sl9 hf9 hn9 hc9 hs9 => v_lstore hk hdg hn ks0 hl0 (k wx9 n9 ce9 sl9 hf9 hn9 hc9 hs9)
theorem vx_astore_n {j : Fin 4} {i : Nat} {x : Nat} {lv' : LV} (hk : Ok K cc nL own Ts R) (hdg : decode cc pc = .ok (.astore_n j, 1)) (hi : j.val = i) (hn : i < nL) (ks0 : List Nat) (hl0 : lv_pick ((i, Value.ref x) :: lv.filter (fun q => !(q.1 == i) && !(q.1 + 1 == i && q.2.category == 2))) ks0 = lv') (k : VB K FB n0 nL ws (pc + 1) lv' st) : VB K FB n0 nL ws pc lv (.ref x :: st) :=
  fun wx9 n9 ce9 sl9 hf9 hn9 hc9 hs9 => v_astore_n hk hdg hi hn ks0 hl0 (k wx9 n9 ce9 sl9 hf9 hn9 hc9 hs9)
theorem vx_astore {i : Nat} {x : Nat} {lv' : LV} (hk : Ok K cc nL own Ts R) (hdg : decode cc pc = .ok (.astore i, 2)) (hn : i < nL) (ks0 : List Nat) (hl0 : lv_pick ((i, Value.ref x) :: lv.filter (fun q => !(q.1 == i) && !(q.1 + 1 == i && q.2.category == 2))) ks0 = lv') (k : VB K FB n0 nL ws (pc + 2) lv' st) : VB K FB n0 nL ws pc lv (.ref x :: st) :=
  fun wx9 n9 ce9 sl9 hf9 hn9 hc9 hs9 => v_astore hk hdg hn ks0 hl0 (k wx9 n9 ce9 sl9 hf9 hn9 hc9 hs9)
theorem vx_iinc {i : Nat} {n : Int} {x v : Int32} {lv' : LV} (hk : Ok K cc nL own Ts R) (hdg : decode cc pc = .ok (.iinc i n, 3)) (hg : lg lv i = some (.int x)) (hv : x + Int32.ofInt n = v) (hn : i < nL) (ks0 : List Nat) (hl0 : lv_pick ((i, Value.int v) :: lv.filter (fun q => !(q.1 == i) && !(q.1 + 1 == i && q.2.category == 2))) ks0 = lv') (k : VB K FB n0 nL ws (pc + 3) lv' st) : VB K FB n0 nL ws pc lv st :=
  fun wx9 n9 ce9 sl9 hf9 hn9 hc9 hs9 => v_iinc hk hdg hg hv hn ks0 hl0 (k wx9 n9 ce9 sl9 hf9 hn9 hc9 hs9)
theorem vx_iadd {x y : Int32} (hk : Ok K cc nL own Ts R) (hdg : decode cc pc = .ok (.iadd, 1)) (k : VB K FB n0 nL ws (pc + 1) lv (.int (x + y) :: st)) : VB K FB n0 nL ws pc lv (.int y :: .int x :: st) :=
  fun wx9 n9 ce9 sl9 hf9 hn9 hc9 hs9 => v_iadd hk hdg (k wx9 n9 ce9 sl9 hf9 hn9 hc9 hs9)
theorem vx_isub {x y : Int32} (hk : Ok K cc nL own Ts R) (hdg : decode cc pc = .ok (.isub, 1)) (k : VB K FB n0 nL ws (pc + 1) lv (.int (x - y) :: st)) : VB K FB n0 nL ws pc lv (.int y :: .int x :: st) :=
  fun wx9 n9 ce9 sl9 hf9 hn9 hc9 hs9 => v_isub hk hdg (k wx9 n9 ce9 sl9 hf9 hn9 hc9 hs9)
theorem vx_imul {x y : Int32} (hk : Ok K cc nL own Ts R) (hdg : decode cc pc = .ok (.imul, 1)) (k : VB K FB n0 nL ws (pc + 1) lv (.int (x * y) :: st)) : VB K FB n0 nL ws pc lv (.int y :: .int x :: st) :=
  fun wx9 n9 ce9 sl9 hf9 hn9 hc9 hs9 => v_imul hk hdg (k wx9 n9 ce9 sl9 hf9 hn9 hc9 hs9)
theorem vx_iand {x y : Int32} (hk : Ok K cc nL own Ts R) (hdg : decode cc pc = .ok (.iand, 1)) (k : VB K FB n0 nL ws (pc + 1) lv (.int (x &&& y) :: st)) : VB K FB n0 nL ws pc lv (.int y :: .int x :: st) :=
  fun wx9 n9 ce9 sl9 hf9 hn9 hc9 hs9 => v_iand hk hdg (k wx9 n9 ce9 sl9 hf9 hn9 hc9 hs9)
theorem vx_ior {x y : Int32} (hk : Ok K cc nL own Ts R) (hdg : decode cc pc = .ok (.ior, 1)) (k : VB K FB n0 nL ws (pc + 1) lv (.int (x ||| y) :: st)) : VB K FB n0 nL ws pc lv (.int y :: .int x :: st) :=
  fun wx9 n9 ce9 sl9 hf9 hn9 hc9 hs9 => v_ior hk hdg (k wx9 n9 ce9 sl9 hf9 hn9 hc9 hs9)
theorem vx_ixor {x y : Int32} (hk : Ok K cc nL own Ts R) (hdg : decode cc pc = .ok (.ixor, 1)) (k : VB K FB n0 nL ws (pc + 1) lv (.int (x ^^^ y) :: st)) : VB K FB n0 nL ws pc lv (.int y :: .int x :: st) :=
  fun wx9 n9 ce9 sl9 hf9 hn9 hc9 hs9 => v_ixor hk hdg (k wx9 n9 ce9 sl9 hf9 hn9 hc9 hs9)
theorem vx_ishl {x y : Int32} (hk : Ok K cc nL own Ts R) (hdg : decode cc pc = .ok (.ishl, 1)) (k : VB K FB n0 nL ws (pc + 1) lv (.int (x <<< (y &&& 31)) :: st)) : VB K FB n0 nL ws pc lv (.int y :: .int x :: st) :=
  fun wx9 n9 ce9 sl9 hf9 hn9 hc9 hs9 => v_ishl hk hdg (k wx9 n9 ce9 sl9 hf9 hn9 hc9 hs9)
theorem vx_ishr {x y : Int32} (hk : Ok K cc nL own Ts R) (hdg : decode cc pc = .ok (.ishr, 1)) (k : VB K FB n0 nL ws (pc + 1) lv (.int (x >>> (y &&& 31)) :: st)) : VB K FB n0 nL ws pc lv (.int y :: .int x :: st) :=
  fun wx9 n9 ce9 sl9 hf9 hn9 hc9 hs9 => v_ishr hk hdg (k wx9 n9 ce9 sl9 hf9 hn9 hc9 hs9)
theorem vx_idiv {x y : Int32} (hk : Ok K cc nL own Ts R) (hdg : decode cc pc = .ok (.idiv, 1)) (hne : ¬ y = 0) (k : VB K FB n0 nL ws (pc + 1) lv (.int (x / y) :: st)) : VB K FB n0 nL ws pc lv (.int y :: .int x :: st) :=
  fun wx9 n9 ce9 sl9 hf9 hn9 hc9 hs9 => v_idiv hk hdg hne (k wx9 n9 ce9 sl9 hf9 hn9 hc9 hs9)
theorem vx_irem {x y : Int32} (hk : Ok K cc nL own Ts R) (hdg : decode cc pc = .ok (.irem, 1)) (hne : ¬ y = 0) (k : VB K FB n0 nL ws (pc + 1) lv (.int (x - x / y * y) :: st)) : VB K FB n0 nL ws pc lv (.int y :: .int x :: st) :=
  fun wx9 n9 ce9 sl9 hf9 hn9 hc9 hs9 => v_irem hk hdg hne (k wx9 n9 ce9 sl9 hf9 hn9 hc9 hs9)
theorem vx_ladd {x y : Int64} (hk : Ok K cc nL own Ts R) (hdg : decode cc pc = .ok (.ladd, 1)) (k : VB K FB n0 nL ws (pc + 1) lv (.long (x + y) :: st)) : VB K FB n0 nL ws pc lv (.long y :: .long x :: st) :=
  fun wx9 n9 ce9 sl9 hf9 hn9 hc9 hs9 => v_ladd hk hdg (k wx9 n9 ce9 sl9 hf9 hn9 hc9 hs9)
theorem vx_lsub {x y : Int64} (hk : Ok K cc nL own Ts R) (hdg : decode cc pc = .ok (.lsub, 1)) (k : VB K FB n0 nL ws (pc + 1) lv (.long (x - y) :: st)) : VB K FB n0 nL ws pc lv (.long y :: .long x :: st) :=
  fun wx9 n9 ce9 sl9 hf9 hn9 hc9 hs9 => v_lsub hk hdg (k wx9 n9 ce9 sl9 hf9 hn9 hc9 hs9)
theorem vx_lmul {x y : Int64} (hk : Ok K cc nL own Ts R) (hdg : decode cc pc = .ok (.lmul, 1)) (k : VB K FB n0 nL ws (pc + 1) lv (.long (x * y) :: st)) : VB K FB n0 nL ws pc lv (.long y :: .long x :: st) :=
  fun wx9 n9 ce9 sl9 hf9 hn9 hc9 hs9 => v_lmul hk hdg (k wx9 n9 ce9 sl9 hf9 hn9 hc9 hs9)
theorem vx_land {x y : Int64} (hk : Ok K cc nL own Ts R) (hdg : decode cc pc = .ok (.land, 1)) (k : VB K FB n0 nL ws (pc + 1) lv (.long (x &&& y) :: st)) : VB K FB n0 nL ws pc lv (.long y :: .long x :: st) :=
  fun wx9 n9 ce9 sl9 hf9 hn9 hc9 hs9 => v_land hk hdg (k wx9 n9 ce9 sl9 hf9 hn9 hc9 hs9)
theorem vx_lor {x y : Int64} (hk : Ok K cc nL own Ts R) (hdg : decode cc pc = .ok (.lor, 1)) (k : VB K FB n0 nL ws (pc + 1) lv (.long (x ||| y) :: st)) : VB K FB n0 nL ws pc lv (.long y :: .long x :: st) :=
  fun wx9 n9 ce9 sl9 hf9 hn9 hc9 hs9 => v_lor hk hdg (k wx9 n9 ce9 sl9 hf9 hn9 hc9 hs9)
theorem vx_ldiv {x y : Int64} (hk : Ok K cc nL own Ts R) (hdg : decode cc pc = .ok (.ldiv, 1)) (hne : ¬ y = 0) (k : VB K FB n0 nL ws (pc + 1) lv (.long (x / y) :: st)) : VB K FB n0 nL ws pc lv (.long y :: .long x :: st) :=
  fun wx9 n9 ce9 sl9 hf9 hn9 hc9 hs9 => v_ldiv hk hdg hne (k wx9 n9 ce9 sl9 hf9 hn9 hc9 hs9)
theorem vx_iushr {x y : Int32} (hk : Ok K cc nL own Ts R) (hdg : decode cc pc = .ok (.iushr, 1)) (k : VB K FB n0 nL ws (pc + 1) lv (.int (x.toUInt32 >>> (y.toUInt32 &&& Int32.toUInt32 31)).toInt32 :: st)) : VB K FB n0 nL ws pc lv (.int y :: .int x :: st) :=
  fun wx9 n9 ce9 sl9 hf9 hn9 hc9 hs9 => v_iushr hk hdg (k wx9 n9 ce9 sl9 hf9 hn9 hc9 hs9)
theorem vx_lushr {x : Int64} {y : Int32} (hk : Ok K cc nL own Ts R) (hdg : decode cc pc = .ok (.lushr, 1)) (k : VB K FB n0 nL ws (pc + 1) lv (.long (x.toUInt64 >>> (y.toInt64.toUInt64 &&& Int64.toUInt64 63)).toInt64 :: st)) : VB K FB n0 nL ws pc lv (.int y :: .long x :: st) :=
  fun wx9 n9 ce9 sl9 hf9 hn9 hc9 hs9 => v_lushr hk hdg (k wx9 n9 ce9 sl9 hf9 hn9 hc9 hs9)
theorem vx_lshl {x : Int64} {y : Int32} (hk : Ok K cc nL own Ts R) (hdg : decode cc pc = .ok (.lshl, 1)) (k : VB K FB n0 nL ws (pc + 1) lv (.long (x <<< (y.toInt64 &&& 63)) :: st)) : VB K FB n0 nL ws pc lv (.int y :: .long x :: st) :=
  fun wx9 n9 ce9 sl9 hf9 hn9 hc9 hs9 => v_lshl hk hdg (k wx9 n9 ce9 sl9 hf9 hn9 hc9 hs9)
theorem vx_i2l {x : Int32} (hk : Ok K cc nL own Ts R) (hdg : decode cc pc = .ok (.i2l, 1)) (k : VB K FB n0 nL ws (pc + 1) lv (.long x.toInt64 :: st)) : VB K FB n0 nL ws pc lv (.int x :: st) :=
  fun wx9 n9 ce9 sl9 hf9 hn9 hc9 hs9 => v_i2l hk hdg (k wx9 n9 ce9 sl9 hf9 hn9 hc9 hs9)
theorem vx_l2i {x : Int64} (hk : Ok K cc nL own Ts R) (hdg : decode cc pc = .ok (.l2i, 1)) (k : VB K FB n0 nL ws (pc + 1) lv (.int x.toInt32 :: st)) : VB K FB n0 nL ws pc lv (.long x :: st) :=
  fun wx9 n9 ce9 sl9 hf9 hn9 hc9 hs9 => v_l2i hk hdg (k wx9 n9 ce9 sl9 hf9 hn9 hc9 hs9)
theorem vx_lcmp {x y : Int64} (hk : Ok K cc nL own Ts R) (hdg : decode cc pc = .ok (.lcmp, 1)) (k : VB K FB n0 nL ws (pc + 1) lv (.int (lg_cmp x y) :: st)) : VB K FB n0 nL ws pc lv (.long y :: .long x :: st) :=
  fun wx9 n9 ce9 sl9 hf9 hn9 hc9 hs9 => v_lcmp hk hdg (k wx9 n9 ce9 sl9 hf9 hn9 hc9 hs9)
theorem vx_dup {va : Value} (hk : Ok K cc nL own Ts R) (hdg : decode cc pc = .ok (.dup, 1)) (hva : va.category = 1) (k : VB K FB n0 nL ws (pc + 1) lv (va :: va :: st)) : VB K FB n0 nL ws pc lv (va :: st) :=
  fun wx9 n9 ce9 sl9 hf9 hn9 hc9 hs9 => v_dup hk hdg hva (k wx9 n9 ce9 sl9 hf9 hn9 hc9 hs9)
theorem vx_dup2 {va vb : Value} (hk : Ok K cc nL own Ts R) (hdg : decode cc pc = .ok (.dup2, 1)) (hva : va.category = 1) (hvb : vb.category = 1) (k : VB K FB n0 nL ws (pc + 1) lv (va :: vb :: va :: vb :: st)) : VB K FB n0 nL ws pc lv (va :: vb :: st) :=
  fun wx9 n9 ce9 sl9 hf9 hn9 hc9 hs9 => v_dup2 hk hdg hva hvb (k wx9 n9 ce9 sl9 hf9 hn9 hc9 hs9)
theorem vx_null (hk : Ok K cc nL own Ts R) (hdg : decode cc pc = .ok (.aconst_null, 1)) (k : VB K FB n0 nL ws (pc + 1) lv (.null :: st)) : VB K FB n0 nL ws pc lv st :=
  fun wx9 n9 ce9 sl9 hf9 hn9 hc9 hs9 => v_null hk hdg (k wx9 n9 ce9 sl9 hf9 hn9 hc9 hs9)
theorem vx_goto {off : Int} {tgt : Nat} (hk : Ok K cc nL own Ts R) (hdg : decode cc pc = .ok (.goto off, 3)) (ht : (pc : Int) + off = (tgt : Int)) (k : VB K FB n0 nL ws tgt lv st) : VB K FB n0 nL ws pc lv st :=
  fun wx9 n9 ce9 sl9 hf9 hn9 hc9 hs9 => v_goto hk hdg ht (k wx9 n9 ce9 sl9 hf9 hn9 hc9 hs9)
theorem vx_ifnull {x : Nat} {off : Int} (hk : Ok K cc nL own Ts R) (hdg : decode cc pc = .ok (.ifnull off, 3)) (k : VB K FB n0 nL ws (pc + 3) lv st) : VB K FB n0 nL ws pc lv (.ref x :: st) :=
  fun wx9 n9 ce9 sl9 hf9 hn9 hc9 hs9 => v_ifnull hk hdg (k wx9 n9 ce9 sl9 hf9 hn9 hc9 hs9)
theorem vx_ifnullN {off : Int} {tgt : Nat} (hk : Ok K cc nL own Ts R) (hdg : decode cc pc = .ok (.ifnull off, 3)) (ht : (pc : Int) + off = (tgt : Int)) (k : VB K FB n0 nL ws tgt lv st) : VB K FB n0 nL ws pc lv (.null :: st) :=
  fun wx9 n9 ce9 sl9 hf9 hn9 hc9 hs9 => v_ifnullN hk hdg ht (k wx9 n9 ce9 sl9 hf9 hn9 hc9 hs9)
theorem vx_ifnonnull {x : Nat} {off : Int} {tgt : Nat} (hk : Ok K cc nL own Ts R) (hdg : decode cc pc = .ok (.ifnonnull off, 3)) (ht : (pc : Int) + off = (tgt : Int)) (k : VB K FB n0 nL ws tgt lv st) : VB K FB n0 nL ws pc lv (.ref x :: st) :=
  fun wx9 n9 ce9 sl9 hf9 hn9 hc9 hs9 => v_ifnonnull hk hdg ht (k wx9 n9 ce9 sl9 hf9 hn9 hc9 hs9)
theorem vx_ifnonnullN {off : Int} (hk : Ok K cc nL own Ts R) (hdg : decode cc pc = .ok (.ifnonnull off, 3)) (k : VB K FB n0 nL ws (pc + 3) lv st) : VB K FB n0 nL ws pc lv (.null :: st) :=
  fun wx9 n9 ce9 sl9 hf9 hn9 hc9 hs9 => v_ifnonnullN hk hdg (k wx9 n9 ce9 sl9 hf9 hn9 hc9 hs9)
theorem vx_if_eq {x : Int32} {off : Int} {tgt : Nat} (hk : Ok K cc nL own Ts R) (hdg : decode cc pc = .ok (.ifCond .eq off, 3)) (ht : (pc : Int) + off = (tgt : Int)) (kt : x = 0 → VB K FB n0 nL ws tgt lv st) (kf : ¬ (x = 0) → VB K FB n0 nL ws (pc + 3) lv st) : VB K FB n0 nL ws pc lv (.int x :: st) :=
  fun wx9 n9 ce9 sl9 hf9 hn9 hc9 hs9 => v_if_eq hk hdg ht (fun h9 => kt h9 wx9 n9 ce9 sl9 hf9 hn9 hc9 hs9) (fun h9 => kf h9 wx9 n9 ce9 sl9 hf9 hn9 hc9 hs9)
theorem vx_icmp_eq {x y : Int32} {off : Int} {tgt : Nat} (hk : Ok K cc nL own Ts R) (hdg : decode cc pc = .ok (.if_icmp .eq off, 3)) (ht : (pc : Int) + off = (tgt : Int)) (kt : x = y → VB K FB n0 nL ws tgt lv st) (kf : ¬ (x = y) → VB K FB n0 nL ws (pc + 3) lv st) : VB K FB n0 nL ws pc lv (.int y :: .int x :: st) :=
  fun wx9 n9 ce9 sl9 hf9 hn9 hc9 hs9 => v_icmp_eq hk hdg ht (fun h9 => kt h9 wx9 n9 ce9 sl9 hf9 hn9 hc9 hs9) (fun h9 => kf h9 wx9 n9 ce9 sl9 hf9 hn9 hc9 hs9)
theorem vx_if_ne {x : Int32} {off : Int} {tgt : Nat} (hk : Ok K cc nL own Ts R) (hdg : decode cc pc = .ok (.ifCond .ne off, 3)) (ht : (pc : Int) + off = (tgt : Int)) (kt : ¬ x = 0 → VB K FB n0 nL ws tgt lv st) (kf : x = 0 → VB K FB n0 nL ws (pc + 3) lv st) : VB K FB n0 nL ws pc lv (.int x :: st) :=
  fun wx9 n9 ce9 sl9 hf9 hn9 hc9 hs9 => v_if_ne hk hdg ht (fun h9 => kt h9 wx9 n9 ce9 sl9 hf9 hn9 hc9 hs9) (fun h9 => kf h9 wx9 n9 ce9 sl9 hf9 hn9 hc9 hs9)
theorem vx_icmp_ne {x y : Int32} {off : Int} {tgt : Nat} (hk : Ok K cc nL own Ts R) (hdg : decode cc pc = .ok (.if_icmp .ne off, 3)) (ht : (pc : Int) + off = (tgt : Int)) (kt : ¬ x = y → VB K FB n0 nL ws tgt lv st) (kf : x = y → VB K FB n0 nL ws (pc + 3) lv st) : VB K FB n0 nL ws pc lv (.int y :: .int x :: st) :=
  fun wx9 n9 ce9 sl9 hf9 hn9 hc9 hs9 => v_icmp_ne hk hdg ht (fun h9 => kt h9 wx9 n9 ce9 sl9 hf9 hn9 hc9 hs9) (fun h9 => kf h9 wx9 n9 ce9 sl9 hf9 hn9 hc9 hs9)
theorem vx_if_lt {x : Int32} {off : Int} {tgt : Nat} (hk : Ok K cc nL own Ts R) (hdg : decode cc pc = .ok (.ifCond .lt off, 3)) (ht : (pc : Int) + off = (tgt : Int)) (kt : x < 0 → VB K FB n0 nL ws tgt lv st) (kf : ¬ (x < 0) → VB K FB n0 nL ws (pc + 3) lv st) : VB K FB n0 nL ws pc lv (.int x :: st) :=
  fun wx9 n9 ce9 sl9 hf9 hn9 hc9 hs9 => v_if_lt hk hdg ht (fun h9 => kt h9 wx9 n9 ce9 sl9 hf9 hn9 hc9 hs9) (fun h9 => kf h9 wx9 n9 ce9 sl9 hf9 hn9 hc9 hs9)
theorem vx_icmp_lt {x y : Int32} {off : Int} {tgt : Nat} (hk : Ok K cc nL own Ts R) (hdg : decode cc pc = .ok (.if_icmp .lt off, 3)) (ht : (pc : Int) + off = (tgt : Int)) (kt : x < y → VB K FB n0 nL ws tgt lv st) (kf : ¬ (x < y) → VB K FB n0 nL ws (pc + 3) lv st) : VB K FB n0 nL ws pc lv (.int y :: .int x :: st) :=
  fun wx9 n9 ce9 sl9 hf9 hn9 hc9 hs9 => v_icmp_lt hk hdg ht (fun h9 => kt h9 wx9 n9 ce9 sl9 hf9 hn9 hc9 hs9) (fun h9 => kf h9 wx9 n9 ce9 sl9 hf9 hn9 hc9 hs9)
theorem vx_if_ge {x : Int32} {off : Int} {tgt : Nat} (hk : Ok K cc nL own Ts R) (hdg : decode cc pc = .ok (.ifCond .ge off, 3)) (ht : (pc : Int) + off = (tgt : Int)) (kt : 0 ≤ x → VB K FB n0 nL ws tgt lv st) (kf : ¬ (0 ≤ x) → VB K FB n0 nL ws (pc + 3) lv st) : VB K FB n0 nL ws pc lv (.int x :: st) :=
  fun wx9 n9 ce9 sl9 hf9 hn9 hc9 hs9 => v_if_ge hk hdg ht (fun h9 => kt h9 wx9 n9 ce9 sl9 hf9 hn9 hc9 hs9) (fun h9 => kf h9 wx9 n9 ce9 sl9 hf9 hn9 hc9 hs9)
theorem vx_icmp_ge {x y : Int32} {off : Int} {tgt : Nat} (hk : Ok K cc nL own Ts R) (hdg : decode cc pc = .ok (.if_icmp .ge off, 3)) (ht : (pc : Int) + off = (tgt : Int)) (kt : y ≤ x → VB K FB n0 nL ws tgt lv st) (kf : ¬ (y ≤ x) → VB K FB n0 nL ws (pc + 3) lv st) : VB K FB n0 nL ws pc lv (.int y :: .int x :: st) :=
  fun wx9 n9 ce9 sl9 hf9 hn9 hc9 hs9 => v_icmp_ge hk hdg ht (fun h9 => kt h9 wx9 n9 ce9 sl9 hf9 hn9 hc9 hs9) (fun h9 => kf h9 wx9 n9 ce9 sl9 hf9 hn9 hc9 hs9)
theorem vx_if_gt {x : Int32} {off : Int} {tgt : Nat} (hk : Ok K cc nL own Ts R) (hdg : decode cc pc = .ok (.ifCond .gt off, 3)) (ht : (pc : Int) + off = (tgt : Int)) (kt : 0 < x → VB K FB n0 nL ws tgt lv st) (kf : ¬ (0 < x) → VB K FB n0 nL ws (pc + 3) lv st) : VB K FB n0 nL ws pc lv (.int x :: st) :=
  fun wx9 n9 ce9 sl9 hf9 hn9 hc9 hs9 => v_if_gt hk hdg ht (fun h9 => kt h9 wx9 n9 ce9 sl9 hf9 hn9 hc9 hs9) (fun h9 => kf h9 wx9 n9 ce9 sl9 hf9 hn9 hc9 hs9)
theorem vx_icmp_gt {x y : Int32} {off : Int} {tgt : Nat} (hk : Ok K cc nL own Ts R) (hdg : decode cc pc = .ok (.if_icmp .gt off, 3)) (ht : (pc : Int) + off = (tgt : Int)) (kt : y < x → VB K FB n0 nL ws tgt lv st) (kf : ¬ (y < x) → VB K FB n0 nL ws (pc + 3) lv st) : VB K FB n0 nL ws pc lv (.int y :: .int x :: st) :=
  fun wx9 n9 ce9 sl9 hf9 hn9 hc9 hs9 => v_icmp_gt hk hdg ht (fun h9 => kt h9 wx9 n9 ce9 sl9 hf9 hn9 hc9 hs9) (fun h9 => kf h9 wx9 n9 ce9 sl9 hf9 hn9 hc9 hs9)
theorem vx_if_le {x : Int32} {off : Int} {tgt : Nat} (hk : Ok K cc nL own Ts R) (hdg : decode cc pc = .ok (.ifCond .le off, 3)) (ht : (pc : Int) + off = (tgt : Int)) (kt : x ≤ 0 → VB K FB n0 nL ws tgt lv st) (kf : ¬ (x ≤ 0) → VB K FB n0 nL ws (pc + 3) lv st) : VB K FB n0 nL ws pc lv (.int x :: st) :=
  fun wx9 n9 ce9 sl9 hf9 hn9 hc9 hs9 => v_if_le hk hdg ht (fun h9 => kt h9 wx9 n9 ce9 sl9 hf9 hn9 hc9 hs9) (fun h9 => kf h9 wx9 n9 ce9 sl9 hf9 hn9 hc9 hs9)
theorem vx_icmp_le {x y : Int32} {off : Int} {tgt : Nat} (hk : Ok K cc nL own Ts R) (hdg : decode cc pc = .ok (.if_icmp .le off, 3)) (ht : (pc : Int) + off = (tgt : Int)) (kt : x ≤ y → VB K FB n0 nL ws tgt lv st) (kf : ¬ (x ≤ y) → VB K FB n0 nL ws (pc + 3) lv st) : VB K FB n0 nL ws pc lv (.int y :: .int x :: st) :=
  fun wx9 n9 ce9 sl9 hf9 hn9 hc9 hs9 => v_icmp_le hk hdg ht (fun h9 => kt h9 wx9 n9 ce9 sl9 hf9 hn9 hc9 hs9) (fun h9 => kf h9 wx9 n9 ce9 sl9 hf9 hn9 hc9 hs9)
theorem vx_get {C ref : String} {T : u_T} {N ci index a : Nat} {fs : List Value} {v : Value} (hk : Ok K cc nL own Ts R) (hdg : decode cc pc = .ok (.getfield index, 3)) (hin : ∀ w ∈ u_ws C T N, w ∈ Ts) (q0 : Nat) (he : ws[q0]? = some (a, .inr (ci, fs))) (hc : vwCl[ci]? = some (C, T, N)) (j : Nat) (hj : j < N) (hlink : Cond.fieldLink own index ref (T j).2.1 (T j).2.2.1 ∈ Ts) (hs : ref = (T j).1) (hv : fs[j]? = some v) (k : VB K FB n0 nL ws (pc + 3) lv (v :: st)) : VB K FB n0 nL ws pc lv (.ref a :: st) :=
  fun wx9 n9 ce9 sl9 hf9 hn9 hc9 hs9 => v_get hk hdg hin q0 (gl he) hc j hj hlink hs hv (k wx9 n9 ce9 sl9 hf9 hn9 hc9 hs9)
theorem vx_put {C ref : String} {T : u_T} {N ci index a : Nat} {fs : List Value} {v : Value} {ws' : va_W} (hk : Ok K cc nL own Ts R) (hdg : decode cc pc = .ok (.putfield index, 3)) (hin : ∀ w ∈ u_ws C T N, w ∈ Ts) (ty0 : Nat → FieldType) (hty : ∀ k, k < N → parseFieldDescriptor (T k).2.2.1 = some (ty0 k)) (hnm : ∀ a, a < N → ∀ b, b < N → a ≠ b → (T a).2.1 ≠ (T b).2.1) (q0 : Nat) (he : ws[q0]? = some (a, .inr (ci, fs))) (hc : vwCl[ci]? = some (C, T, N)) (j : Nat) (hj : j < N) (hlink : Cond.fieldLink own index ref (T j).2.1 (T j).2.2.1 ∈ Ts) (hs : ref = (T j).1) (hfin : (T j).2.2.2 = false) {ty : FieldType} (hd : parseFieldDescriptor (T j).2.2.1 = some ty) (hn : narrow ty v = v) (hfit : fits ty v = true) (hl0 : j < fs.length) (hw : ws.set q0 (a, .inr (ci, fs.set j v)) = ws') (k : VB K FB n0 nL ws' (pc + 3) lv st) : VB K FB n0 nL ws pc lv (v :: .ref a :: st) :=
  fun wx9 n9 ce9 sl9 hf9 hn9 hc9 hs9 => v_put hk hdg hin ty0 hty hnm q0 (gl he) hc j hj hlink hs hfin hd hn hfit hl0 (gs he hw) (k wx9 n9 ce9 sl9 hf9 hn9 hc9 hs9)
theorem vx_putF {C ref : String} {T : u_T} {N ci index a : Nat} {fs : List Value} {v : Value} {ws' : va_W} (hk : Ok K cc nL own Ts R) (hdg : decode cc pc = .ok (.putfield index, 3)) (hin : ∀ w ∈ u_ws C T N, w ∈ Ts) (ty0 : Nat → FieldType) (hty : ∀ k, k < N → parseFieldDescriptor (T k).2.2.1 = some (ty0 k)) (hnm : ∀ a, a < N → ∀ b, b < N → a ≠ b → (T a).2.1 ≠ (T b).2.1) (q0 : Nat) (he : ws[q0]? = some (a, .inr (ci, fs))) (hc : vwCl[ci]? = some (C, T, N)) (j : Nat) (hj : j < N) (hlink : Cond.fieldLink own index ref (T j).2.1 (T j).2.2.1 ∈ Ts) (hs : ref = (T j).1) (hfin : (T j).2.2.2 = true) (hi : (kM K).name = "<init>") (hoC : (T j).1 = own) {ty : FieldType} (hd : parseFieldDescriptor (T j).2.2.1 = some ty) (hn : narrow ty v = v) (hfit : fits ty v = true) (hl0 : j < fs.length) (hw : ws.set q0 (a, .inr (ci, fs.set j v)) = ws') (k : VB K FB n0 nL ws' (pc + 3) lv st) : VB K FB n0 nL ws pc lv (v :: .ref a :: st) :=
  fun wx9 n9 ce9 sl9 hf9 hn9 hc9 hs9 => v_putF hk hdg hin ty0 hty hnm q0 (gl he) hc j hj hlink hs hfin hi hoC hd hn hfit hl0 (gs he hw) (k wx9 n9 ce9 sl9 hf9 hn9 hc9 hs9)
theorem vx_ialdV {a n : Nat} {f : Nat → Int32} {i : Int32} (hk : Ok K cc nL own Ts R) (hdg : decode cc pc = .ok (.iaload, 1)) (q0 : Nat) (ha : ws[q0]? = some (a, .inl (gI (kG K), n, .inl f))) (hi : vp_in i n) (k : VB K FB n0 nL ws (pc + 1) lv (.int (f i.toNatClampNeg) :: st)) : VB K FB n0 nL ws pc lv (.int i :: .ref a :: st) :=
  fun wx9 n9 ce9 sl9 hf9 hn9 hc9 hs9 => v_ialdV hk hdg q0 (gl ha) hi (k wx9 n9 ce9 sl9 hf9 hn9 hc9 hs9)
theorem vx_iastV {a n : Nat} {f : Nat → Int32} {i : Int32} {x : Int32} {ws' : va_W} (hk : Ok K cc nL own Ts R) (hdg : decode cc pc = .ok (.iastore, 1)) (q0 : Nat) (ha : ws[q0]? = some (a, .inl (gI (kG K), n, .inl f))) (hi : vp_in i n) (hw : ws.set q0 (a, .inl (gI (kG K), n, .inl (upd f i.toNatClampNeg x))) = ws') (k : VB K FB n0 nL ws' (pc + 1) lv st) : VB K FB n0 nL ws pc lv (.int x :: .int i :: .ref a :: st) :=
  fun wx9 n9 ce9 sl9 hf9 hn9 hc9 hs9 => v_iastV hk hdg q0 (gl ha) hi (gs ha hw) (k wx9 n9 ce9 sl9 hf9 hn9 hc9 hs9)
theorem vx_laldV {a n : Nat} {f : Nat → Int64} {i : Int32} (hk : Ok K cc nL own Ts R) (hdg : decode cc pc = .ok (.laload, 1)) (q0 : Nat) (ha : ws[q0]? = some (a, .inl (gJ (kG K), n, .inr (.inl f)))) (hi : vp_in i n) (k : VB K FB n0 nL ws (pc + 1) lv (.long (f i.toNatClampNeg) :: st)) : VB K FB n0 nL ws pc lv (.int i :: .ref a :: st) :=
  fun wx9 n9 ce9 sl9 hf9 hn9 hc9 hs9 => v_laldV hk hdg q0 (gl ha) hi (k wx9 n9 ce9 sl9 hf9 hn9 hc9 hs9)
theorem vx_lastV {a n : Nat} {f : Nat → Int64} {i : Int32} {x : Int64} {ws' : va_W} (hk : Ok K cc nL own Ts R) (hdg : decode cc pc = .ok (.lastore, 1)) (q0 : Nat) (ha : ws[q0]? = some (a, .inl (gJ (kG K), n, .inr (.inl f)))) (hi : vp_in i n) (hw : ws.set q0 (a, .inl (gJ (kG K), n, .inr (.inl (vp_updL f i.toNatClampNeg x)))) = ws') (k : VB K FB n0 nL ws' (pc + 1) lv st) : VB K FB n0 nL ws pc lv (.long x :: .int i :: .ref a :: st) :=
  fun wx9 n9 ce9 sl9 hf9 hn9 hc9 hs9 => v_lastV hk hdg q0 (gl ha) hi (gs ha hw) (k wx9 n9 ce9 sl9 hf9 hn9 hc9 hs9)
theorem vx_zaldV {a n : Nat} {f : Nat → Int32} {i : Int32} (hk : Ok K cc nL own Ts R) (hdg : decode cc pc = .ok (.baload, 1)) (q0 : Nat) (ha : ws[q0]? = some (a, .inl (gZ (kG K), n, .inl f))) (hi : vp_in i n) (k : VB K FB n0 nL ws (pc + 1) lv (.int (f i.toNatClampNeg) :: st)) : VB K FB n0 nL ws pc lv (.int i :: .ref a :: st) :=
  fun wx9 n9 ce9 sl9 hf9 hn9 hc9 hs9 => v_zaldV hk hdg q0 (gl ha) hi (k wx9 n9 ce9 sl9 hf9 hn9 hc9 hs9)
theorem vx_zastV {a n : Nat} {f : Nat → Int32} {i : Int32} {x : Int32} {ws' : va_W} (hk : Ok K cc nL own Ts R) (hdg : decode cc pc = .ok (.bastore, 1)) (q0 : Nat) (ha : ws[q0]? = some (a, .inl (gZ (kG K), n, .inl f))) (hi : vp_in i n) (hz : vp_nar .boolean x = x) (hw : ws.set q0 (a, .inl (gZ (kG K), n, .inl (upd f i.toNatClampNeg x))) = ws') (k : VB K FB n0 nL ws' (pc + 1) lv st) : VB K FB n0 nL ws pc lv (.int x :: .int i :: .ref a :: st) :=
  fun wx9 n9 ce9 sl9 hf9 hn9 hc9 hs9 => v_zastV hk hdg q0 (gl ha) hi hz (gs ha hw) (k wx9 n9 ce9 sl9 hf9 hn9 hc9 hs9)
theorem vx_gets {C n d ref : String} {v : Value} {index : Nat} (hk : Ok K cc nL own Ts R) (hdg : decode cc pc = .ok (.getstatic index, 3)) (hZ : va_Z C n d v (kA K) (ks K) (ks K).heap) (hlink : Cond.fieldLink own index ref n d ∈ Ts) (hs : ref = C) (k : VB K FB n0 nL ws (pc + 3) lv (v :: st)) : VB K FB n0 nL ws pc lv st :=
  fun wx9 n9 ce9 sl9 hf9 hn9 hc9 hs9 => v_gets hk hdg hZ hlink hs (k wx9 n9 ce9 sl9 hf9 hn9 hc9 hs9)
theorem vx_ti {t N : Nat} {f : Nat → Value} {i : Int32} {v : Value} (hk : Ok K cc nL own Ts R) (hdg : decode cc pc = .ok (.iaload, 1)) (hT : va_T .int t N f (kA K) (ks K) (ks K).heap) (hi : vp_in i N) (hv : f i.toNatClampNeg = v) (k : VB K FB n0 nL ws (pc + 1) lv (v :: st)) : VB K FB n0 nL ws pc lv (.int i :: .ref t :: st) :=
  fun wx9 n9 ce9 sl9 hf9 hn9 hc9 hs9 => v_ti hk hdg hT hi hv (k wx9 n9 ce9 sl9 hf9 hn9 hc9 hs9)
theorem vx_tl {t N : Nat} {f : Nat → Value} {i : Int32} {v : Value} (hk : Ok K cc nL own Ts R) (hdg : decode cc pc = .ok (.laload, 1)) (hT : va_T .long t N f (kA K) (ks K) (ks K).heap) (hi : vp_in i N) (hv : f i.toNatClampNeg = v) (k : VB K FB n0 nL ws (pc + 1) lv (v :: st)) : VB K FB n0 nL ws pc lv (.int i :: .ref t :: st) :=
  fun wx9 n9 ce9 sl9 hf9 hn9 hc9 hs9 => v_tl hk hdg hT hi hv (k wx9 n9 ce9 sl9 hf9 hn9 hc9 hs9)
theorem vx_tlen {t N : Nat} {f : Nat → Value} {ty : FieldType} {v : Int32} (hk : Ok K cc nL own Ts R) (hdg : decode cc pc = .ok (.arraylength, 1)) (hT : va_T ty t N f (kA K) (ks K) (ks K).heap) (hv : nI N = v) (k : VB K FB n0 nL ws (pc + 1) lv (.int v :: st)) : VB K FB n0 nL ws pc lv (.ref t :: st) :=
  fun wx9 n9 ce9 sl9 hf9 hn9 hc9 hs9 => v_tlen hk hdg hT hv (k wx9 n9 ce9 sl9 hf9 hn9 hc9 hs9)
theorem vx_lmax {index : Nat} {x y : Int64} (hk : Ok K cc nL own Ts R) (hdg : decode cc pc = .ok (.invokestatic index, 3)) (h1 : Cond.methodLink own index Lib.MathLoose.max_long.x ∈ Ts) (h2 : Cond.static Lib.MathLoose.max_long.x ∈ Ts) (h3 : Cond.initialized "java/lang/Math" ∈ Ts) (h4 : Cond.code Lib.MathLoose.max_long.x Lib.MathLoose.max_long.code 4 (some .long) ∈ Ts) (hf : 1 ≤ R.frames) (hlo : (st.map fun v => v.category).sum + 15 ≤ R.locals) (hc : 810 ≤ R.cells) (hFB : ∀ wx n, FB wx n → n ≤ 160) (hs : 3100 ≤ R.slots) (k : VB K FB n0 nL ws (pc + 3) lv (.long (if y < x then x else y) :: st)) : VB K FB n0 nL ws pc lv (.long y :: .long x :: st) :=
  fun wx9 n9 ce9 sl9 hf9 hn9 hc9 hs9 => v_lmax hk hdg h1 h2 h3 h4 hf hlo (by have := hFB wx9 n9 hf9; omega) (by have := hFB wx9 n9 hf9; omega) (k wx9 n9 ce9 sl9 hf9 hn9 hc9 hs9)
theorem vx_lmin {index : Nat} {x y : Int64} (hk : Ok K cc nL own Ts R) (hdg : decode cc pc = .ok (.invokestatic index, 3)) (h1 : Cond.methodLink own index Lib.MathLoose.min_long.x ∈ Ts) (h2 : Cond.static Lib.MathLoose.min_long.x ∈ Ts) (h3 : Cond.initialized "java/lang/Math" ∈ Ts) (h4 : Cond.code Lib.MathLoose.min_long.x Lib.MathLoose.min_long.code 4 (some .long) ∈ Ts) (hf : 1 ≤ R.frames) (hlo : (st.map fun v => v.category).sum + 15 ≤ R.locals) (hc : 810 ≤ R.cells) (hFB : ∀ wx n, FB wx n → n ≤ 160) (hs : 3100 ≤ R.slots) (k : VB K FB n0 nL ws (pc + 3) lv (.long (if y < x then y else x) :: st)) : VB K FB n0 nL ws pc lv (.long y :: .long x :: st) :=
  fun wx9 n9 ce9 sl9 hf9 hn9 hc9 hs9 => v_lmin hk hdg h1 h2 h3 h4 hf hlo (by have := hFB wx9 n9 hf9; omega) (by have := hFB wx9 n9 hf9; omega) (k wx9 n9 ce9 sl9 hf9 hn9 hc9 hs9)
theorem vx_copyl {index a a0 n0 n1 : Nat} {f g : Nat → Int64} {sp dp n : Int32} {ws' : va_W} (hk : Ok K cc nL own Ts R) (hdg : decode cc pc = .ok (.invokestatic index, 3)) (h1 : Cond.methodLink own index arraycopyName ∈ Ts) (h2 : Cond.native arraycopyName ∈ Ts) (h3 : Cond.static arraycopyName ∈ Ts) (h4 : Cond.initialized "java/lang/System" ∈ Ts) (q0 q1 : Nat) (ha0 : ws[q0]? = some (a0, .inl (gJ (kG K), n0, .inr (.inl f)))) (ha1 : ws[q1]? = some (a, .inl (gJ (kG K), n1, .inr (.inl g)))) (e1 : ¬ sp < 0) (e2 : ¬ dp < 0) (e3 : ¬ n < 0) (e4 : sp.toNatClampNeg + n.toNatClampNeg ≤ n0) (e5 : dp.toNatClampNeg + n.toNatClampNeg ≤ n1) (hf : 1 ≤ R.frames) (hlo : (st.map fun v => v.category).sum + (nativeFrameWords "java/lang/System" "arraycopy" 5 + 11) ≤ R.locals) (hw : ws.set q1 (a, .inl (gJ (kG K), n1, .inr (.inl (va_cpy f g sp.toNatClampNeg dp.toNatClampNeg n.toNatClampNeg)))) = ws') (k : VB K FB n0 nL ws' (pc + 3) lv st) : VB K FB n0 nL ws pc lv (.int n :: .int dp :: .ref a :: .int sp :: .ref a0 :: st) :=
  fun wx9 n9 ce9 sl9 hf9 hn9 hc9 hs9 => v_copyl hk hdg h1 h2 h3 h4 q0 q1 (gl ha0) (gl ha1) e1 e2 e3 e4 e5 hf hlo (gs ha1 hw) (k wx9 n9 ce9 sl9 hf9 hn9 hc9 hs9)
theorem vx_tableIn {dflt lo hi off : Int} {offs : Array Int} {len tgt : Nat} {x k0 : Int32} (hk : Ok K cc nL own Ts R) (hdg : decode cc pc = .ok (.tableswitch dflt lo hi offs, len)) (hx : x = k0) (h1 : ¬ k0.toInt < lo) (h2 : ¬ hi < k0.toInt) (ho : offs[(k0.toInt - lo).toNat]? = some off) (ht : (pc : Int) + off = (tgt : Int)) (k : VB K FB n0 nL ws tgt lv st) : VB K FB n0 nL ws pc lv (.int x :: st) :=
  fun wx9 n9 ce9 sl9 hf9 hn9 hc9 hs9 => v_tableIn hk hdg hx h1 h2 ho ht (k wx9 n9 ce9 sl9 hf9 hn9 hc9 hs9)
theorem vx_tableOut {dflt lo hi : Int} {offs : Array Int} {len tgt : Nat} {x : Int32} (hk : Ok K cc nL own Ts R) (hdg : decode cc pc = .ok (.tableswitch dflt lo hi offs, len)) (h1 : x.toInt < lo ∨ hi < x.toInt) (ht : (pc : Int) + dflt = (tgt : Int)) (k : VB K FB n0 nL ws tgt lv st) : VB K FB n0 nL ws pc lv (.int x :: st) :=
  fun wx9 n9 ce9 sl9 hf9 hn9 hc9 hs9 => v_tableOut hk hdg h1 ht (k wx9 n9 ce9 sl9 hf9 hn9 hc9 hs9)
theorem vx_alenI {a : Nat} {x : vp_A} {v : Int32} (hk : Ok K cc nL own Ts R) (hdg : decode cc pc = .ok (.arraylength, 1)) (q0 : Nat) (ha : ws[q0]? = some (a, .inl (gI (kG K), x))) (hv : nI x.1 = v) (k : VB K FB n0 nL ws (pc + 1) lv (.int v :: st)) : VB K FB n0 nL ws pc lv (.ref a :: st) :=
  fun wx9 n9 ce9 sl9 hf9 hn9 hc9 hs9 => v_alenI hk hdg q0 (gl ha) hv (k wx9 n9 ce9 sl9 hf9 hn9 hc9 hs9)
theorem vx_alenJ {a : Nat} {x : vp_A} {v : Int32} (hk : Ok K cc nL own Ts R) (hdg : decode cc pc = .ok (.arraylength, 1)) (q0 : Nat) (ha : ws[q0]? = some (a, .inl (gJ (kG K), x))) (hv : nI x.1 = v) (k : VB K FB n0 nL ws (pc + 1) lv (.int v :: st)) : VB K FB n0 nL ws pc lv (.ref a :: st) :=
  fun wx9 n9 ce9 sl9 hf9 hn9 hc9 hs9 => v_alenJ hk hdg q0 (gl ha) hv (k wx9 n9 ce9 sl9 hf9 hn9 hc9 hs9)
theorem vx_alenB {a : Nat} {x : vp_A} {v : Int32} (hk : Ok K cc nL own Ts R) (hdg : decode cc pc = .ok (.arraylength, 1)) (q0 : Nat) (ha : ws[q0]? = some (a, .inl (gB (kG K), x))) (hv : nI x.1 = v) (k : VB K FB n0 nL ws (pc + 1) lv (.int v :: st)) : VB K FB n0 nL ws pc lv (.ref a :: st) :=
  fun wx9 n9 ce9 sl9 hf9 hn9 hc9 hs9 => v_alenB hk hdg q0 (gl ha) hv (k wx9 n9 ce9 sl9 hf9 hn9 hc9 hs9)
theorem vx_alenF {a : Nat} {x : vp_A} {v : Int32} (hk : Ok K cc nL own Ts R) (hdg : decode cc pc = .ok (.arraylength, 1)) (q0 : Nat) (ha : ws[q0]? = some (a, .inl (gF (kG K), x))) (hv : nI x.1 = v) (k : VB K FB n0 nL ws (pc + 1) lv (.int v :: st)) : VB K FB n0 nL ws pc lv (.ref a :: st) :=
  fun wx9 n9 ce9 sl9 hf9 hn9 hc9 hs9 => v_alenF hk hdg q0 (gl ha) hv (k wx9 n9 ce9 sl9 hf9 hn9 hc9 hs9)
theorem vx_mmax {index : Nat} {x y : Int32} (hk : Ok K cc nL own Ts R) (hdg : decode cc pc = .ok (.invokestatic index, 3)) (h1 : Cond.methodLink own index Lib.Math.max.name ∈ Ts) (h2 : Cond.static Lib.Math.max.name ∈ Ts) (h3 : Cond.initialized "java/lang/Math" ∈ Ts) (h4 : Cond.code Lib.Math.max.name Lib.Math.max.code 2 (some .int) ∈ Ts) (hf : 1 ≤ R.frames) (hlo : (st.map fun v => v.category).sum + 13 ≤ R.locals) (hc : 810 ≤ R.cells) (hFB : ∀ wx n, FB wx n → n ≤ 160) (hs : 3100 ≤ R.slots) (k : VB K FB n0 nL ws (pc + 3) lv (.int (if x < y then y else x) :: st)) : VB K FB n0 nL ws pc lv (.int y :: .int x :: st) :=
  fun wx9 n9 ce9 sl9 hf9 hn9 hc9 hs9 => v_mmax hk hdg h1 h2 h3 h4 hf hlo (by have := hFB wx9 n9 hf9; omega) (by have := hFB wx9 n9 hf9; omega) (k wx9 n9 ce9 sl9 hf9 hn9 hc9 hs9)
theorem vx_mmin {index : Nat} {x y : Int32} (hk : Ok K cc nL own Ts R) (hdg : decode cc pc = .ok (.invokestatic index, 3)) (h1 : Cond.methodLink own index Lib.Math.min.name ∈ Ts) (h2 : Cond.static Lib.Math.min.name ∈ Ts) (h3 : Cond.initialized "java/lang/Math" ∈ Ts) (h4 : Cond.code Lib.Math.min.name Lib.Math.min.code 2 (some .int) ∈ Ts) (hf : 1 ≤ R.frames) (hlo : (st.map fun v => v.category).sum + 13 ≤ R.locals) (hc : 810 ≤ R.cells) (hFB : ∀ wx n, FB wx n → n ≤ 160) (hs : 3100 ≤ R.slots) (k : VB K FB n0 nL ws (pc + 3) lv (.int (if y < x then y else x) :: st)) : VB K FB n0 nL ws pc lv (.int y :: .int x :: st) :=
  fun wx9 n9 ce9 sl9 hf9 hn9 hc9 hs9 => v_mmin hk hdg h1 h2 h3 h4 hf hlo (by have := hFB wx9 n9 hf9; omega) (by have := hFB wx9 n9 hf9; omega) (k wx9 n9 ce9 sl9 hf9 hn9 hc9 hs9)
theorem vx_lperm {ws' : va_W} (hp : ws.Perm ws') (k : VB K FB n0 nL ws' pc lv st) : VB K FB n0 nL ws pc lv st :=
  fun wx9 n9 ce9 sl9 hf9 hn9 hc9 hs9 => v_lperm (hp.append_right wx9) (k wx9 n9 ce9 sl9 hf9 hn9 hc9 hs9)
theorem vx_perm {ws' : va_W} (is : List Nat) (nl : Nat) (hnl : ws.length = nl) (hp : is.Perm (List.range nl)) (h : is.map (fun i => ws[i]?) = ws'.map some) (k : VB K FB n0 nL ws' pc lv st) : VB K FB n0 nL ws pc lv st := vx_lperm (perm_ixn is nl hnl hp h) k
end VBR
/-- a contract with a block: behind it the block's predicate holds again, and the makings are told by its number -/
def CtrB (l : Launch) (G : GG) (FB : va_W → Nat → Prop) (y : MethodName) (wsy : List Cond) (rm : Room) (av : List Value) (w : va_W) (post : Option Value → va_W → Prop) : Prop :=
  ∀ (wx : va_W) (n : Nat), FB wx n → CtrU l G y wsy rm av (w ++ wx) (fun v w' dc ds => ∃ (w1 wx' : va_W) (n' : Nat), post v w1 ∧ w' = w1 ++ wx' ∧ FB wx' n' ∧ n ≤ n' ∧ dc ≤ 5 * (n' - n) ∧ ds ≤ 19 * (n' - n))
def RtB (K : Cx) (FB : va_W → Nat → Prop) (n0 : Nat) (cc : ByteArray) (nL : Nat) (ret : Option FieldType) (post : Option Value → va_W → Prop) : Prop :=
  ∀ (v : Option Value) (w' : va_W) (pc : Nat) (lv : LV), post v w' → RetOk ret cc pc v → VB K FB n0 nL w' pc lv v.toList
theorem ctrB_entry {l : Launch} {G : GG} {FB : va_W → Nat → Prop} {y : MethodName} {wsy ws' : List Cond} {rm : Room} {av : List Value} {w : va_W} {post : Option Value → va_W → Prop} {cc : ByteArray} {maxL : Nat} {ret : Option FieldType} (hFB : ∀ wx n, FB wx n → n ≤ 160) (hrc : 800 ≤ rm.cells) (hrs : 3040 ≤ rm.slots) (hy : plainName y.cls = true) (hw : wsy = Cond.code y cc maxL ret :: ws') (hlen : (lg_sl av).length ≤ maxL) {lv0 : LV} (hlv : lv_args 0 av = lv0)
    (body : ∀ (K : Cx) (n0 : Nat), kl K = l → kG K = G → Ok K cc maxL y.cls wsy rm → (kM K).name = y.name → RtB K FB n0 cc maxL ret post → VB K FB n0 maxL w 0 lv0 []) : CtrB l G FB y wsy rm av w post := by
  intro wx n hf
  refine ctrU_entry (cc := cc) (maxL := maxL) (ret := ret) hy hw hlen hlv ?_
  intro K hl hG hk hn hrt
  refine body K n hl hG hk hn ?_ wx n 0 0 hf (Nat.le_refl _) (Nat.zero_le _) (Nat.zero_le _)
  intro v w' pc lv hp hr wx' n' ce sl hf' hn' hc hs
  have := hFB wx' n' hf'
  exact hrt v _ ce sl pc lv ⟨w', wx', n', hp, rfl, hf', hn', hc, hs⟩ (by omega) (by omega) hr
section VBC
variable {K : Cx} {FB : va_W → Nat → Prop} {n0 : Nat} {cc : ByteArray} {nL : Nat} {own : String} {Ts : List Cond} {R : Room} {L : va_W} {pc : Nat} {lv : LV} {st : List Value}
theorem vx_callS {y : MethodName} {wsy ws' : List Cond} {bytes : ByteArray} {maxL : Nat} {ret : Option FieldType} {rm : Room} {av : List Value} {wc wr : va_W} {post : Option Value → va_W → Prop} {stk : List Value} {index n : Nat} (hk : Ok K cc nL own Ts R) (hdg : decode cc pc = .ok (.invokestatic index, 3)) (hM : Ctr (kl K) (kG K) y wsy rm av wc post) (hG : GoodIn Ts (va_wsS own index y wsy)) (hw : wsy = Cond.code y bytes maxL ret :: ws')
    (hd : y.cls ≠ "java/lang/invoke/MethodHandle" ∧ y.cls ≠ "java/lang/invoke/VarHandle" ∧ (parseMethodDescriptor y.desc).map (fun d => d.parameters.length) = some n) (hfr : rm.frames + 1 ≤ R.frames ∧ 8 + (maxL + 11) + rm.locals ≤ R.locals) (hroom : (rm.cells = 0 ∧ rm.slots = 0) ∧ 800 ≤ R.cells ∧ 3040 ≤ R.slots) (hFB : ∀ wx n, FB wx n → n ≤ 160) (hn : av.length = n) (hst : stk = av.reverse ++ st) (hst8 : (st.map fun v => v.category).sum ≤ 8) (isR isC : List Nat) (nl : Nat) (hnl : L.length = nl) (hpl : (isR ++ isC).Perm (List.range nl)) (hRl : isR.map (fun i => L[i]?) = wr.map some) (hCl : isC.map (fun i => L[i]?) = wc.map some)
    (kk : ∀ (v : Option Value) (w' : va_W), post v w' → VB K FB n0 nL (wr ++ w') (pc + 3) lv (v.toList ++ st)) : VB K FB n0 nL L pc lv stk := by
  intro wx n9 ce sl hf hn9 hc9 hs9
  have hle := hFB wx n9 hf
  refine v_callSGT hk hdg hM hG hw hd hfr ⟨by rw [hroom.1.1]; omega, by rw [hroom.1.2]; omega⟩ hn hst hst8 isR isC nl hnl hpl hRl hCl ?_
  intro v w' hpo
  rw [hroom.1.1, hroom.1.2]
  exact kk v w' hpo wx n9 ce sl hf hn9 hc9 hs9
theorem vx_callV {y : MethodName} {wsy ws' : List Cond} {bytes : ByteArray} {maxL : Nat} {ret : Option FieldType} {rm : Room} {av As : List Value} {wc wr : va_W} {post : Option Value → va_W → Prop} {stk : List Value} {index n b : Nat} {C : String} {T : u_T} {N ci : Nat} {fs : List Value} (hk : Ok K cc nL own Ts R) (hdg : decode cc pc = .ok (.invokevirtual index, 3)) (hM : Ctr (kl K) (kG K) y wsy rm av wc post) (hav : av = .ref b :: As) (hG : GoodIn Ts (wsV own index C y wsy)) (hw : wsy = Cond.code y bytes maxL ret :: ws')
    (hd : y.cls = C ∧ y.cls ≠ "java/lang/invoke/MethodHandle" ∧ y.cls ≠ "java/lang/invoke/VarHandle" ∧ (parseMethodDescriptor y.desc).map (fun d => d.parameters.length) = some n) (hfr : rm.frames + 1 ≤ R.frames ∧ 8 + (maxL + 11) + rm.locals ≤ R.locals) (hroom : (rm.cells = 0 ∧ rm.slots = 0) ∧ 800 ≤ R.cells ∧ 3040 ≤ R.slots) (hFB : ∀ wx n, FB wx n → n ≤ 160) (hn : As.length = n) (hst : stk = As.reverse ++ .ref b :: st) (hst8 : (st.map fun v => v.category).sum ≤ 8)
    (q0 : Nat) (hq0 : L[q0]? = some (b, .inr (ci, fs))) (hc : vwCl[ci]? = some (C, T, N)) (isR isC : List Nat) (nl : Nat) (hnl : L.length = nl) (hpl : (isR ++ isC).Perm (List.range nl)) (hRl : isR.map (fun i => L[i]?) = wr.map some) (hCl : isC.map (fun i => L[i]?) = wc.map some)
    (kk : ∀ (v : Option Value) (w' : va_W), post v w' → VB K FB n0 nL (wr ++ w') (pc + 3) lv (v.toList ++ st)) : VB K FB n0 nL L pc lv stk := by
  intro wx n9 ce sl hf hn9 hc9 hs9
  have hle := hFB wx n9 hf
  refine v_callVGT hk hdg hM hav hG hw hd hfr ⟨by rw [hroom.1.1]; omega, by rw [hroom.1.2]; omega⟩ hn hst hst8 q0 hq0 hc isR isC nl hnl hpl hRl hCl ?_
  intro v w' hpo
  rw [hroom.1.1, hroom.1.2]
  exact kk v w' hpo wx n9 ce sl hf hn9 hc9 hs9
theorem vx_callB {y : MethodName} {wsy ws' : List Cond} {bytes : ByteArray} {maxL : Nat} {ret : Option FieldType} {rm : Room} {av As : List Value} {wc wr : va_W} {post : Option Value → va_W → Prop} {stk : List Value} {index n b : Nat} {C : String} {T : u_T} {N ci : Nat}  (hk : Ok K cc nL own Ts R) (hdg : decode cc pc = .ok (.invokevirtual index, 3)) (hM : CtrB (kl K) (kG K) FB y wsy rm av wc post) (hav : av = .ref b :: As) (hG : GoodIn Ts (wsV own index C y wsy)) (hw : wsy = Cond.code y bytes maxL ret :: ws')
    (hd : y.cls = C ∧ y.cls ≠ "java/lang/invoke/MethodHandle" ∧ y.cls ≠ "java/lang/invoke/VarHandle" ∧ (parseMethodDescriptor y.desc).map (fun d => d.parameters.length) = some n) (hfr : rm.frames + 1 ≤ R.frames ∧ 8 + (maxL + 11) + rm.locals ≤ R.locals) (hroom : 800 + rm.cells ≤ R.cells ∧ 3040 + rm.slots ≤ R.slots) (hFB : ∀ wx n, FB wx n → n ≤ 160) (hn : As.length = n) (hst : stk = As.reverse ++ .ref b :: st) (hst8 : (st.map fun v => v.category).sum ≤ 8)
    (hq0 : ∀ wx n, FB wx n → ∃ fs, ((b, .inr (ci, fs)) : Nat × va_E) ∈ L ++ wx) (hc : vwCl[ci]? = some (C, T, N)) (isR isC : List Nat) (nl : Nat) (hnl : L.length = nl) (hpl : (isR ++ isC).Perm (List.range nl)) (hRl : isR.map (fun i => L[i]?) = wr.map some) (hCl : isC.map (fun i => L[i]?) = wc.map some)
    (kk : ∀ (v : Option Value) (w' : va_W), post v w' → VB K FB n0 nL (wr ++ w') (pc + 3) lv (v.toList ++ st)) : VB K FB n0 nL L pc lv stk := by
  intro wx n9 ce sl hf hn9 hc9 hs9
  have hle := hFB wx n9 hf
  obtain ⟨fs, hq⟩ := hq0 wx n9 hf
  refine v_callVU hk hdg (hM wx n9 hf) hav hG hw hd hfr ⟨by omega, by omega⟩ hn hst hst8 hq hc (pm_front (pm_pl isR isC nl hnl hpl hRl hCl)) ?_
  rintro v _ dc ds ⟨w1, wx', n', hpo, rfl, hf', hn', hdc, hds⟩
  rw [← List.append_assoc]
  exact kk v w1 hpo wx' n' _ _ hf' (by omega) (by omega) (by omega)
end VBC
/-- another form of a contract: a larger world, cells in another order -/
theorem ctr_conv {l : Launch} {G : GG} {y : MethodName} {wsy : List Cond} {rm : Room} {av : List Value} {ws wr wc : va_W} {post post2 : Option Value → va_W → Prop} (hp : ws.Perm (wr ++ wc)) (h : Ctr l G y wsy rm av wc post) (hpost : ∀ v w1, post v w1 → ∃ w2, (wr ++ w1).Perm w2 ∧ post2 v w2) : Ctr l G y wsy rm av ws post2 := by
  intro sz p e h1 h2 h3 s m args below hf hS hP hK
  obtain ⟨n, o, w1, w2, w3, ⟨v, w', ho, ⟨w4, hpo, rfl⟩, hP1, hD1, hF⟩, hL⟩ := ctr_frame hp h sz p e h1 h2 h3 s m args below hf hS hP hK
  obtain ⟨w5, hpm, hp2⟩ := hpost v w4 hpo
  exact ⟨n, o, w1, w2, w3, ⟨v, w5, ho, hp2, hP1.lperm hpm, hD1.lperm hpm, hF⟩, hL⟩
theorem ctrU_conv {l : Launch} {G : GG} {y : MethodName} {wsy : List Cond} {rm : Room} {av : List Value} {ws wr wc : va_W} {post post2 : Option Value → va_W → Nat → Nat → Prop} (hp : ws.Perm (wr ++ wc)) (h : CtrU l G y wsy rm av wc post) (hpost : ∀ v w1 dc ds, post v w1 dc ds → ∃ w2, (wr ++ w1).Perm w2 ∧ post2 v w2 dc ds) : CtrU l G y wsy rm av ws post2 := by
  intro sz p e h1 h2 h3 s m args below hf hS hP hK
  obtain ⟨hav, hsz, hPw, hKw, hDw, hGw⟩ := hP
  subst hsz
  have hP' := hPw.lperm hp
  have hsub : ∀ q, va_A wc s.heap.size q → va_A ws s.heap.size q := by
    rintro q (⟨k, e0, hq⟩ | hq)
    · obtain ⟨k', hk'⟩ := List.getElem?_of_mem (hp.mem_iff.mpr (List.mem_append_right wr (List.mem_of_getElem? hq)))
      exact Or.inl ⟨k', e0, hk'⟩
    · exact Or.inr hq
  have hPc : va_P G.1 vwCl wc s.heap := va_P_mem.mpr fun q hq => va_P_mem.mp hP' q (List.mem_append_right _ hq)
  have hD' := (hDw.self (sz := s.heap.size)).lperm hp
  have hDc : va_D (fun _ => True) wc := by
    have hh := va_D_nd.mp (hDw.lperm hp)
    rw [List.map_append] at hh
    exact va_D_nd.mpr ⟨(List.nodup_append.mp hh.1).2.1, fun _ _ => trivial⟩
  obtain ⟨n, o, w1, w2, w3, ⟨v, w', dc, ds, ho, hpo, hP1, hD1, ⟨hz, hk1⟩, g1, g2⟩, Ls, hL1, hL2⟩ := h s.heap.size p e h1 h2 h3 s m args below hf hS ⟨hav, rfl, hPc, hKw, hDc, hGw.narrow hsub⟩ hK
  obtain ⟨hPj, hDj⟩ := va_join (wr := wr) (w1 := w') hP' hD' _ _ (ixs_c wr wc) (ixs_r wr wc) (nd_range _) (dis_rc wr wc) hk1 hsub hP1 hD1
  obtain ⟨w5, hpm, hp2⟩ := hpost v w' dc ds hpo
  exact ⟨n, o, w1, w2, w3, ⟨v, w5, dc, ds, ho, hp2, hPj.lperm hpm, hDj.lperm hpm, ⟨hz, fun q a b => hk1 q a (fun z => b (hsub q z))⟩, g1, g2⟩, Ls, hL1, fun q hq => hsub _ (hL2 q hq)⟩
