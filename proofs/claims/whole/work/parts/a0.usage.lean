/-! worlds by membership: another order of the cells; contracts that tell how much was made -/
theorem va_P_mem {D : va_G} {cl : List vw_C} {ws : va_W} {H : Heap} : va_P D cl ws H ↔ ∀ q ∈ ws, va_at D cl q H := by
  constructor
  · intro h q hq
    obtain ⟨k, hk⟩ := List.getElem?_of_mem hq
    exact h k q hk
  · intro h k q hk
    exact h q (List.mem_of_getElem? hk)
theorem va_D_nd {A : Nat → Prop} {ws : va_W} : va_D A ws ↔ (ws.map (fun q => q.1)).Nodup ∧ ∀ q ∈ ws, A q.1 := by
  constructor
  · rintro ⟨h1, h2⟩
    refine ⟨?_, fun q hq => ?_⟩
    · rw [List.Nodup, List.pairwise_iff_getElem]
      intro i j hi hj hij e
      rw [List.length_map] at hi hj
      rw [List.getElem_map, List.getElem_map] at e
      have := h1 i j _ _ (List.getElem?_eq_getElem hi) (List.getElem?_eq_getElem hj) e
      omega
    · obtain ⟨k, hk⟩ := List.getElem?_of_mem hq
      exact h2 k q hk
  · rintro ⟨h1, h2⟩
    rw [List.Nodup, List.pairwise_iff_getElem] at h1
    refine ⟨fun i j p q hp hq e => ?_, fun k q hk => h2 q (List.mem_of_getElem? hk)⟩
    obtain ⟨li, ei⟩ := List.getElem?_eq_some_iff.mp hp
    obtain ⟨lj, ej⟩ := List.getElem?_eq_some_iff.mp hq
    rcases Nat.lt_trichotomy i j with h | h | h
    · exact absurd (by rw [List.getElem_map, List.getElem_map, ei, ej]; exact e) (h1 i j (by rw [List.length_map]; exact li) (by rw [List.length_map]; exact lj) h)
    · exact h
    · exact absurd (by rw [List.getElem_map, List.getElem_map, ei, ej]; exact e.symm) (h1 j i (by rw [List.length_map]; exact lj) (by rw [List.length_map]; exact li) h)
theorem va_P.lperm {D : va_G} {cl : List vw_C} {ws ws' : va_W} {H : Heap} (hp : ws.Perm ws') (h : va_P D cl ws H) : va_P D cl ws' H := va_P_mem.mpr fun q hq => va_P_mem.mp h q (hp.mem_iff.mpr hq)
theorem va_D.lperm {A : Nat → Prop} {ws ws' : va_W} (hp : ws.Perm ws') (h : va_D A ws) : va_D A ws' := by
  rw [va_D_nd] at h ⊢
  exact ⟨(hp.map _).nodup_iff.mp h.1, fun q hq => h.2 q (hp.mem_iff.mpr hq)⟩
theorem v_lperm {K : Cx} {nL : Nat} {ws ws' : va_W} {ce sl pc : Nat} {lv : LV} {st : List Value} (hp : ws.Perm ws') (k : V K nL ws' ce sl pc lv st) : V K nL ws ce sl pc lv st :=
  fun H locs ls hP hD hS hl => k H locs ls (hP.lperm hp) (hD.lperm hp) hS hl
/-- cells that are told by their places -/
theorem perm_ix {α : Type} {as bs : List α} (is : List Nat) (hp : is.Perm (List.range as.length)) (h : is.map (fun i => as[i]?) = bs.map some) : as.Perm bs := by
  have h1 : (List.range as.length).map (fun i => as[i]?) = as.map some := by
    apply List.ext_getElem?
    intro k
    rw [List.getElem?_map, List.getElem?_map]
    by_cases hk : k < as.length
    · simp [hk]
    · simp [hk]
  have h2 := (hp.map (fun i => as[i]?))
  rw [h1, h] at h2
  have h3 := h2.filterMap id
  rw [List.filterMap_map, List.filterMap_map] at h3
  have e : ∀ l : List α, l.filterMap (id ∘ some) = l := fun l => by show l.filterMap some = l; exact List.filterMap_some
  rw [e, e] at h3
  exact h3.symm
/-- fewer cells -/
theorem v_drop {K : Cx} {nL : Nat} {ws wr : va_W} {ce sl pc : Nat} {lv : LV} {st : List Value} (k : V K nL ws ce sl pc lv st) : V K nL (ws ++ wr) ce sl pc lv st := by
  intro H locs ls hP hD hS hl
  refine k H locs ls (va_P_mem.mpr fun q hq => va_P_mem.mp hP q (List.mem_append_left _ hq)) ?_ hS hl
  rw [va_D_nd] at hD ⊢
  rw [List.map_append] at hD
  exact ⟨(List.nodup_append.mp hD.1).1, fun q hq => hD.2 q (List.mem_append_left _ hq)⟩
def tot (H : Heap) : Nat := H.foldl (fun n c => n + c.slots.size) 0
section US
variable {p : Program} {l : Launch} {e : Env} {R : Room} {s : State} {m : MethodId} {args : Array Value} {below : List Frame} {meth : Method} {c : Code} {T : State} {locs : List Loc} {cells slots : Nat}
theorem tot_s (X : Stand p l e R s m args below meth c T locs cells slots) : s.slotsUsed = tot s.heap := by
  have h := X.room
  simp only [State.hasRoom, Bool.and_eq_true] at h
  exact eq_of_beq h.2
theorem tot_T (X : Stand p l e R s m args below meth c T locs cells slots) : T.slotsUsed = tot T.heap := eq_of_beq X.book
theorem tot_le (X : Stand p l e R s m args below meth c T locs cells slots) : tot T.heap ≤ tot s.heap + slots := by
  rw [← tot_s X, ← tot_T X]
  exact X.used
theorem stand_tight {k n : Nat} (X : Stand p l e R s m args below meth c T locs cells slots) (h1 : T.heap.size ≤ s.heap.size + k) (h2 : tot T.heap ≤ tot s.heap + n) : Stand p l e R s m args below meth c T locs k n := by
  obtain ⟨e1, e2, e3, e4, e5, e6⟩ := X.same
  refine { X with same := ⟨e1, e2, h1, e4, ?_, e6⟩ }
  have a : T.slotsUsed = s.slotsUsed + _ := e4
  rw [← tot_s X, ← tot_T X, a] at h2
  exact Nat.le_of_add_le_add_left h2
end US
/-- a contract that tells how many cells and slots it made -/
def cQu (G : GG) (w : va_W) (sz : Nat) (post : Option Value → va_W → Nat → Nat → Prop) : Array Value → State → Outcome → State → Prop := fun _ st oc t => ∃ (v : Option Value) (w' : va_W) (dc ds : Nat), oc = .returned v ∧ post v w' dc ds ∧ va_P G.1 vwCl w' t.heap ∧ va_D (va_A w sz) w' ∧ va_F (va_A w sz) st t ∧ t.heap.size ≤ st.heap.size + dc ∧ tot t.heap ≤ tot st.heap + ds
def CtrU (l : Launch) (G : GG) (y : MethodName) (wsy : List Cond) (rm : Room) (av : List Value) (w : va_W) (post : Option Value → va_W → Nat → Nat → Prop) : Prop := ∀ sz : Nat, Met l y wsy rm (cPc G av w sz) (cQu G w sz post) rm.cells rm.slots (va_A w sz)
def RtU (K : Cx) (cc : ByteArray) (nL : Nat) (ret : Option FieldType) (R : Room) (post : Option Value → va_W → Nat → Nat → Prop) : Prop :=
  ∀ (v : Option Value) (w' : va_W) (ce sl pc : Nat) (lv : LV), post v w' ce sl → ce ≤ R.cells → sl ≤ R.slots → RetOk ret cc pc v → V K nL w' ce sl pc lv v.toList
theorem ctrU_entry {l : Launch} {G : GG} {y : MethodName} {wsy ws' : List Cond} {rm : Room} {av : List Value} {w : va_W} {post : Option Value → va_W → Nat → Nat → Prop} {cc : ByteArray} {maxL : Nat} {ret : Option FieldType} (hy : plainName y.cls = true) (hw : wsy = Cond.code y cc maxL ret :: ws') (hlen : (lg_sl av).length ≤ maxL) {lv0 : LV} (hlv : lv_args 0 av = lv0)
    (body : ∀ K : Cx, kl K = l → kG K = G → Ok K cc maxL y.cls wsy rm → (kM K).name = y.name → RtU K cc maxL ret rm post → V K maxL w 0 0 0 lv0 []) : CtrU l G y wsy rm av w post := by
  subst hlv
  intro sz
  refine Met.ofW (cc := cc) (maxL := maxL) (ret := ret) hy hw ?_
  intro p e s m args below meth c s₁ B hml hv
  obtain ⟨rfl, hsz, hP, hK, hD0, hG⟩ := hv
  subst hsz
  have hD := hD0.self (sz := s.heap.size)
  have hl := lv_entry av (n := maxL) hlen
  have hlocks := B.notSynchronized
  have hr := B.returns
  rw [lg_entry_eq]
  refine body (p, l, e, rm, s, m, av.toArray, below, meth, c, MQ below (cQu G w s.heap.size post) av.toArray s rm.cells rm.slots (va_A w s.heap.size), va_A w s.heap.size, G) rfl rfl ⟨B.exec, B.bytes, hml, findClass_of_methodNamed B.named, atoms_spec (ws := wsy) B.pre, hK, fun q h => Or.inr h, hG, rfl⟩ (name_of_methodNamed B.named B.method).1 ?_ s.heap [] _ hP hD va_S.rf hl
  intro v w' ce sl pc lv hpost hce hsl hret H locs ls hP' hD' hS' hl' T hT X
  have u1 : H.size ≤ s.heap.size + ce := by rw [← hT]; exact X.heapSize
  have u2 : tot H ≤ tot s.heap + sl := by rw [← hT]; exact tot_le X
  have hq : ∀ t : State, t.heap = H → s.WarmedH t.vm → cQu G w s.heap.size post av.toArray s (.returned v) t := fun t ht _ => ⟨v, w', ce, sl, rfl, hpost, by rw [ht]; exact hP', hD', hS'.F ht, by rw [ht]; exact u1, by rw [ht]; exact u2⟩
  refine W.widen hce hsl ?_ T hT X
  match ret, v, hret, hr, hq with
  | none, none, hret, hr, hq => exact W.vret B.exec B.bytes hr hq hS'.2.2 hret hlocks
  | some .int, some (.int x), hret, hr, hq => exact W.iret B.exec B.bytes hr hq hS'.2.2 hret hlocks
  | some .boolean, some (.int x), hret, hr, hq => exact W.zret B.exec B.bytes hr hret.2 hq hS'.2.2 hret.1 hlocks
  | some .long, some (.long x), hret, hr, hq => exact W.lret B.exec B.bytes hr hq hS'.2.2 hret hlocks
  | some (.object n), some (.ref a), hret, hr, hq => exact W.aret B.exec B.bytes hr (Or.inl ⟨n, rfl⟩) (Or.inr ⟨a, rfl⟩) hq hS'.2.2 hret hlocks
theorem ixs_r {α : Type} (wr wc : List α) : (List.range wr.length).map (fun i => (wr ++ wc)[i]?) = wr.map some := by
  apply List.ext_getElem?
  intro k
  rw [List.getElem?_map, List.getElem?_map]
  by_cases hk : k < wr.length
  · simp [hk, List.getElem?_append_left hk]
  · simp [hk]
theorem ixs_c {α : Type} (wr wc : List α) : ((List.range wc.length).map (fun i => wr.length + i)).map (fun i => (wr ++ wc)[i]?) = wc.map some := by
  apply List.ext_getElem?
  intro k
  rw [List.map_map, List.getElem?_map, List.getElem?_map]
  by_cases hk : k < wc.length
  · simp [hk, List.getElem?_append_right]
  · simp [hk]
