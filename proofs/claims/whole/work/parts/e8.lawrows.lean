/-! rows of the law's own walk -/
section LR
variable {K : Cx} {cc : ByteArray} {nL : Nat} {own : String} {Ts : List Cond} {R : Room} {ws : va_W} {ce sl pc : Nat} {lv : LV} {st : List Value}
theorem v_sld {b L : Nat} {xs : Nat → Int32} (hk : Ok K cc nL own Ts R) (hX : va_X b L xs (ks K) (ks K).heap) (hbl : b < (ks K).heap.size) (hbA : ¬ kA K b) (hdg : decode cc pc = .ok (.iaload, 1)) {i : Int32} (hin : vp_in i L) (k : V K nL ws ce sl (pc + 1) lv (.int (xs i.toNatClampNeg) :: st)) : V K nL ws ce sl pc lv (.int i :: .ref b :: st) :=
  fun H locs ls hP hD hS hl => va_sld hk.1 hk.2.1 hX hbl hbA hS hin hdg (k H locs ls hP hD hS hl)
theorem v_slen {b L : Nat} {xs : Nat → Int32} (hk : Ok K cc nL own Ts R) (hX : va_X b L xs (ks K) (ks K).heap) (hbl : b < (ks K).heap.size) (hbA : ¬ kA K b) (hdg : decode cc pc = .ok (.arraylength, 1)) (k : V K nL ws ce sl (pc + 1) lv (.int (Int32.ofNat L) :: st)) : V K nL ws ce sl pc lv (.ref b :: st) :=
  fun H locs ls hP hD hS hl => va_slen hk.1 hk.2.1 hX hbl hbA hS hdg (k H locs ls hP hD hS hl)
theorem v_tsIn {x : Int32} {d lo hi : Int} {os : Array Int} {len tgt : Nat} {off : Int} (hk : Ok K cc nL own Ts R) (hdg : decode cc pc = .ok (.tableswitch d lo hi os, len)) (hin : ¬ (x.toInt < lo ∨ x.toInt > hi)) (ho : os[(x.toInt - lo).toNat]? = some off) (ht : (pc : Int) + off = (tgt : Int)) (k : V K nL ws ce sl tgt lv st) : V K nL ws ce sl pc lv (.int x :: st) := by
  intro H locs ls hP hD hS hl T hT X
  obtain ⟨t, h1, h2⟩ := k H locs ls hP hD hS hl T hT X
  refine ⟨t, X.tableswitchIn hk.1 (g := F0 (km K) pc ls (.int x :: st)) rfl rfl (by rw [hk.2.1]; exact hdg) hin ho (show (0 : Int) ≤ (pc : Int) + off by omega) _ ?_, h2⟩
  have e : ((pc : Int) + off).toNat = tgt := by omega
  show Steps _ _ _ (T.setTop { F0 (km K) pc ls (.int x :: st) with pc := ((pc : Int) + off).toNat, stack := st }) _
  rw [e]
  exact h1
theorem v_tsOut {x : Int32} {d lo hi : Int} {os : Array Int} {len tgt : Nat} (hk : Ok K cc nL own Ts R) (hdg : decode cc pc = .ok (.tableswitch d lo hi os, len)) (hin : x.toInt < lo ∨ x.toInt > hi) (ht : (pc : Int) + d = (tgt : Int)) (k : V K nL ws ce sl tgt lv st) : V K nL ws ce sl pc lv (.int x :: st) := by
  intro H locs ls hP hD hS hl T hT X
  obtain ⟨t, h1, h2⟩ := k H locs ls hP hD hS hl T hT X
  refine ⟨t, X.tableswitchOut hk.1 (g := F0 (km K) pc ls (.int x :: st)) rfl rfl (by rw [hk.2.1]; exact hdg) hin (show (0 : Int) ≤ (pc : Int) + d by omega) _ ?_, h2⟩
  have e : ((pc : Int) + d).toNat = tgt := by omega
  show Steps _ _ _ (T.setTop { F0 (km K) pc ls (.int x :: st) with pc := ((pc : Int) + d).toNat, stack := st }) _
  rw [e]
  exact h1
end LR
theorem pm3 {a b c : va_W} : ((a ++ b) ++ c).Perm ((b ++ c) ++ a) := by
  rw [List.append_assoc]
  exact List.perm_append_comm
theorem pm4 {z u v : va_W} : ((z ++ u) ++ v).Perm (u ++ (v ++ z)) := by
  rw [List.append_assoc, ← List.append_assoc u v z]
  exact List.perm_append_comm
theorem CW.mem {G : GG} {A : Nat → Nat} {cell : Nat → Nat → Nat} {vals : Nat → Nat} {N R w ms : Nat} {wx : va_W} (h : CW G A cell vals N R w ms wx) : ∃ fs, ((A 17, .inr (9, fs)) : Nat × va_E) ∈ wx := by
  obtain ⟨n, vs, fsv, fsc, fbo, ftc, ftf, fts, wxF, wxS, -, -, -, -, rfl⟩ := h
  exact ⟨_, List.mem_append_left _ List.mem_cons_self⟩
theorem RW.mem {G : GG} {o : Nat} {B : Nat → Nat} {cell : Nat → Nat → Nat} {vals : Nat → Nat} {N R w ms : Nat} {wy : va_W} (h : RW G o B cell vals N R w ms wy) : ∃ fs, ((o, .inr (10, fs)) : Nat × va_E) ∈ wy := by
  obtain ⟨i5, i6, F, -, -, -, rfl⟩ := h
  exact ⟨_, List.mem_cons_self⟩
theorem lgc_self (x : Int64) : lg_cmp x x = 0 := by
  unfold lg_cmp
  simp
