/-! compare, best, climb: class and reference answer alike -/
section CP
variable {N R w ms : Nat} {vals : Nat → Nat} {cell : Nat → Nat → Nat} {fvalues fcells fsv fsc : Nat → Int32} {i5 i6 : Int32} {fk ftops flows fsmall flarge fone ftwo frest ff fm tA lA tB lB lf rt : Nat → Int32} {g : Nat}
theorem c_climbF (hC : CS N R w vals cell fsv fsc) (hms : ms ≤ 4) (hg : g < 2 ^ 25 ∧ okA N g) (hgr : (gro (fun c => parN g c 5) N N).isSome = true) {st : Nat} (hst : st ≤ 30) : m_X6_climbFrom cell vals N R w (nI ms) (nI g) (nI st) = some (nI (clm cell vals N R w ms g st)) := by
  have hN := hC.1
  have hM := CS.ms hC
  have L := lp_inv (body := b_X6_climbFrom_5 cell vals N R w (nI ms) (nI st)) (fun s => ∃ k, s = (nI (clm cell vals N R w ms g k), nI k) ∧ k ≤ st) (fun s => s.1 = nI (clm cell vals N R w ms g st)) (fun s => st - u3 s.2) ?_ FU (nI g, 0) ⟨0, rfl, Nat.zero_le _⟩ (Nat.lt_of_le_of_lt (Nat.sub_le _ _) (FU_big (by omega)))
  · obtain ⟨r, e, h1⟩ := L
    rw [em_X6_climbFrom, e, Option.bind_some, h1]
  · rintro s ⟨k, rfl, hk⟩
    obtain ⟨ho, hr⟩ := clm_ok (ms := ms) hM hg hgr k
    by_cases hks : k = st
    · right
      rw [eb_X6_climbFrom_5, if_pos ((nle (by omega) (by omega)).mpr (by omega))]
      exact ⟨_, rfl, by rw [hks]⟩
    · rw [eb_X6_climbFrom_5, if_neg (fun z => by have := (nle (by omega) (by omega)).mp z; omega), c_near hC hms ho, Option.bind_some]
      have sdef : stG cell vals N R w ms (clm cell vals N R w ms g k) = match bsG cell vals N R w (clO N ms (clm cell vals N R w ms g k) N) with
        | none => none
        | some n => if gTo cell vals N R w (clm cell vals N R w ms g k) * gLo cell vals N R w n < gTo cell vals N R w n * gLo cell vals N R w (clm cell vals N R w ms g k) then some n else none := rfl
      cases hb : bsG cell vals N R w (clO N ms (clm cell vals N R w ms g k) N) with
      | none =>
        right
        rw [hb] at sdef
        rw [if_pos (show oI none < 0 by decide)]
        exact ⟨_, rfl, by rw [clm_stay sdef st hk]⟩
      | some n =>
        rw [hb] at sdef
        dsimp only at sdef
        have hn := bsG_ok hM (clO_ok (ms := ms) hN ho (Nat.le_refl N)) hb
        have hn1 := hn.1
        rw [if_neg (show ¬ oI (some n) < 0 from nI_pos (by omega)), show oI (some n) = nI n from rfl, wgh_G (okG_of hN hn) (okG_of hN ho), Option.bind_some]
        by_cases hq : gTo cell vals N R w (clm cell vals N R w ms g k) * gLo cell vals N R w n < gTo cell vals N R w n * gLo cell vals N R w (clm cell vals N R w ms g k)
        · left
          rw [if_pos hq] at sdef
          rw [if_pos (sg3_pos.mpr hq), lt, nI_1]
          refine ⟨_, rfl, ⟨k + 1, ?_, by omega⟩, ?_⟩
          · rw [show clm cell vals N R w ms g (k + 1) = (stG cell vals N R w ms (clm cell vals N R w ms g k)).getD (clm cell vals N R w ms g k) from rfl, sdef]; rfl
          · show st - u3 (nI (k + 1)) < st - u3 (nI k)
            rw [u3n (by omega), u3n (by omega)]; omega
        · right
          rw [if_neg hq] at sdef
          rw [if_neg (fun z => hq (sg3_pos.mp z))]
          exact ⟨_, rfl, by rw [clm_stay sdef st hk]⟩
theorem t_sOf (h : MS N R w vals cell fvalues fcells) (t : T16) (hK : MK cell vals N R w t.1 t.2.1 t.2.2.1) {i4 : Int32} {x y : Nat} (hx : x < 2 ^ 25 ∧ okA N x) (hy : y < 2 ^ 25 ∧ okA N y) :
    ∃ (s : Int32) (t' : T16), m_X11_signOf (nI N) (nI R) (nI w) i4 i5 i6 fvalues fcells t.1 t.2.1 t.2.2.1 t.2.2.2.1 t.2.2.2.2.1 t.2.2.2.2.2.1 t.2.2.2.2.2.2.1 t.2.2.2.2.2.2.2.1 t.2.2.2.2.2.2.2.2.1 t.2.2.2.2.2.2.2.2.2.1 t.2.2.2.2.2.2.2.2.2.2.1 t.2.2.2.2.2.2.2.2.2.2.2.1 t.2.2.2.2.2.2.2.2.2.2.2.2.1 t.2.2.2.2.2.2.2.2.2.2.2.2.2.1 t.2.2.2.2.2.2.2.2.2.2.2.2.2.2.1 t.2.2.2.2.2.2.2.2.2.2.2.2.2.2.2 (nI x) (nI y) = some (s, t') ∧ MK cell vals N R w t'.1 t'.2.1 t'.2.2.1 ∧ (s < 0 ↔ gTo cell vals N R w x * gLo cell vals N R w y < gTo cell vals N R w y * gLo cell vals N R w x) ∧ (s = 0 ↔ gTo cell vals N R w x * gLo cell vals N R w y = gTo cell vals N R w y * gLo cell vals N R w x) ∧ (0 < s ↔ gTo cell vals N R w y * gLo cell vals N R w x < gTo cell vals N R w x * gLo cell vals N R w y) := by
  obtain ⟨⟨s, t'⟩, e, K, s1, s2, s3⟩ := t_signOf (i4 := i4) (i5 := i5) (i6 := i6) (fk := t.1) (ftops := t.2.1) (flows := t.2.2.1) (fsmall := t.2.2.2.1) (flarge := t.2.2.2.2.1) (fone := t.2.2.2.2.2.1) (ftwo := t.2.2.2.2.2.2.1) (frest := t.2.2.2.2.2.2.2.1) (ff := t.2.2.2.2.2.2.2.2.1) (fm := t.2.2.2.2.2.2.2.2.2.1) (tA := t.2.2.2.2.2.2.2.2.2.2.1) (lA := t.2.2.2.2.2.2.2.2.2.2.2.1) (tB := t.2.2.2.2.2.2.2.2.2.2.2.2.1) (lB := t.2.2.2.2.2.2.2.2.2.2.2.2.2.1) (lf := t.2.2.2.2.2.2.2.2.2.2.2.2.2.2.1) (rt := t.2.2.2.2.2.2.2.2.2.2.2.2.2.2.2) h hK hx.1 hx.2 hy.1 hy.2
  exact ⟨s, t', e, K, s1, s2, s3⟩
theorem r_climbL (hC : CS N R w vals cell fsv fsc) (h : MS N R w vals cell fvalues fcells) (hms : ms ≤ 4) (hg : g < 2 ^ 25 ∧ okA N g) (hgr : (gro (fun c => parN g c 5) N N).isSome = true) {st : Nat} (hst : st ≤ 30) (t : T16) (hK : MK cell vals N R w t.1 t.2.1 t.2.2.1) :
    ∃ (z1 z2 : Int32) (t' : T16), lp (b_X11_climb_36 (nI N) (nI R) (nI w) (nI ms) i5 i6 fvalues fcells (nI st)) FU (nI g, 1, 0, t) = some (nI (clm cell vals N R w ms g st), z1, z2, t') ∧ MK cell vals N R w t'.1 t'.2.1 t'.2.2.1 := by
  have hN := h.1
  have L := lp_inv (body := b_X11_climb_36 (nI N) (nI R) (nI w) (nI ms) i5 i6 fvalues fcells (nI st)) (fun s => ∃ (k : Nat) (go : Int32) (t1 : T16), s = (nI (clm cell vals N R w ms g k), go, nI k, t1) ∧ k ≤ st ∧ MK cell vals N R w t1.1 t1.2.1 t1.2.2.1 ∧ (go = 0 → clm cell vals N R w ms g st = clm cell vals N R w ms g k)) (fun s => ∃ (z1 z2 : Int32) (t' : T16), s = (nI (clm cell vals N R w ms g st), z1, z2, t') ∧ MK cell vals N R w t'.1 t'.2.1 t'.2.2.1) (fun s => st - u3 s.2.2.1) ?_ FU (nI g, 1, 0, t) ⟨0, 1, t, rfl, Nat.zero_le _, hK, fun z => absurd z (by decide)⟩ (Nat.lt_of_le_of_lt (Nat.sub_le _ _) (FU_big (by omega)))
  · obtain ⟨r, e, z1, z2, t', rfl, K⟩ := L
    exact ⟨z1, z2, t', e, K⟩
  · rintro s ⟨k, go, t1, rfl, hk, hK1, hgo⟩
    obtain ⟨ho, hr⟩ := clm_ok (ms := ms) h hg hgr k
    have eb : b_X11_climb_36 (nI N) (nI R) (nI w) (nI ms) i5 i6 fvalues fcells (nI st) (nI (clm cell vals N R w ms g k), go, nI k, t1) = _ := eb_X11_climb_36 (nI N) (nI R) (nI w) (nI ms) i5 i6 fvalues fcells (nI st) (nI (clm cell vals N R w ms g k)) go (nI k) t1.1 t1.2.1 t1.2.2.1 t1.2.2.2.1 t1.2.2.2.2.1 t1.2.2.2.2.2.1 t1.2.2.2.2.2.2.1 t1.2.2.2.2.2.2.2.1 t1.2.2.2.2.2.2.2.2.1 t1.2.2.2.2.2.2.2.2.2.1 t1.2.2.2.2.2.2.2.2.2.2.1 t1.2.2.2.2.2.2.2.2.2.2.2.1 t1.2.2.2.2.2.2.2.2.2.2.2.2.1 t1.2.2.2.2.2.2.2.2.2.2.2.2.2.1 t1.2.2.2.2.2.2.2.2.2.2.2.2.2.2.1 t1.2.2.2.2.2.2.2.2.2.2.2.2.2.2.2
    rw [eb]
    by_cases hks : k = st
    · right
      rw [if_pos ((nle (by omega) (by omega)).mpr (by omega))]
      exact ⟨_, rfl, go, nI k, t1, by rw [hks], hK1⟩
    · rw [if_neg (fun z => by have := (nle (by omega) (by omega)).mp z; omega)]
      by_cases hg0 : go = 0
      · right
        rw [if_pos hg0]
        exact ⟨_, rfl, go, nI k, t1, by rw [hgo hg0], hK1⟩
      · rw [if_neg hg0]
        obtain ⟨z, t2, e2, K2⟩ := r_near (i5 := i5) (i6 := i6) h hms ho t1 hK1
        have same : bsG cell vals N R w (rlO N ms (clm cell vals N R w ms g k) N) = bsG cell vals N R w (clO N ms (clm cell vals N R w ms g k) N) := (bsL_same (fun x hx => gL_pos h (clO_ok (ms := ms) hN ho (Nat.le_refl N) x hx)) (lists_same hN ho hr)).symm
        rw [same] at e2
        have e2' : lp (b_X11_climb_53 (nI N) (nI R) (nI w) (nI ms) i5 i6 fvalues fcells (nI (clm cell vals N R w ms g k))) FU (-1, 0, t1.1, t1.2.1, t1.2.2.1, t1.2.2.2.1, t1.2.2.2.2.1, t1.2.2.2.2.2.1, t1.2.2.2.2.2.2.1, t1.2.2.2.2.2.2.2.1, t1.2.2.2.2.2.2.2.2.1, t1.2.2.2.2.2.2.2.2.2.1, t1.2.2.2.2.2.2.2.2.2.2.1, t1.2.2.2.2.2.2.2.2.2.2.2.1, t1.2.2.2.2.2.2.2.2.2.2.2.2.1, t1.2.2.2.2.2.2.2.2.2.2.2.2.2.1, t1.2.2.2.2.2.2.2.2.2.2.2.2.2.2.1, t1.2.2.2.2.2.2.2.2.2.2.2.2.2.2.2) = _ := e2
        rw [e2', Option.bind_some]
        have sdef : stG cell vals N R w ms (clm cell vals N R w ms g k) = match bsG cell vals N R w (clO N ms (clm cell vals N R w ms g k) N) with
          | none => none
          | some n => if gTo cell vals N R w (clm cell vals N R w ms g k) * gLo cell vals N R w n < gTo cell vals N R w n * gLo cell vals N R w (clm cell vals N R w ms g k) then some n else none := rfl
        have cS : clm cell vals N R w ms g (k + 1) = (stG cell vals N R w ms (clm cell vals N R w ms g k)).getD (clm cell vals N R w ms g k) := rfl
        have msr : st - u3 (nI (k + 1)) < st - u3 (nI k) := by rw [u3n (by omega), u3n (by omega)]; omega
        left
        cases hb : bsG cell vals N R w (clO N ms (clm cell vals N R w ms g k) N) with
        | none =>
          rw [hb] at sdef
          rw [sdef] at cS
          rw [if_pos (show oI none < 0 by decide), lt, nI_1]
          exact ⟨_, rfl, ⟨k + 1, 0, t2, by rw [cS]; rfl, by omega, K2, fun _ => by rw [clm_stay sdef st hk, clm_stay sdef (k + 1) (by omega)]⟩, msr⟩
        | some n =>
          rw [hb] at sdef
          dsimp only at sdef
          have hn := bsG_ok h (clO_ok (ms := ms) hN ho (Nat.le_refl N)) hb
          have hn1 := hn.1
          obtain ⟨s, t3, e3, K3, s1, s2, s3⟩ := t_sOf (i5 := i5) (i6 := i6) (i4 := nI ms) h t2 K2 hn ho
          dsimp only
          rw [if_neg (show ¬ oI (some n) < 0 from nI_pos (by omega)), show oI (some n) = nI n from rfl, e3, Option.bind_some]
          by_cases hq : gTo cell vals N R w (clm cell vals N R w ms g k) * gLo cell vals N R w n < gTo cell vals N R w n * gLo cell vals N R w (clm cell vals N R w ms g k)
          · rw [if_pos hq] at sdef
            rw [sdef] at cS
            rw [if_neg (pos_le.mpr (s3.mpr hq))]
            simp only [lt]
            rw [if_neg (show ¬ (1 : Int32) = 0 by decide), Option.bind_some, nI_1]
            exact ⟨_, rfl, ⟨k + 1, 1, t3, by rw [cS]; rfl, by omega, K3, fun z => absurd z (by decide)⟩, msr⟩
          · rw [if_neg hq] at sdef
            rw [sdef] at cS
            rw [if_pos (show s ≤ 0 from Int32.not_lt.mp (fun z => hq (s3.mp z)))]
            simp only [lt]
            rw [if_pos trivial, Option.bind_some, nI_1]
            exact ⟨_, rfl, ⟨k + 1, 0, t3, by rw [cS]; rfl, by omega, K3, fun _ => by rw [clm_stay sdef st hk, clm_stay sdef (k + 1) (by omega)]⟩, msr⟩
theorem p_compare (hC : CS N R w vals cell fsv fsc) (h : MS N R w vals cell fvalues fcells) (t : T16) (hK : MK cell vals N R w t.1 t.2.1 t.2.2.1) {i4 : Int32} (x y : Int32) :
    ∃ r t', m_X10_compare cell vals N R w (nI ms) x y = some r ∧ m_X11_compare (nI N) (nI R) (nI w) i4 i5 i6 fvalues fcells t.1 t.2.1 t.2.2.1 t.2.2.2.1 t.2.2.2.2.1 t.2.2.2.2.2.1 t.2.2.2.2.2.2.1 t.2.2.2.2.2.2.2.1 t.2.2.2.2.2.2.2.2.1 t.2.2.2.2.2.2.2.2.2.1 t.2.2.2.2.2.2.2.2.2.2.1 t.2.2.2.2.2.2.2.2.2.2.2.1 t.2.2.2.2.2.2.2.2.2.2.2.2.1 t.2.2.2.2.2.2.2.2.2.2.2.2.2.1 t.2.2.2.2.2.2.2.2.2.2.2.2.2.2.1 t.2.2.2.2.2.2.2.2.2.2.2.2.2.2.2 x y = some (r, t') ∧ MK cell vals N R w t'.1 t'.2.1 t'.2.2.1 := by
  have hN := h.1
  rw [em_X10_compare, em_X11_compare, isGraph10 hN, t_isGraph hN, Option.bind_some, Option.bind_some]
  cases hx : isG N x with
  | false =>
    rw [if_pos (show (if false = true then (1 : Int32) else 0) = 0 from rfl), if_pos (show (if false = true then (1 : Int32) else 0) = 0 from rfl)]
    exact ⟨_, t, rfl, rfl, hK⟩
  | true =>
    rw [if_neg (show ¬ (if true = true then (1 : Int32) else 0) = 0 by decide), if_neg (show ¬ (if true = true then (1 : Int32) else 0) = 0 by decide), isGraph10 hN, t_isGraph hN, Option.bind_some, Option.bind_some]
    cases hy : isG N y with
    | false =>
      rw [if_pos (show (if false = true then (1 : Int32) else 0) = 0 from rfl), if_pos (show (if false = true then (1 : Int32) else 0) = 0 from rfl)]
      exact ⟨_, t, rfl, rfl, hK⟩
    | true =>
      rw [if_neg (show ¬ (if true = true then (1 : Int32) else 0) = 0 by decide), if_neg (show ¬ (if true = true then (1 : Int32) else 0) = 0 by decide)]
      have hg := isG_lt hx
      have ho := isG_lt hy
      have e0 : x = nI (u3 x) := (nI_u3 x).symm
      have e1 : y = nI (u3 y) := (nI_u3 y).symm
      generalize u3 x = a at *
      generalize u3 y = b at *
      subst e0 e1
      obtain ⟨s, t', e, K, s1, s2, s3⟩ := t_sOf (i4 := i4) (i5 := i5) (i6 := i6) h t hK hg ho
      rw [wgh_G (okG_of hN hg) (okG_of hN ho), e, Option.bind_some, Option.bind_some]
      unfold sg3
      rcases Nat.lt_trichotomy (gTo cell vals N R w a * gLo cell vals N R w b) (gTo cell vals N R w b * gLo cell vals N R w a) with q | q | q
      · rw [if_pos q, if_neg (show ¬ 0 ≤ s from Int32.not_le.mpr (s1.mpr q)), Option.bind_some]
        exact ⟨_, t', rfl, rfl, K⟩
      · have hs0 : s = 0 := s2.mpr q
        rw [if_neg (by omega), if_pos q, hs0, if_pos (show (0 : Int32) ≤ 0 by decide)]
        exact ⟨_, t', rfl, rfl, K⟩
      · have hs0 : ¬ s = 0 := fun z => by have := s2.mp z; omega
        rw [if_neg (by omega), if_neg (by omega), if_pos (show 0 ≤ s from Int32.le_of_lt (s3.mpr q))]
        simp only [lt]
        rw [if_neg hs0]
        exact ⟨_, t', rfl, rfl, K⟩
theorem p_climb (hC : CS N R w vals cell fsv fsc) (h : MS N R w vals cell fvalues fcells) (hms : ms ≤ 4) (t : T16) (hK : MK cell vals N R w t.1 t.2.1 t.2.2.1) (x y : Int32) :
    ∃ r t', m_X10_climb cell vals N R w (nI ms) x y = some r ∧ m_X11_climb (nI N) (nI R) (nI w) (nI ms) i5 i6 fvalues fcells t.1 t.2.1 t.2.2.1 t.2.2.2.1 t.2.2.2.2.1 t.2.2.2.2.2.1 t.2.2.2.2.2.2.1 t.2.2.2.2.2.2.2.1 t.2.2.2.2.2.2.2.2.1 t.2.2.2.2.2.2.2.2.2.1 t.2.2.2.2.2.2.2.2.2.2.1 t.2.2.2.2.2.2.2.2.2.2.2.1 t.2.2.2.2.2.2.2.2.2.2.2.2.1 t.2.2.2.2.2.2.2.2.2.2.2.2.2.1 t.2.2.2.2.2.2.2.2.2.2.2.2.2.2.1 t.2.2.2.2.2.2.2.2.2.2.2.2.2.2.2 x y = some (r, t') ∧ MK cell vals N R w t'.1 t'.2.1 t'.2.2.1 := by
  have hN := h.1
  rw [em_X10_climb, em_X11_climb, isGraph10 hN, t_isGraph hN, Option.bind_some, Option.bind_some]
  cases hx : isG N x with
  | false =>
    rw [if_pos (show (if false = true then (1 : Int32) else 0) = 0 from rfl), if_pos (show (if false = true then (1 : Int32) else 0) = 0 from rfl)]
    exact ⟨_, t, rfl, rfl, hK⟩
  | true =>
    have h1 := isG_iff.mp hx
    have e0 : x = nI (u3 x) := (nI_u3 x).symm
    rw [if_neg (show ¬ (if true = true then (1 : Int32) else 0) = 0 by decide), if_neg (show ¬ (if true = true then (1 : Int32) else 0) = 0 by decide)]
    generalize u3 x = a at *
    subst e0
    have ha := h1.1.1
    rw [c_bnd (by omega) hms, t_bnd hN (by omega) hms, Option.bind_some, Option.bind_some, bd_same hN h1.1]
    cases hb : bdN a ms N with
    | false =>
      rw [if_pos (show (if false = true then (1 : Int32) else 0) = 0 from rfl), if_pos (show (if false = true then (1 : Int32) else 0) = 0 from rfl)]
      exact ⟨_, t, rfl, rfl, hK⟩
    | true =>
      rw [if_neg (show ¬ (if true = true then (1 : Int32) else 0) = 0 by decide), if_neg (show ¬ (if true = true then (1 : Int32) else 0) = 0 by decide)]
      by_cases hy0 : y < 0
      · rw [if_pos hy0, if_pos hy0]
        exact ⟨_, t, rfl, rfl, hK⟩
      · rw [if_neg hy0, if_neg hy0]
        by_cases hy1 : y ≤ 30
        · rw [if_pos hy1, if_pos hy1]
          have h2 : 0 ≤ y := Int32.not_lt.mp hy0
          rw [Int32.le_iff_toInt_le] at h2 hy1
          rw [show (0 : Int32).toInt = 0 from rfl] at h2
          rw [show (30 : Int32).toInt = 30 from rfl] at hy1
          have ey : y = nI y.toInt.toNat := by
            apply Int32.toInt_inj.mp
            rw [nI_toInt (by omega)]
            omega
          generalize hst : y.toInt.toNat = st at ey
          have hst30 : st ≤ 30 := by omega
          clear h2 hy1 hy0 hst
          subst ey
          obtain ⟨z1, z2, t', e, K⟩ := r_climbL (i5 := i5) (i6 := i6) hC h hms h1.1 h1.2 hst30 t hK
          have e' : lp (b_X11_climb_36 (nI N) (nI R) (nI w) (nI ms) i5 i6 fvalues fcells (nI st)) FU (nI a, 1, 0, t.1, t.2.1, t.2.2.1, t.2.2.2.1, t.2.2.2.2.1, t.2.2.2.2.2.1, t.2.2.2.2.2.2.1, t.2.2.2.2.2.2.2.1, t.2.2.2.2.2.2.2.2.1, t.2.2.2.2.2.2.2.2.2.1, t.2.2.2.2.2.2.2.2.2.2.1, t.2.2.2.2.2.2.2.2.2.2.2.1, t.2.2.2.2.2.2.2.2.2.2.2.2.1, t.2.2.2.2.2.2.2.2.2.2.2.2.2.1, t.2.2.2.2.2.2.2.2.2.2.2.2.2.2.1, t.2.2.2.2.2.2.2.2.2.2.2.2.2.2.2) = _ := e
          rw [c_climbF hC hms h1.1 h1.2 hst30, e', Option.bind_some, Option.bind_some]
          exact ⟨_, t', rfl, rfl, K⟩
        · rw [if_neg hy1, if_neg hy1]
          exact ⟨_, t, rfl, rfl, hK⟩
end CP
