/-! in- and exclusion over the names that are no parents: graphs of at most four names as monomials -/
def dagL : Nat → List Nat
  | 0 => [0]
  | 1 => [0]
  | 2 => [0]
  | 3 => [0, 2, 16]
  | 4 => [0]
  | 5 => [0, 4, 256]
  | 6 => [0, 64, 512]
  | 7 => [0, 2, 4, 6, 16, 20, 64, 66, 68, 70, 80, 84, 256, 258, 272, 320, 336, 512, 514, 516, 518, 528, 768, 770, 784]
  | 8 => [0]
  | 9 => [0, 8, 4096]
  | 10 => [0, 128, 8192]
  | 11 => [0, 2, 8, 10, 16, 24, 128, 130, 136, 138, 144, 152, 4096, 4098, 4112, 4224, 4240, 8192, 8194, 8200, 8202, 8208, 12288, 12290, 12304]
  | 12 => [0, 2048, 16384]
  | 13 => [0, 4, 8, 12, 256, 264, 2048, 2052, 2056, 2060, 2304, 2312, 4096, 4100, 4352, 6144, 6400, 16384, 16388, 16392, 16396, 16640, 20480, 20484, 20736]
  | 14 => [0, 64, 128, 192, 512, 640, 2048, 2112, 2176, 2240, 2560, 2688, 8192, 8256, 8704, 10240, 10752, 16384, 16448, 16512, 16576, 16896, 24576, 24640, 25088]
  | _ => [0, 2, 4, 6, 8, 10, 12, 14, 16, 20, 24, 28, 64, 66, 68, 70, 72, 74, 76, 78, 80, 84, 88, 92, 128, 130, 132, 134, 136, 138, 140, 142, 144, 148, 152, 156, 192, 194, 196, 198, 200, 202, 204, 206, 208, 212, 216, 220, 256, 258, 264, 266, 272, 280, 320, 328, 336, 344, 384, 386, 392, 394, 400, 408, 448, 456, 464, 472, 512, 514, 516, 518, 520, 522, 524, 526, 528, 536, 640, 642, 644, 646, 648, 650, 652, 654, 656, 664, 768, 770, 776, 778, 784, 792, 896, 898, 904, 906, 912, 920, 2048, 2050, 2052, 2054, 2056, 2058, 2060, 2062, 2064, 2068, 2072, 2076, 2112, 2114, 2116, 2118, 2120, 2122, 2124, 2126, 2128, 2132, 2136, 2140, 2176, 2178, 2180, 2182, 2184, 2186, 2188, 2190, 2192, 2196, 2200, 2204, 2240, 2242, 2244, 2246, 2248, 2250, 2252, 2254, 2256, 2260, 2264, 2268, 2304, 2306, 2312, 2314, 2320, 2328, 2368, 2376, 2384, 2392, 2432, 2434, 2440, 2442, 2448, 2456, 2496, 2504, 2512, 2520, 2560, 2562, 2564, 2566, 2568, 2570, 2572, 2574, 2576, 2584, 2688, 2690, 2692, 2694, 2696, 2698, 2700, 2702, 2704, 2712, 2816, 2818, 2824, 2826, 2832, 2840, 2944, 2946, 2952, 2954, 2960, 2968, 4096, 4098, 4100, 4102, 4112, 4116, 4160, 4162, 4164, 4166, 4176, 4180, 4224, 4228, 4240, 4244, 4288, 4292, 4304, 4308, 4352, 4354, 4368, 4416, 4432, 4480, 4496, 4544, 4560, 4608, 4610, 4612, 4614, 4624, 4736, 4752, 4864, 4866, 4880, 4992, 5008, 6144, 6146, 6160, 6208, 6224, 6272, 6288, 6336, 6352, 6400, 6402, 6416, 6464, 6480, 6528, 6544, 6592, 6608, 6656, 6658, 6672, 6784, 6800, 6912, 6914, 6928, 7040, 7056, 8192, 8194, 8196, 8198, 8200, 8202, 8204, 8206, 8208, 8212, 8256, 8258, 8260, 8262, 8264, 8266, 8268, 8270, 8272, 8276, 8448, 8450, 8456, 8458, 8464, 8512, 8528, 8704, 8706, 8708, 8710, 8712, 8714, 8716, 8718, 8720, 8960, 8962, 8968, 8970, 8976, 10240, 10242, 10244, 10246, 10248, 10250, 10252, 10254, 10256, 10496, 10498, 10504, 10506, 10512, 10752, 10754, 10756, 10758, 10760, 10762, 10764, 10766, 10768, 11008, 11010, 11016, 11018, 11024, 12288, 12290, 12292, 12294, 12304, 12308, 12352, 12354, 12356, 12358, 12368, 12372, 12544, 12546, 12560, 12608, 12624, 12800, 12802, 12804, 12806, 12816, 13056, 13058, 13072, 14336, 14338, 14352, 14592, 14594, 14608, 14848, 14850, 14864, 15104, 15106, 15120, 16384, 16386, 16388, 16390, 16392, 16394, 16396, 16398, 16400, 16404, 16408, 16412, 16448, 16450, 16452, 16454, 16456, 16458, 16460, 16462, 16464, 16468, 16472, 16476, 16512, 16514, 16516, 16518, 16520, 16522, 16524, 16526, 16528, 16532, 16536, 16540, 16576, 16578, 16580, 16582, 16584, 16586, 16588, 16590, 16592, 16596, 16600, 16604, 16640, 16642, 16656, 16704, 16720, 16768, 16784, 16832, 16848, 16896, 16898, 16900, 16902, 16904, 16906, 16908, 16910, 16912, 17152, 17154, 17168, 20480, 20482, 20484, 20486, 20496, 20500, 20544, 20546, 20548, 20550, 20560, 20564, 20608, 20612, 20624, 20628, 20672, 20676, 20688, 20692, 20736, 20738, 20752, 20800, 20816, 20864, 20880, 20928, 20944, 20992, 20994, 20996, 20998, 21008, 21248, 21250, 21264, 24576, 24578, 24580, 24582, 24584, 24586, 24588, 24590, 24592, 24596, 24640, 24642, 24644, 24646, 24648, 24650, 24652, 24654, 24656, 24660, 24832, 24834, 24848, 24896, 24912, 25088, 25090, 25092, 25094, 25096, 25098, 25100, 25102, 25104, 25344, 25346, 25360, 28672, 28674, 28676, 28678, 28688, 28692, 28736, 28738, 28740, 28742, 28752, 28756, 28928, 28930, 28944, 28992, 29008, 29184, 29186, 29188, 29190, 29200, 29440, 29442, 29456]
def dg (m c : Nat) : Nat := m / 16 ^ c % 16
def mq (t : Nat → Nat → Nat) (s m : Nat) : Nat := (if s % 2 = 1 then t 0 (m % 16) else 1) * (if s / 2 % 2 = 1 then t 1 (m / 16 % 16) else 1) * (if s / 4 % 2 = 1 then t 2 (m / 256 % 16) else 1) * (if s / 8 % 2 = 1 then t 3 (m / 4096 % 16) else 1)
def ev (t : Nat → Nat → Nat) (s : Nat) : List Nat → Nat
  | [] => 0
  | m :: L => mq t s m + ev t s L
def ssum (f : Nat → Nat) : List Nat → Nat
  | [] => 0
  | s :: L => f s + ssum f L
def subL (X : Nat) : List Nat := (List.range 16).filter (fun s => Nat.beq (s &&& X) s)
def insN (x : Nat) : List Nat → List Nat
  | [] => [x]
  | y :: L => match Nat.ble x y with
    | true => x :: y :: L
    | false => y :: insN x L
def isoN : List Nat → List Nat
  | [] => []
  | x :: L => insN x (isoN L)
def plN (X E : Nat) : Nat → List Nat
  | 0 => dagL X
  | n + 1 => match Nat.beq (E / 2 ^ n % 2) 1 with
    | true => (plN X E n).flatMap (fun m => (subL X).map (fun s => m + s * 16 ^ n))
    | false => plN X E n
def snk (m E : Nat) : Bool := Nat.beq (m % 16 &&& E) 0 && (Nat.beq (m / 16 % 16 &&& E) 0 && (Nat.beq (m / 256 % 16 &&& E) 0 && Nat.beq (m / 4096 % 16 &&& E) 0))
theorem insN_perm (x : Nat) (L : List Nat) : (insN x L).Perm (x :: L) := by
  induction L with
  | nil => exact List.Perm.refl _
  | cons y L ih =>
    unfold insN
    cases Nat.ble x y with
    | true => exact List.Perm.refl _
    | false => exact (List.Perm.cons y ih).trans (List.Perm.swap x y L)
theorem isoN_perm (L : List Nat) : (isoN L).Perm L := by
  induction L with
  | nil => exact List.Perm.refl _
  | cons y L ih => exact (insN_perm y (isoN L)).trans (List.Perm.cons y ih)
theorem ev_perm {t : Nat → Nat → Nat} {s : Nat} {L L' : List Nat} (h : L.Perm L') : ev t s L = ev t s L' := by
  induction h with
  | nil => rfl
  | cons x _ ih => unfold ev; rw [ih]
  | swap x y l => unfold ev; unfold ev; omega
  | trans _ _ i1 i2 => exact i1.trans i2
theorem ev_app {t : Nat → Nat → Nat} {s : Nat} (L L' : List Nat) : ev t s (L ++ L') = ev t s L + ev t s L' := by
  induction L with
  | nil => simp [ev]
  | cons x L ih => show mq t s x + ev t s (L ++ L') = (mq t s x + ev t s L) + ev t s L'; rw [ih, Nat.add_assoc]
theorem mv_step {t : Nat → Nat → Nat} {n Y m s : Nat} (hn : n < 4) (hY : Y / 2 ^ n % 2 = 0) (hm : dg m n = 0) (hs : s < 16) : mq t (Y + 2 ^ n) (m + s * 16 ^ n) = mq t Y m * t n s := by
  unfold dg at hm
  unfold mq
  match n, hn with
  | 0, _ =>
    simp only [Nat.pow_zero, Nat.div_one, Nat.mul_one] at *
    rw [if_neg (show ¬ Y % 2 = 1 by omega), if_pos (show (Y + 1) % 2 = 1 by omega), show (Y + 1) / 2 % 2 = Y / 2 % 2 by omega, show (Y + 1) / 4 % 2 = Y / 4 % 2 by omega, show (Y + 1) / 8 % 2 = Y / 8 % 2 by omega, show (m + s) % 16 = s by omega, show (m + s) / 16 % 16 = m / 16 % 16 by omega, show (m + s) / 256 % 16 = m / 256 % 16 by omega, show (m + s) / 4096 % 16 = m / 4096 % 16 by omega]
    simp only [Nat.one_mul]
    ac_rfl
  | 1, _ =>
    simp only [Nat.pow_one] at *
    rw [if_neg (show ¬ Y / 2 % 2 = 1 by omega), if_pos (show (Y + 2) / 2 % 2 = 1 by omega), show (Y + 2) % 2 = Y % 2 by omega, show (Y + 2) / 4 % 2 = Y / 4 % 2 by omega, show (Y + 2) / 8 % 2 = Y / 8 % 2 by omega, show (m + s * 16) % 16 = m % 16 by omega, show (m + s * 16) / 16 % 16 = s by omega, show (m + s * 16) / 256 % 16 = m / 256 % 16 by omega, show (m + s * 16) / 4096 % 16 = m / 4096 % 16 by omega]
    simp only [Nat.mul_one]
    ac_rfl
  | 2, _ =>
    simp only [show 2 ^ 2 = 4 from rfl, show 16 ^ 2 = 256 from rfl] at *
    rw [if_neg (show ¬ Y / 4 % 2 = 1 by omega), if_pos (show (Y + 4) / 4 % 2 = 1 by omega), show (Y + 4) % 2 = Y % 2 by omega, show (Y + 4) / 2 % 2 = Y / 2 % 2 by omega, show (Y + 4) / 8 % 2 = Y / 8 % 2 by omega, show (m + s * 256) % 16 = m % 16 by omega, show (m + s * 256) / 16 % 16 = m / 16 % 16 by omega, show (m + s * 256) / 256 % 16 = s by omega, show (m + s * 256) / 4096 % 16 = m / 4096 % 16 by omega]
    simp only [Nat.mul_one]
    ac_rfl
  | 3, _ =>
    simp only [show 2 ^ 3 = 8 from rfl, show 16 ^ 3 = 4096 from rfl] at *
    rw [if_neg (show ¬ Y / 8 % 2 = 1 by omega), if_pos (show (Y + 8) / 8 % 2 = 1 by omega), show (Y + 8) % 2 = Y % 2 by omega, show (Y + 8) / 2 % 2 = Y / 2 % 2 by omega, show (Y + 8) / 4 % 2 = Y / 4 % 2 by omega, show (m + s * 4096) % 16 = m % 16 by omega, show (m + s * 4096) / 16 % 16 = m / 16 % 16 by omega, show (m + s * 4096) / 256 % 16 = m / 256 % 16 by omega, show (m + s * 4096) / 4096 % 16 = s by omega]
    simp only [Nat.mul_one]
theorem ev_one {t : Nat → Nat → Nat} {n Y m : Nat} (hn : n < 4) (hY : Y / 2 ^ n % 2 = 0) (hm : dg m n = 0) : ∀ Ls : List Nat, (∀ s ∈ Ls, s < 16) → ev t (Y + 2 ^ n) (Ls.map (fun s => m + s * 16 ^ n)) = mq t Y m * ssum (t n) Ls := by
  intro Ls
  induction Ls with
  | nil => intro _; rfl
  | cons s Ls ih =>
    intro h
    rw [List.map_cons]
    unfold ev ssum
    rw [mv_step hn hY hm (h s List.mem_cons_self), ih (fun s hs => h s (List.mem_cons_of_mem _ hs)), Nat.mul_add]
theorem ev_flat {t : Nat → Nat → Nat} {n Y : Nat} (hn : n < 4) (hY : Y / 2 ^ n % 2 = 0) {Ls : List Nat} (hs : ∀ s ∈ Ls, s < 16) : ∀ L : List Nat, (∀ m ∈ L, dg m n = 0) → ev t (Y + 2 ^ n) (L.flatMap (fun m => Ls.map (fun s => m + s * 16 ^ n))) = ev t Y L * ssum (t n) Ls := by
  intro L
  induction L with
  | nil => intro _; simp [ev]
  | cons m L ih =>
    intro h
    rw [List.flatMap_cons, ev_app, ih (fun m hm => h m (List.mem_cons_of_mem _ hm)), ev_one hn hY (h m List.mem_cons_self) Ls hs]
    rw [show ev t Y (m :: L) = mq t Y m + ev t Y L from rfl, Nat.add_mul]
theorem subL_lt (X : Nat) : ∀ s ∈ subL X, s < 16 := fun s hs => List.mem_range.mp (List.mem_filter.mp hs).1
/-- the sums of the ends' weights, first n names -/
def prE (t : Nat → Nat → Nat) (X E : Nat) : Nat → Nat
  | 0 => 1
  | n + 1 => prE t X E n * (if E / 2 ^ n % 2 = 1 then ssum (t n) (subL X) else 1)
/-- all graphs of these names, together -/
def gT4 (t : Nat → Nat → Nat) (s : Nat) : Nat := ev t s (dagL s)
theorem tb_plz1 : ∀ s, s < 16 → ∀ E, E < 16 → Nat.beq (E &&& s) E = true → ∀ n, n < 4 → Nat.beq (E / 2 ^ n % 2) 1 = true → (plN (s - E) E n).all (fun m => Nat.beq (dg m n) 0) = true := by decide +kernel
theorem tb_plz2 : ∀ s, s < 16 → ∀ E, E < 16 → Nat.beq (E &&& s) E = true → ∀ n, n < 4 → Nat.beq (E / 2 ^ n % 2) 1 = true → (s - E + E % 2 ^ n) / 2 ^ n % 2 = 0 := by decide +kernel
theorem tb_plz3 : ∀ E, E < 16 → ∀ n, n < 4 → Nat.beq (E / 2 ^ n % 2) 1 = true → E % 2 ^ (n + 1) = E % 2 ^ n + 2 ^ n := by decide +kernel
theorem tb_plz {s : Nat} (hs : s < 16) {E : Nat} (hE : E < 16) (h : Nat.beq (E &&& s) E = true) {n : Nat} (hn : n < 4) (hb : Nat.beq (E / 2 ^ n % 2) 1 = true) : (plN (s - E) E n).all (fun m => Nat.beq (dg m n) 0) = true ∧ (s - E + E % 2 ^ n) / 2 ^ n % 2 = 0 ∧ E % 2 ^ (n + 1) = E % 2 ^ n + 2 ^ n := ⟨tb_plz1 s hs E hE h n hn hb, tb_plz2 s hs E hE h n hn hb, tb_plz3 E hE n hn hb⟩
theorem tb_pl0 : ∀ E, E < 16 → ∀ n, n < 4 → Nat.beq (E / 2 ^ n % 2) 1 = false → E % 2 ^ (n + 1) = E % 2 ^ n := by decide +kernel
theorem tb_pli : ∀ s, s < 16 → ∀ E, E < 16 → Nat.beq (E &&& s) E = true → Nat.beq E 0 = false → isoN (plN (s - E) E 4) = (dagL s).filter (fun m => snk m E) := by decide +kernel
theorem pl_ev {t : Nat → Nat → Nat} {s E : Nat} (hs : s < 16) (hE : E < 16) (h : Nat.beq (E &&& s) E = true) : ∀ n, n ≤ 4 → ev t (s - E + E % 2 ^ n) (plN (s - E) E n) = gT4 t (s - E) * prE t (s - E) E n := by
  intro n
  induction n with
  | zero => intro _; rw [Nat.pow_zero, Nat.mod_one]; show ev t (s - E) (dagL (s - E)) = _; unfold prE gT4; rw [Nat.mul_one]
  | succ n ih =>
    intro hn
    have ih := ih (by omega)
    unfold plN prE
    cases hb : Nat.beq (E / 2 ^ n % 2) 1 with
    | true =>
      obtain ⟨a1, a2, a3⟩ := tb_plz hs hE h (by omega) hb
      rw [if_pos (Nat.eq_of_beq_eq_true hb), a3, ← Nat.add_assoc]
      have a1' : ∀ m ∈ plN (s - E) E n, dg m n = 0 := fun m hm => Nat.eq_of_beq_eq_true (List.all_eq_true.mp a1 m hm)
      show ev t (s - E + E % 2 ^ n + 2 ^ n) ((plN (s - E) E n).flatMap (fun m => (subL (s - E)).map (fun k => m + k * 16 ^ n))) = _
      rw [ev_flat (by omega) a2 (subL_lt _) _ a1', ih, Nat.mul_assoc]
    | false =>
      rw [if_neg (fun z => by rw [z] at hb; exact absurd hb (by decide)), Nat.mul_one, tb_pl0 E hE n (by omega) hb]
      exact ih
theorem tb_sE : ∀ s, s < 16 → ∀ E, E < 16 → Nat.beq (E &&& s) E = true → s - E + E % 2 ^ 4 = s := by decide +kernel
theorem ends_ev {t : Nat → Nat → Nat} {s E : Nat} (hs : s < 16) (hE : E < 16) (h : Nat.beq (E &&& s) E = true) (h0 : Nat.beq E 0 = false) : gT4 t (s - E) * prE t (s - E) E 4 = ev t s ((dagL s).filter (fun m => snk m E)) := by
  rw [← pl_ev hs hE h 4 (by omega), tb_sE s hs E hE h, ← tb_pli s hs E hE h h0]
  exact (ev_perm (isoN_perm _)).symm
/-- a sum over the numbers below n for which p holds -/
def acF (p : Nat → Bool) (f : Nat → Nat) : Nat → Nat
  | 0 => 0
  | n + 1 => acF p f n + (match p n with
    | true => f n
    | false => 0)
theorem acF_congr {p : Nat → Bool} {f g : Nat → Nat} : ∀ n, (∀ k, k < n → p k = true → f k = g k) → acF p f n = acF p g n := by
  intro n
  induction n with
  | zero => intro _; rfl
  | succ n ih =>
    intro h
    unfold acF
    rw [ih (fun k hk => h k (by omega))]
    cases hp : p n with
    | true => simp only; rw [h n (by omega) hp]
    | false => rfl
theorem acF_add {p : Nat → Bool} {f g : Nat → Nat} : ∀ n, acF p (fun k => f k + g k) n = acF p f n + acF p g n := by
  intro n
  induction n with
  | zero => rfl
  | succ n ih =>
    unfold acF
    rw [ih]
    cases p n with
    | true => simp only; omega
    | false => simp only; omega
theorem acF_zero {p : Nat → Bool} : ∀ n, acF p (fun _ => 0) n = 0 := by
  intro n
  induction n with
  | zero => rfl
  | succ n ih => unfold acF; rw [ih]; cases p n <;> rfl
def odP (s E : Nat) : Bool := Nat.beq (E &&& s) E && (!(Nat.beq E 0) && Nat.beq ((E % 2 + E / 2 % 2 + E / 4 % 2 + E / 8 % 2) % 2) 1)
def evP (s E : Nat) : Bool := Nat.beq (E &&& s) E && (!(Nat.beq E 0) && Nat.beq ((E % 2 + E / 2 % 2 + E / 4 % 2 + E / 8 % 2) % 2) 0)
def snN (m E : Nat) : Nat := match snk m E with
  | true => 1
  | false => 0
theorem tb_inex : ∀ s, s < 16 → Nat.beq s 0 = false → (dagL s).all (fun m => Nat.beq (acF (odP s) (snN m) (s + 1)) (1 + acF (evP s) (snN m) (s + 1))) = true := by decide +kernel
theorem acF_mul {p : Nat → Bool} {f : Nat → Nat} {x : Nat} : ∀ n, acF p (fun k => f k * x) n = acF p f n * x := by
  intro n
  induction n with
  | zero => show 0 = 0 * x; omega
  | succ n ih =>
    unfold acF
    rw [ih, Nat.add_mul]
    cases p n with
    | true => rfl
    | false => simp
theorem ev_filter {t : Nat → Nat → Nat} {s : Nat} {q : Nat → Bool} (m : Nat) (L : List Nat) : ev t s ((m :: L).filter q) = (match q m with
    | true => 1
    | false => 0) * mq t s m + ev t s (L.filter q) := by
  cases hq : q m with
  | true => rw [List.filter_cons_of_pos hq, Nat.one_mul]; rfl
  | false => rw [List.filter_cons_of_neg (by rw [hq]; decide), Nat.zero_mul, Nat.zero_add]
theorem ac_ev {t : Nat → Nat → Nat} {s : Nat} {p p' : Nat → Bool} {n : Nat} : ∀ L : List Nat, (∀ m ∈ L, acF p (snN m) n = 1 + acF p' (snN m) n) → acF p (fun E => ev t s (L.filter (fun m => snk m E))) n = ev t s L + acF p' (fun E => ev t s (L.filter (fun m => snk m E))) n := by
  intro L
  induction L with
  | nil => intro _; show acF p (fun _ => 0) n = 0 + acF p' (fun _ => 0) n; rw [acF_zero, acF_zero]
  | cons m L ih =>
    intro h
    have e1 : (fun E => ev t s ((m :: L).filter (fun m => snk m E))) = fun E => snN m E * mq t s m + ev t s (L.filter (fun m => snk m E)) := funext fun E => ev_filter (q := fun m => snk m E) m L
    rw [e1, acF_add, acF_add, acF_mul, acF_mul, ih (fun m hm => h m (List.mem_cons_of_mem _ hm)), h m List.mem_cons_self, Nat.add_mul, Nat.one_mul]
    show _ = mq t s m + ev t s L + _
    omega
/-- the term of the ends E -/
def enF (t : Nat → Nat → Nat) (s E : Nat) : Nat := gT4 t (s - E) * prE t (s - E) E 4
theorem inex {t : Nat → Nat → Nat} {s : Nat} (hs : s < 16) (h0 : s ≠ 0) : acF (odP s) (enF t s) (s + 1) = gT4 t s + acF (evP s) (enF t s) (s + 1) := by
  have h1 : ∀ k, k < s + 1 → Nat.beq (k &&& s) k = true → Nat.beq k 0 = false → enF t s k = ev t s ((dagL s).filter (fun m => snk m k)) := fun k hk a b => ends_ev hs (by omega) a b
  have e1 : acF (odP s) (enF t s) (s + 1) = acF (odP s) (fun E => ev t s ((dagL s).filter (fun m => snk m E))) (s + 1) := acF_congr _ fun k hk hp => by
    unfold odP at hp
    simp only [Bool.and_eq_true, Bool.not_eq_true'] at hp
    exact h1 k hk hp.1 hp.2.1
  have e2 : acF (evP s) (enF t s) (s + 1) = acF (evP s) (fun E => ev t s ((dagL s).filter (fun m => snk m E))) (s + 1) := acF_congr _ fun k hk hp => by
    unfold evP at hp
    simp only [Bool.and_eq_true, Bool.not_eq_true'] at hp
    exact h1 k hk hp.1 hp.2.1
  rw [e1, e2]
  refine ac_ev (dagL s) fun m hm => ?_
  have hb : Nat.beq s 0 = false := by
    cases hc : Nat.beq s 0 with
    | true => exact absurd (Nat.eq_of_beq_eq_true hc) h0
    | false => rfl
  exact Nat.eq_of_beq_eq_true (List.all_eq_true.mp (tb_inex s hs hb) m hm)
theorem gT4_0 {t : Nat → Nat → Nat} : gT4 t 0 = 1 := rfl
/-- a product over the names of a set -/
def pw4 (a : Nat → Nat) (s : Nat) : Nat := mq (fun c _ => a c) s 0
theorem mv_pw {a : Nat → Nat} {s m : Nat} : mq (fun c _ => a c) s m = pw4 a s := rfl
theorem if_mul {c : Prop} [Decidable c] {a b a' b' : Nat} : (if c then a else 1) * (if c then b else 1) = if c then a * b else 1 := by
  split <;> rfl
theorem mv_scale {a b : Nat → Nat} {t1 t2 : Nat → Nat → Nat} (h : ∀ c k, c < 4 → k < 16 → a c * t1 c k = b c * t2 c k) (s m : Nat) : pw4 a s * mq t1 s m = pw4 b s * mq t2 s m := by
  have e : ∀ (x : Nat → Nat) (t : Nat → Nat → Nat), pw4 x s * mq t s m = mq (fun c k => x c * t c k) s m := by
    intro x t
    unfold pw4 mq
    have r : ∀ (c : Prop) [Decidable c] (p q : Nat), (if c then p * q else 1) = (if c then p else 1) * (if c then q else 1) := fun c _ p q => by split <;> rfl
    simp only [r]
    ac_rfl
  rw [e, e]
  unfold mq
  dsimp only
  rw [h 0 (m % 16) (by omega) (by omega), h 1 (m / 16 % 16) (by omega) (by omega), h 2 (m / 256 % 16) (by omega) (by omega), h 3 (m / 4096 % 16) (by omega) (by omega)]
theorem ev_scale {a b : Nat → Nat} {t1 t2 : Nat → Nat → Nat} (h : ∀ c k, c < 4 → k < 16 → a c * t1 c k = b c * t2 c k) (s : Nat) : ∀ L, pw4 a s * ev t1 s L = pw4 b s * ev t2 s L := by
  intro L
  induction L with
  | nil => rfl
  | cons m L ih => unfold ev; rw [Nat.mul_add, Nat.mul_add, ih, mv_scale h]
theorem pw4_pos {a : Nat → Nat} (h : ∀ c, 0 < a c) (s : Nat) : 0 < pw4 a s := by
  have r : ∀ (c : Prop) [Decidable c] (x : Nat), 0 < a x → 0 < (if c then a x else 1) := fun c _ x hx => by split; exact hx; exact Nat.one_pos
  unfold pw4 mq
  exact Nat.mul_pos (Nat.mul_pos (Nat.mul_pos (r _ 0 (h 0)) (r _ 1 (h 1))) (r _ 2 (h 2))) (r _ 3 (h 3))
theorem mv_le {t u : Nat → Nat → Nat} (h : ∀ c k, t c k ≤ u c k) (s m : Nat) : mq t s m ≤ mq u s m := by
  have r : ∀ (c : Prop) [Decidable c] (x y : Nat), x ≤ y → (if c then x else 1) ≤ (if c then y else 1) := fun c _ x y hx => by split; exact hx; exact Nat.le_refl _
  unfold mq
  exact Nat.mul_le_mul (Nat.mul_le_mul (Nat.mul_le_mul (r _ _ _ (h _ _)) (r _ _ _ (h _ _))) (r _ _ _ (h _ _))) (r _ _ _ (h _ _))
theorem ev_le {t : Nat → Nat → Nat} {a : Nat → Nat} (h : ∀ c k, t c k ≤ a c) (s : Nat) : ∀ L : List Nat, ev t s L ≤ L.length * pw4 a s := by
  intro L
  induction L with
  | nil => exact Nat.zero_le _
  | cons m L ih =>
    unfold ev
    have := mv_le (u := fun c _ => a c) h s m
    rw [mv_pw] at this
    rw [List.length_cons, Nat.add_mul, Nat.one_mul, Nat.add_comm (_ * _)]
    exact Nat.add_le_add this ih
theorem tb_len : ∀ s, s < 16 → Nat.ble (dagL s).length 543 = true := by decide +kernel
theorem gT4_le {t : Nat → Nat → Nat} {a : Nat → Nat} (h : ∀ c k, t c k ≤ a c) {s : Nat} (hs : s < 16) : gT4 t s ≤ 543 * pw4 a s :=
  Nat.le_trans (ev_le h s _) (Nat.mul_le_mul_right _ (Nat.le_of_ble_eq_true (tb_len s hs)))
theorem ssum_le {f : Nat → Nat} {a : Nat} (h : ∀ k, f k ≤ a) : ∀ L : List Nat, ssum f L ≤ L.length * a := by
  intro L
  induction L with
  | nil => exact Nat.zero_le _
  | cons m L ih =>
    unfold ssum
    rw [List.length_cons, Nat.add_mul, Nat.one_mul, Nat.add_comm (_ * _)]
    exact Nat.add_le_add (h m) ih
theorem subL_len (X : Nat) : (subL X).length ≤ 16 := Nat.le_trans (List.length_filter_le _ _) (by rw [List.length_range]; omega)
theorem ssub_le {f : Nat → Nat} {a X : Nat} (h : ∀ k, f k ≤ a) : ssum f (subL X) ≤ 16 * a := Nat.le_trans (ssum_le h _) (Nat.mul_le_mul_right _ (subL_len X))
theorem pw_step {b n Y : Nat} (hn : n < 4) (hY : Y / 2 ^ n % 2 = 0) : pw4 (fun _ => b) (Y + 2 ^ n) = pw4 (fun _ => b) Y * b := by
  have h := mv_step (t := fun _ _ => b) (m := 0) (s := 0) hn hY (by unfold dg; rw [Nat.zero_div]) (by omega)
  rw [Nat.zero_mul, Nat.add_zero] at h
  exact h
theorem pw_le {b : Nat} (hb : 1 ≤ b) (Y : Nat) : pw4 (fun _ => b) Y ≤ b ^ 4 := by
  have r : ∀ (c : Prop) [Decidable c], (if c then b else 1) ≤ b := fun c _ => by split; exact Nat.le_refl _; exact hb
  unfold pw4 mq
  rw [show b ^ 4 = b * b * b * b by rw [Nat.pow_succ, Nat.pow_succ, Nat.pow_succ, Nat.pow_one]]
  exact Nat.mul_le_mul (Nat.mul_le_mul (Nat.mul_le_mul (r _) (r _)) (r _)) (r _)
theorem pw_le3 {b n Y : Nat} (hb : 1 ≤ b) (hn : n < 4) (hY : Y / 2 ^ n % 2 = 0) : pw4 (fun _ => b) Y ≤ b ^ 3 := by
  have h1 := pw_step (b := b) hn hY
  have h2 := pw_le hb (Y + 2 ^ n)
  rw [h1, Nat.pow_succ] at h2
  exact Nat.le_of_mul_le_mul_right h2 hb
/-- a term under way: at most 543 times as many times b as there are names yet -/
theorem pr_le {t : Nat → Nat → Nat} {a b s E : Nat} (h : ∀ c k, t c k ≤ a) (hb : 16 * a ≤ b) (hb1 : 1 ≤ b) (hs : s < 16) (hE : E < 16) (hc : Nat.beq (E &&& s) E = true) : ∀ n, n ≤ 4 → gT4 t (s - E) * prE t (s - E) E n ≤ 543 * pw4 (fun _ => b) (s - E + E % 2 ^ n) := by
  intro n
  induction n with
  | zero =>
    intro _
    rw [Nat.pow_zero, Nat.mod_one, Nat.add_zero]
    unfold prE
    rw [Nat.mul_one]
    exact gT4_le (a := fun _ => b) (fun c k => Nat.le_trans (h c k) (by omega)) (by omega)
  | succ n ih =>
    intro hn
    have ih := ih (by omega)
    unfold prE
    cases hb2 : Nat.beq (E / 2 ^ n % 2) 1 with
    | true =>
      obtain ⟨-, a2, a3⟩ := tb_plz hs hE hc (by omega) hb2
      rw [if_pos (Nat.eq_of_beq_eq_true hb2), a3, ← Nat.add_assoc, pw_step (by omega) a2, ← Nat.mul_assoc, ← Nat.mul_assoc]
      exact Nat.mul_le_mul ih (Nat.le_trans (ssub_le (h n)) hb)
    | false =>
      rw [if_neg (fun z => by rw [z] at hb2; exact absurd hb2 (by decide)), Nat.mul_one, tb_pl0 E hE n (by omega) hb2]
      exact ih
