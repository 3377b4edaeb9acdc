section
/-! ===== BEGIN words of one list among another's, by their places ===== -/
theorem goodIn_r {big : List Cond} (ws : List Cond) (ps : List Nat) (hp : ws = ps.filterMap (fun i => big[i]?)) (h : ws.all goodWord = true) : GoodIn big ws := by
  intro w hw
  have h1 := List.all_eq_true.mp h w hw
  rw [hp] at hw
  obtain ⟨i, -, hi⟩ := List.mem_filterMap.mp hw
  have hm : w ∈ big := by first | exact List.mem_of_getElem? hi | exact List.getElem?_mem hi
  exact ⟨hm, good_of_word h1⟩
theorem goodIn_app {big a b : List Cond} (ha : GoodIn big a) (hb : GoodIn big b) : GoodIn big (a ++ b) := fun w h => (List.mem_append.mp h).elim (ha w) (hb w)
theorem goodIn_ca {big a b : List Cond} {c : Cond} (ha : GoodIn big (c :: a)) (hb : GoodIn big b) : GoodIn big (c :: (a ++ b)) := fun w h => (List.mem_cons.mp h).elim (fun e => ha w (List.mem_cons.mpr (Or.inl e))) (fun h => (List.mem_append.mp h).elim (fun h => ha w (List.mem_cons.mpr (Or.inr h))) (hb w))
theorem goodIn_sub {big ws : List Cond} (hm : ∀ w ∈ ws, w ∈ big) (h : ws.all goodWord = true) : GoodIn big ws := fun w hw => ⟨hm w hw, good_of_word (List.all_eq_true.mp h w hw)⟩
/-! ===== END ===== -/

/-! ===== BEGIN printed: names, fields, word lists, decode rows ===== -/
def RX0 : String := "StructureSearch$Arcs"
def TX0 : u_T := fun k => match k with
  | _ => ("", "", "", false)
def tyX0 : Nat → FieldType := fun k => match k with
  | _ => .int
abbrev wsX00 : List Cond := u_ws RX0 TX0 0
theorem nmX0 : ∀ a, a < 0 → ∀ b, b < 0 → a ≠ b → (TX0 a).2.1 ≠ (TX0 b).2.1 := by decide +kernel
theorem tyX0_ok : ∀ k, k < 0 → parseFieldDescriptor (TX0 k).2.2.1 = some (tyX0 k) := by decide +kernel
abbrev cX0_isIn : ByteArray := prog_2_method_2_code
def yX0_isIn : MethodName := ⟨RX0, "isIn", "(II)Z"⟩
abbrev cX0_arc : ByteArray := prog_2_method_3_code
def yX0_arc : MethodName := ⟨RX0, "arc", "(II)I"⟩
abbrev cX0_has : ByteArray := prog_2_method_4_code
def yX0_has : MethodName := ⟨RX0, "has", "(III)Z"⟩
abbrev cX0_parentsIn : ByteArray := prog_2_method_5_code
def yX0_parentsIn : MethodName := ⟨RX0, "parentsIn", "(II)I"⟩
abbrev cX0_fromAll : ByteArray := prog_2_method_6_code
def yX0_fromAll : MethodName := ⟨RX0, "fromAll", "(II)I"⟩
abbrev cX0_areGraph : ByteArray := prog_2_method_7_code
def yX0_areGraph : MethodName := ⟨RX0, "areGraph", "(II)Z"⟩
abbrev cX0_haveNoRound : ByteArray := prog_2_method_8_code
def yX0_haveNoRound : MethodName := ⟨RX0, "haveNoRound", "(II)Z"⟩
abbrev cX0_nextAfter : ByteArray := prog_2_method_9_code
def yX0_nextAfter : MethodName := ⟨RX0, "nextAfter", "(III)I"⟩
abbrev cX0_areBounded : ByteArray := prog_2_method_10_code
def yX0_areBounded : MethodName := ⟨RX0, "areBounded", "(II)Z"⟩
def RX1 : String := "StructureSearch$Big"
def TX1 : u_T := fun k => match k with
  | 0 => ("StructureSearch$Big", "words", "[J", true)
  | _ => ("StructureSearch$Big", "used", "I", false)
def tyX1 : Nat → FieldType := fun k => match k with
  | 0 => .array .long
  | _ => .int
abbrev wsX10 : List Cond := u_ws RX1 TX1 2
theorem nmX1 : ∀ a, a < 2 → ∀ b, b < 2 → a ≠ b → (TX1 a).2.1 ≠ (TX1 b).2.1 := by decide +kernel
theorem tyX1_ok : ∀ k, k < 2 → parseFieldDescriptor (TX1 k).2.2.1 = some (tyX1 k) := by decide +kernel
abbrev cX1_init : ByteArray := prog_3_method_1_code
def yX1_init : MethodName := ⟨RX1, "<init>", "(I)V"⟩
abbrev cX1_length : ByteArray := prog_3_method_2_code
def yX1_length : MethodName := ⟨RX1, "length", "()I"⟩
abbrev cX1_at : ByteArray := prog_3_method_3_code
def yX1_at : MethodName := ⟨RX1, "at", "(I)J"⟩
abbrev cX1_become : ByteArray := prog_3_method_4_code
def yX1_become : MethodName := ⟨RX1, "become", "(I)V"⟩
abbrev cX1_copy : ByteArray := prog_3_method_5_code
def yX1_copy : MethodName := ⟨RX1, "copy", "(LStructureSearch$Big;)V"⟩
abbrev cX1_against : ByteArray := prog_3_method_6_code
def yX1_against : MethodName := ⟨RX1, "against", "(LStructureSearch$Big;)I"⟩
abbrev cX1_timesSmall : ByteArray := prog_3_method_7_code
def yX1_timesSmall : MethodName := ⟨RX1, "timesSmall", "(J)V"⟩
abbrev cX1_times : ByteArray := prog_3_method_8_code
def yX1_times : MethodName := ⟨RX1, "times", "(LStructureSearch$Big;)V"⟩
abbrev cX1_plus : ByteArray := prog_3_method_9_code
def yX1_plus : MethodName := ⟨RX1, "plus", "(LStructureSearch$Big;)V"⟩
abbrev cX1_minus : ByteArray := prog_3_method_10_code
def yX1_minus : MethodName := ⟨RX1, "minus", "(LStructureSearch$Big;)V"⟩
abbrev cX1_reduceBy : ByteArray := prog_3_method_11_code
def yX1_reduceBy : MethodName := ⟨RX1, "reduceBy", "(LStructureSearch$Big;LStructureSearch$Big;)V"⟩
abbrev cX1_commonDivisor : ByteArray := prog_3_method_12_code
def yX1_commonDivisor : MethodName := ⟨RX1, "commonDivisor", "(LStructureSearch$Big;LStructureSearch$Big;)LStructureSearch$Big;"⟩
abbrev cX1_bits : ByteArray := prog_3_method_13_code
def yX1_bits : MethodName := ⟨RX1, "bits", "()I"⟩
abbrev cX1_from : ByteArray := prog_3_method_14_code
def yX1_from : MethodName := ⟨RX1, "from", "(I)J"⟩
abbrev cX1_addDigit : ByteArray := prog_3_method_15_code
def yX1_addDigit : MethodName := ⟨RX1, "addDigit", "(JI)V"⟩
abbrev cX1_addMultiple : ByteArray := prog_3_method_16_code
def yX1_addMultiple : MethodName := ⟨RX1, "addMultiple", "(JLStructureSearch$Big;I)V"⟩
abbrev cX1_subtractMultiple : ByteArray := prog_3_method_17_code
def yX1_subtractMultiple : MethodName := ⟨RX1, "subtractMultiple", "(JLStructureSearch$Big;I)V"⟩
abbrev cX1_widen : ByteArray := prog_3_method_18_code
def yX1_widen : MethodName := ⟨RX1, "widen", "(I)V"⟩
abbrev cX1_trim : ByteArray := prog_3_method_19_code
def yX1_trim : MethodName := ⟨RX1, "trim", "()V"⟩
def RX2 : String := "StructureSearch$Fits"
def TX2 : u_T := fun k => match k with
  | 0 => ("StructureSearch$Fits", "sheet", "LStructureSearch$Sheet;", true)
  | 1 => ("StructureSearch$Fits", "powers", "LStructureSearch$Powers;", true)
  | 2 => ("StructureSearch$Fits", "ofNames", "[LStructureSearch$Fraction;", true)
  | 3 => ("StructureSearch$Fits", "ofNothing", "LStructureSearch$Fraction;", true)
  | 4 => ("StructureSearch$Fits", "whole", "LStructureSearch$Fraction;", true)
  | 5 => ("StructureSearch$Fits", "wholeGraph", "I", false)
  | 6 => ("StructureSearch$Fits", "left", "LStructureSearch$Big;", true)
  | _ => ("StructureSearch$Fits", "right", "LStructureSearch$Big;", true)
def tyX2 : Nat → FieldType := fun k => match k with
  | 0 => .object "StructureSearch$Sheet"
  | 1 => .object "StructureSearch$Powers"
  | 2 => .array (.object "StructureSearch$Fraction")
  | 3 => .object "StructureSearch$Fraction"
  | 4 => .object "StructureSearch$Fraction"
  | 5 => .int
  | 6 => .object "StructureSearch$Big"
  | _ => .object "StructureSearch$Big"
abbrev wsX20 : List Cond := u_ws RX2 TX2 8
theorem nmX2 : ∀ a, a < 8 → ∀ b, b < 8 → a ≠ b → (TX2 a).2.1 ≠ (TX2 b).2.1 := by decide +kernel
theorem tyX2_ok : ∀ k, k < 8 → parseFieldDescriptor (TX2 k).2.2.1 = some (tyX2 k) := by decide +kernel
abbrev cX2_init : ByteArray := prog_4_method_1_code
def yX2_init : MethodName := ⟨RX2, "<init>", "(LStructureSearch$Sheet;LStructureSearch$Powers;)V"⟩
abbrev cX2_forget : ByteArray := prog_4_method_2_code
def yX2_forget : MethodName := ⟨RX2, "forget", "()V"⟩
abbrev cX2_ofGraph : ByteArray := prog_4_method_3_code
def yX2_ofGraph : MethodName := ⟨RX2, "ofGraph", "(I)LStructureSearch$Fraction;"⟩
abbrev cX2_weigh : ByteArray := prog_4_method_4_code
def yX2_weigh : MethodName := ⟨RX2, "weigh", "(II)I"⟩
abbrev cX2_ofName : ByteArray := prog_4_method_5_code
def yX2_ofName : MethodName := ⟨RX2, "ofName", "(II)LStructureSearch$Fraction;"⟩
def RX3 : String := "StructureSearch$Fraction"
def TX3 : u_T := fun k => match k with
  | 0 => ("StructureSearch$Fraction", "above", "LStructureSearch$Big;", true)
  | 1 => ("StructureSearch$Fraction", "below", "LStructureSearch$Big;", true)
  | _ => ("StructureSearch$Fraction", "ready", "Z", false)
def tyX3 : Nat → FieldType := fun k => match k with
  | 0 => .object "StructureSearch$Big"
  | 1 => .object "StructureSearch$Big"
  | _ => .boolean
abbrev wsX30 : List Cond := u_ws RX3 TX3 3
theorem nmX3 : ∀ a, a < 3 → ∀ b, b < 3 → a ≠ b → (TX3 a).2.1 ≠ (TX3 b).2.1 := by decide +kernel
theorem tyX3_ok : ∀ k, k < 3 → parseFieldDescriptor (TX3 k).2.2.1 = some (tyX3 k) := by decide +kernel
abbrev cX3_init : ByteArray := prog_5_method_1_code
def yX3_init : MethodName := ⟨RX3, "<init>", "(I)V"⟩
abbrev cX3_side : ByteArray := prog_5_method_2_code
def yX3_side : MethodName := ⟨RX3, "side", "(I)LStructureSearch$Big;"⟩
def RX4 : String := "StructureSearch$Kin"
def TX4 : u_T := fun k => match k with
  | 0 => ("StructureSearch$Kin", "count", "I", false)
  | 1 => ("StructureSearch$Kin", "least", "I", false)
  | 2 => ("StructureSearch$Kin", "greatest", "I", false)
  | _ => ("StructureSearch$Kin", "common", "I", false)
def tyX4 : Nat → FieldType := fun k => match k with
  | 0 => .int
  | 1 => .int
  | 2 => .int
  | _ => .int
abbrev wsX40 : List Cond := u_ws RX4 TX4 4
theorem nmX4 : ∀ a, a < 4 → ∀ b, b < 4 → a ≠ b → (TX4 a).2.1 ≠ (TX4 b).2.1 := by decide +kernel
theorem tyX4_ok : ∀ k, k < 4 → parseFieldDescriptor (TX4 k).2.2.1 = some (tyX4 k) := by decide +kernel
abbrev cX4_init : ByteArray := prog_6_method_1_code
def yX4_init : MethodName := ⟨RX4, "<init>", "()V"⟩
abbrev cX4_ties : ByteArray := prog_6_method_2_code
def yX4_ties : MethodName := ⟨RX4, "ties", "(I)I"⟩
abbrev cX4_meetings : ByteArray := prog_6_method_3_code
def yX4_meetings : MethodName := ⟨RX4, "meetings", "(I)J"⟩
abbrev cX4_gather : ByteArray := prog_6_method_4_code
def yX4_gather : MethodName := ⟨RX4, "gather", "(II)V"⟩
abbrev cX4_add : ByteArray := prog_6_method_5_code
def yX4_add : MethodName := ⟨RX4, "add", "(I)V"⟩
abbrev cX4_directed : ByteArray := prog_6_method_6_code
def yX4_directed : MethodName := ⟨RX4, "directed", "(II)I"⟩
def RX5 : String := "StructureSearch$Powers"
def TX5 : u_T := fun k => match k with
  | 0 => ("StructureSearch$Powers", "power", "[I", true)
  | _ => ("StructureSearch$Powers", "largest", "I", false)
def tyX5 : Nat → FieldType := fun k => match k with
  | 0 => .array .int
  | _ => .int
abbrev wsX50 : List Cond := u_ws RX5 TX5 2
theorem nmX5 : ∀ a, a < 2 → ∀ b, b < 2 → a ≠ b → (TX5 a).2.1 ≠ (TX5 b).2.1 := by decide +kernel
theorem tyX5_ok : ∀ k, k < 2 → parseFieldDescriptor (TX5 k).2.2.1 = some (tyX5 k) := by decide +kernel
abbrev cX5_init : ByteArray := prog_7_method_1_code
def yX5_init : MethodName := ⟨RX5, "<init>", "()V"⟩
abbrev cX5_forget : ByteArray := prog_7_method_2_code
def yX5_forget : MethodName := ⟨RX5, "forget", "()V"⟩
abbrev cX5_multiply : ByteArray := prog_7_method_3_code
def yX5_multiply : MethodName := ⟨RX5, "multiply", "(II)V"⟩
abbrev cX5_write : ByteArray := prog_7_method_4_code
def yX5_write : MethodName := ⟨RX5, "write", "(ILStructureSearch$Big;)V"⟩
abbrev cX5_copy : ByteArray := prog_7_method_5_code
def yX5_copy : MethodName := ⟨RX5, "copy", "(LStructureSearch$Powers;)V"⟩
abbrev cX5_lowerTo : ByteArray := prog_7_method_6_code
def yX5_lowerTo : MethodName := ⟨RX5, "lowerTo", "(LStructureSearch$Powers;)V"⟩
abbrev cX5_divide : ByteArray := prog_7_method_7_code
def yX5_divide : MethodName := ⟨RX5, "divide", "(LStructureSearch$Powers;)V"⟩
def RX6 : String := "StructureSearch$Search"
def TX6 : u_T := fun k => match k with
  | 0 => ("StructureSearch$Search", "sheet", "LStructureSearch$Sheet;", true)
  | 1 => ("StructureSearch$Search", "fits", "LStructureSearch$Fits;", true)
  | _ => ("StructureSearch$Search", "bestOf", "[I", true)
def tyX6 : Nat → FieldType := fun k => match k with
  | 0 => .object "StructureSearch$Sheet"
  | 1 => .object "StructureSearch$Fits"
  | _ => .array .int
abbrev wsX60 : List Cond := u_ws RX6 TX6 3
theorem nmX6 : ∀ a, a < 3 → ∀ b, b < 3 → a ≠ b → (TX6 a).2.1 ≠ (TX6 b).2.1 := by decide +kernel
theorem tyX6_ok : ∀ k, k < 3 → parseFieldDescriptor (TX6 k).2.2.1 = some (tyX6 k) := by decide +kernel
abbrev cX6_init : ByteArray := prog_8_method_1_code
def yX6_init : MethodName := ⟨RX6, "<init>", "(LStructureSearch$Sheet;LStructureSearch$Fits;)V"⟩
abbrev cX6_bestParents : ByteArray := prog_8_method_2_code
def yX6_bestParents : MethodName := ⟨RX6, "bestParents", "(II)I"⟩
abbrev cX6_bestGraph : ByteArray := prog_8_method_3_code
def yX6_bestGraph : MethodName := ⟨RX6, "bestGraph", "()I"⟩
abbrev cX6_climbFrom : ByteArray := prog_8_method_4_code
def yX6_climbFrom : MethodName := ⟨RX6, "climbFrom", "(II)I"⟩
abbrev cX6_kept : ByteArray := prog_8_method_5_code
def yX6_kept : MethodName := ⟨RX6, "kept", "(I)I"⟩
abbrev cX6_keep : ByteArray := prog_8_method_6_code
def yX6_keep : MethodName := ⟨RX6, "keep", "(II)V"⟩
abbrev cX6_bestNear : ByteArray := prog_8_method_7_code
def yX6_bestNear : MethodName := ⟨RX6, "bestNear", "(I)I"⟩
abbrev cX6_isOpen : ByteArray := prog_8_method_8_code
def yX6_isOpen : MethodName := ⟨RX6, "isOpen", "(I)Z"⟩
abbrev cX6_better : ByteArray := prog_8_method_9_code
def yX6_better : MethodName := ⟨RX6, "better", "(II)I"⟩
def RX7 : String := "StructureSearch$Shares"
def TX7 : u_T := fun k => match k with
  | 0 => ("StructureSearch$Shares", "sheet", "LStructureSearch$Sheet;", true)
  | 1 => ("StructureSearch$Shares", "powers", "LStructureSearch$Powers;", true)
  | 2 => ("StructureSearch$Shares", "least", "LStructureSearch$Powers;", true)
  | 3 => ("StructureSearch$Shares", "weights", "[LStructureSearch$Big;", true)
  | 4 => ("StructureSearch$Shares", "sums", "[LStructureSearch$Big;", true)
  | 5 => ("StructureSearch$Shares", "none", "LStructureSearch$Big;", true)
  | 6 => ("StructureSearch$Shares", "term", "LStructureSearch$Big;", true)
  | 7 => ("StructureSearch$Shares", "rest", "LStructureSearch$Big;", true)
  | 8 => ("StructureSearch$Shares", "divisor", "LStructureSearch$Big;", true)
  | 9 => ("StructureSearch$Shares", "share", "LStructureSearch$Fraction;", true)
  | 10 => ("StructureSearch$Shares", "shareFrom", "I", false)
  | _ => ("StructureSearch$Shares", "shareTo", "I", false)
def tyX7 : Nat → FieldType := fun k => match k with
  | 0 => .object "StructureSearch$Sheet"
  | 1 => .object "StructureSearch$Powers"
  | 2 => .object "StructureSearch$Powers"
  | 3 => .array (.object "StructureSearch$Big")
  | 4 => .array (.object "StructureSearch$Big")
  | 5 => .object "StructureSearch$Big"
  | 6 => .object "StructureSearch$Big"
  | 7 => .object "StructureSearch$Big"
  | 8 => .object "StructureSearch$Big"
  | 9 => .object "StructureSearch$Fraction"
  | 10 => .int
  | _ => .int
abbrev wsX70 : List Cond := u_ws RX7 TX7 12
theorem nmX7 : ∀ a, a < 12 → ∀ b, b < 12 → a ≠ b → (TX7 a).2.1 ≠ (TX7 b).2.1 := by decide +kernel
theorem tyX7_ok : ∀ k, k < 12 → parseFieldDescriptor (TX7 k).2.2.1 = some (tyX7 k) := by decide +kernel
abbrev cX7_init : ByteArray := prog_9_method_1_code
def yX7_init : MethodName := ⟨RX7, "<init>", "(LStructureSearch$Sheet;LStructureSearch$Powers;)V"⟩
abbrev cX7_forget : ByteArray := prog_9_method_2_code
def yX7_forget : MethodName := ⟨RX7, "forget", "()V"⟩
abbrev cX7_of : ByteArray := prog_9_method_3_code
def yX7_of : MethodName := ⟨RX7, "of", "(II)LStructureSearch$Fraction;"⟩
abbrev cX7_weigh : ByteArray := prog_9_method_4_code
def yX7_weigh : MethodName := ⟨RX7, "weigh", "(I)V"⟩
abbrev cX7_addSmaller : ByteArray := prog_9_method_5_code
def yX7_addSmaller : MethodName := ⟨RX7, "addSmaller", "(II)V"⟩
abbrev cX7_isOpen : ByteArray := prog_9_method_6_code
def yX7_isOpen : MethodName := ⟨RX7, "isOpen", "(II)Z"⟩
abbrev cX7_keepArc : ByteArray := prog_9_method_7_code
def yX7_keepArc : MethodName := ⟨RX7, "keepArc", "(II)V"⟩
abbrev cX7_sumGraphs : ByteArray := prog_9_method_8_code
def yX7_sumGraphs : MethodName := ⟨RX7, "sumGraphs", "(I)V"⟩
abbrev cX7_sumGraphsOf : ByteArray := prog_9_method_9_code
def yX7_sumGraphsOf : MethodName := ⟨RX7, "sumGraphsOf", "(I)V"⟩
abbrev cX7_multiplyOut : ByteArray := prog_9_method_10_code
def yX7_multiplyOut : MethodName := ⟨RX7, "multiplyOut", "(II)V"⟩
abbrev cX7_lower : ByteArray := prog_9_method_11_code
def yX7_lower : MethodName := ⟨RX7, "lower", "()V"⟩
abbrev cX7_divide : ByteArray := prog_9_method_12_code
def yX7_divide : MethodName := ⟨RX7, "divide", "(LStructureSearch$Big;)V"⟩
abbrev cX7_weight : ByteArray := prog_9_method_13_code
def yX7_weight : MethodName := ⟨RX7, "weight", "(II)LStructureSearch$Big;"⟩
abbrev cX7_sum : ByteArray := prog_9_method_14_code
def yX7_sum : MethodName := ⟨RX7, "sum", "(I)LStructureSearch$Big;"⟩
def RX8 : String := "StructureSearch$Sheet"
def TX8 : u_T := fun k => match k with
  | 0 => ("StructureSearch$Sheet", "names", "I", false)
  | 1 => ("StructureSearch$Sheet", "rows", "I", false)
  | 2 => ("StructureSearch$Sheet", "strength", "I", false)
  | 3 => ("StructureSearch$Sheet", "most", "I", false)
  | 4 => ("StructureSearch$Sheet", "values", "[I", true)
  | _ => ("StructureSearch$Sheet", "codes", "[I", true)
def tyX8 : Nat → FieldType := fun k => match k with
  | 0 => .int
  | 1 => .int
  | 2 => .int
  | 3 => .int
  | 4 => .array .int
  | _ => .array .int
abbrev wsX80 : List Cond := u_ws RX8 TX8 6
theorem nmX8 : ∀ a, a < 6 → ∀ b, b < 6 → a ≠ b → (TX8 a).2.1 ≠ (TX8 b).2.1 := by decide +kernel
theorem tyX8_ok : ∀ k, k < 6 → parseFieldDescriptor (TX8 k).2.2.1 = some (tyX8 k) := by decide +kernel
abbrev cX8_init : ByteArray := prog_10_method_1_code
def yX8_init : MethodName := ⟨RX8, "<init>", "()V"⟩
abbrev cX8_startAnew : ByteArray := prog_10_method_2_code
def yX8_startAnew : MethodName := ⟨RX8, "startAnew", "()V"⟩
abbrev cX8_addName : ByteArray := prog_10_method_3_code
def yX8_addName : MethodName := ⟨RX8, "addName", "(I)I"⟩
abbrev cX8_addRow : ByteArray := prog_10_method_4_code
def yX8_addRow : MethodName := ⟨RX8, "addRow", "(I)I"⟩
abbrev cX8_removeRow : ByteArray := prog_10_method_5_code
def yX8_removeRow : MethodName := ⟨RX8, "removeRow", "(I)I"⟩
abbrev cX8_valuesOf : ByteArray := prog_10_method_6_code
def yX8_valuesOf : MethodName := ⟨RX8, "valuesOf", "(I)I"⟩
abbrev cX8_valueIn : ByteArray := prog_10_method_7_code
def yX8_valueIn : MethodName := ⟨RX8, "valueIn", "(II)I"⟩
abbrev cX8_pourFit : ByteArray := prog_10_method_8_code
def yX8_pourFit : MethodName := ⟨RX8, "pourFit", "(IILStructureSearch$Powers;)V"⟩
abbrev cX8_codeOf : ByteArray := prog_10_method_9_code
def yX8_codeOf : MethodName := ⟨RX8, "codeOf", "(I)I"⟩
def RX9 : String := "StructureSearch$Tables"
def TX9 : u_T := fun k => match k with
  | 0 => ("StructureSearch$Tables", "sheet", "LStructureSearch$Sheet;", true)
  | 1 => ("StructureSearch$Tables", "cells", "[I", true)
  | 2 => ("StructureSearch$Tables", "ofFirst", "[I", true)
  | _ => ("StructureSearch$Tables", "ofSecond", "[I", true)
def tyX9 : Nat → FieldType := fun k => match k with
  | 0 => .object "StructureSearch$Sheet"
  | 1 => .array .int
  | 2 => .array .int
  | _ => .array .int
abbrev wsX90 : List Cond := u_ws RX9 TX9 4
theorem nmX9 : ∀ a, a < 4 → ∀ b, b < 4 → a ≠ b → (TX9 a).2.1 ≠ (TX9 b).2.1 := by decide +kernel
theorem tyX9_ok : ∀ k, k < 4 → parseFieldDescriptor (TX9 k).2.2.1 = some (tyX9 k) := by decide +kernel
abbrev cX9_init : ByteArray := prog_11_method_1_code
def yX9_init : MethodName := ⟨RX9, "<init>", "(LStructureSearch$Sheet;)V"⟩
abbrev cX9_count : ByteArray := prog_11_method_2_code
def yX9_count : MethodName := ⟨RX9, "count", "(IIII)V"⟩
abbrev cX9_allWays : ByteArray := prog_11_method_3_code
def yX9_allWays : MethodName := ⟨RX9, "allWays", "()J"⟩
abbrev cX9_waysNotAbove : ByteArray := prog_11_method_4_code
def yX9_waysNotAbove : MethodName := ⟨RX9, "waysNotAbove", "()J"⟩
abbrev cX9_waysWith : ByteArray := prog_11_method_5_code
def yX9_waysWith : MethodName := ⟨RX9, "waysWith", "(IIJ)J"⟩
abbrev cX9_deals : ByteArray := prog_11_method_6_code
def yX9_deals : MethodName := ⟨RX9, "deals", "(III)J"⟩
abbrev cX9_factorial : ByteArray := prog_11_method_7_code
def yX9_factorial : MethodName := ⟨RX9, "factorial", "(I)J"⟩
abbrev cX9_cell : ByteArray := prog_11_method_8_code
def yX9_cell : MethodName := ⟨RX9, "cell", "(II)I"⟩
abbrev cX9_first : ByteArray := prog_11_method_9_code
def yX9_first : MethodName := ⟨RX9, "first", "(I)I"⟩
abbrev cX9_second : ByteArray := prog_11_method_10_code
def yX9_second : MethodName := ⟨RX9, "second", "(I)I"⟩
def RX10 : String := "StructureSearch"
def TX10 : u_T := fun k => match k with
  | 0 => ("StructureSearch", "sheet", "LStructureSearch$Sheet;", true)
  | 1 => ("StructureSearch", "powers", "LStructureSearch$Powers;", true)
  | 2 => ("StructureSearch", "fits", "LStructureSearch$Fits;", true)
  | 3 => ("StructureSearch", "search", "LStructureSearch$Search;", true)
  | 4 => ("StructureSearch", "tables", "LStructureSearch$Tables;", true)
  | _ => ("StructureSearch", "shares", "LStructureSearch$Shares;", false)
def tyX10 : Nat → FieldType := fun k => match k with
  | 0 => .object "StructureSearch$Sheet"
  | 1 => .object "StructureSearch$Powers"
  | 2 => .object "StructureSearch$Fits"
  | 3 => .object "StructureSearch$Search"
  | 4 => .object "StructureSearch$Tables"
  | _ => .object "StructureSearch$Shares"
abbrev wsX100 : List Cond := u_ws RX10 TX10 6
theorem nmX10 : ∀ a, a < 6 → ∀ b, b < 6 → a ≠ b → (TX10 a).2.1 ≠ (TX10 b).2.1 := by decide +kernel
theorem tyX10_ok : ∀ k, k < 6 → parseFieldDescriptor (TX10 k).2.2.1 = some (tyX10 k) := by decide +kernel
abbrev cX10_init : ByteArray := prog_1_method_1_code
def yX10_init : MethodName := ⟨RX10, "<init>", "()V"⟩
abbrev cX10_clear : ByteArray := prog_1_method_2_code
def yX10_clear : MethodName := ⟨RX10, "clear", "()I"⟩
abbrev cX10_name : ByteArray := prog_1_method_3_code
def yX10_name : MethodName := ⟨RX10, "name", "(I)I"⟩
abbrev cX10_row : ByteArray := prog_1_method_4_code
def yX10_row : MethodName := ⟨RX10, "row", "(IIIII)I"⟩
abbrev cX10_drop : ByteArray := prog_1_method_5_code
def yX10_drop : MethodName := ⟨RX10, "drop", "(I)I"⟩
abbrev cX10_value : ByteArray := prog_1_method_6_code
def yX10_value : MethodName := ⟨RX10, "value", "(II)I"⟩
abbrev cX10_set : ByteArray := prog_1_method_7_code
def yX10_set : MethodName := ⟨RX10, "set", "(II)I"⟩
abbrev cX10_about : ByteArray := prog_1_method_8_code
def yX10_about : MethodName := ⟨RX10, "about", "(I)I"⟩
abbrev cX10_isGraph : ByteArray := prog_1_method_9_code
def yX10_isGraph : MethodName := ⟨RX10, "isGraph", "(I)Z"⟩
abbrev cX10_order : ByteArray := prog_1_method_10_code
def yX10_order : MethodName := ⟨RX10, "order", "(II)I"⟩
abbrev cX10_size : ByteArray := prog_1_method_11_code
def yX10_size : MethodName := ⟨RX10, "size", "(II)I"⟩
abbrev cX10_word : ByteArray := prog_1_method_12_code
def yX10_word : MethodName := ⟨RX10, "word", "(III)J"⟩
abbrev cX10_compare : ByteArray := prog_1_method_13_code
def yX10_compare : MethodName := ⟨RX10, "compare", "(II)I"⟩
abbrev cX10_parents : ByteArray := prog_1_method_14_code
def yX10_parents : MethodName := ⟨RX10, "parents", "(II)I"⟩
abbrev cX10_best : ByteArray := prog_1_method_15_code
def yX10_best : MethodName := ⟨RX10, "best", "()I"⟩
abbrev cX10_climb : ByteArray := prog_1_method_16_code
def yX10_climb : MethodName := ⟨RX10, "climb", "(II)I"⟩
abbrev cX10_alike : ByteArray := prog_1_method_17_code
def yX10_alike : MethodName := ⟨RX10, "alike", "(II)I"⟩
abbrev cX10_kin : ByteArray := prog_1_method_18_code
def yX10_kin : MethodName := ⟨RX10, "kin", "(II)I"⟩
abbrev cX10_shareSize : ByteArray := prog_1_method_19_code
def yX10_shareSize : MethodName := ⟨RX10, "shareSize", "(III)I"⟩
abbrev cX10_shareWord : ByteArray := prog_1_method_20_code
def yX10_shareWord : MethodName := ⟨RX10, "shareWord", "(IIII)J"⟩
abbrev cX10_test : ByteArray := prog_1_method_21_code
def yX10_test : MethodName := ⟨RX10, "test", "(IIIII)J"⟩
abbrev cX10_isName : ByteArray := prog_1_method_22_code
def yX10_isName : MethodName := ⟨RX10, "isName", "(I)Z"⟩
abbrev cX10_isPair : ByteArray := prog_1_method_23_code
def yX10_isPair : MethodName := ⟨RX10, "isPair", "(II)Z"⟩
abbrev cX10_isRow : ByteArray := prog_1_method_24_code
def yX10_isRow : MethodName := ⟨RX10, "isRow", "(I)Z"⟩
abbrev cX10_isValue : ByteArray := prog_1_method_25_code
def yX10_isValue : MethodName := ⟨RX10, "isValue", "(II)Z"⟩
abbrev cX10_isPart : ByteArray := prog_1_method_26_code
def yX10_isPart : MethodName := ⟨RX10, "isPart", "(I)Z"⟩
abbrev cX10_fitsName : ByteArray := prog_1_method_27_code
def yX10_fitsName : MethodName := ⟨RX10, "fitsName", "(II)Z"⟩
abbrev cX10_coded : ByteArray := prog_1_method_28_code
def yX10_coded : MethodName := ⟨RX10, "coded", "(II)I"⟩
abbrev cX10_wordOf : ByteArray := prog_1_method_29_code
def yX10_wordOf : MethodName := ⟨RX10, "wordOf", "(LStructureSearch$Big;I)J"⟩
abbrev cX10_shareOf : ByteArray := prog_1_method_30_code
def yX10_shareOf : MethodName := ⟨RX10, "shareOf", "(II)LStructureSearch$Fraction;"⟩
abbrev cX10_forgetFits : ByteArray := prog_1_method_31_code
def yX10_forgetFits : MethodName := ⟨RX10, "forgetFits", "()V"⟩
abbrev cX10_forgetShares : ByteArray := prog_1_method_32_code
def yX10_forgetShares : MethodName := ⟨RX10, "forgetShares", "()V"⟩
def RX11 : String := "StructureSearchModel"
def TX11 : u_T := fun k => match k with
  | 0 => ("StructureSearchModel", "names", "I", false)
  | 1 => ("StructureSearchModel", "values", "[I", true)
  | 2 => ("StructureSearchModel", "rows", "I", false)
  | 3 => ("StructureSearchModel", "cells", "[I", true)
  | 4 => ("StructureSearchModel", "strength", "I", false)
  | 5 => ("StructureSearchModel", "most", "I", false)
  | 6 => ("StructureSearchModel", "one", "[I", true)
  | 7 => ("StructureSearchModel", "two", "[I", true)
  | 8 => ("StructureSearchModel", "rest", "[I", true)
  | 9 => ("StructureSearchModel", "above", "[I", true)
  | 10 => ("StructureSearchModel", "below", "[I", true)
  | 11 => ("StructureSearchModel", "isKnown", "[Z", true)
  | 12 => ("StructureSearchModel", "tops", "[I", true)
  | 13 => ("StructureSearchModel", "lows", "[I", true)
  | 14 => ("StructureSearchModel", "small", "[I", true)
  | 15 => ("StructureSearchModel", "large", "[I", true)
  | 16 => ("StructureSearchModel", "factor", "[I", true)
  | 17 => ("StructureSearchModel", "made", "[I", true)
  | 18 => ("StructureSearchModel", "topA", "[I", true)
  | 19 => ("StructureSearchModel", "lowA", "[I", true)
  | 20 => ("StructureSearchModel", "topB", "[I", true)
  | 21 => ("StructureSearchModel", "lowB", "[I", true)
  | 22 => ("StructureSearchModel", "left", "[I", true)
  | 23 => ("StructureSearchModel", "right", "[I", true)
  | 24 => ("StructureSearchModel", "toldGraph", "I", false)
  | 25 => ("StructureSearchModel", "toldArc", "I", false)
  | 26 => ("StructureSearchModel", "bests", "[I", true)
  | 27 => ("StructureSearchModel", "first", "[I", true)
  | 28 => ("StructureSearchModel", "second", "[I", true)
  | 29 => ("StructureSearchModel", "sums", "[I", true)
  | 30 => ("StructureSearchModel", "terms", "[I", true)
  | 31 => ("StructureSearchModel", "wholes", "[I", true)
  | 32 => ("StructureSearchModel", "term", "[I", true)
  | 33 => ("StructureSearchModel", "more", "[I", true)
  | 34 => ("StructureSearchModel", "fewer", "[I", true)
  | 35 => ("StructureSearchModel", "sum", "[I", true)
  | 36 => ("StructureSearchModel", "ofA", "[I", true)
  | 37 => ("StructureSearchModel", "ofB", "[I", true)
  | _ => ("StructureSearchModel", "both", "[I", true)
def tyX11 : Nat → FieldType := fun k => match k with
  | 0 => .int
  | 1 => .array .int
  | 2 => .int
  | 3 => .array .int
  | 4 => .int
  | 5 => .int
  | 6 => .array .int
  | 7 => .array .int
  | 8 => .array .int
  | 9 => .array .int
  | 10 => .array .int
  | 11 => .array .boolean
  | 12 => .array .int
  | 13 => .array .int
  | 14 => .array .int
  | 15 => .array .int
  | 16 => .array .int
  | 17 => .array .int
  | 18 => .array .int
  | 19 => .array .int
  | 20 => .array .int
  | 21 => .array .int
  | 22 => .array .int
  | 23 => .array .int
  | 24 => .int
  | 25 => .int
  | 26 => .array .int
  | 27 => .array .int
  | 28 => .array .int
  | 29 => .array .int
  | 30 => .array .int
  | 31 => .array .int
  | 32 => .array .int
  | 33 => .array .int
  | 34 => .array .int
  | 35 => .array .int
  | 36 => .array .int
  | 37 => .array .int
  | _ => .array .int
abbrev wsX110 : List Cond := u_ws RX11 TX11 39
theorem nmX11 : ∀ a, a < 39 → ∀ b, b < 39 → a ≠ b → (TX11 a).2.1 ≠ (TX11 b).2.1 := by decide +kernel
theorem tyX11_ok : ∀ k, k < 39 → parseFieldDescriptor (TX11 k).2.2.1 = some (tyX11 k) := by decide +kernel
abbrev cX11_init : ByteArray := prog_13_method_1_code
def yX11_init : MethodName := ⟨RX11, "<init>", "()V"⟩
abbrev cX11_put : ByteArray := prog_13_method_2_code
def yX11_put : MethodName := ⟨RX11, "put", "([II)V"⟩
abbrev cX11_copy : ByteArray := prog_13_method_3_code
def yX11_copy : MethodName := ⟨RX11, "copy", "([I[I)V"⟩
abbrev cX11_compareTo : ByteArray := prog_13_method_4_code
def yX11_compareTo : MethodName := ⟨RX11, "compareTo", "([I[I)I"⟩
abbrev cX11_trim : ByteArray := prog_13_method_5_code
def yX11_trim : MethodName := ⟨RX11, "trim", "([II)V"⟩
abbrev cX11_times : ByteArray := prog_13_method_6_code
def yX11_times : MethodName := ⟨RX11, "times", "([I[I[I)V"⟩
abbrev cX11_plus : ByteArray := prog_13_method_7_code
def yX11_plus : MethodName := ⟨RX11, "plus", "([I[I)V"⟩
abbrev cX11_less : ByteArray := prog_13_method_8_code
def yX11_less : MethodName := ⟨RX11, "less", "([I[I)V"⟩
abbrev cX11_halve : ByteArray := prog_13_method_9_code
def yX11_halve : MethodName := ⟨RX11, "halve", "([I)V"⟩
abbrev cX11_twice : ByteArray := prog_13_method_10_code
def yX11_twice : MethodName := ⟨RX11, "twice", "([II)V"⟩
abbrev cX11_isEven : ByteArray := prog_13_method_11_code
def yX11_isEven : MethodName := ⟨RX11, "isEven", "([I)Z"⟩
abbrev cX11_common : ByteArray := prog_13_method_12_code
def yX11_common : MethodName := ⟨RX11, "common", "([I[I)V"⟩
abbrev cX11_divide : ByteArray := prog_13_method_13_code
def yX11_divide : MethodName := ⟨RX11, "divide", "([I)V"⟩
abbrev cX11_least : ByteArray := prog_13_method_14_code
def yX11_least : MethodName := ⟨RX11, "least", "()V"⟩
abbrev cX11_grow : ByteArray := prog_13_method_15_code
def yX11_grow : MethodName := ⟨RX11, "grow", "([III)V"⟩
abbrev cX11_place : ByteArray := prog_13_method_16_code
def yX11_place : MethodName := ⟨RX11, "place", "(II)I"⟩
abbrev cX11_agree : ByteArray := prog_13_method_17_code
def yX11_agree : MethodName := ⟨RX11, "agree", "(III)Z"⟩
abbrev cX11_family : ByteArray := prog_13_method_18_code
def yX11_family : MethodName := ⟨RX11, "family", "(II)I"⟩
abbrev cX11_store : ByteArray := prog_13_method_19_code
def yX11_store : MethodName := ⟨RX11, "store", "([I[II)V"⟩
abbrev cX11_work : ByteArray := prog_13_method_20_code
def yX11_work : MethodName := ⟨RX11, "work", "(II)V"⟩
abbrev cX11_load : ByteArray := prog_13_method_21_code
def yX11_load : MethodName := ⟨RX11, "load", "([II[I)V"⟩
abbrev cX11_multiply : ByteArray := prog_13_method_22_code
def yX11_multiply : MethodName := ⟨RX11, "multiply", "([I[II)V"⟩
abbrev cX11_bits : ByteArray := prog_13_method_23_code
def yX11_bits : MethodName := ⟨RX11, "bits", "(I)I"⟩
abbrev cX11_parentsOf : ByteArray := prog_13_method_24_code
def yX11_parentsOf : MethodName := ⟨RX11, "parentsOf", "(II)I"⟩
abbrev cX11_fit : ByteArray := prog_13_method_25_code
def yX11_fit : MethodName := ⟨RX11, "fit", "(I[I[I)V"⟩
abbrev cX11_sign : ByteArray := prog_13_method_26_code
def yX11_sign : MethodName := ⟨RX11, "sign", "()I"⟩
abbrev cX11_signOf : ByteArray := prog_13_method_27_code
def yX11_signOf : MethodName := ⟨RX11, "signOf", "(II)I"⟩
abbrev cX11_isSet : ByteArray := prog_13_method_28_code
def yX11_isSet : MethodName := ⟨RX11, "isSet", "(I)Z"⟩
abbrev cX11_isName : ByteArray := prog_13_method_29_code
def yX11_isName : MethodName := ⟨RX11, "isName", "(I)Z"⟩
abbrev cX11_isGraph : ByteArray := prog_13_method_30_code
def yX11_isGraph : MethodName := ⟨RX11, "isGraph", "(I)Z"⟩
abbrev cX11_isBounded : ByteArray := prog_13_method_31_code
def yX11_isBounded : MethodName := ⟨RX11, "isBounded", "(I)Z"⟩
abbrev cX11_has : ByteArray := prog_13_method_32_code
def yX11_has : MethodName := ⟨RX11, "has", "(III)Z"⟩
abbrev cX11_touch : ByteArray := prog_13_method_33_code
def yX11_touch : MethodName := ⟨RX11, "touch", "(III)Z"⟩
abbrev cX11_isAlike : ByteArray := prog_13_method_34_code
def yX11_isAlike : MethodName := ⟨RX11, "isAlike", "(II)Z"⟩
abbrev cX11_change : ByteArray := prog_13_method_35_code
def yX11_change : MethodName := ⟨RX11, "change", "()V"⟩
abbrev cX11_clear : ByteArray := prog_13_method_36_code
def yX11_clear : MethodName := ⟨RX11, "clear", "()I"⟩
abbrev cX11_name : ByteArray := prog_13_method_37_code
def yX11_name : MethodName := ⟨RX11, "name", "(I)I"⟩
abbrev cX11_isValue : ByteArray := prog_13_method_38_code
def yX11_isValue : MethodName := ⟨RX11, "isValue", "(II)Z"⟩
abbrev cX11_row : ByteArray := prog_13_method_39_code
def yX11_row : MethodName := ⟨RX11, "row", "(IIIII)I"⟩
abbrev cX11_drop : ByteArray := prog_13_method_40_code
def yX11_drop : MethodName := ⟨RX11, "drop", "(I)I"⟩
abbrev cX11_value : ByteArray := prog_13_method_41_code
def yX11_value : MethodName := ⟨RX11, "value", "(II)I"⟩
abbrev cX11_set : ByteArray := prog_13_method_42_code
def yX11_set : MethodName := ⟨RX11, "set", "(II)I"⟩
abbrev cX11_about : ByteArray := prog_13_method_43_code
def yX11_about : MethodName := ⟨RX11, "about", "(I)I"⟩
abbrev cX11_order : ByteArray := prog_13_method_44_code
def yX11_order : MethodName := ⟨RX11, "order", "(II)I"⟩
abbrev cX11_tell : ByteArray := prog_13_method_45_code
def yX11_tell : MethodName := ⟨RX11, "tell", "(I)V"⟩
abbrev cX11_wordOf : ByteArray := prog_13_method_46_code
def yX11_wordOf : MethodName := ⟨RX11, "wordOf", "(II)J"⟩
abbrev cX11_isPart : ByteArray := prog_13_method_47_code
def yX11_isPart : MethodName := ⟨RX11, "isPart", "(I)Z"⟩
abbrev cX11_size : ByteArray := prog_13_method_48_code
def yX11_size : MethodName := ⟨RX11, "size", "(II)I"⟩
abbrev cX11_word : ByteArray := prog_13_method_49_code
def yX11_word : MethodName := ⟨RX11, "word", "(III)J"⟩
abbrev cX11_compare : ByteArray := prog_13_method_50_code
def yX11_compare : MethodName := ⟨RX11, "compare", "(II)I"⟩
abbrev cX11_bestParents : ByteArray := prog_13_method_51_code
def yX11_bestParents : MethodName := ⟨RX11, "bestParents", "(II)I"⟩
abbrev cX11_parents : ByteArray := prog_13_method_52_code
def yX11_parents : MethodName := ⟨RX11, "parents", "(II)I"⟩
abbrev cX11_arcs : ByteArray := prog_13_method_53_code
def yX11_arcs : MethodName := ⟨RX11, "arcs", "(II)I"⟩
abbrev cX11_best : ByteArray := prog_13_method_54_code
def yX11_best : MethodName := ⟨RX11, "best", "()I"⟩
abbrev cX11_fitIn : ByteArray := prog_13_method_55_code
def yX11_fitIn : MethodName := ⟨RX11, "fitIn", "(II[I[I)V"⟩
abbrev cX11_signIn : ByteArray := prog_13_method_56_code
def yX11_signIn : MethodName := ⟨RX11, "signIn", "(III)I"⟩
abbrev cX11_better : ByteArray := prog_13_method_57_code
def yX11_better : MethodName := ⟨RX11, "better", "(II)I"⟩
abbrev cX11_climb : ByteArray := prog_13_method_58_code
def yX11_climb : MethodName := ⟨RX11, "climb", "(II)I"⟩
abbrev cX11_alike : ByteArray := prog_13_method_59_code
def yX11_alike : MethodName := ⟨RX11, "alike", "(II)I"⟩
abbrev cX11_kin : ByteArray := prog_13_method_60_code
def yX11_kin : MethodName := ⟨RX11, "kin", "(II)I"⟩
abbrev cX11_whole : ByteArray := prog_13_method_61_code
def yX11_whole : MethodName := ⟨RX11, "whole", "(II)V"⟩
abbrev cX11_sumUp : ByteArray := prog_13_method_62_code
def yX11_sumUp : MethodName := ⟨RX11, "sumUp", "(II)V"⟩
abbrev cX11_total : ByteArray := prog_13_method_63_code
def yX11_total : MethodName := ⟨RX11, "total", "(II[I)V"⟩
abbrev cX11_tellShare : ByteArray := prog_13_method_64_code
def yX11_tellShare : MethodName := ⟨RX11, "tellShare", "(II)V"⟩
abbrev cX11_shareFault : ByteArray := prog_13_method_65_code
def yX11_shareFault : MethodName := ⟨RX11, "shareFault", "(III)I"⟩
abbrev cX11_shareSize : ByteArray := prog_13_method_66_code
def yX11_shareSize : MethodName := ⟨RX11, "shareSize", "(III)I"⟩
abbrev cX11_shareWord : ByteArray := prog_13_method_67_code
def yX11_shareWord : MethodName := ⟨RX11, "shareWord", "(IIII)J"⟩
abbrev cX11_lesser : ByteArray := prog_13_method_68_code
def yX11_lesser : MethodName := ⟨RX11, "lesser", "(II)I"⟩
abbrev cX11_choose : ByteArray := prog_13_method_69_code
def yX11_choose : MethodName := ⟨RX11, "choose", "(II)J"⟩
abbrev cX11_ways : ByteArray := prog_13_method_70_code
def yX11_ways : MethodName := ⟨RX11, "ways", "(III)J"⟩
abbrev cX11_test : ByteArray := prog_13_method_71_code
def yX11_test : MethodName := ⟨RX11, "test", "(IIIII)J"⟩
def RJ6 : String := "java/lang/Integer"
def TJ6 : u_T := fun k => match k with
  | _ => ("", "", "", false)
def tyJ6 : Nat → FieldType := fun k => match k with
  | _ => .int
abbrev wsJ60 : List Cond := u_ws RJ6 TJ6 0
theorem nmJ6 : ∀ a, a < 0 → ∀ b, b < 0 → a ≠ b → (TJ6 a).2.1 ≠ (TJ6 b).2.1 := by decide +kernel
theorem tyJ6_ok : ∀ k, k < 0 → parseFieldDescriptor (TJ6 k).2.2.1 = some (tyJ6 k) := by decide +kernel
abbrev cJ6_numberOfLeadingZeros_0f7a4 : ByteArray := prog_14_method_47_code
def yJ6_numberOfLeadingZeros_0f7a4 : MethodName := ⟨RJ6, "numberOfLeadingZeros", "(I)I"⟩
abbrev cJ6_bitCount_0f7a4 : ByteArray := prog_14_method_49_code
def yJ6_bitCount_0f7a4 : MethodName := ⟨RJ6, "bitCount", "(I)I"⟩
def RJ13 : String := "java/lang/Long"
def TJ13 : u_T := fun k => match k with
  | _ => ("", "", "", false)
def tyJ13 : Nat → FieldType := fun k => match k with
  | _ => .int
abbrev wsJ130 : List Cond := u_ws RJ13 TJ13 0
theorem nmJ13 : ∀ a, a < 0 → ∀ b, b < 0 → a ≠ b → (TJ13 a).2.1 ≠ (TJ13 b).2.1 := by decide +kernel
theorem tyJ13_ok : ∀ k, k < 0 → parseFieldDescriptor (TJ13 k).2.2.1 = some (tyJ13 k) := by decide +kernel
abbrev cJ13_numberOfLeadingZeros_95d88 : ByteArray := prog_15_method_48_code
def yJ13_numberOfLeadingZeros_95d88 : MethodName := ⟨RJ13, "numberOfLeadingZeros", "(J)I"⟩
def RJ9 : String := "java/lang/Math"
def TJ9 : u_T := fun k => match k with
  | _ => ("", "", "", false)
def tyJ9 : Nat → FieldType := fun k => match k with
  | _ => .int
abbrev wsJ90 : List Cond := u_ws RJ9 TJ9 0
theorem nmJ9 : ∀ a, a < 0 → ∀ b, b < 0 → a ≠ b → (TJ9 a).2.1 ≠ (TJ9 b).2.1 := by decide +kernel
theorem tyJ9_ok : ∀ k, k < 0 → parseFieldDescriptor (TJ9 k).2.2.1 = some (tyJ9 k) := by decide +kernel
abbrev cJ9_max_7cf53 : ByteArray := prog_16_method_65_code
def yJ9_max_7cf53 : MethodName := ⟨RJ9, "max", "(II)I"⟩
abbrev cJ9_max_f86c9 : ByteArray := prog_16_method_66_code
def yJ9_max_f86c9 : MethodName := ⟨RJ9, "max", "(JJ)J"⟩
abbrev cJ9_min_7cf53 : ByteArray := prog_16_method_69_code
def yJ9_min_7cf53 : MethodName := ⟨RJ9, "min", "(II)I"⟩
abbrev cJ9_min_f86c9 : ByteArray := prog_16_method_70_code
def yJ9_min_f86c9 : MethodName := ⟨RJ9, "min", "(JJ)J"⟩
def RJ10 : String := "java/lang/System"
def TJ10 : u_T := fun k => match k with
  | _ => ("", "", "", false)
def tyJ10 : Nat → FieldType := fun k => match k with
  | _ => .int
abbrev wsJ100 : List Cond := u_ws RJ10 TJ10 0
theorem nmJ10 : ∀ a, a < 0 → ∀ b, b < 0 → a ≠ b → (TJ10 a).2.1 ≠ (TJ10 b).2.1 := by decide +kernel
theorem tyJ10_ok : ∀ k, k < 0 → parseFieldDescriptor (TJ10 k).2.2.1 = some (tyJ10 k) := by decide +kernel
def RL : String := "StructureSearchLaw"
abbrev cL_law : ByteArray := code
def yL_law : MethodName := ⟨RL, "law", "([I)Z"⟩
def wsX0_isIn : List Cond := .code yX0_isIn cX0_isIn 2 (some .boolean) :: ([])
def wsX0_arc : List Cond := .code yX0_arc cX0_arc 2 (some .int) :: ([])
def wsX0_has : List Cond := .code yX0_has cX0_has 3 (some .boolean) :: ([.methodLink RX0 9 yX0_arc, .static yX0_arc, .initialized RX0, .code yX0_arc cX0_arc 2 (some .int)])
def wsX0_parentsIn : List Cond := .code yX0_parentsIn cX0_parentsIn 4 (some .int) :: ([])
def wsX0_fromAll : List Cond := .code yX0_fromAll cX0_fromAll 4 (some .int) :: ([.methodLink RX0 15 yX0_isIn, .static yX0_isIn, .initialized RX0, .code yX0_isIn cX0_isIn 2 (some .boolean), .methodLink RX0 9 yX0_arc, .static yX0_arc, .code yX0_arc cX0_arc 2 (some .int)])
def wsX0_nextAfter : List Cond := .code yX0_nextAfter cX0_nextAfter 4 (some .int) :: ([.methodLink RX0 15 yX0_isIn, .static yX0_isIn, .initialized RX0, .code yX0_isIn cX0_isIn 2 (some .boolean), .methodLink RX0 29 yX0_parentsIn, .static yX0_parentsIn, .code yX0_parentsIn cX0_parentsIn 4 (some .int)])
def wsX0_haveNoRound : List Cond := .code yX0_haveNoRound cX0_haveNoRound 5 (some .boolean) :: ([.methodLink RX0 25 yX0_nextAfter, .static yX0_nextAfter, .initialized RX0, .code yX0_nextAfter cX0_nextAfter 4 (some .int), .methodLink RX0 15 yX0_isIn, .static yX0_isIn, .code yX0_isIn cX0_isIn 2 (some .boolean), .methodLink RX0 29 yX0_parentsIn, .static yX0_parentsIn, .code yX0_parentsIn cX0_parentsIn 4 (some .int)])
def wsX0_areGraph : List Cond := .code yX0_areGraph cX0_areGraph 5 (some .boolean) :: ([.methodLink RX0 19 yX0_fromAll, .static yX0_fromAll, .initialized RX0, .code yX0_fromAll cX0_fromAll 4 (some .int), .methodLink RX0 15 yX0_isIn, .static yX0_isIn, .code yX0_isIn cX0_isIn 2 (some .boolean), .methodLink RX0 9 yX0_arc, .static yX0_arc, .code yX0_arc cX0_arc 2 (some .int), .methodLink RX0 22 yX0_haveNoRound, .static yX0_haveNoRound, .code yX0_haveNoRound cX0_haveNoRound 5 (some .boolean), .methodLink RX0 25 yX0_nextAfter, .static yX0_nextAfter, .code yX0_nextAfter cX0_nextAfter 4 (some .int), .methodLink RX0 29 yX0_parentsIn, .static yX0_parentsIn, .code yX0_parentsIn cX0_parentsIn 4 (some .int)])
def wsJ6_bitCount_0f7a4 : List Cond := .code yJ6_bitCount_0f7a4 cJ6_bitCount_0f7a4 1 (some .int) :: ([.constant RJ6 265 (1431655765), .constant RJ6 266 (858993459), .constant RJ6 267 (252645135)])
def wsX0_areBounded : List Cond := .code yX0_areBounded cX0_areBounded 3 (some .boolean) :: ([.methodLink RX0 29 yX0_parentsIn, .static yX0_parentsIn, .initialized RX0, .code yX0_parentsIn cX0_parentsIn 4 (some .int), .methodLink RX0 32 yJ6_bitCount_0f7a4, .static yJ6_bitCount_0f7a4, .initialized RJ6, .code yJ6_bitCount_0f7a4 cJ6_bitCount_0f7a4 1 (some .int), .constant RJ6 265 (1431655765), .constant RJ6 266 (858993459), .constant RJ6 267 (252645135)])
def wsX1_init : List Cond := .code yX1_init cX1_init 2 none :: ([.methodLink RX1 3 objectInit, .instanceMethod objectInit, .code objectInit ⟨#[0xb1]⟩ 1 none, .methodLink RX1 9 Lib.Math.max.name, .static Lib.Math.max.name, .initialized "java/lang/Math", .code Lib.Math.max.name Lib.Math.max.code 2 (some .int), .arrayClass .long, .fieldLink RX1 15 "StructureSearch$Big" "words" "[J", .fieldLink RX1 21 "StructureSearch$Big" "used" "I"] ++ wsX10)
def wsX1_length : List Cond := .code yX1_length cX1_length 1 (some .int) :: ([.fieldLink RX1 21 "StructureSearch$Big" "used" "I"] ++ wsX10)
def wsX1_at : List Cond := .code yX1_at cX1_at 2 (some .long) :: ([.fieldLink RX1 21 "StructureSearch$Big" "used" "I", .fieldLink RX1 15 "StructureSearch$Big" "words" "[J"] ++ wsX10)
def wsX1_become : List Cond := .code yX1_become cX1_become 2 none :: ([.fieldLink RX1 21 "StructureSearch$Big" "used" "I", .fieldLink RX1 15 "StructureSearch$Big" "words" "[J"] ++ wsX10)
def wsX1_copy : List Cond := .code yX1_copy cX1_copy 2 none :: ([.fieldLink RX1 21 "StructureSearch$Big" "used" "I", .fieldLink RX1 15 "StructureSearch$Big" "words" "[J", .methodLink RX1 25 Lib.Math.min.name, .static Lib.Math.min.name, .initialized "java/lang/Math", .code Lib.Math.min.name Lib.Math.min.code 2 (some .int), .methodLink RX1 28 arraycopyName, .native arraycopyName, .static arraycopyName, .initialized "java/lang/System"] ++ wsX10)
def wsX1_against : List Cond := .code yX1_against cX1_against 3 (some .int) :: ([.fieldLink RX1 21 "StructureSearch$Big" "used" "I", .methodLink RX1 34 yX1_at, .instanceMethod yX1_at, .selects RX1 yX1_at yX1_at, .initialized RX1, .code yX1_at cX1_at 2 (some .long), .fieldLink RX1 15 "StructureSearch$Big" "words" "[J"] ++ wsX10)
def wsX1_timesSmall : List Cond := .code yX1_timesSmall cX1_timesSmall 9 none :: ([.fieldLink RX1 21 "StructureSearch$Big" "used" "I", .fieldLink RX1 15 "StructureSearch$Big" "words" "[J", .methodLink RX1 25 Lib.Math.min.name, .static Lib.Math.min.name, .initialized "java/lang/Math", .code Lib.Math.min.name Lib.Math.min.code 2 (some .int), .constantLong RX1 38 (4294967295)] ++ wsX10)
def wsX1_widen : List Cond := .code yX1_widen cX1_widen 4 none :: ([.fieldLink RX1 15 "StructureSearch$Big" "words" "[J", .methodLink RX1 25 Lib.Math.min.name, .static Lib.Math.min.name, .initialized "java/lang/Math", .code Lib.Math.min.name Lib.Math.min.code 2 (some .int), .fieldLink RX1 21 "StructureSearch$Big" "used" "I", .methodLink RX1 9 Lib.Math.max.name, .static Lib.Math.max.name, .code Lib.Math.max.name Lib.Math.max.code 2 (some .int)] ++ wsX10)
def wsX1_addMultiple : List Cond := .code yX1_addMultiple cX1_addMultiple 12 none :: ([.fieldLink RX1 21 "StructureSearch$Big" "used" "I", .fieldLink RX1 15 "StructureSearch$Big" "words" "[J", .methodLink RX1 25 Lib.Math.min.name, .static Lib.Math.min.name, .initialized "java/lang/Math", .code Lib.Math.min.name Lib.Math.min.code 2 (some .int), .constantLong RX1 38 (4294967295)] ++ wsX10)
def wsX1_trim : List Cond := .code yX1_trim cX1_trim 2 none :: ([.fieldLink RX1 21 "StructureSearch$Big" "used" "I", .fieldLink RX1 15 "StructureSearch$Big" "words" "[J", .methodLink RX1 25 Lib.Math.min.name, .static Lib.Math.min.name, .initialized "java/lang/Math", .code Lib.Math.min.name Lib.Math.min.code 2 (some .int)] ++ wsX10)
def wsX1_times : List Cond := .code yX1_times cX1_times 6 none :: ([.fieldLink RX1 21 "StructureSearch$Big" "used" "I", .fieldLink RX1 15 "StructureSearch$Big" "words" "[J", .methodLink RX1 25 Lib.Math.min.name, .static Lib.Math.min.name, .initialized "java/lang/Math", .code Lib.Math.min.name Lib.Math.min.code 2 (some .int), .methodLink RX1 40 yX1_widen, .instanceMethod yX1_widen, .selects RX1 yX1_widen yX1_widen, .initialized RX1, .code yX1_widen cX1_widen 4 none, .methodLink RX1 9 Lib.Math.max.name, .static Lib.Math.max.name, .code Lib.Math.max.name Lib.Math.max.code 2 (some .int), .methodLink RX1 44 yX1_addMultiple, .instanceMethod yX1_addMultiple, .selects RX1 yX1_addMultiple yX1_addMultiple, .code yX1_addMultiple cX1_addMultiple 12 none, .constantLong RX1 38 (4294967295), .methodLink RX1 48 yX1_trim, .instanceMethod yX1_trim, .selects RX1 yX1_trim yX1_trim, .code yX1_trim cX1_trim 2 none] ++ wsX10)
def wsX1_plus : List Cond := .code yX1_plus cX1_plus 2 none :: ([.fieldLink RX1 21 "StructureSearch$Big" "used" "I", .methodLink RX1 9 Lib.Math.max.name, .static Lib.Math.max.name, .initialized "java/lang/Math", .code Lib.Math.max.name Lib.Math.max.code 2 (some .int), .methodLink RX1 40 yX1_widen, .instanceMethod yX1_widen, .selects RX1 yX1_widen yX1_widen, .initialized RX1, .code yX1_widen cX1_widen 4 none, .fieldLink RX1 15 "StructureSearch$Big" "words" "[J", .methodLink RX1 25 Lib.Math.min.name, .static Lib.Math.min.name, .code Lib.Math.min.name Lib.Math.min.code 2 (some .int), .methodLink RX1 44 yX1_addMultiple, .instanceMethod yX1_addMultiple, .selects RX1 yX1_addMultiple yX1_addMultiple, .code yX1_addMultiple cX1_addMultiple 12 none, .constantLong RX1 38 (4294967295), .methodLink RX1 48 yX1_trim, .instanceMethod yX1_trim, .selects RX1 yX1_trim yX1_trim, .code yX1_trim cX1_trim 2 none] ++ wsX10)
def wsX1_subtractMultiple : List Cond := .code yX1_subtractMultiple cX1_subtractMultiple 14 none :: ([.fieldLink RX1 21 "StructureSearch$Big" "used" "I", .fieldLink RX1 15 "StructureSearch$Big" "words" "[J", .methodLink RX1 25 Lib.Math.min.name, .static Lib.Math.min.name, .initialized "java/lang/Math", .code Lib.Math.min.name Lib.Math.min.code 2 (some .int), .constantLong RX1 38 (4294967295), .methodLink RX1 48 yX1_trim, .instanceMethod yX1_trim, .selects RX1 yX1_trim yX1_trim, .initialized RX1, .code yX1_trim cX1_trim 2 none] ++ wsX10)
def wsX1_minus : List Cond := .code yX1_minus cX1_minus 2 none :: ([.methodLink RX1 51 yX1_subtractMultiple, .instanceMethod yX1_subtractMultiple, .selects RX1 yX1_subtractMultiple yX1_subtractMultiple, .initialized RX1, .code yX1_subtractMultiple cX1_subtractMultiple 14 none, .fieldLink RX1 21 "StructureSearch$Big" "used" "I", .fieldLink RX1 15 "StructureSearch$Big" "words" "[J", .methodLink RX1 25 Lib.Math.min.name, .static Lib.Math.min.name, .initialized "java/lang/Math", .code Lib.Math.min.name Lib.Math.min.code 2 (some .int), .constantLong RX1 38 (4294967295), .methodLink RX1 48 yX1_trim, .instanceMethod yX1_trim, .selects RX1 yX1_trim yX1_trim, .code yX1_trim cX1_trim 2 none] ++ wsX10)
def wsJ6_numberOfLeadingZeros_0f7a4 : List Cond := .code yJ6_numberOfLeadingZeros_0f7a4 cJ6_numberOfLeadingZeros_0f7a4 2 (some .int) :: ([.constant RJ6 264 (65536)])
def wsJ13_numberOfLeadingZeros_95d88 : List Cond := .code yJ13_numberOfLeadingZeros_95d88 cJ13_numberOfLeadingZeros_95d88 3 (some .int) :: ([.methodLink RJ13 308 yJ6_numberOfLeadingZeros_0f7a4, .static yJ6_numberOfLeadingZeros_0f7a4, .initialized RJ6, .code yJ6_numberOfLeadingZeros_0f7a4 cJ6_numberOfLeadingZeros_0f7a4 2 (some .int), .constant RJ6 264 (65536)])
def wsX1_bits : List Cond := .code yX1_bits cX1_bits 1 (some .int) :: ([.fieldLink RX1 21 "StructureSearch$Big" "used" "I", .methodLink RX1 34 yX1_at, .instanceMethod yX1_at, .selects RX1 yX1_at yX1_at, .initialized RX1, .code yX1_at cX1_at 2 (some .long), .fieldLink RX1 15 "StructureSearch$Big" "words" "[J", .methodLink RX1 79 yJ13_numberOfLeadingZeros_95d88, .static yJ13_numberOfLeadingZeros_95d88, .initialized RJ13, .code yJ13_numberOfLeadingZeros_95d88 cJ13_numberOfLeadingZeros_95d88 3 (some .int), .methodLink RJ13 308 yJ6_numberOfLeadingZeros_0f7a4, .static yJ6_numberOfLeadingZeros_0f7a4, .initialized RJ6, .code yJ6_numberOfLeadingZeros_0f7a4 cJ6_numberOfLeadingZeros_0f7a4 2 (some .int), .constant RJ6 264 (65536)] ++ wsX10)
def wsX1_from : List Cond := .code yX1_from cX1_from 6 (some .long) :: ([.methodLink RX1 34 yX1_at, .instanceMethod yX1_at, .selects RX1 yX1_at yX1_at, .initialized RX1, .code yX1_at cX1_at 2 (some .long), .fieldLink RX1 21 "StructureSearch$Big" "used" "I", .fieldLink RX1 15 "StructureSearch$Big" "words" "[J"] ++ wsX10)
def wsX1_addDigit : List Cond := .code yX1_addDigit cX1_addDigit 10 none :: ([.fieldLink RX1 21 "StructureSearch$Big" "used" "I", .methodLink RX1 9 Lib.Math.max.name, .static Lib.Math.max.name, .initialized "java/lang/Math", .code Lib.Math.max.name Lib.Math.max.code 2 (some .int), .fieldLink RX1 15 "StructureSearch$Big" "words" "[J", .methodLink RX1 25 Lib.Math.min.name, .static Lib.Math.min.name, .code Lib.Math.min.name Lib.Math.min.code 2 (some .int), .constantLong RX1 38 (4294967295), .methodLink RX1 40 yX1_widen, .instanceMethod yX1_widen, .selects RX1 yX1_widen yX1_widen, .initialized RX1, .code yX1_widen cX1_widen 4 none, .methodLink RX1 48 yX1_trim, .instanceMethod yX1_trim, .selects RX1 yX1_trim yX1_trim, .code yX1_trim cX1_trim 2 none] ++ wsX10)
def wsX1_reduceBy_r1 : List Cond := [Cond.fieldLink RX1 21 "StructureSearch$Big" "used" "I", Cond.methodLink RX1 9 Lib.Math.max.name, Cond.static Lib.Math.max.name, Cond.initialized "java/lang/Math", Cond.code Lib.Math.max.name Lib.Math.max.code 2 (some .int), Cond.methodLink RX1 61 Lib.MathLoose.max_long.x, Cond.static Lib.MathLoose.max_long.x, Cond.code Lib.MathLoose.max_long.x Lib.MathLoose.max_long.code 4 (some .long), Cond.constant RX1 64 (1000000), Cond.constantLong RX1 38 (4294967295), Cond.methodLink RX1 69 Lib.MathLoose.min_long.x, Cond.static Lib.MathLoose.min_long.x, Cond.code Lib.MathLoose.min_long.x Lib.MathLoose.min_long.code 4 (some .long), Cond.methodLink RX1 54 yX1_bits, Cond.instanceMethod yX1_bits, Cond.selects RX1 yX1_bits yX1_bits, Cond.initialized RX1, Cond.code yX1_bits cX1_bits 1 (some .int), Cond.methodLink RX1 34 yX1_at, Cond.instanceMethod yX1_at, Cond.selects RX1 yX1_at yX1_at, Cond.code yX1_at cX1_at 2 (some .long), Cond.fieldLink RX1 15 "StructureSearch$Big" "words" "[J", Cond.methodLink RX1 79 yJ13_numberOfLeadingZeros_95d88]
def wsX1_reduceBy_r2 : List Cond := [Cond.static yJ13_numberOfLeadingZeros_95d88, Cond.initialized RJ13, Cond.code yJ13_numberOfLeadingZeros_95d88 cJ13_numberOfLeadingZeros_95d88 3 (some .int), Cond.methodLink RJ13 308 yJ6_numberOfLeadingZeros_0f7a4, Cond.static yJ6_numberOfLeadingZeros_0f7a4, Cond.initialized RJ6, Cond.code yJ6_numberOfLeadingZeros_0f7a4 cJ6_numberOfLeadingZeros_0f7a4 2 (some .int), Cond.constant RJ6 264 (65536), Cond.methodLink RX1 58 yX1_from, Cond.instanceMethod yX1_from, Cond.selects RX1 yX1_from yX1_from, Cond.code yX1_from cX1_from 6 (some .long), Cond.methodLink RX1 65 yX1_against, Cond.instanceMethod yX1_against, Cond.selects RX1 yX1_against yX1_against, Cond.code yX1_against cX1_against 3 (some .int), Cond.methodLink RX1 51 yX1_subtractMultiple, Cond.instanceMethod yX1_subtractMultiple, Cond.selects RX1 yX1_subtractMultiple yX1_subtractMultiple, Cond.code yX1_subtractMultiple cX1_subtractMultiple 14 none, Cond.methodLink RX1 25 Lib.Math.min.name, Cond.static Lib.Math.min.name, Cond.code Lib.Math.min.name Lib.Math.min.code 2 (some .int), Cond.methodLink RX1 48 yX1_trim]
def wsX1_reduceBy_r3 : List Cond := [Cond.instanceMethod yX1_trim, Cond.selects RX1 yX1_trim yX1_trim, Cond.code yX1_trim cX1_trim 2 none, Cond.methodLink RX1 71 yX1_addDigit, Cond.instanceMethod yX1_addDigit, Cond.selects RX1 yX1_addDigit yX1_addDigit, Cond.code yX1_addDigit cX1_addDigit 10 none, Cond.methodLink RX1 40 yX1_widen, Cond.instanceMethod yX1_widen, Cond.selects RX1 yX1_widen yX1_widen, Cond.code yX1_widen cX1_widen 4 none]
def wsX1_reduceBy : List Cond := .code yX1_reduceBy cX1_reduceBy 11 none :: ((wsX1_reduceBy_r1 ++ (wsX1_reduceBy_r2 ++ wsX1_reduceBy_r3)) ++ wsX10)
def wsX1_commonDivisor_r1 : List Cond := [Cond.constant RX1 64 (1000000), Cond.fieldLink RX1 21 "StructureSearch$Big" "used" "I", Cond.methodLink RX1 75 yX1_reduceBy, Cond.instanceMethod yX1_reduceBy, Cond.selects RX1 yX1_reduceBy yX1_reduceBy, Cond.initialized RX1, Cond.code yX1_reduceBy cX1_reduceBy 11 none, Cond.methodLink RX1 9 Lib.Math.max.name, Cond.static Lib.Math.max.name, Cond.initialized "java/lang/Math", Cond.code Lib.Math.max.name Lib.Math.max.code 2 (some .int), Cond.methodLink RX1 61 Lib.MathLoose.max_long.x, Cond.static Lib.MathLoose.max_long.x, Cond.code Lib.MathLoose.max_long.x Lib.MathLoose.max_long.code 4 (some .long), Cond.constantLong RX1 38 (4294967295), Cond.methodLink RX1 69 Lib.MathLoose.min_long.x, Cond.static Lib.MathLoose.min_long.x, Cond.code Lib.MathLoose.min_long.x Lib.MathLoose.min_long.code 4 (some .long), Cond.methodLink RX1 54 yX1_bits, Cond.instanceMethod yX1_bits, Cond.selects RX1 yX1_bits yX1_bits, Cond.code yX1_bits cX1_bits 1 (some .int), Cond.methodLink RX1 34 yX1_at, Cond.instanceMethod yX1_at]
def wsX1_commonDivisor_r2 : List Cond := [Cond.selects RX1 yX1_at yX1_at, Cond.code yX1_at cX1_at 2 (some .long), Cond.fieldLink RX1 15 "StructureSearch$Big" "words" "[J", Cond.methodLink RX1 79 yJ13_numberOfLeadingZeros_95d88, Cond.static yJ13_numberOfLeadingZeros_95d88, Cond.initialized RJ13, Cond.code yJ13_numberOfLeadingZeros_95d88 cJ13_numberOfLeadingZeros_95d88 3 (some .int), Cond.methodLink RJ13 308 yJ6_numberOfLeadingZeros_0f7a4, Cond.static yJ6_numberOfLeadingZeros_0f7a4, Cond.initialized RJ6, Cond.code yJ6_numberOfLeadingZeros_0f7a4 cJ6_numberOfLeadingZeros_0f7a4 2 (some .int), Cond.constant RJ6 264 (65536), Cond.methodLink RX1 58 yX1_from, Cond.instanceMethod yX1_from, Cond.selects RX1 yX1_from yX1_from, Cond.code yX1_from cX1_from 6 (some .long), Cond.methodLink RX1 65 yX1_against, Cond.instanceMethod yX1_against, Cond.selects RX1 yX1_against yX1_against, Cond.code yX1_against cX1_against 3 (some .int), Cond.methodLink RX1 51 yX1_subtractMultiple, Cond.instanceMethod yX1_subtractMultiple, Cond.selects RX1 yX1_subtractMultiple yX1_subtractMultiple, Cond.code yX1_subtractMultiple cX1_subtractMultiple 14 none]
def wsX1_commonDivisor_r3 : List Cond := [Cond.methodLink RX1 25 Lib.Math.min.name, Cond.static Lib.Math.min.name, Cond.code Lib.Math.min.name Lib.Math.min.code 2 (some .int), Cond.methodLink RX1 48 yX1_trim, Cond.instanceMethod yX1_trim, Cond.selects RX1 yX1_trim yX1_trim, Cond.code yX1_trim cX1_trim 2 none, Cond.methodLink RX1 71 yX1_addDigit, Cond.instanceMethod yX1_addDigit, Cond.selects RX1 yX1_addDigit yX1_addDigit, Cond.code yX1_addDigit cX1_addDigit 10 none, Cond.methodLink RX1 40 yX1_widen, Cond.instanceMethod yX1_widen, Cond.selects RX1 yX1_widen yX1_widen, Cond.code yX1_widen cX1_widen 4 none]
def wsX1_commonDivisor : List Cond := .code yX1_commonDivisor cX1_commonDivisor 6 (some (.object "StructureSearch$Big")) :: ((wsX1_commonDivisor_r1 ++ (wsX1_commonDivisor_r2 ++ wsX1_commonDivisor_r3)) ++ wsX10)
def wsX3_init : List Cond := .code yX3_init cX3_init 2 none :: ([.methodLink RX3 1 objectInit, .instanceMethod objectInit, .code objectInit ⟨#[0xb1]⟩ 1 none, .classLink RX3 7 RX1, .instantiable RX1 2, .initialized RX1, .fieldLink RX3 12 "StructureSearch$Fraction" "above" "LStructureSearch$Big;", .fieldLink RX3 18 "StructureSearch$Fraction" "below" "LStructureSearch$Big;", .fieldLink RX3 21 "StructureSearch$Fraction" "ready" "Z", .methodLink RX3 9 yX1_init, .instanceMethod yX1_init, .code yX1_init cX1_init 2 none, .methodLink RX1 3 objectInit, .methodLink RX1 9 Lib.Math.max.name, .static Lib.Math.max.name, .initialized "java/lang/Math", .code Lib.Math.max.name Lib.Math.max.code 2 (some .int), .arrayClass .long, .fieldLink RX1 15 "StructureSearch$Big" "words" "[J", .fieldLink RX1 21 "StructureSearch$Big" "used" "I"] ++ wsX10 ++ wsX30)
def wsX2_init_r1 : List Cond := [Cond.methodLink RX2 5 objectInit, Cond.instanceMethod objectInit, Cond.code objectInit ⟨#[0xb1]⟩ 1 none, Cond.fieldLink RX2 11 "StructureSearch$Fits" "sheet" "LStructureSearch$Sheet;", Cond.fieldLink RX2 15 "StructureSearch$Fits" "powers" "LStructureSearch$Powers;", Cond.classLink RX2 19 RX3, Cond.fieldLink RX2 21 "StructureSearch$Fits" "ofNames" "[LStructureSearch$Fraction;", Cond.instantiable RX3 3, Cond.initialized RX3, Cond.fieldLink RX2 28 "StructureSearch$Fits" "ofNothing" "LStructureSearch$Fraction;", Cond.fieldLink RX2 32 "StructureSearch$Fits" "whole" "LStructureSearch$Fraction;", Cond.fieldLink RX2 35 "StructureSearch$Fits" "wholeGraph" "I", Cond.classLink RX2 39 RX1, Cond.instantiable RX1 2, Cond.initialized RX1, Cond.fieldLink RX2 42 "StructureSearch$Fits" "left" "LStructureSearch$Big;", Cond.fieldLink RX2 46 "StructureSearch$Fits" "right" "LStructureSearch$Big;", Cond.methodLink RX2 25 yX3_init, Cond.instanceMethod yX3_init, Cond.code yX3_init cX3_init 2 none, Cond.methodLink RX3 1 objectInit, Cond.classLink RX3 7 RX1, Cond.fieldLink RX3 12 "StructureSearch$Fraction" "above" "LStructureSearch$Big;", Cond.fieldLink RX3 18 "StructureSearch$Fraction" "below" "LStructureSearch$Big;"]
def wsX2_init_r2 : List Cond := [Cond.fieldLink RX3 21 "StructureSearch$Fraction" "ready" "Z", Cond.methodLink RX3 9 yX1_init, Cond.instanceMethod yX1_init, Cond.code yX1_init cX1_init 2 none, Cond.methodLink RX1 3 objectInit, Cond.methodLink RX1 9 Lib.Math.max.name, Cond.static Lib.Math.max.name, Cond.initialized "java/lang/Math", Cond.code Lib.Math.max.name Lib.Math.max.code 2 (some .int), Cond.arrayClass .long, Cond.fieldLink RX1 15 "StructureSearch$Big" "words" "[J", Cond.fieldLink RX1 21 "StructureSearch$Big" "used" "I", Cond.methodLink RX2 41 yX1_init]
def wsX2_init : List Cond := .code yX2_init cX2_init 3 none :: ((wsX2_init_r1 ++ wsX2_init_r2) ++ wsX20 ++ wsX30 ++ wsX10)
def wsX2_forget : List Cond := .code yX2_forget cX2_forget 2 none :: ([.fieldLink RX2 32 "StructureSearch$Fits" "whole" "LStructureSearch$Fraction;", .fieldLink RX2 49 "StructureSearch$Fraction" "ready" "Z", .fieldLink RX2 21 "StructureSearch$Fits" "ofNames" "[LStructureSearch$Fraction;"] ++ wsX20 ++ wsX30)
def wsX5_forget : List Cond := .code yX5_forget cX5_forget 2 none :: ([.fieldLink RX5 15 "StructureSearch$Powers" "largest" "I", .fieldLink RX5 11 "StructureSearch$Powers" "power" "[I"] ++ wsX50)
def wsX8_valuesOf : List Cond := .code yX8_valuesOf cX8_valuesOf 2 (some .int) :: ([.fieldLink RX8 21 "StructureSearch$Sheet" "names" "I", .fieldLink RX8 9 "StructureSearch$Sheet" "values" "[I"] ++ wsX80)
def wsX8_codeOf : List Cond := .code yX8_codeOf cX8_codeOf 2 (some .int) :: ([.fieldLink RX8 25 "StructureSearch$Sheet" "rows" "I", .fieldLink RX8 15 "StructureSearch$Sheet" "codes" "[I"] ++ wsX80)
def wsX5_multiply : List Cond := .code yX5_multiply cX5_multiply 7 none :: ([.fieldLink RX5 11 "StructureSearch$Powers" "power" "[I", .fieldLink RX5 19 "StructureSearch$Powers" "SMALL_PRIMES" "[I", .fieldLink RX5 15 "StructureSearch$Powers" "largest" "I", .methodLink RX5 22 Lib.Math.max.name, .static Lib.Math.max.name, .initialized "java/lang/Math", .code Lib.Math.max.name Lib.Math.max.code 2 (some .int)] ++ wsX50)
def wsX8_pourFit_r1 : List Cond := [Cond.fieldLink RX8 21 "StructureSearch$Sheet" "names" "I", Cond.fieldLink RX8 25 "StructureSearch$Sheet" "rows" "I", Cond.fieldLink RX8 28 "StructureSearch$Sheet" "strength" "I", Cond.methodLink RX8 38 yX8_valuesOf, Cond.instanceMethod yX8_valuesOf, Cond.selects RX8 yX8_valuesOf yX8_valuesOf, Cond.initialized RX8, Cond.code yX8_valuesOf cX8_valuesOf 2 (some .int), Cond.fieldLink RX8 9 "StructureSearch$Sheet" "values" "[I", Cond.methodLink RX8 41 yX0_isIn, Cond.static yX0_isIn, Cond.initialized RX0, Cond.code yX0_isIn cX0_isIn 2 (some .boolean), Cond.methodLink RX8 34 yX8_codeOf, Cond.instanceMethod yX8_codeOf, Cond.selects RX8 yX8_codeOf yX8_codeOf, Cond.code yX8_codeOf cX8_codeOf 2 (some .int), Cond.fieldLink RX8 15 "StructureSearch$Sheet" "codes" "[I", Cond.methodLink RX8 47 yX5_multiply, Cond.instanceMethod yX5_multiply, Cond.selects RX5 yX5_multiply yX5_multiply, Cond.initialized RX5, Cond.code yX5_multiply cX5_multiply 7 none, Cond.fieldLink RX5 11 "StructureSearch$Powers" "power" "[I"]
def wsX8_pourFit_r2 : List Cond := [Cond.fieldLink RX5 19 "StructureSearch$Powers" "SMALL_PRIMES" "[I", Cond.fieldLink RX5 15 "StructureSearch$Powers" "largest" "I", Cond.methodLink RX5 22 Lib.Math.max.name, Cond.static Lib.Math.max.name, Cond.initialized "java/lang/Math", Cond.code Lib.Math.max.name Lib.Math.max.code 2 (some .int)]
def wsX8_pourFit : List Cond := .code yX8_pourFit cX8_pourFit 13 none :: ((wsX8_pourFit_r1 ++ wsX8_pourFit_r2) ++ wsX80 ++ wsX50)
def wsX5_write : List Cond := .code yX5_write cX5_write 8 none :: ([.fieldLink RX5 15 "StructureSearch$Powers" "largest" "I", .fieldLink RX5 11 "StructureSearch$Powers" "power" "[I", .constantLong RX5 34 (4294967295), .methodLink RX5 28 yX1_become, .instanceMethod yX1_become, .selects RX1 yX1_become yX1_become, .initialized RX1, .code yX1_become cX1_become 2 none, .fieldLink RX1 21 "StructureSearch$Big" "used" "I", .fieldLink RX1 15 "StructureSearch$Big" "words" "[J", .methodLink RX5 36 yX1_timesSmall, .instanceMethod yX1_timesSmall, .selects RX1 yX1_timesSmall yX1_timesSmall, .code yX1_timesSmall cX1_timesSmall 9 none, .methodLink RX1 25 Lib.Math.min.name, .static Lib.Math.min.name, .initialized "java/lang/Math", .code Lib.Math.min.name Lib.Math.min.code 2 (some .int), .constantLong RX1 38 (4294967295)] ++ wsX50 ++ wsX10)
def wsX2_ofGraph_r1 : List Cond := [Cond.fieldLink RX2 32 "StructureSearch$Fits" "whole" "LStructureSearch$Fraction;", Cond.fieldLink RX2 49 "StructureSearch$Fraction" "ready" "Z", Cond.fieldLink RX2 35 "StructureSearch$Fits" "wholeGraph" "I", Cond.fieldLink RX2 15 "StructureSearch$Fits" "powers" "LStructureSearch$Powers;", Cond.fieldLink RX2 11 "StructureSearch$Fits" "sheet" "LStructureSearch$Sheet;", Cond.fieldLink RX2 58 "StructureSearch$Sheet" "names" "I", Cond.fieldLink RX2 73 "StructureSearch$Fraction" "above" "LStructureSearch$Big;", Cond.fieldLink RX2 80 "StructureSearch$Fraction" "below" "LStructureSearch$Big;", Cond.methodLink RX2 53 yX5_forget, Cond.instanceMethod yX5_forget, Cond.selects RX5 yX5_forget yX5_forget, Cond.initialized RX5, Cond.code yX5_forget cX5_forget 2 none, Cond.fieldLink RX5 15 "StructureSearch$Powers" "largest" "I", Cond.fieldLink RX5 11 "StructureSearch$Powers" "power" "[I", Cond.methodLink RX2 63 yX0_parentsIn, Cond.static yX0_parentsIn, Cond.initialized RX0, Cond.code yX0_parentsIn cX0_parentsIn 4 (some .int), Cond.methodLink RX2 69 yX8_pourFit, Cond.instanceMethod yX8_pourFit, Cond.selects RX8 yX8_pourFit yX8_pourFit, Cond.initialized RX8, Cond.code yX8_pourFit cX8_pourFit 13 none]
def wsX2_ofGraph_r2 : List Cond := [Cond.fieldLink RX8 21 "StructureSearch$Sheet" "names" "I", Cond.fieldLink RX8 25 "StructureSearch$Sheet" "rows" "I", Cond.fieldLink RX8 28 "StructureSearch$Sheet" "strength" "I", Cond.methodLink RX8 38 yX8_valuesOf, Cond.instanceMethod yX8_valuesOf, Cond.selects RX8 yX8_valuesOf yX8_valuesOf, Cond.code yX8_valuesOf cX8_valuesOf 2 (some .int), Cond.fieldLink RX8 9 "StructureSearch$Sheet" "values" "[I", Cond.methodLink RX8 41 yX0_isIn, Cond.static yX0_isIn, Cond.code yX0_isIn cX0_isIn 2 (some .boolean), Cond.methodLink RX8 34 yX8_codeOf, Cond.instanceMethod yX8_codeOf, Cond.selects RX8 yX8_codeOf yX8_codeOf, Cond.code yX8_codeOf cX8_codeOf 2 (some .int), Cond.fieldLink RX8 15 "StructureSearch$Sheet" "codes" "[I", Cond.methodLink RX8 47 yX5_multiply, Cond.instanceMethod yX5_multiply, Cond.selects RX5 yX5_multiply yX5_multiply, Cond.code yX5_multiply cX5_multiply 7 none, Cond.fieldLink RX5 19 "StructureSearch$Powers" "SMALL_PRIMES" "[I", Cond.methodLink RX5 22 Lib.Math.max.name, Cond.static Lib.Math.max.name, Cond.initialized "java/lang/Math"]
def wsX2_ofGraph_r3 : List Cond := [Cond.code Lib.Math.max.name Lib.Math.max.code 2 (some .int), Cond.methodLink RX2 76 yX5_write, Cond.instanceMethod yX5_write, Cond.selects RX5 yX5_write yX5_write, Cond.code yX5_write cX5_write 8 none, Cond.constantLong RX5 34 (4294967295), Cond.methodLink RX5 28 yX1_become, Cond.instanceMethod yX1_become, Cond.selects RX1 yX1_become yX1_become, Cond.initialized RX1, Cond.code yX1_become cX1_become 2 none, Cond.fieldLink RX1 21 "StructureSearch$Big" "used" "I", Cond.fieldLink RX1 15 "StructureSearch$Big" "words" "[J", Cond.methodLink RX5 36 yX1_timesSmall, Cond.instanceMethod yX1_timesSmall, Cond.selects RX1 yX1_timesSmall yX1_timesSmall, Cond.code yX1_timesSmall cX1_timesSmall 9 none, Cond.methodLink RX1 25 Lib.Math.min.name, Cond.static Lib.Math.min.name, Cond.code Lib.Math.min.name Lib.Math.min.code 2 (some .int), Cond.constantLong RX1 38 (4294967295)]
def wsX2_ofGraph : List Cond := .code yX2_ofGraph cX2_ofGraph 3 (some (.object "StructureSearch$Fraction")) :: ((wsX2_ofGraph_r1 ++ (wsX2_ofGraph_r2 ++ wsX2_ofGraph_r3)) ++ wsX20 ++ wsX30 ++ wsX80 ++ wsX50 ++ wsX10)
def wsX2_ofName_r1 : List Cond := [Cond.fieldLink RX2 21 "StructureSearch$Fits" "ofNames" "[LStructureSearch$Fraction;", Cond.fieldLink RX2 28 "StructureSearch$Fits" "ofNothing" "LStructureSearch$Fraction;", Cond.classLink RX2 19 RX3, Cond.instantiable RX3 3, Cond.initialized RX3, Cond.fieldLink RX2 49 "StructureSearch$Fraction" "ready" "Z", Cond.fieldLink RX2 15 "StructureSearch$Fits" "powers" "LStructureSearch$Powers;", Cond.fieldLink RX2 11 "StructureSearch$Fits" "sheet" "LStructureSearch$Sheet;", Cond.fieldLink RX2 73 "StructureSearch$Fraction" "above" "LStructureSearch$Big;", Cond.fieldLink RX2 80 "StructureSearch$Fraction" "below" "LStructureSearch$Big;", Cond.methodLink RX2 25 yX3_init, Cond.instanceMethod yX3_init, Cond.code yX3_init cX3_init 2 none, Cond.methodLink RX3 1 objectInit, Cond.instanceMethod objectInit, Cond.code objectInit ⟨#[0xb1]⟩ 1 none, Cond.classLink RX3 7 RX1, Cond.instantiable RX1 2, Cond.initialized RX1, Cond.fieldLink RX3 12 "StructureSearch$Fraction" "above" "LStructureSearch$Big;", Cond.fieldLink RX3 18 "StructureSearch$Fraction" "below" "LStructureSearch$Big;", Cond.fieldLink RX3 21 "StructureSearch$Fraction" "ready" "Z", Cond.methodLink RX3 9 yX1_init, Cond.instanceMethod yX1_init]
def wsX2_ofName_r2 : List Cond := [Cond.code yX1_init cX1_init 2 none, Cond.methodLink RX1 3 objectInit, Cond.methodLink RX1 9 Lib.Math.max.name, Cond.static Lib.Math.max.name, Cond.initialized "java/lang/Math", Cond.code Lib.Math.max.name Lib.Math.max.code 2 (some .int), Cond.arrayClass .long, Cond.fieldLink RX1 15 "StructureSearch$Big" "words" "[J", Cond.fieldLink RX1 21 "StructureSearch$Big" "used" "I", Cond.methodLink RX2 53 yX5_forget, Cond.instanceMethod yX5_forget, Cond.selects RX5 yX5_forget yX5_forget, Cond.initialized RX5, Cond.code yX5_forget cX5_forget 2 none, Cond.fieldLink RX5 15 "StructureSearch$Powers" "largest" "I", Cond.fieldLink RX5 11 "StructureSearch$Powers" "power" "[I", Cond.methodLink RX2 69 yX8_pourFit, Cond.instanceMethod yX8_pourFit, Cond.selects RX8 yX8_pourFit yX8_pourFit, Cond.initialized RX8, Cond.code yX8_pourFit cX8_pourFit 13 none, Cond.fieldLink RX8 21 "StructureSearch$Sheet" "names" "I", Cond.fieldLink RX8 25 "StructureSearch$Sheet" "rows" "I", Cond.fieldLink RX8 28 "StructureSearch$Sheet" "strength" "I"]
def wsX2_ofName_r3 : List Cond := [Cond.methodLink RX8 38 yX8_valuesOf, Cond.instanceMethod yX8_valuesOf, Cond.selects RX8 yX8_valuesOf yX8_valuesOf, Cond.code yX8_valuesOf cX8_valuesOf 2 (some .int), Cond.fieldLink RX8 9 "StructureSearch$Sheet" "values" "[I", Cond.methodLink RX8 41 yX0_isIn, Cond.static yX0_isIn, Cond.initialized RX0, Cond.code yX0_isIn cX0_isIn 2 (some .boolean), Cond.methodLink RX8 34 yX8_codeOf, Cond.instanceMethod yX8_codeOf, Cond.selects RX8 yX8_codeOf yX8_codeOf, Cond.code yX8_codeOf cX8_codeOf 2 (some .int), Cond.fieldLink RX8 15 "StructureSearch$Sheet" "codes" "[I", Cond.methodLink RX8 47 yX5_multiply, Cond.instanceMethod yX5_multiply, Cond.selects RX5 yX5_multiply yX5_multiply, Cond.code yX5_multiply cX5_multiply 7 none, Cond.fieldLink RX5 19 "StructureSearch$Powers" "SMALL_PRIMES" "[I", Cond.methodLink RX5 22 Lib.Math.max.name, Cond.methodLink RX2 76 yX5_write, Cond.instanceMethod yX5_write, Cond.selects RX5 yX5_write yX5_write, Cond.code yX5_write cX5_write 8 none]
def wsX2_ofName_r4 : List Cond := [Cond.constantLong RX5 34 (4294967295), Cond.methodLink RX5 28 yX1_become, Cond.instanceMethod yX1_become, Cond.selects RX1 yX1_become yX1_become, Cond.code yX1_become cX1_become 2 none, Cond.methodLink RX5 36 yX1_timesSmall, Cond.instanceMethod yX1_timesSmall, Cond.selects RX1 yX1_timesSmall yX1_timesSmall, Cond.code yX1_timesSmall cX1_timesSmall 9 none, Cond.methodLink RX1 25 Lib.Math.min.name, Cond.static Lib.Math.min.name, Cond.code Lib.Math.min.name Lib.Math.min.code 2 (some .int), Cond.constantLong RX1 38 (4294967295)]
def wsX2_ofName : List Cond := .code yX2_ofName cX2_ofName 5 (some (.object "StructureSearch$Fraction")) :: ((wsX2_ofName_r1 ++ (wsX2_ofName_r2 ++ (wsX2_ofName_r3 ++ wsX2_ofName_r4))) ++ wsX20 ++ wsX30 ++ wsX10 ++ wsX50 ++ wsX80)
def wsX2_weigh_r1 : List Cond := [Cond.fieldLink RX2 42 "StructureSearch$Fits" "left" "LStructureSearch$Big;", Cond.fieldLink RX2 46 "StructureSearch$Fits" "right" "LStructureSearch$Big;", Cond.fieldLink RX2 11 "StructureSearch$Fits" "sheet" "LStructureSearch$Sheet;", Cond.fieldLink RX2 58 "StructureSearch$Sheet" "names" "I", Cond.fieldLink RX2 73 "StructureSearch$Fraction" "above" "LStructureSearch$Big;", Cond.fieldLink RX2 80 "StructureSearch$Fraction" "below" "LStructureSearch$Big;", Cond.methodLink RX2 83 yX1_become, Cond.instanceMethod yX1_become, Cond.selects RX1 yX1_become yX1_become, Cond.initialized RX1, Cond.code yX1_become cX1_become 2 none, Cond.fieldLink RX1 21 "StructureSearch$Big" "used" "I", Cond.fieldLink RX1 15 "StructureSearch$Big" "words" "[J", Cond.methodLink RX2 63 yX0_parentsIn, Cond.static yX0_parentsIn, Cond.initialized RX0, Cond.code yX0_parentsIn cX0_parentsIn 4 (some .int), Cond.methodLink RX2 86 yX2_ofName, Cond.instanceMethod yX2_ofName, Cond.selects RX2 yX2_ofName yX2_ofName, Cond.initialized RX2, Cond.code yX2_ofName cX2_ofName 5 (some (.object "StructureSearch$Fraction")), Cond.fieldLink RX2 21 "StructureSearch$Fits" "ofNames" "[LStructureSearch$Fraction;", Cond.fieldLink RX2 28 "StructureSearch$Fits" "ofNothing" "LStructureSearch$Fraction;"]
def wsX2_weigh_r2 : List Cond := [Cond.classLink RX2 19 RX3, Cond.instantiable RX3 3, Cond.initialized RX3, Cond.fieldLink RX2 49 "StructureSearch$Fraction" "ready" "Z", Cond.fieldLink RX2 15 "StructureSearch$Fits" "powers" "LStructureSearch$Powers;", Cond.methodLink RX2 25 yX3_init, Cond.instanceMethod yX3_init, Cond.code yX3_init cX3_init 2 none, Cond.methodLink RX3 1 objectInit, Cond.instanceMethod objectInit, Cond.code objectInit ⟨#[0xb1]⟩ 1 none, Cond.classLink RX3 7 RX1, Cond.instantiable RX1 2, Cond.fieldLink RX3 12 "StructureSearch$Fraction" "above" "LStructureSearch$Big;", Cond.fieldLink RX3 18 "StructureSearch$Fraction" "below" "LStructureSearch$Big;", Cond.fieldLink RX3 21 "StructureSearch$Fraction" "ready" "Z", Cond.methodLink RX3 9 yX1_init, Cond.instanceMethod yX1_init, Cond.code yX1_init cX1_init 2 none, Cond.methodLink RX1 3 objectInit, Cond.methodLink RX1 9 Lib.Math.max.name, Cond.static Lib.Math.max.name, Cond.initialized "java/lang/Math", Cond.code Lib.Math.max.name Lib.Math.max.code 2 (some .int)]
def wsX2_weigh_r3 : List Cond := [Cond.arrayClass .long, Cond.methodLink RX2 53 yX5_forget, Cond.instanceMethod yX5_forget, Cond.selects RX5 yX5_forget yX5_forget, Cond.initialized RX5, Cond.code yX5_forget cX5_forget 2 none, Cond.fieldLink RX5 15 "StructureSearch$Powers" "largest" "I", Cond.fieldLink RX5 11 "StructureSearch$Powers" "power" "[I", Cond.methodLink RX2 69 yX8_pourFit, Cond.instanceMethod yX8_pourFit, Cond.selects RX8 yX8_pourFit yX8_pourFit, Cond.initialized RX8, Cond.code yX8_pourFit cX8_pourFit 13 none, Cond.fieldLink RX8 21 "StructureSearch$Sheet" "names" "I", Cond.fieldLink RX8 25 "StructureSearch$Sheet" "rows" "I", Cond.fieldLink RX8 28 "StructureSearch$Sheet" "strength" "I", Cond.methodLink RX8 38 yX8_valuesOf, Cond.instanceMethod yX8_valuesOf, Cond.selects RX8 yX8_valuesOf yX8_valuesOf, Cond.code yX8_valuesOf cX8_valuesOf 2 (some .int), Cond.fieldLink RX8 9 "StructureSearch$Sheet" "values" "[I", Cond.methodLink RX8 41 yX0_isIn, Cond.static yX0_isIn, Cond.code yX0_isIn cX0_isIn 2 (some .boolean)]
def wsX2_weigh_r4 : List Cond := [Cond.methodLink RX8 34 yX8_codeOf, Cond.instanceMethod yX8_codeOf, Cond.selects RX8 yX8_codeOf yX8_codeOf, Cond.code yX8_codeOf cX8_codeOf 2 (some .int), Cond.fieldLink RX8 15 "StructureSearch$Sheet" "codes" "[I", Cond.methodLink RX8 47 yX5_multiply, Cond.instanceMethod yX5_multiply, Cond.selects RX5 yX5_multiply yX5_multiply, Cond.code yX5_multiply cX5_multiply 7 none, Cond.fieldLink RX5 19 "StructureSearch$Powers" "SMALL_PRIMES" "[I", Cond.methodLink RX5 22 Lib.Math.max.name, Cond.methodLink RX2 76 yX5_write, Cond.instanceMethod yX5_write, Cond.selects RX5 yX5_write yX5_write, Cond.code yX5_write cX5_write 8 none, Cond.constantLong RX5 34 (4294967295), Cond.methodLink RX5 28 yX1_become, Cond.methodLink RX5 36 yX1_timesSmall, Cond.instanceMethod yX1_timesSmall, Cond.selects RX1 yX1_timesSmall yX1_timesSmall, Cond.code yX1_timesSmall cX1_timesSmall 9 none, Cond.methodLink RX1 25 Lib.Math.min.name, Cond.static Lib.Math.min.name, Cond.code Lib.Math.min.name Lib.Math.min.code 2 (some .int)]
def wsX2_weigh_r5 : List Cond := [Cond.constantLong RX1 38 (4294967295), Cond.methodLink RX2 90 yX1_times, Cond.instanceMethod yX1_times, Cond.selects RX1 yX1_times yX1_times, Cond.code yX1_times cX1_times 6 none, Cond.methodLink RX1 40 yX1_widen, Cond.instanceMethod yX1_widen, Cond.selects RX1 yX1_widen yX1_widen, Cond.code yX1_widen cX1_widen 4 none, Cond.methodLink RX1 44 yX1_addMultiple, Cond.instanceMethod yX1_addMultiple, Cond.selects RX1 yX1_addMultiple yX1_addMultiple, Cond.code yX1_addMultiple cX1_addMultiple 12 none, Cond.methodLink RX1 48 yX1_trim, Cond.instanceMethod yX1_trim, Cond.selects RX1 yX1_trim yX1_trim, Cond.code yX1_trim cX1_trim 2 none, Cond.methodLink RX2 94 yX1_against, Cond.instanceMethod yX1_against, Cond.selects RX1 yX1_against yX1_against, Cond.code yX1_against cX1_against 3 (some .int), Cond.methodLink RX1 34 yX1_at, Cond.instanceMethod yX1_at, Cond.selects RX1 yX1_at yX1_at]
def wsX2_weigh_r6 : List Cond := [Cond.code yX1_at cX1_at 2 (some .long)]
def wsX2_weigh : List Cond := .code yX2_weigh cX2_weigh 8 (some .int) :: ((wsX2_weigh_r1 ++ (wsX2_weigh_r2 ++ (wsX2_weigh_r3 ++ (wsX2_weigh_r4 ++ (wsX2_weigh_r5 ++ wsX2_weigh_r6))))) ++ wsX20 ++ wsX80 ++ wsX30 ++ wsX10 ++ wsX50)
def wsX3_side : List Cond := .code yX3_side cX3_side 2 (some (.object "StructureSearch$Big")) :: ([.fieldLink RX3 12 "StructureSearch$Fraction" "above" "LStructureSearch$Big;", .fieldLink RX3 18 "StructureSearch$Fraction" "below" "LStructureSearch$Big;"] ++ wsX30)
def wsX4_init : List Cond := .code yX4_init cX4_init 1 none :: ([.methodLink RX4 3 objectInit, .instanceMethod objectInit, .code objectInit ⟨#[0xb1]⟩ 1 none, .fieldLink RX4 9 "StructureSearch$Kin" "count" "I", .fieldLink RX4 15 "StructureSearch$Kin" "least" "I", .fieldLink RX4 18 "StructureSearch$Kin" "greatest" "I", .fieldLink RX4 21 "StructureSearch$Kin" "common" "I"] ++ wsX40)
def wsX4_ties : List Cond := .code yX4_ties cX4_ties 4 (some .int) :: ([.methodLink RX4 24 yX0_has, .static yX0_has, .initialized RX0, .code yX0_has cX0_has 3 (some .boolean), .methodLink RX0 9 yX0_arc, .static yX0_arc, .code yX0_arc cX0_arc 2 (some .int), .methodLink RX4 30 yX0_arc])
def wsX4_meetings : List Cond := .code yX4_meetings cX4_meetings 10 (some .long) :: ([.methodLink RX4 34 yX4_ties, .static yX4_ties, .initialized RX4, .code yX4_ties cX4_ties 4 (some .int), .methodLink RX4 24 yX0_has, .static yX0_has, .initialized RX0, .code yX0_has cX0_has 3 (some .boolean), .methodLink RX0 9 yX0_arc, .static yX0_arc, .code yX0_arc cX0_arc 2 (some .int), .methodLink RX4 30 yX0_arc, .methodLink RX4 38 yX0_parentsIn, .static yX0_parentsIn, .code yX0_parentsIn cX0_parentsIn 4 (some .int), .methodLink RX4 41 yX0_isIn, .static yX0_isIn, .code yX0_isIn cX0_isIn 2 (some .boolean)])
def wsX4_directed : List Cond := .code yX4_directed cX4_directed 6 (some .int) :: ([.methodLink RX4 24 yX0_has, .static yX0_has, .initialized RX0, .code yX0_has cX0_has 3 (some .boolean), .methodLink RX0 9 yX0_arc, .static yX0_arc, .code yX0_arc cX0_arc 2 (some .int), .methodLink RX4 30 yX0_arc])
def wsX4_add : List Cond := .code yX4_add cX4_add 2 none :: ([.fieldLink RX4 9 "StructureSearch$Kin" "count" "I", .fieldLink RX4 15 "StructureSearch$Kin" "least" "I", .methodLink RX4 64 Lib.Math.min.name, .static Lib.Math.min.name, .initialized "java/lang/Math", .code Lib.Math.min.name Lib.Math.min.code 2 (some .int), .fieldLink RX4 18 "StructureSearch$Kin" "greatest" "I", .methodLink RX4 69 Lib.Math.max.name, .static Lib.Math.max.name, .code Lib.Math.max.name Lib.Math.max.code 2 (some .int), .fieldLink RX4 21 "StructureSearch$Kin" "common" "I"] ++ wsX40)
def wsX4_gather_r1 : List Cond := [Cond.methodLink RX4 34 yX4_ties, Cond.static yX4_ties, Cond.initialized RX4, Cond.code yX4_ties cX4_ties 4 (some .int), Cond.methodLink RX4 24 yX0_has, Cond.static yX0_has, Cond.initialized RX0, Cond.code yX0_has cX0_has 3 (some .boolean), Cond.methodLink RX0 9 yX0_arc, Cond.static yX0_arc, Cond.code yX0_arc cX0_arc 2 (some .int), Cond.methodLink RX4 30 yX0_arc, Cond.methodLink RX4 45 yX4_meetings, Cond.static yX4_meetings, Cond.code yX4_meetings cX4_meetings 10 (some .long), Cond.methodLink RX4 38 yX0_parentsIn, Cond.static yX0_parentsIn, Cond.code yX0_parentsIn cX0_parentsIn 4 (some .int), Cond.methodLink RX4 41 yX0_isIn, Cond.static yX0_isIn, Cond.code yX0_isIn cX0_isIn 2 (some .boolean), Cond.methodLink RX4 49 yJ6_bitCount_0f7a4, Cond.static yJ6_bitCount_0f7a4, Cond.initialized RJ6]
def wsX4_gather_r2 : List Cond := [Cond.code yJ6_bitCount_0f7a4 cJ6_bitCount_0f7a4 1 (some .int), Cond.constant RJ6 265 (1431655765), Cond.constant RJ6 266 (858993459), Cond.constant RJ6 267 (252645135), Cond.methodLink RX4 54 yX4_directed, Cond.static yX4_directed, Cond.code yX4_directed cX4_directed 6 (some .int), Cond.methodLink RX4 57 yX0_haveNoRound, Cond.static yX0_haveNoRound, Cond.code yX0_haveNoRound cX0_haveNoRound 5 (some .boolean), Cond.methodLink RX0 25 yX0_nextAfter, Cond.static yX0_nextAfter, Cond.code yX0_nextAfter cX0_nextAfter 4 (some .int), Cond.methodLink RX0 15 yX0_isIn, Cond.methodLink RX0 29 yX0_parentsIn, Cond.methodLink RX4 60 yX4_add, Cond.instanceMethod yX4_add, Cond.selects RX4 yX4_add yX4_add, Cond.code yX4_add cX4_add 2 none, Cond.fieldLink RX4 9 "StructureSearch$Kin" "count" "I", Cond.fieldLink RX4 15 "StructureSearch$Kin" "least" "I", Cond.methodLink RX4 64 Lib.Math.min.name, Cond.static Lib.Math.min.name, Cond.initialized "java/lang/Math"]
def wsX4_gather_r3 : List Cond := [Cond.code Lib.Math.min.name Lib.Math.min.code 2 (some .int), Cond.fieldLink RX4 18 "StructureSearch$Kin" "greatest" "I", Cond.methodLink RX4 69 Lib.Math.max.name, Cond.static Lib.Math.max.name, Cond.code Lib.Math.max.name Lib.Math.max.code 2 (some .int), Cond.fieldLink RX4 21 "StructureSearch$Kin" "common" "I"]
def wsX4_gather : List Cond := .code yX4_gather cX4_gather 9 none :: ((wsX4_gather_r1 ++ (wsX4_gather_r2 ++ wsX4_gather_r3)) ++ wsX40)
def wsX5_init : List Cond := .code yX5_init cX5_init 1 none :: ([.methodLink RX5 3 objectInit, .instanceMethod objectInit, .code objectInit ⟨#[0xb1]⟩ 1 none, .arrayClass .int, .fieldLink RX5 11 "StructureSearch$Powers" "power" "[I", .fieldLink RX5 15 "StructureSearch$Powers" "largest" "I"] ++ wsX50)
def wsX5_copy : List Cond := .code yX5_copy cX5_copy 3 none :: ([.fieldLink RX5 15 "StructureSearch$Powers" "largest" "I", .fieldLink RX5 11 "StructureSearch$Powers" "power" "[I", .methodLink RX5 40 yX5_forget, .instanceMethod yX5_forget, .selects RX5 yX5_forget yX5_forget, .initialized RX5, .code yX5_forget cX5_forget 2 none] ++ wsX50)
def wsX5_lowerTo : List Cond := .code yX5_lowerTo cX5_lowerTo 3 none :: ([.fieldLink RX5 15 "StructureSearch$Powers" "largest" "I", .methodLink RX5 22 Lib.Math.max.name, .static Lib.Math.max.name, .initialized "java/lang/Math", .code Lib.Math.max.name Lib.Math.max.code 2 (some .int), .fieldLink RX5 11 "StructureSearch$Powers" "power" "[I", .methodLink RX5 43 Lib.Math.min.name, .static Lib.Math.min.name, .code Lib.Math.min.name Lib.Math.min.code 2 (some .int)] ++ wsX50)
def wsX5_divide : List Cond := .code yX5_divide cX5_divide 3 none :: ([.fieldLink RX5 15 "StructureSearch$Powers" "largest" "I", .methodLink RX5 22 Lib.Math.max.name, .static Lib.Math.max.name, .initialized "java/lang/Math", .code Lib.Math.max.name Lib.Math.max.code 2 (some .int), .fieldLink RX5 11 "StructureSearch$Powers" "power" "[I"] ++ wsX50)
def wsX6_init : List Cond := .code yX6_init cX6_init 3 none :: ([.methodLink RX6 3 objectInit, .instanceMethod objectInit, .code objectInit ⟨#[0xb1]⟩ 1 none, .fieldLink RX6 9 "StructureSearch$Search" "sheet" "LStructureSearch$Sheet;", .fieldLink RX6 15 "StructureSearch$Search" "fits" "LStructureSearch$Fits;", .arrayClass .int, .fieldLink RX6 19 "StructureSearch$Search" "bestOf" "[I"] ++ wsX60)
def wsX6_bestParents_r1 : List Cond := [Cond.fieldLink RX6 9 "StructureSearch$Search" "sheet" "LStructureSearch$Sheet;", Cond.fieldLink RX6 29 "StructureSearch$Sheet" "most" "I", Cond.fieldLink RX6 15 "StructureSearch$Search" "fits" "LStructureSearch$Fits;", Cond.methodLink RX6 23 yJ6_bitCount_0f7a4, Cond.static yJ6_bitCount_0f7a4, Cond.initialized RJ6, Cond.code yJ6_bitCount_0f7a4 cJ6_bitCount_0f7a4 1 (some .int), Cond.constant RJ6 265 (1431655765), Cond.constant RJ6 266 (858993459), Cond.constant RJ6 267 (252645135), Cond.methodLink RX6 35 yX0_fromAll, Cond.static yX0_fromAll, Cond.initialized RX0, Cond.code yX0_fromAll cX0_fromAll 4 (some .int), Cond.methodLink RX0 15 yX0_isIn, Cond.static yX0_isIn, Cond.code yX0_isIn cX0_isIn 2 (some .boolean), Cond.methodLink RX0 9 yX0_arc, Cond.static yX0_arc, Cond.code yX0_arc cX0_arc 2 (some .int), Cond.methodLink RX6 41 yX2_weigh, Cond.instanceMethod yX2_weigh, Cond.selects RX2 yX2_weigh yX2_weigh, Cond.initialized RX2]
def wsX6_bestParents_r2 : List Cond := [Cond.code yX2_weigh cX2_weigh 8 (some .int), Cond.fieldLink RX2 42 "StructureSearch$Fits" "left" "LStructureSearch$Big;", Cond.fieldLink RX2 46 "StructureSearch$Fits" "right" "LStructureSearch$Big;", Cond.fieldLink RX2 11 "StructureSearch$Fits" "sheet" "LStructureSearch$Sheet;", Cond.fieldLink RX2 58 "StructureSearch$Sheet" "names" "I", Cond.fieldLink RX2 73 "StructureSearch$Fraction" "above" "LStructureSearch$Big;", Cond.fieldLink RX2 80 "StructureSearch$Fraction" "below" "LStructureSearch$Big;", Cond.methodLink RX2 83 yX1_become, Cond.instanceMethod yX1_become, Cond.selects RX1 yX1_become yX1_become, Cond.initialized RX1, Cond.code yX1_become cX1_become 2 none, Cond.fieldLink RX1 21 "StructureSearch$Big" "used" "I", Cond.fieldLink RX1 15 "StructureSearch$Big" "words" "[J", Cond.methodLink RX2 63 yX0_parentsIn, Cond.static yX0_parentsIn, Cond.code yX0_parentsIn cX0_parentsIn 4 (some .int), Cond.methodLink RX2 86 yX2_ofName, Cond.instanceMethod yX2_ofName, Cond.selects RX2 yX2_ofName yX2_ofName, Cond.code yX2_ofName cX2_ofName 5 (some (.object "StructureSearch$Fraction")), Cond.fieldLink RX2 21 "StructureSearch$Fits" "ofNames" "[LStructureSearch$Fraction;", Cond.fieldLink RX2 28 "StructureSearch$Fits" "ofNothing" "LStructureSearch$Fraction;", Cond.classLink RX2 19 RX3]
def wsX6_bestParents_r3 : List Cond := [Cond.instantiable RX3 3, Cond.initialized RX3, Cond.fieldLink RX2 49 "StructureSearch$Fraction" "ready" "Z", Cond.fieldLink RX2 15 "StructureSearch$Fits" "powers" "LStructureSearch$Powers;", Cond.methodLink RX2 25 yX3_init, Cond.instanceMethod yX3_init, Cond.code yX3_init cX3_init 2 none, Cond.methodLink RX3 1 objectInit, Cond.instanceMethod objectInit, Cond.code objectInit ⟨#[0xb1]⟩ 1 none, Cond.classLink RX3 7 RX1, Cond.instantiable RX1 2, Cond.fieldLink RX3 12 "StructureSearch$Fraction" "above" "LStructureSearch$Big;", Cond.fieldLink RX3 18 "StructureSearch$Fraction" "below" "LStructureSearch$Big;", Cond.fieldLink RX3 21 "StructureSearch$Fraction" "ready" "Z", Cond.methodLink RX3 9 yX1_init, Cond.instanceMethod yX1_init, Cond.code yX1_init cX1_init 2 none, Cond.methodLink RX1 3 objectInit, Cond.methodLink RX1 9 Lib.Math.max.name, Cond.static Lib.Math.max.name, Cond.initialized "java/lang/Math", Cond.code Lib.Math.max.name Lib.Math.max.code 2 (some .int), Cond.arrayClass .long]
def wsX6_bestParents_r4 : List Cond := [Cond.methodLink RX2 53 yX5_forget, Cond.instanceMethod yX5_forget, Cond.selects RX5 yX5_forget yX5_forget, Cond.initialized RX5, Cond.code yX5_forget cX5_forget 2 none, Cond.fieldLink RX5 15 "StructureSearch$Powers" "largest" "I", Cond.fieldLink RX5 11 "StructureSearch$Powers" "power" "[I", Cond.methodLink RX2 69 yX8_pourFit, Cond.instanceMethod yX8_pourFit, Cond.selects RX8 yX8_pourFit yX8_pourFit, Cond.initialized RX8, Cond.code yX8_pourFit cX8_pourFit 13 none, Cond.fieldLink RX8 21 "StructureSearch$Sheet" "names" "I", Cond.fieldLink RX8 25 "StructureSearch$Sheet" "rows" "I", Cond.fieldLink RX8 28 "StructureSearch$Sheet" "strength" "I", Cond.methodLink RX8 38 yX8_valuesOf, Cond.instanceMethod yX8_valuesOf, Cond.selects RX8 yX8_valuesOf yX8_valuesOf, Cond.code yX8_valuesOf cX8_valuesOf 2 (some .int), Cond.fieldLink RX8 9 "StructureSearch$Sheet" "values" "[I", Cond.methodLink RX8 41 yX0_isIn, Cond.methodLink RX8 34 yX8_codeOf, Cond.instanceMethod yX8_codeOf, Cond.selects RX8 yX8_codeOf yX8_codeOf]
def wsX6_bestParents_r5 : List Cond := [Cond.code yX8_codeOf cX8_codeOf 2 (some .int), Cond.fieldLink RX8 15 "StructureSearch$Sheet" "codes" "[I", Cond.methodLink RX8 47 yX5_multiply, Cond.instanceMethod yX5_multiply, Cond.selects RX5 yX5_multiply yX5_multiply, Cond.code yX5_multiply cX5_multiply 7 none, Cond.fieldLink RX5 19 "StructureSearch$Powers" "SMALL_PRIMES" "[I", Cond.methodLink RX5 22 Lib.Math.max.name, Cond.methodLink RX2 76 yX5_write, Cond.instanceMethod yX5_write, Cond.selects RX5 yX5_write yX5_write, Cond.code yX5_write cX5_write 8 none, Cond.constantLong RX5 34 (4294967295), Cond.methodLink RX5 28 yX1_become, Cond.methodLink RX5 36 yX1_timesSmall, Cond.instanceMethod yX1_timesSmall, Cond.selects RX1 yX1_timesSmall yX1_timesSmall, Cond.code yX1_timesSmall cX1_timesSmall 9 none, Cond.methodLink RX1 25 Lib.Math.min.name, Cond.static Lib.Math.min.name, Cond.code Lib.Math.min.name Lib.Math.min.code 2 (some .int), Cond.constantLong RX1 38 (4294967295), Cond.methodLink RX2 90 yX1_times, Cond.instanceMethod yX1_times]
def wsX6_bestParents_r6 : List Cond := [Cond.selects RX1 yX1_times yX1_times, Cond.code yX1_times cX1_times 6 none, Cond.methodLink RX1 40 yX1_widen, Cond.instanceMethod yX1_widen, Cond.selects RX1 yX1_widen yX1_widen, Cond.code yX1_widen cX1_widen 4 none, Cond.methodLink RX1 44 yX1_addMultiple, Cond.instanceMethod yX1_addMultiple, Cond.selects RX1 yX1_addMultiple yX1_addMultiple, Cond.code yX1_addMultiple cX1_addMultiple 12 none, Cond.methodLink RX1 48 yX1_trim, Cond.instanceMethod yX1_trim, Cond.selects RX1 yX1_trim yX1_trim, Cond.code yX1_trim cX1_trim 2 none, Cond.methodLink RX2 94 yX1_against, Cond.instanceMethod yX1_against, Cond.selects RX1 yX1_against yX1_against, Cond.code yX1_against cX1_against 3 (some .int), Cond.methodLink RX1 34 yX1_at, Cond.instanceMethod yX1_at, Cond.selects RX1 yX1_at yX1_at, Cond.code yX1_at cX1_at 2 (some .long)]
def wsX6_bestParents : List Cond := .code yX6_bestParents cX6_bestParents 5 (some .int) :: ((wsX6_bestParents_r1 ++ (wsX6_bestParents_r2 ++ (wsX6_bestParents_r3 ++ (wsX6_bestParents_r4 ++ (wsX6_bestParents_r5 ++ wsX6_bestParents_r6))))) ++ wsX60 ++ wsX80 ++ wsX20 ++ wsX30 ++ wsX10 ++ wsX50)
def wsX6_kept : List Cond := .code yX6_kept cX6_kept 2 (some .int) :: ([.fieldLink RX6 19 "StructureSearch$Search" "bestOf" "[I"] ++ wsX60)
def wsX6_better_r1 : List Cond := [Cond.fieldLink RX6 15 "StructureSearch$Search" "fits" "LStructureSearch$Fits;", Cond.methodLink RX6 41 yX2_weigh, Cond.instanceMethod yX2_weigh, Cond.selects RX2 yX2_weigh yX2_weigh, Cond.initialized RX2, Cond.code yX2_weigh cX2_weigh 8 (some .int), Cond.fieldLink RX2 42 "StructureSearch$Fits" "left" "LStructureSearch$Big;", Cond.fieldLink RX2 46 "StructureSearch$Fits" "right" "LStructureSearch$Big;", Cond.fieldLink RX2 11 "StructureSearch$Fits" "sheet" "LStructureSearch$Sheet;", Cond.fieldLink RX2 58 "StructureSearch$Sheet" "names" "I", Cond.fieldLink RX2 73 "StructureSearch$Fraction" "above" "LStructureSearch$Big;", Cond.fieldLink RX2 80 "StructureSearch$Fraction" "below" "LStructureSearch$Big;", Cond.methodLink RX2 83 yX1_become, Cond.instanceMethod yX1_become, Cond.selects RX1 yX1_become yX1_become, Cond.initialized RX1, Cond.code yX1_become cX1_become 2 none, Cond.fieldLink RX1 21 "StructureSearch$Big" "used" "I", Cond.fieldLink RX1 15 "StructureSearch$Big" "words" "[J", Cond.methodLink RX2 63 yX0_parentsIn, Cond.static yX0_parentsIn, Cond.initialized RX0, Cond.code yX0_parentsIn cX0_parentsIn 4 (some .int), Cond.methodLink RX2 86 yX2_ofName]
def wsX6_better_r2 : List Cond := [Cond.instanceMethod yX2_ofName, Cond.selects RX2 yX2_ofName yX2_ofName, Cond.code yX2_ofName cX2_ofName 5 (some (.object "StructureSearch$Fraction")), Cond.fieldLink RX2 21 "StructureSearch$Fits" "ofNames" "[LStructureSearch$Fraction;", Cond.fieldLink RX2 28 "StructureSearch$Fits" "ofNothing" "LStructureSearch$Fraction;", Cond.classLink RX2 19 RX3, Cond.instantiable RX3 3, Cond.initialized RX3, Cond.fieldLink RX2 49 "StructureSearch$Fraction" "ready" "Z", Cond.fieldLink RX2 15 "StructureSearch$Fits" "powers" "LStructureSearch$Powers;", Cond.methodLink RX2 25 yX3_init, Cond.instanceMethod yX3_init, Cond.code yX3_init cX3_init 2 none, Cond.methodLink RX3 1 objectInit, Cond.instanceMethod objectInit, Cond.code objectInit ⟨#[0xb1]⟩ 1 none, Cond.classLink RX3 7 RX1, Cond.instantiable RX1 2, Cond.fieldLink RX3 12 "StructureSearch$Fraction" "above" "LStructureSearch$Big;", Cond.fieldLink RX3 18 "StructureSearch$Fraction" "below" "LStructureSearch$Big;", Cond.fieldLink RX3 21 "StructureSearch$Fraction" "ready" "Z", Cond.methodLink RX3 9 yX1_init, Cond.instanceMethod yX1_init, Cond.code yX1_init cX1_init 2 none]
def wsX6_better_r3 : List Cond := [Cond.methodLink RX1 3 objectInit, Cond.methodLink RX1 9 Lib.Math.max.name, Cond.static Lib.Math.max.name, Cond.initialized "java/lang/Math", Cond.code Lib.Math.max.name Lib.Math.max.code 2 (some .int), Cond.arrayClass .long, Cond.methodLink RX2 53 yX5_forget, Cond.instanceMethod yX5_forget, Cond.selects RX5 yX5_forget yX5_forget, Cond.initialized RX5, Cond.code yX5_forget cX5_forget 2 none, Cond.fieldLink RX5 15 "StructureSearch$Powers" "largest" "I", Cond.fieldLink RX5 11 "StructureSearch$Powers" "power" "[I", Cond.methodLink RX2 69 yX8_pourFit, Cond.instanceMethod yX8_pourFit, Cond.selects RX8 yX8_pourFit yX8_pourFit, Cond.initialized RX8, Cond.code yX8_pourFit cX8_pourFit 13 none, Cond.fieldLink RX8 21 "StructureSearch$Sheet" "names" "I", Cond.fieldLink RX8 25 "StructureSearch$Sheet" "rows" "I", Cond.fieldLink RX8 28 "StructureSearch$Sheet" "strength" "I", Cond.methodLink RX8 38 yX8_valuesOf, Cond.instanceMethod yX8_valuesOf, Cond.selects RX8 yX8_valuesOf yX8_valuesOf]
def wsX6_better_r4 : List Cond := [Cond.code yX8_valuesOf cX8_valuesOf 2 (some .int), Cond.fieldLink RX8 9 "StructureSearch$Sheet" "values" "[I", Cond.methodLink RX8 41 yX0_isIn, Cond.static yX0_isIn, Cond.code yX0_isIn cX0_isIn 2 (some .boolean), Cond.methodLink RX8 34 yX8_codeOf, Cond.instanceMethod yX8_codeOf, Cond.selects RX8 yX8_codeOf yX8_codeOf, Cond.code yX8_codeOf cX8_codeOf 2 (some .int), Cond.fieldLink RX8 15 "StructureSearch$Sheet" "codes" "[I", Cond.methodLink RX8 47 yX5_multiply, Cond.instanceMethod yX5_multiply, Cond.selects RX5 yX5_multiply yX5_multiply, Cond.code yX5_multiply cX5_multiply 7 none, Cond.fieldLink RX5 19 "StructureSearch$Powers" "SMALL_PRIMES" "[I", Cond.methodLink RX5 22 Lib.Math.max.name, Cond.methodLink RX2 76 yX5_write, Cond.instanceMethod yX5_write, Cond.selects RX5 yX5_write yX5_write, Cond.code yX5_write cX5_write 8 none, Cond.constantLong RX5 34 (4294967295), Cond.methodLink RX5 28 yX1_become, Cond.methodLink RX5 36 yX1_timesSmall, Cond.instanceMethod yX1_timesSmall]
def wsX6_better_r5 : List Cond := [Cond.selects RX1 yX1_timesSmall yX1_timesSmall, Cond.code yX1_timesSmall cX1_timesSmall 9 none, Cond.methodLink RX1 25 Lib.Math.min.name, Cond.static Lib.Math.min.name, Cond.code Lib.Math.min.name Lib.Math.min.code 2 (some .int), Cond.constantLong RX1 38 (4294967295), Cond.methodLink RX2 90 yX1_times, Cond.instanceMethod yX1_times, Cond.selects RX1 yX1_times yX1_times, Cond.code yX1_times cX1_times 6 none, Cond.methodLink RX1 40 yX1_widen, Cond.instanceMethod yX1_widen, Cond.selects RX1 yX1_widen yX1_widen, Cond.code yX1_widen cX1_widen 4 none, Cond.methodLink RX1 44 yX1_addMultiple, Cond.instanceMethod yX1_addMultiple, Cond.selects RX1 yX1_addMultiple yX1_addMultiple, Cond.code yX1_addMultiple cX1_addMultiple 12 none, Cond.methodLink RX1 48 yX1_trim, Cond.instanceMethod yX1_trim, Cond.selects RX1 yX1_trim yX1_trim, Cond.code yX1_trim cX1_trim 2 none, Cond.methodLink RX2 94 yX1_against, Cond.instanceMethod yX1_against]
def wsX6_better_r6 : List Cond := [Cond.selects RX1 yX1_against yX1_against, Cond.code yX1_against cX1_against 3 (some .int), Cond.methodLink RX1 34 yX1_at, Cond.instanceMethod yX1_at, Cond.selects RX1 yX1_at yX1_at, Cond.code yX1_at cX1_at 2 (some .long)]
def wsX6_better : List Cond := .code yX6_better cX6_better 4 (some .int) :: ((wsX6_better_r1 ++ (wsX6_better_r2 ++ (wsX6_better_r3 ++ (wsX6_better_r4 ++ (wsX6_better_r5 ++ wsX6_better_r6))))) ++ wsX60 ++ wsX20 ++ wsX80 ++ wsX30 ++ wsX10 ++ wsX50)
def wsX6_keep : List Cond := .code yX6_keep cX6_keep 3 none :: ([.fieldLink RX6 19 "StructureSearch$Search" "bestOf" "[I"] ++ wsX60)
def wsX6_bestGraph_r1 : List Cond := [Cond.fieldLink RX6 9 "StructureSearch$Search" "sheet" "LStructureSearch$Sheet;", Cond.fieldLink RX6 46 "StructureSearch$Sheet" "names" "I", Cond.methodLink RX6 49 yX0_isIn, Cond.static yX0_isIn, Cond.initialized RX0, Cond.code yX0_isIn cX0_isIn 2 (some .boolean), Cond.methodLink RX6 53 yX6_kept, Cond.instanceMethod yX6_kept, Cond.selects RX6 yX6_kept yX6_kept, Cond.initialized RX6, Cond.code yX6_kept cX6_kept 2 (some .int), Cond.fieldLink RX6 19 "StructureSearch$Search" "bestOf" "[I", Cond.methodLink RX6 56 yX6_bestParents, Cond.instanceMethod yX6_bestParents, Cond.selects RX6 yX6_bestParents yX6_bestParents, Cond.code yX6_bestParents cX6_bestParents 5 (some .int), Cond.fieldLink RX6 29 "StructureSearch$Sheet" "most" "I", Cond.fieldLink RX6 15 "StructureSearch$Search" "fits" "LStructureSearch$Fits;", Cond.methodLink RX6 23 yJ6_bitCount_0f7a4, Cond.static yJ6_bitCount_0f7a4, Cond.initialized RJ6, Cond.code yJ6_bitCount_0f7a4 cJ6_bitCount_0f7a4 1 (some .int), Cond.constant RJ6 265 (1431655765), Cond.constant RJ6 266 (858993459)]
def wsX6_bestGraph_r2 : List Cond := [Cond.constant RJ6 267 (252645135), Cond.methodLink RX6 35 yX0_fromAll, Cond.static yX0_fromAll, Cond.code yX0_fromAll cX0_fromAll 4 (some .int), Cond.methodLink RX0 15 yX0_isIn, Cond.methodLink RX0 9 yX0_arc, Cond.static yX0_arc, Cond.code yX0_arc cX0_arc 2 (some .int), Cond.methodLink RX6 41 yX2_weigh, Cond.instanceMethod yX2_weigh, Cond.selects RX2 yX2_weigh yX2_weigh, Cond.initialized RX2, Cond.code yX2_weigh cX2_weigh 8 (some .int), Cond.fieldLink RX2 42 "StructureSearch$Fits" "left" "LStructureSearch$Big;", Cond.fieldLink RX2 46 "StructureSearch$Fits" "right" "LStructureSearch$Big;", Cond.fieldLink RX2 11 "StructureSearch$Fits" "sheet" "LStructureSearch$Sheet;", Cond.fieldLink RX2 58 "StructureSearch$Sheet" "names" "I", Cond.fieldLink RX2 73 "StructureSearch$Fraction" "above" "LStructureSearch$Big;", Cond.fieldLink RX2 80 "StructureSearch$Fraction" "below" "LStructureSearch$Big;", Cond.methodLink RX2 83 yX1_become, Cond.instanceMethod yX1_become, Cond.selects RX1 yX1_become yX1_become, Cond.initialized RX1, Cond.code yX1_become cX1_become 2 none]
def wsX6_bestGraph_r3 : List Cond := [Cond.fieldLink RX1 21 "StructureSearch$Big" "used" "I", Cond.fieldLink RX1 15 "StructureSearch$Big" "words" "[J", Cond.methodLink RX2 63 yX0_parentsIn, Cond.static yX0_parentsIn, Cond.code yX0_parentsIn cX0_parentsIn 4 (some .int), Cond.methodLink RX2 86 yX2_ofName, Cond.instanceMethod yX2_ofName, Cond.selects RX2 yX2_ofName yX2_ofName, Cond.code yX2_ofName cX2_ofName 5 (some (.object "StructureSearch$Fraction")), Cond.fieldLink RX2 21 "StructureSearch$Fits" "ofNames" "[LStructureSearch$Fraction;", Cond.fieldLink RX2 28 "StructureSearch$Fits" "ofNothing" "LStructureSearch$Fraction;", Cond.classLink RX2 19 RX3, Cond.instantiable RX3 3, Cond.initialized RX3, Cond.fieldLink RX2 49 "StructureSearch$Fraction" "ready" "Z", Cond.fieldLink RX2 15 "StructureSearch$Fits" "powers" "LStructureSearch$Powers;", Cond.methodLink RX2 25 yX3_init, Cond.instanceMethod yX3_init, Cond.code yX3_init cX3_init 2 none, Cond.methodLink RX3 1 objectInit, Cond.instanceMethod objectInit, Cond.code objectInit ⟨#[0xb1]⟩ 1 none, Cond.classLink RX3 7 RX1, Cond.instantiable RX1 2]
def wsX6_bestGraph_r4 : List Cond := [Cond.fieldLink RX3 12 "StructureSearch$Fraction" "above" "LStructureSearch$Big;", Cond.fieldLink RX3 18 "StructureSearch$Fraction" "below" "LStructureSearch$Big;", Cond.fieldLink RX3 21 "StructureSearch$Fraction" "ready" "Z", Cond.methodLink RX3 9 yX1_init, Cond.instanceMethod yX1_init, Cond.code yX1_init cX1_init 2 none, Cond.methodLink RX1 3 objectInit, Cond.methodLink RX1 9 Lib.Math.max.name, Cond.static Lib.Math.max.name, Cond.initialized "java/lang/Math", Cond.code Lib.Math.max.name Lib.Math.max.code 2 (some .int), Cond.arrayClass .long, Cond.methodLink RX2 53 yX5_forget, Cond.instanceMethod yX5_forget, Cond.selects RX5 yX5_forget yX5_forget, Cond.initialized RX5, Cond.code yX5_forget cX5_forget 2 none, Cond.fieldLink RX5 15 "StructureSearch$Powers" "largest" "I", Cond.fieldLink RX5 11 "StructureSearch$Powers" "power" "[I", Cond.methodLink RX2 69 yX8_pourFit, Cond.instanceMethod yX8_pourFit, Cond.selects RX8 yX8_pourFit yX8_pourFit, Cond.initialized RX8, Cond.code yX8_pourFit cX8_pourFit 13 none]
def wsX6_bestGraph_r5 : List Cond := [Cond.fieldLink RX8 21 "StructureSearch$Sheet" "names" "I", Cond.fieldLink RX8 25 "StructureSearch$Sheet" "rows" "I", Cond.fieldLink RX8 28 "StructureSearch$Sheet" "strength" "I", Cond.methodLink RX8 38 yX8_valuesOf, Cond.instanceMethod yX8_valuesOf, Cond.selects RX8 yX8_valuesOf yX8_valuesOf, Cond.code yX8_valuesOf cX8_valuesOf 2 (some .int), Cond.fieldLink RX8 9 "StructureSearch$Sheet" "values" "[I", Cond.methodLink RX8 41 yX0_isIn, Cond.methodLink RX8 34 yX8_codeOf, Cond.instanceMethod yX8_codeOf, Cond.selects RX8 yX8_codeOf yX8_codeOf, Cond.code yX8_codeOf cX8_codeOf 2 (some .int), Cond.fieldLink RX8 15 "StructureSearch$Sheet" "codes" "[I", Cond.methodLink RX8 47 yX5_multiply, Cond.instanceMethod yX5_multiply, Cond.selects RX5 yX5_multiply yX5_multiply, Cond.code yX5_multiply cX5_multiply 7 none, Cond.fieldLink RX5 19 "StructureSearch$Powers" "SMALL_PRIMES" "[I", Cond.methodLink RX5 22 Lib.Math.max.name, Cond.methodLink RX2 76 yX5_write, Cond.instanceMethod yX5_write, Cond.selects RX5 yX5_write yX5_write, Cond.code yX5_write cX5_write 8 none]
def wsX6_bestGraph_r6 : List Cond := [Cond.constantLong RX5 34 (4294967295), Cond.methodLink RX5 28 yX1_become, Cond.methodLink RX5 36 yX1_timesSmall, Cond.instanceMethod yX1_timesSmall, Cond.selects RX1 yX1_timesSmall yX1_timesSmall, Cond.code yX1_timesSmall cX1_timesSmall 9 none, Cond.methodLink RX1 25 Lib.Math.min.name, Cond.static Lib.Math.min.name, Cond.code Lib.Math.min.name Lib.Math.min.code 2 (some .int), Cond.constantLong RX1 38 (4294967295), Cond.methodLink RX2 90 yX1_times, Cond.instanceMethod yX1_times, Cond.selects RX1 yX1_times yX1_times, Cond.code yX1_times cX1_times 6 none, Cond.methodLink RX1 40 yX1_widen, Cond.instanceMethod yX1_widen, Cond.selects RX1 yX1_widen yX1_widen, Cond.code yX1_widen cX1_widen 4 none, Cond.methodLink RX1 44 yX1_addMultiple, Cond.instanceMethod yX1_addMultiple, Cond.selects RX1 yX1_addMultiple yX1_addMultiple, Cond.code yX1_addMultiple cX1_addMultiple 12 none, Cond.methodLink RX1 48 yX1_trim, Cond.instanceMethod yX1_trim]
def wsX6_bestGraph_r7 : List Cond := [Cond.selects RX1 yX1_trim yX1_trim, Cond.code yX1_trim cX1_trim 2 none, Cond.methodLink RX2 94 yX1_against, Cond.instanceMethod yX1_against, Cond.selects RX1 yX1_against yX1_against, Cond.code yX1_against cX1_against 3 (some .int), Cond.methodLink RX1 34 yX1_at, Cond.instanceMethod yX1_at, Cond.selects RX1 yX1_at yX1_at, Cond.code yX1_at cX1_at 2 (some .long), Cond.methodLink RX6 59 yX6_better, Cond.instanceMethod yX6_better, Cond.selects RX6 yX6_better yX6_better, Cond.code yX6_better cX6_better 4 (some .int), Cond.methodLink RX6 62 yX6_keep, Cond.instanceMethod yX6_keep, Cond.selects RX6 yX6_keep yX6_keep, Cond.code yX6_keep cX6_keep 3 none]
def wsX6_bestGraph : List Cond := .code yX6_bestGraph cX6_bestGraph 5 (some .int) :: ((wsX6_bestGraph_r1 ++ (wsX6_bestGraph_r2 ++ (wsX6_bestGraph_r3 ++ (wsX6_bestGraph_r4 ++ (wsX6_bestGraph_r5 ++ (wsX6_bestGraph_r6 ++ wsX6_bestGraph_r7)))))) ++ wsX60 ++ wsX80 ++ wsX20 ++ wsX30 ++ wsX10 ++ wsX50)
def wsX6_isOpen_r1 : List Cond := [Cond.fieldLink RX6 9 "StructureSearch$Search" "sheet" "LStructureSearch$Sheet;", Cond.fieldLink RX6 29 "StructureSearch$Sheet" "most" "I", Cond.fieldLink RX6 46 "StructureSearch$Sheet" "names" "I", Cond.methodLink RX6 80 yX0_areBounded, Cond.static yX0_areBounded, Cond.initialized RX0, Cond.code yX0_areBounded cX0_areBounded 3 (some .boolean), Cond.methodLink RX0 29 yX0_parentsIn, Cond.static yX0_parentsIn, Cond.code yX0_parentsIn cX0_parentsIn 4 (some .int), Cond.methodLink RX0 32 yJ6_bitCount_0f7a4, Cond.static yJ6_bitCount_0f7a4, Cond.initialized RJ6, Cond.code yJ6_bitCount_0f7a4 cJ6_bitCount_0f7a4 1 (some .int), Cond.constant RJ6 265 (1431655765), Cond.constant RJ6 266 (858993459), Cond.constant RJ6 267 (252645135), Cond.methodLink RX6 83 yX0_haveNoRound, Cond.static yX0_haveNoRound, Cond.code yX0_haveNoRound cX0_haveNoRound 5 (some .boolean), Cond.methodLink RX0 25 yX0_nextAfter, Cond.static yX0_nextAfter, Cond.code yX0_nextAfter cX0_nextAfter 4 (some .int), Cond.methodLink RX0 15 yX0_isIn]
def wsX6_isOpen_r2 : List Cond := [Cond.static yX0_isIn, Cond.code yX0_isIn cX0_isIn 2 (some .boolean)]
def wsX6_isOpen : List Cond := .code yX6_isOpen cX6_isOpen 2 (some .boolean) :: ((wsX6_isOpen_r1 ++ wsX6_isOpen_r2) ++ wsX60 ++ wsX80)
def wsX6_bestNear_r1 : List Cond := [Cond.fieldLink RX6 9 "StructureSearch$Search" "sheet" "LStructureSearch$Sheet;", Cond.fieldLink RX6 46 "StructureSearch$Sheet" "names" "I", Cond.methodLink RX6 69 yX0_arc, Cond.static yX0_arc, Cond.initialized RX0, Cond.code yX0_arc cX0_arc 2 (some .int), Cond.methodLink RX6 72 yX0_has, Cond.static yX0_has, Cond.code yX0_has cX0_has 3 (some .boolean), Cond.methodLink RX0 9 yX0_arc, Cond.methodLink RX6 76 yX6_isOpen, Cond.instanceMethod yX6_isOpen, Cond.selects RX6 yX6_isOpen yX6_isOpen, Cond.initialized RX6, Cond.code yX6_isOpen cX6_isOpen 2 (some .boolean), Cond.fieldLink RX6 29 "StructureSearch$Sheet" "most" "I", Cond.methodLink RX6 80 yX0_areBounded, Cond.static yX0_areBounded, Cond.code yX0_areBounded cX0_areBounded 3 (some .boolean), Cond.methodLink RX0 29 yX0_parentsIn, Cond.static yX0_parentsIn, Cond.code yX0_parentsIn cX0_parentsIn 4 (some .int), Cond.methodLink RX0 32 yJ6_bitCount_0f7a4, Cond.static yJ6_bitCount_0f7a4]
def wsX6_bestNear_r2 : List Cond := [Cond.initialized RJ6, Cond.code yJ6_bitCount_0f7a4 cJ6_bitCount_0f7a4 1 (some .int), Cond.constant RJ6 265 (1431655765), Cond.constant RJ6 266 (858993459), Cond.constant RJ6 267 (252645135), Cond.methodLink RX6 83 yX0_haveNoRound, Cond.static yX0_haveNoRound, Cond.code yX0_haveNoRound cX0_haveNoRound 5 (some .boolean), Cond.methodLink RX0 25 yX0_nextAfter, Cond.static yX0_nextAfter, Cond.code yX0_nextAfter cX0_nextAfter 4 (some .int), Cond.methodLink RX0 15 yX0_isIn, Cond.static yX0_isIn, Cond.code yX0_isIn cX0_isIn 2 (some .boolean), Cond.methodLink RX6 59 yX6_better, Cond.instanceMethod yX6_better, Cond.selects RX6 yX6_better yX6_better, Cond.code yX6_better cX6_better 4 (some .int), Cond.fieldLink RX6 15 "StructureSearch$Search" "fits" "LStructureSearch$Fits;", Cond.methodLink RX6 41 yX2_weigh, Cond.instanceMethod yX2_weigh, Cond.selects RX2 yX2_weigh yX2_weigh, Cond.initialized RX2, Cond.code yX2_weigh cX2_weigh 8 (some .int)]
def wsX6_bestNear_r3 : List Cond := [Cond.fieldLink RX2 42 "StructureSearch$Fits" "left" "LStructureSearch$Big;", Cond.fieldLink RX2 46 "StructureSearch$Fits" "right" "LStructureSearch$Big;", Cond.fieldLink RX2 11 "StructureSearch$Fits" "sheet" "LStructureSearch$Sheet;", Cond.fieldLink RX2 58 "StructureSearch$Sheet" "names" "I", Cond.fieldLink RX2 73 "StructureSearch$Fraction" "above" "LStructureSearch$Big;", Cond.fieldLink RX2 80 "StructureSearch$Fraction" "below" "LStructureSearch$Big;", Cond.methodLink RX2 83 yX1_become, Cond.instanceMethod yX1_become, Cond.selects RX1 yX1_become yX1_become, Cond.initialized RX1, Cond.code yX1_become cX1_become 2 none, Cond.fieldLink RX1 21 "StructureSearch$Big" "used" "I", Cond.fieldLink RX1 15 "StructureSearch$Big" "words" "[J", Cond.methodLink RX2 63 yX0_parentsIn, Cond.methodLink RX2 86 yX2_ofName, Cond.instanceMethod yX2_ofName, Cond.selects RX2 yX2_ofName yX2_ofName, Cond.code yX2_ofName cX2_ofName 5 (some (.object "StructureSearch$Fraction")), Cond.fieldLink RX2 21 "StructureSearch$Fits" "ofNames" "[LStructureSearch$Fraction;", Cond.fieldLink RX2 28 "StructureSearch$Fits" "ofNothing" "LStructureSearch$Fraction;", Cond.classLink RX2 19 RX3, Cond.instantiable RX3 3, Cond.initialized RX3, Cond.fieldLink RX2 49 "StructureSearch$Fraction" "ready" "Z"]
def wsX6_bestNear_r4 : List Cond := [Cond.fieldLink RX2 15 "StructureSearch$Fits" "powers" "LStructureSearch$Powers;", Cond.methodLink RX2 25 yX3_init, Cond.instanceMethod yX3_init, Cond.code yX3_init cX3_init 2 none, Cond.methodLink RX3 1 objectInit, Cond.instanceMethod objectInit, Cond.code objectInit ⟨#[0xb1]⟩ 1 none, Cond.classLink RX3 7 RX1, Cond.instantiable RX1 2, Cond.fieldLink RX3 12 "StructureSearch$Fraction" "above" "LStructureSearch$Big;", Cond.fieldLink RX3 18 "StructureSearch$Fraction" "below" "LStructureSearch$Big;", Cond.fieldLink RX3 21 "StructureSearch$Fraction" "ready" "Z", Cond.methodLink RX3 9 yX1_init, Cond.instanceMethod yX1_init, Cond.code yX1_init cX1_init 2 none, Cond.methodLink RX1 3 objectInit, Cond.methodLink RX1 9 Lib.Math.max.name, Cond.static Lib.Math.max.name, Cond.initialized "java/lang/Math", Cond.code Lib.Math.max.name Lib.Math.max.code 2 (some .int), Cond.arrayClass .long, Cond.methodLink RX2 53 yX5_forget, Cond.instanceMethod yX5_forget, Cond.selects RX5 yX5_forget yX5_forget]
def wsX6_bestNear_r5 : List Cond := [Cond.initialized RX5, Cond.code yX5_forget cX5_forget 2 none, Cond.fieldLink RX5 15 "StructureSearch$Powers" "largest" "I", Cond.fieldLink RX5 11 "StructureSearch$Powers" "power" "[I", Cond.methodLink RX2 69 yX8_pourFit, Cond.instanceMethod yX8_pourFit, Cond.selects RX8 yX8_pourFit yX8_pourFit, Cond.initialized RX8, Cond.code yX8_pourFit cX8_pourFit 13 none, Cond.fieldLink RX8 21 "StructureSearch$Sheet" "names" "I", Cond.fieldLink RX8 25 "StructureSearch$Sheet" "rows" "I", Cond.fieldLink RX8 28 "StructureSearch$Sheet" "strength" "I", Cond.methodLink RX8 38 yX8_valuesOf, Cond.instanceMethod yX8_valuesOf, Cond.selects RX8 yX8_valuesOf yX8_valuesOf, Cond.code yX8_valuesOf cX8_valuesOf 2 (some .int), Cond.fieldLink RX8 9 "StructureSearch$Sheet" "values" "[I", Cond.methodLink RX8 41 yX0_isIn, Cond.methodLink RX8 34 yX8_codeOf, Cond.instanceMethod yX8_codeOf, Cond.selects RX8 yX8_codeOf yX8_codeOf, Cond.code yX8_codeOf cX8_codeOf 2 (some .int), Cond.fieldLink RX8 15 "StructureSearch$Sheet" "codes" "[I", Cond.methodLink RX8 47 yX5_multiply]
def wsX6_bestNear_r6 : List Cond := [Cond.instanceMethod yX5_multiply, Cond.selects RX5 yX5_multiply yX5_multiply, Cond.code yX5_multiply cX5_multiply 7 none, Cond.fieldLink RX5 19 "StructureSearch$Powers" "SMALL_PRIMES" "[I", Cond.methodLink RX5 22 Lib.Math.max.name, Cond.methodLink RX2 76 yX5_write, Cond.instanceMethod yX5_write, Cond.selects RX5 yX5_write yX5_write, Cond.code yX5_write cX5_write 8 none, Cond.constantLong RX5 34 (4294967295), Cond.methodLink RX5 28 yX1_become, Cond.methodLink RX5 36 yX1_timesSmall, Cond.instanceMethod yX1_timesSmall, Cond.selects RX1 yX1_timesSmall yX1_timesSmall, Cond.code yX1_timesSmall cX1_timesSmall 9 none, Cond.methodLink RX1 25 Lib.Math.min.name, Cond.static Lib.Math.min.name, Cond.code Lib.Math.min.name Lib.Math.min.code 2 (some .int), Cond.constantLong RX1 38 (4294967295), Cond.methodLink RX2 90 yX1_times, Cond.instanceMethod yX1_times, Cond.selects RX1 yX1_times yX1_times, Cond.code yX1_times cX1_times 6 none, Cond.methodLink RX1 40 yX1_widen]
def wsX6_bestNear_r7 : List Cond := [Cond.instanceMethod yX1_widen, Cond.selects RX1 yX1_widen yX1_widen, Cond.code yX1_widen cX1_widen 4 none, Cond.methodLink RX1 44 yX1_addMultiple, Cond.instanceMethod yX1_addMultiple, Cond.selects RX1 yX1_addMultiple yX1_addMultiple, Cond.code yX1_addMultiple cX1_addMultiple 12 none, Cond.methodLink RX1 48 yX1_trim, Cond.instanceMethod yX1_trim, Cond.selects RX1 yX1_trim yX1_trim, Cond.code yX1_trim cX1_trim 2 none, Cond.methodLink RX2 94 yX1_against, Cond.instanceMethod yX1_against, Cond.selects RX1 yX1_against yX1_against, Cond.code yX1_against cX1_against 3 (some .int), Cond.methodLink RX1 34 yX1_at, Cond.instanceMethod yX1_at, Cond.selects RX1 yX1_at yX1_at, Cond.code yX1_at cX1_at 2 (some .long)]
def wsX6_bestNear : List Cond := .code yX6_bestNear cX6_bestNear 6 (some .int) :: ((wsX6_bestNear_r1 ++ (wsX6_bestNear_r2 ++ (wsX6_bestNear_r3 ++ (wsX6_bestNear_r4 ++ (wsX6_bestNear_r5 ++ (wsX6_bestNear_r6 ++ wsX6_bestNear_r7)))))) ++ wsX60 ++ wsX80 ++ wsX20 ++ wsX30 ++ wsX10 ++ wsX50)
def wsX6_climbFrom_r1 : List Cond := [Cond.fieldLink RX6 15 "StructureSearch$Search" "fits" "LStructureSearch$Fits;", Cond.methodLink RX6 66 yX6_bestNear, Cond.instanceMethod yX6_bestNear, Cond.selects RX6 yX6_bestNear yX6_bestNear, Cond.initialized RX6, Cond.code yX6_bestNear cX6_bestNear 6 (some .int), Cond.fieldLink RX6 9 "StructureSearch$Search" "sheet" "LStructureSearch$Sheet;", Cond.fieldLink RX6 46 "StructureSearch$Sheet" "names" "I", Cond.methodLink RX6 69 yX0_arc, Cond.static yX0_arc, Cond.initialized RX0, Cond.code yX0_arc cX0_arc 2 (some .int), Cond.methodLink RX6 72 yX0_has, Cond.static yX0_has, Cond.code yX0_has cX0_has 3 (some .boolean), Cond.methodLink RX0 9 yX0_arc, Cond.methodLink RX6 76 yX6_isOpen, Cond.instanceMethod yX6_isOpen, Cond.selects RX6 yX6_isOpen yX6_isOpen, Cond.code yX6_isOpen cX6_isOpen 2 (some .boolean), Cond.fieldLink RX6 29 "StructureSearch$Sheet" "most" "I", Cond.methodLink RX6 80 yX0_areBounded, Cond.static yX0_areBounded, Cond.code yX0_areBounded cX0_areBounded 3 (some .boolean)]
def wsX6_climbFrom_r2 : List Cond := [Cond.methodLink RX0 29 yX0_parentsIn, Cond.static yX0_parentsIn, Cond.code yX0_parentsIn cX0_parentsIn 4 (some .int), Cond.methodLink RX0 32 yJ6_bitCount_0f7a4, Cond.static yJ6_bitCount_0f7a4, Cond.initialized RJ6, Cond.code yJ6_bitCount_0f7a4 cJ6_bitCount_0f7a4 1 (some .int), Cond.constant RJ6 265 (1431655765), Cond.constant RJ6 266 (858993459), Cond.constant RJ6 267 (252645135), Cond.methodLink RX6 83 yX0_haveNoRound, Cond.static yX0_haveNoRound, Cond.code yX0_haveNoRound cX0_haveNoRound 5 (some .boolean), Cond.methodLink RX0 25 yX0_nextAfter, Cond.static yX0_nextAfter, Cond.code yX0_nextAfter cX0_nextAfter 4 (some .int), Cond.methodLink RX0 15 yX0_isIn, Cond.static yX0_isIn, Cond.code yX0_isIn cX0_isIn 2 (some .boolean), Cond.methodLink RX6 59 yX6_better, Cond.instanceMethod yX6_better, Cond.selects RX6 yX6_better yX6_better, Cond.code yX6_better cX6_better 4 (some .int), Cond.methodLink RX6 41 yX2_weigh]
def wsX6_climbFrom_r3 : List Cond := [Cond.instanceMethod yX2_weigh, Cond.selects RX2 yX2_weigh yX2_weigh, Cond.initialized RX2, Cond.code yX2_weigh cX2_weigh 8 (some .int), Cond.fieldLink RX2 42 "StructureSearch$Fits" "left" "LStructureSearch$Big;", Cond.fieldLink RX2 46 "StructureSearch$Fits" "right" "LStructureSearch$Big;", Cond.fieldLink RX2 11 "StructureSearch$Fits" "sheet" "LStructureSearch$Sheet;", Cond.fieldLink RX2 58 "StructureSearch$Sheet" "names" "I", Cond.fieldLink RX2 73 "StructureSearch$Fraction" "above" "LStructureSearch$Big;", Cond.fieldLink RX2 80 "StructureSearch$Fraction" "below" "LStructureSearch$Big;", Cond.methodLink RX2 83 yX1_become, Cond.instanceMethod yX1_become, Cond.selects RX1 yX1_become yX1_become, Cond.initialized RX1, Cond.code yX1_become cX1_become 2 none, Cond.fieldLink RX1 21 "StructureSearch$Big" "used" "I", Cond.fieldLink RX1 15 "StructureSearch$Big" "words" "[J", Cond.methodLink RX2 63 yX0_parentsIn, Cond.methodLink RX2 86 yX2_ofName, Cond.instanceMethod yX2_ofName, Cond.selects RX2 yX2_ofName yX2_ofName, Cond.code yX2_ofName cX2_ofName 5 (some (.object "StructureSearch$Fraction")), Cond.fieldLink RX2 21 "StructureSearch$Fits" "ofNames" "[LStructureSearch$Fraction;", Cond.fieldLink RX2 28 "StructureSearch$Fits" "ofNothing" "LStructureSearch$Fraction;"]
def wsX6_climbFrom_r4 : List Cond := [Cond.classLink RX2 19 RX3, Cond.instantiable RX3 3, Cond.initialized RX3, Cond.fieldLink RX2 49 "StructureSearch$Fraction" "ready" "Z", Cond.fieldLink RX2 15 "StructureSearch$Fits" "powers" "LStructureSearch$Powers;", Cond.methodLink RX2 25 yX3_init, Cond.instanceMethod yX3_init, Cond.code yX3_init cX3_init 2 none, Cond.methodLink RX3 1 objectInit, Cond.instanceMethod objectInit, Cond.code objectInit ⟨#[0xb1]⟩ 1 none, Cond.classLink RX3 7 RX1, Cond.instantiable RX1 2, Cond.fieldLink RX3 12 "StructureSearch$Fraction" "above" "LStructureSearch$Big;", Cond.fieldLink RX3 18 "StructureSearch$Fraction" "below" "LStructureSearch$Big;", Cond.fieldLink RX3 21 "StructureSearch$Fraction" "ready" "Z", Cond.methodLink RX3 9 yX1_init, Cond.instanceMethod yX1_init, Cond.code yX1_init cX1_init 2 none, Cond.methodLink RX1 3 objectInit, Cond.methodLink RX1 9 Lib.Math.max.name, Cond.static Lib.Math.max.name, Cond.initialized "java/lang/Math", Cond.code Lib.Math.max.name Lib.Math.max.code 2 (some .int)]
def wsX6_climbFrom_r5 : List Cond := [Cond.arrayClass .long, Cond.methodLink RX2 53 yX5_forget, Cond.instanceMethod yX5_forget, Cond.selects RX5 yX5_forget yX5_forget, Cond.initialized RX5, Cond.code yX5_forget cX5_forget 2 none, Cond.fieldLink RX5 15 "StructureSearch$Powers" "largest" "I", Cond.fieldLink RX5 11 "StructureSearch$Powers" "power" "[I", Cond.methodLink RX2 69 yX8_pourFit, Cond.instanceMethod yX8_pourFit, Cond.selects RX8 yX8_pourFit yX8_pourFit, Cond.initialized RX8, Cond.code yX8_pourFit cX8_pourFit 13 none, Cond.fieldLink RX8 21 "StructureSearch$Sheet" "names" "I", Cond.fieldLink RX8 25 "StructureSearch$Sheet" "rows" "I", Cond.fieldLink RX8 28 "StructureSearch$Sheet" "strength" "I", Cond.methodLink RX8 38 yX8_valuesOf, Cond.instanceMethod yX8_valuesOf, Cond.selects RX8 yX8_valuesOf yX8_valuesOf, Cond.code yX8_valuesOf cX8_valuesOf 2 (some .int), Cond.fieldLink RX8 9 "StructureSearch$Sheet" "values" "[I", Cond.methodLink RX8 41 yX0_isIn, Cond.methodLink RX8 34 yX8_codeOf, Cond.instanceMethod yX8_codeOf]
def wsX6_climbFrom_r6 : List Cond := [Cond.selects RX8 yX8_codeOf yX8_codeOf, Cond.code yX8_codeOf cX8_codeOf 2 (some .int), Cond.fieldLink RX8 15 "StructureSearch$Sheet" "codes" "[I", Cond.methodLink RX8 47 yX5_multiply, Cond.instanceMethod yX5_multiply, Cond.selects RX5 yX5_multiply yX5_multiply, Cond.code yX5_multiply cX5_multiply 7 none, Cond.fieldLink RX5 19 "StructureSearch$Powers" "SMALL_PRIMES" "[I", Cond.methodLink RX5 22 Lib.Math.max.name, Cond.methodLink RX2 76 yX5_write, Cond.instanceMethod yX5_write, Cond.selects RX5 yX5_write yX5_write, Cond.code yX5_write cX5_write 8 none, Cond.constantLong RX5 34 (4294967295), Cond.methodLink RX5 28 yX1_become, Cond.methodLink RX5 36 yX1_timesSmall, Cond.instanceMethod yX1_timesSmall, Cond.selects RX1 yX1_timesSmall yX1_timesSmall, Cond.code yX1_timesSmall cX1_timesSmall 9 none, Cond.methodLink RX1 25 Lib.Math.min.name, Cond.static Lib.Math.min.name, Cond.code Lib.Math.min.name Lib.Math.min.code 2 (some .int), Cond.constantLong RX1 38 (4294967295), Cond.methodLink RX2 90 yX1_times]
def wsX6_climbFrom_r7 : List Cond := [Cond.instanceMethod yX1_times, Cond.selects RX1 yX1_times yX1_times, Cond.code yX1_times cX1_times 6 none, Cond.methodLink RX1 40 yX1_widen, Cond.instanceMethod yX1_widen, Cond.selects RX1 yX1_widen yX1_widen, Cond.code yX1_widen cX1_widen 4 none, Cond.methodLink RX1 44 yX1_addMultiple, Cond.instanceMethod yX1_addMultiple, Cond.selects RX1 yX1_addMultiple yX1_addMultiple, Cond.code yX1_addMultiple cX1_addMultiple 12 none, Cond.methodLink RX1 48 yX1_trim, Cond.instanceMethod yX1_trim, Cond.selects RX1 yX1_trim yX1_trim, Cond.code yX1_trim cX1_trim 2 none, Cond.methodLink RX2 94 yX1_against, Cond.instanceMethod yX1_against, Cond.selects RX1 yX1_against yX1_against, Cond.code yX1_against cX1_against 3 (some .int), Cond.methodLink RX1 34 yX1_at, Cond.instanceMethod yX1_at, Cond.selects RX1 yX1_at yX1_at, Cond.code yX1_at cX1_at 2 (some .long)]
def wsX6_climbFrom : List Cond := .code yX6_climbFrom cX6_climbFrom 6 (some .int) :: ((wsX6_climbFrom_r1 ++ (wsX6_climbFrom_r2 ++ (wsX6_climbFrom_r3 ++ (wsX6_climbFrom_r4 ++ (wsX6_climbFrom_r5 ++ (wsX6_climbFrom_r6 ++ wsX6_climbFrom_r7)))))) ++ wsX60 ++ wsX80 ++ wsX20 ++ wsX30 ++ wsX10 ++ wsX50)
def wsX7_init_r1 : List Cond := [Cond.methodLink RX7 5 objectInit, Cond.instanceMethod objectInit, Cond.code objectInit ⟨#[0xb1]⟩ 1 none, Cond.fieldLink RX7 11 "StructureSearch$Shares" "sheet" "LStructureSearch$Sheet;", Cond.fieldLink RX7 15 "StructureSearch$Shares" "powers" "LStructureSearch$Powers;", Cond.classLink RX7 19 RX5, Cond.instantiable RX5 2, Cond.initialized RX5, Cond.fieldLink RX7 22 "StructureSearch$Shares" "least" "LStructureSearch$Powers;", Cond.classLink RX7 25 RX1, Cond.fieldLink RX7 27 "StructureSearch$Shares" "weights" "[LStructureSearch$Big;", Cond.instantiable RX1 2, Cond.initialized RX1, Cond.fieldLink RX7 40 "StructureSearch$Shares" "sums" "[LStructureSearch$Big;", Cond.fieldLink RX7 43 "StructureSearch$Shares" "none" "LStructureSearch$Big;", Cond.fieldLink RX7 47 "StructureSearch$Shares" "term" "LStructureSearch$Big;", Cond.fieldLink RX7 50 "StructureSearch$Shares" "rest" "LStructureSearch$Big;", Cond.fieldLink RX7 53 "StructureSearch$Shares" "divisor" "LStructureSearch$Big;", Cond.classLink RX7 56 RX3, Cond.instantiable RX3 3, Cond.initialized RX3, Cond.fieldLink RX7 59 "StructureSearch$Shares" "share" "LStructureSearch$Fraction;", Cond.fieldLink RX7 63 "StructureSearch$Shares" "shareFrom" "I", Cond.fieldLink RX7 67 "StructureSearch$Shares" "shareTo" "I"]
def wsX7_init_r2 : List Cond := [Cond.methodLink RX7 21 yX5_init, Cond.instanceMethod yX5_init, Cond.code yX5_init cX5_init 1 none, Cond.methodLink RX5 3 objectInit, Cond.arrayClass .int, Cond.fieldLink RX5 11 "StructureSearch$Powers" "power" "[I", Cond.fieldLink RX5 15 "StructureSearch$Powers" "largest" "I", Cond.methodLink RX7 31 yX0_isIn, Cond.static yX0_isIn, Cond.initialized RX0, Cond.code yX0_isIn cX0_isIn 2 (some .boolean), Cond.methodLink RX7 37 yX1_init, Cond.instanceMethod yX1_init, Cond.code yX1_init cX1_init 2 none, Cond.methodLink RX1 3 objectInit, Cond.methodLink RX1 9 Lib.Math.max.name, Cond.static Lib.Math.max.name, Cond.initialized "java/lang/Math", Cond.code Lib.Math.max.name Lib.Math.max.code 2 (some .int), Cond.arrayClass .long, Cond.fieldLink RX1 15 "StructureSearch$Big" "words" "[J", Cond.fieldLink RX1 21 "StructureSearch$Big" "used" "I", Cond.methodLink RX7 58 yX3_init, Cond.instanceMethod yX3_init]
def wsX7_init_r3 : List Cond := [Cond.code yX3_init cX3_init 2 none, Cond.methodLink RX3 1 objectInit, Cond.classLink RX3 7 RX1, Cond.fieldLink RX3 12 "StructureSearch$Fraction" "above" "LStructureSearch$Big;", Cond.fieldLink RX3 18 "StructureSearch$Fraction" "below" "LStructureSearch$Big;", Cond.fieldLink RX3 21 "StructureSearch$Fraction" "ready" "Z", Cond.methodLink RX3 9 yX1_init]
def wsX7_init : List Cond := .code yX7_init cX7_init 4 none :: ((wsX7_init_r1 ++ (wsX7_init_r2 ++ wsX7_init_r3)) ++ wsX70 ++ wsX50 ++ wsX10 ++ wsX30)
def wsX7_forget : List Cond := .code yX7_forget cX7_forget 1 none :: ([.fieldLink RX7 59 "StructureSearch$Shares" "share" "LStructureSearch$Fraction;", .fieldLink RX7 70 "StructureSearch$Fraction" "ready" "Z"] ++ wsX70 ++ wsX30)
def wsX7_isOpen : List Cond := .code yX7_isOpen cX7_isOpen 3 (some .boolean) :: ([.fieldLink RX7 11 "StructureSearch$Shares" "sheet" "LStructureSearch$Sheet;", .fieldLink RX7 148 "StructureSearch$Sheet" "most" "I", .methodLink RX7 31 yX0_isIn, .static yX0_isIn, .initialized RX0, .code yX0_isIn cX0_isIn 2 (some .boolean), .methodLink RX7 142 yJ6_bitCount_0f7a4, .static yJ6_bitCount_0f7a4, .initialized RJ6, .code yJ6_bitCount_0f7a4 cJ6_bitCount_0f7a4 1 (some .int), .constant RJ6 265 (1431655765), .constant RJ6 266 (858993459), .constant RJ6 267 (252645135)] ++ wsX70 ++ wsX80)
def wsX7_weight : List Cond := .code yX7_weight cX7_weight 4 (some (.object "StructureSearch$Big")) :: ([.fieldLink RX7 27 "StructureSearch$Shares" "weights" "[LStructureSearch$Big;", .fieldLink RX7 43 "StructureSearch$Shares" "none" "LStructureSearch$Big;"] ++ wsX70)
def wsX7_addSmaller_r1 : List Cond := [Cond.fieldLink RX7 11 "StructureSearch$Shares" "sheet" "LStructureSearch$Sheet;", Cond.fieldLink RX7 74 "StructureSearch$Sheet" "names" "I", Cond.methodLink RX7 31 yX0_isIn, Cond.static yX0_isIn, Cond.initialized RX0, Cond.code yX0_isIn cX0_isIn 2 (some .boolean), Cond.methodLink RX7 122 yX7_weight, Cond.instanceMethod yX7_weight, Cond.selects RX7 yX7_weight yX7_weight, Cond.initialized RX7, Cond.code yX7_weight cX7_weight 4 (some (.object "StructureSearch$Big")), Cond.fieldLink RX7 27 "StructureSearch$Shares" "weights" "[LStructureSearch$Big;", Cond.fieldLink RX7 43 "StructureSearch$Shares" "none" "LStructureSearch$Big;", Cond.methodLink RX7 139 yX1_plus, Cond.instanceMethod yX1_plus, Cond.selects RX1 yX1_plus yX1_plus, Cond.initialized RX1, Cond.code yX1_plus cX1_plus 2 none, Cond.fieldLink RX1 21 "StructureSearch$Big" "used" "I", Cond.methodLink RX1 9 Lib.Math.max.name, Cond.static Lib.Math.max.name, Cond.initialized "java/lang/Math", Cond.code Lib.Math.max.name Lib.Math.max.code 2 (some .int), Cond.methodLink RX1 40 yX1_widen]
def wsX7_addSmaller_r2 : List Cond := [Cond.instanceMethod yX1_widen, Cond.selects RX1 yX1_widen yX1_widen, Cond.code yX1_widen cX1_widen 4 none, Cond.fieldLink RX1 15 "StructureSearch$Big" "words" "[J", Cond.methodLink RX1 25 Lib.Math.min.name, Cond.static Lib.Math.min.name, Cond.code Lib.Math.min.name Lib.Math.min.code 2 (some .int), Cond.methodLink RX1 44 yX1_addMultiple, Cond.instanceMethod yX1_addMultiple, Cond.selects RX1 yX1_addMultiple yX1_addMultiple, Cond.code yX1_addMultiple cX1_addMultiple 12 none, Cond.constantLong RX1 38 (4294967295), Cond.methodLink RX1 48 yX1_trim, Cond.instanceMethod yX1_trim, Cond.selects RX1 yX1_trim yX1_trim, Cond.code yX1_trim cX1_trim 2 none]
def wsX7_addSmaller : List Cond := .code yX7_addSmaller cX7_addSmaller 5 none :: ((wsX7_addSmaller_r1 ++ wsX7_addSmaller_r2) ++ wsX70 ++ wsX80 ++ wsX10)
def wsX7_weigh_r1 : List Cond := [Cond.fieldLink RX7 11 "StructureSearch$Shares" "sheet" "LStructureSearch$Sheet;", Cond.fieldLink RX7 74 "StructureSearch$Sheet" "names" "I", Cond.fieldLink RX7 15 "StructureSearch$Shares" "powers" "LStructureSearch$Powers;", Cond.fieldLink RX7 22 "StructureSearch$Shares" "least" "LStructureSearch$Powers;", Cond.methodLink RX7 106 yX7_isOpen, Cond.instanceMethod yX7_isOpen, Cond.selects RX7 yX7_isOpen yX7_isOpen, Cond.initialized RX7, Cond.code yX7_isOpen cX7_isOpen 3 (some .boolean), Cond.fieldLink RX7 148 "StructureSearch$Sheet" "most" "I", Cond.methodLink RX7 31 yX0_isIn, Cond.static yX0_isIn, Cond.initialized RX0, Cond.code yX0_isIn cX0_isIn 2 (some .boolean), Cond.methodLink RX7 142 yJ6_bitCount_0f7a4, Cond.static yJ6_bitCount_0f7a4, Cond.initialized RJ6, Cond.code yJ6_bitCount_0f7a4 cJ6_bitCount_0f7a4 1 (some .int), Cond.constant RJ6 265 (1431655765), Cond.constant RJ6 266 (858993459), Cond.constant RJ6 267 (252645135), Cond.methodLink RX7 109 yX5_forget, Cond.instanceMethod yX5_forget, Cond.selects RX5 yX5_forget yX5_forget]
def wsX7_weigh_r2 : List Cond := [Cond.initialized RX5, Cond.code yX5_forget cX5_forget 2 none, Cond.fieldLink RX5 15 "StructureSearch$Powers" "largest" "I", Cond.fieldLink RX5 11 "StructureSearch$Powers" "power" "[I", Cond.methodLink RX7 112 yX8_pourFit, Cond.instanceMethod yX8_pourFit, Cond.selects RX8 yX8_pourFit yX8_pourFit, Cond.initialized RX8, Cond.code yX8_pourFit cX8_pourFit 13 none, Cond.fieldLink RX8 21 "StructureSearch$Sheet" "names" "I", Cond.fieldLink RX8 25 "StructureSearch$Sheet" "rows" "I", Cond.fieldLink RX8 28 "StructureSearch$Sheet" "strength" "I", Cond.methodLink RX8 38 yX8_valuesOf, Cond.instanceMethod yX8_valuesOf, Cond.selects RX8 yX8_valuesOf yX8_valuesOf, Cond.code yX8_valuesOf cX8_valuesOf 2 (some .int), Cond.fieldLink RX8 9 "StructureSearch$Sheet" "values" "[I", Cond.methodLink RX8 41 yX0_isIn, Cond.methodLink RX8 34 yX8_codeOf, Cond.instanceMethod yX8_codeOf, Cond.selects RX8 yX8_codeOf yX8_codeOf, Cond.code yX8_codeOf cX8_codeOf 2 (some .int), Cond.fieldLink RX8 15 "StructureSearch$Sheet" "codes" "[I", Cond.methodLink RX8 47 yX5_multiply]
def wsX7_weigh_r3 : List Cond := [Cond.instanceMethod yX5_multiply, Cond.selects RX5 yX5_multiply yX5_multiply, Cond.code yX5_multiply cX5_multiply 7 none, Cond.fieldLink RX5 19 "StructureSearch$Powers" "SMALL_PRIMES" "[I", Cond.methodLink RX5 22 Lib.Math.max.name, Cond.static Lib.Math.max.name, Cond.initialized "java/lang/Math", Cond.code Lib.Math.max.name Lib.Math.max.code 2 (some .int), Cond.methodLink RX7 116 yX5_copy, Cond.instanceMethod yX5_copy, Cond.selects RX5 yX5_copy yX5_copy, Cond.code yX5_copy cX5_copy 3 none, Cond.methodLink RX5 40 yX5_forget, Cond.methodLink RX7 119 yX5_lowerTo, Cond.instanceMethod yX5_lowerTo, Cond.selects RX5 yX5_lowerTo yX5_lowerTo, Cond.code yX5_lowerTo cX5_lowerTo 3 none, Cond.methodLink RX5 43 Lib.Math.min.name, Cond.static Lib.Math.min.name, Cond.code Lib.Math.min.name Lib.Math.min.code 2 (some .int), Cond.methodLink RX7 122 yX7_weight, Cond.instanceMethod yX7_weight, Cond.selects RX7 yX7_weight yX7_weight, Cond.code yX7_weight cX7_weight 4 (some (.object "StructureSearch$Big"))]
def wsX7_weigh_r4 : List Cond := [Cond.fieldLink RX7 27 "StructureSearch$Shares" "weights" "[LStructureSearch$Big;", Cond.fieldLink RX7 43 "StructureSearch$Shares" "none" "LStructureSearch$Big;", Cond.methodLink RX7 126 yX1_become, Cond.instanceMethod yX1_become, Cond.selects RX1 yX1_become yX1_become, Cond.initialized RX1, Cond.code yX1_become cX1_become 2 none, Cond.fieldLink RX1 21 "StructureSearch$Big" "used" "I", Cond.fieldLink RX1 15 "StructureSearch$Big" "words" "[J", Cond.methodLink RX7 129 yX5_divide, Cond.instanceMethod yX5_divide, Cond.selects RX5 yX5_divide yX5_divide, Cond.code yX5_divide cX5_divide 3 none, Cond.methodLink RX7 132 yX5_write, Cond.instanceMethod yX5_write, Cond.selects RX5 yX5_write yX5_write, Cond.code yX5_write cX5_write 8 none, Cond.constantLong RX5 34 (4294967295), Cond.methodLink RX5 28 yX1_become, Cond.methodLink RX5 36 yX1_timesSmall, Cond.instanceMethod yX1_timesSmall, Cond.selects RX1 yX1_timesSmall yX1_timesSmall, Cond.code yX1_timesSmall cX1_timesSmall 9 none, Cond.methodLink RX1 25 Lib.Math.min.name]
def wsX7_weigh_r5 : List Cond := [Cond.constantLong RX1 38 (4294967295), Cond.methodLink RX7 136 yX7_addSmaller, Cond.instanceMethod yX7_addSmaller, Cond.selects RX7 yX7_addSmaller yX7_addSmaller, Cond.code yX7_addSmaller cX7_addSmaller 5 none, Cond.methodLink RX7 139 yX1_plus, Cond.instanceMethod yX1_plus, Cond.selects RX1 yX1_plus yX1_plus, Cond.code yX1_plus cX1_plus 2 none, Cond.methodLink RX1 9 Lib.Math.max.name, Cond.methodLink RX1 40 yX1_widen, Cond.instanceMethod yX1_widen, Cond.selects RX1 yX1_widen yX1_widen, Cond.code yX1_widen cX1_widen 4 none, Cond.methodLink RX1 44 yX1_addMultiple, Cond.instanceMethod yX1_addMultiple, Cond.selects RX1 yX1_addMultiple yX1_addMultiple, Cond.code yX1_addMultiple cX1_addMultiple 12 none, Cond.methodLink RX1 48 yX1_trim, Cond.instanceMethod yX1_trim, Cond.selects RX1 yX1_trim yX1_trim, Cond.code yX1_trim cX1_trim 2 none]
def wsX7_weigh : List Cond := .code yX7_weigh cX7_weigh 3 none :: ((wsX7_weigh_r1 ++ (wsX7_weigh_r2 ++ (wsX7_weigh_r3 ++ (wsX7_weigh_r4 ++ wsX7_weigh_r5)))) ++ wsX70 ++ wsX80 ++ wsX50 ++ wsX10)
def wsX7_sum : List Cond := .code yX7_sum cX7_sum 2 (some (.object "StructureSearch$Big")) :: ([.fieldLink RX7 40 "StructureSearch$Shares" "sums" "[LStructureSearch$Big;", .fieldLink RX7 43 "StructureSearch$Shares" "none" "LStructureSearch$Big;"] ++ wsX70)
def wsX7_multiplyOut_r1 : List Cond := [Cond.fieldLink RX7 47 "StructureSearch$Shares" "term" "LStructureSearch$Big;", Cond.fieldLink RX7 11 "StructureSearch$Shares" "sheet" "LStructureSearch$Sheet;", Cond.fieldLink RX7 74 "StructureSearch$Sheet" "names" "I", Cond.methodLink RX7 88 yX7_sum, Cond.instanceMethod yX7_sum, Cond.selects RX7 yX7_sum yX7_sum, Cond.initialized RX7, Cond.code yX7_sum cX7_sum 2 (some (.object "StructureSearch$Big")), Cond.fieldLink RX7 40 "StructureSearch$Shares" "sums" "[LStructureSearch$Big;", Cond.fieldLink RX7 43 "StructureSearch$Shares" "none" "LStructureSearch$Big;", Cond.methodLink RX7 92 yX1_copy, Cond.instanceMethod yX1_copy, Cond.selects RX1 yX1_copy yX1_copy, Cond.initialized RX1, Cond.code yX1_copy cX1_copy 2 none, Cond.fieldLink RX1 21 "StructureSearch$Big" "used" "I", Cond.fieldLink RX1 15 "StructureSearch$Big" "words" "[J", Cond.methodLink RX1 25 Lib.Math.min.name, Cond.static Lib.Math.min.name, Cond.initialized "java/lang/Math", Cond.code Lib.Math.min.name Lib.Math.min.code 2 (some .int), Cond.methodLink RX1 28 arraycopyName, Cond.native arraycopyName, Cond.static arraycopyName]
def wsX7_multiplyOut_r2 : List Cond := [Cond.initialized "java/lang/System", Cond.methodLink RX7 31 yX0_isIn, Cond.static yX0_isIn, Cond.initialized RX0, Cond.code yX0_isIn cX0_isIn 2 (some .boolean), Cond.methodLink RX7 122 yX7_weight, Cond.instanceMethod yX7_weight, Cond.selects RX7 yX7_weight yX7_weight, Cond.code yX7_weight cX7_weight 4 (some (.object "StructureSearch$Big")), Cond.fieldLink RX7 27 "StructureSearch$Shares" "weights" "[LStructureSearch$Big;", Cond.methodLink RX7 160 yX1_times, Cond.instanceMethod yX1_times, Cond.selects RX1 yX1_times yX1_times, Cond.code yX1_times cX1_times 6 none, Cond.methodLink RX1 40 yX1_widen, Cond.instanceMethod yX1_widen, Cond.selects RX1 yX1_widen yX1_widen, Cond.code yX1_widen cX1_widen 4 none, Cond.methodLink RX1 9 Lib.Math.max.name, Cond.static Lib.Math.max.name, Cond.code Lib.Math.max.name Lib.Math.max.code 2 (some .int), Cond.methodLink RX1 44 yX1_addMultiple, Cond.instanceMethod yX1_addMultiple, Cond.selects RX1 yX1_addMultiple yX1_addMultiple]
def wsX7_multiplyOut_r3 : List Cond := [Cond.code yX1_addMultiple cX1_addMultiple 12 none, Cond.constantLong RX1 38 (4294967295), Cond.methodLink RX1 48 yX1_trim, Cond.instanceMethod yX1_trim, Cond.selects RX1 yX1_trim yX1_trim, Cond.code yX1_trim cX1_trim 2 none]
def wsX7_multiplyOut : List Cond := .code yX7_multiplyOut cX7_multiplyOut 4 none :: ((wsX7_multiplyOut_r1 ++ (wsX7_multiplyOut_r2 ++ wsX7_multiplyOut_r3)) ++ wsX70 ++ wsX80 ++ wsX10)
def wsX7_sumGraphsOf_r1 : List Cond := [Cond.fieldLink RX7 47 "StructureSearch$Shares" "term" "LStructureSearch$Big;", Cond.methodLink RX7 88 yX7_sum, Cond.instanceMethod yX7_sum, Cond.selects RX7 yX7_sum yX7_sum, Cond.initialized RX7, Cond.code yX7_sum cX7_sum 2 (some (.object "StructureSearch$Big")), Cond.fieldLink RX7 40 "StructureSearch$Shares" "sums" "[LStructureSearch$Big;", Cond.fieldLink RX7 43 "StructureSearch$Shares" "none" "LStructureSearch$Big;", Cond.methodLink RX7 126 yX1_become, Cond.instanceMethod yX1_become, Cond.selects RX1 yX1_become yX1_become, Cond.initialized RX1, Cond.code yX1_become cX1_become 2 none, Cond.fieldLink RX1 21 "StructureSearch$Big" "used" "I", Cond.fieldLink RX1 15 "StructureSearch$Big" "words" "[J", Cond.methodLink RX7 142 yJ6_bitCount_0f7a4, Cond.static yJ6_bitCount_0f7a4, Cond.initialized RJ6, Cond.code yJ6_bitCount_0f7a4 cJ6_bitCount_0f7a4 1 (some .int), Cond.constant RJ6 265 (1431655765), Cond.constant RJ6 266 (858993459), Cond.constant RJ6 267 (252645135), Cond.methodLink RX7 157 yX7_multiplyOut, Cond.instanceMethod yX7_multiplyOut]
def wsX7_sumGraphsOf_r2 : List Cond := [Cond.selects RX7 yX7_multiplyOut yX7_multiplyOut, Cond.code yX7_multiplyOut cX7_multiplyOut 4 none, Cond.fieldLink RX7 11 "StructureSearch$Shares" "sheet" "LStructureSearch$Sheet;", Cond.fieldLink RX7 74 "StructureSearch$Sheet" "names" "I", Cond.methodLink RX7 92 yX1_copy, Cond.instanceMethod yX1_copy, Cond.selects RX1 yX1_copy yX1_copy, Cond.code yX1_copy cX1_copy 2 none, Cond.methodLink RX1 25 Lib.Math.min.name, Cond.static Lib.Math.min.name, Cond.initialized "java/lang/Math", Cond.code Lib.Math.min.name Lib.Math.min.code 2 (some .int), Cond.methodLink RX1 28 arraycopyName, Cond.native arraycopyName, Cond.static arraycopyName, Cond.initialized "java/lang/System", Cond.methodLink RX7 31 yX0_isIn, Cond.static yX0_isIn, Cond.initialized RX0, Cond.code yX0_isIn cX0_isIn 2 (some .boolean), Cond.methodLink RX7 122 yX7_weight, Cond.instanceMethod yX7_weight, Cond.selects RX7 yX7_weight yX7_weight, Cond.code yX7_weight cX7_weight 4 (some (.object "StructureSearch$Big"))]
def wsX7_sumGraphsOf_r3 : List Cond := [Cond.fieldLink RX7 27 "StructureSearch$Shares" "weights" "[LStructureSearch$Big;", Cond.methodLink RX7 160 yX1_times, Cond.instanceMethod yX1_times, Cond.selects RX1 yX1_times yX1_times, Cond.code yX1_times cX1_times 6 none, Cond.methodLink RX1 40 yX1_widen, Cond.instanceMethod yX1_widen, Cond.selects RX1 yX1_widen yX1_widen, Cond.code yX1_widen cX1_widen 4 none, Cond.methodLink RX1 9 Lib.Math.max.name, Cond.static Lib.Math.max.name, Cond.code Lib.Math.max.name Lib.Math.max.code 2 (some .int), Cond.methodLink RX1 44 yX1_addMultiple, Cond.instanceMethod yX1_addMultiple, Cond.selects RX1 yX1_addMultiple yX1_addMultiple, Cond.code yX1_addMultiple cX1_addMultiple 12 none, Cond.constantLong RX1 38 (4294967295), Cond.methodLink RX1 48 yX1_trim, Cond.instanceMethod yX1_trim, Cond.selects RX1 yX1_trim yX1_trim, Cond.code yX1_trim cX1_trim 2 none, Cond.methodLink RX7 139 yX1_plus, Cond.instanceMethod yX1_plus, Cond.selects RX1 yX1_plus yX1_plus]
def wsX7_sumGraphsOf_r4 : List Cond := [Cond.code yX1_plus cX1_plus 2 none, Cond.methodLink RX7 151 yX1_minus, Cond.instanceMethod yX1_minus, Cond.selects RX1 yX1_minus yX1_minus, Cond.code yX1_minus cX1_minus 2 none, Cond.methodLink RX1 51 yX1_subtractMultiple, Cond.instanceMethod yX1_subtractMultiple, Cond.selects RX1 yX1_subtractMultiple yX1_subtractMultiple, Cond.code yX1_subtractMultiple cX1_subtractMultiple 14 none]
def wsX7_sumGraphsOf : List Cond := .code yX7_sumGraphsOf cX7_sumGraphsOf 5 none :: ((wsX7_sumGraphsOf_r1 ++ (wsX7_sumGraphsOf_r2 ++ (wsX7_sumGraphsOf_r3 ++ wsX7_sumGraphsOf_r4))) ++ wsX70 ++ wsX10 ++ wsX80)
def wsX7_sumGraphs_r1 : List Cond := [Cond.fieldLink RX7 11 "StructureSearch$Shares" "sheet" "LStructureSearch$Sheet;", Cond.fieldLink RX7 74 "StructureSearch$Sheet" "names" "I", Cond.methodLink RX7 154 yX7_sumGraphsOf, Cond.instanceMethod yX7_sumGraphsOf, Cond.selects RX7 yX7_sumGraphsOf yX7_sumGraphsOf, Cond.initialized RX7, Cond.code yX7_sumGraphsOf cX7_sumGraphsOf 5 none, Cond.fieldLink RX7 47 "StructureSearch$Shares" "term" "LStructureSearch$Big;", Cond.methodLink RX7 88 yX7_sum, Cond.instanceMethod yX7_sum, Cond.selects RX7 yX7_sum yX7_sum, Cond.code yX7_sum cX7_sum 2 (some (.object "StructureSearch$Big")), Cond.fieldLink RX7 40 "StructureSearch$Shares" "sums" "[LStructureSearch$Big;", Cond.fieldLink RX7 43 "StructureSearch$Shares" "none" "LStructureSearch$Big;", Cond.methodLink RX7 126 yX1_become, Cond.instanceMethod yX1_become, Cond.selects RX1 yX1_become yX1_become, Cond.initialized RX1, Cond.code yX1_become cX1_become 2 none, Cond.fieldLink RX1 21 "StructureSearch$Big" "used" "I", Cond.fieldLink RX1 15 "StructureSearch$Big" "words" "[J", Cond.methodLink RX7 142 yJ6_bitCount_0f7a4, Cond.static yJ6_bitCount_0f7a4, Cond.initialized RJ6]
def wsX7_sumGraphs_r2 : List Cond := [Cond.code yJ6_bitCount_0f7a4 cJ6_bitCount_0f7a4 1 (some .int), Cond.constant RJ6 265 (1431655765), Cond.constant RJ6 266 (858993459), Cond.constant RJ6 267 (252645135), Cond.methodLink RX7 157 yX7_multiplyOut, Cond.instanceMethod yX7_multiplyOut, Cond.selects RX7 yX7_multiplyOut yX7_multiplyOut, Cond.code yX7_multiplyOut cX7_multiplyOut 4 none, Cond.methodLink RX7 92 yX1_copy, Cond.instanceMethod yX1_copy, Cond.selects RX1 yX1_copy yX1_copy, Cond.code yX1_copy cX1_copy 2 none, Cond.methodLink RX1 25 Lib.Math.min.name, Cond.static Lib.Math.min.name, Cond.initialized "java/lang/Math", Cond.code Lib.Math.min.name Lib.Math.min.code 2 (some .int), Cond.methodLink RX1 28 arraycopyName, Cond.native arraycopyName, Cond.static arraycopyName, Cond.initialized "java/lang/System", Cond.methodLink RX7 31 yX0_isIn, Cond.static yX0_isIn, Cond.initialized RX0, Cond.code yX0_isIn cX0_isIn 2 (some .boolean)]
def wsX7_sumGraphs_r3 : List Cond := [Cond.methodLink RX7 122 yX7_weight, Cond.instanceMethod yX7_weight, Cond.selects RX7 yX7_weight yX7_weight, Cond.code yX7_weight cX7_weight 4 (some (.object "StructureSearch$Big")), Cond.fieldLink RX7 27 "StructureSearch$Shares" "weights" "[LStructureSearch$Big;", Cond.methodLink RX7 160 yX1_times, Cond.instanceMethod yX1_times, Cond.selects RX1 yX1_times yX1_times, Cond.code yX1_times cX1_times 6 none, Cond.methodLink RX1 40 yX1_widen, Cond.instanceMethod yX1_widen, Cond.selects RX1 yX1_widen yX1_widen, Cond.code yX1_widen cX1_widen 4 none, Cond.methodLink RX1 9 Lib.Math.max.name, Cond.static Lib.Math.max.name, Cond.code Lib.Math.max.name Lib.Math.max.code 2 (some .int), Cond.methodLink RX1 44 yX1_addMultiple, Cond.instanceMethod yX1_addMultiple, Cond.selects RX1 yX1_addMultiple yX1_addMultiple, Cond.code yX1_addMultiple cX1_addMultiple 12 none, Cond.constantLong RX1 38 (4294967295), Cond.methodLink RX1 48 yX1_trim, Cond.instanceMethod yX1_trim, Cond.selects RX1 yX1_trim yX1_trim]
def wsX7_sumGraphs_r4 : List Cond := [Cond.code yX1_trim cX1_trim 2 none, Cond.methodLink RX7 139 yX1_plus, Cond.instanceMethod yX1_plus, Cond.selects RX1 yX1_plus yX1_plus, Cond.code yX1_plus cX1_plus 2 none, Cond.methodLink RX7 151 yX1_minus, Cond.instanceMethod yX1_minus, Cond.selects RX1 yX1_minus yX1_minus, Cond.code yX1_minus cX1_minus 2 none, Cond.methodLink RX1 51 yX1_subtractMultiple, Cond.instanceMethod yX1_subtractMultiple, Cond.selects RX1 yX1_subtractMultiple yX1_subtractMultiple, Cond.code yX1_subtractMultiple cX1_subtractMultiple 14 none]
def wsX7_sumGraphs : List Cond := .code yX7_sumGraphs cX7_sumGraphs 3 none :: ((wsX7_sumGraphs_r1 ++ (wsX7_sumGraphs_r2 ++ (wsX7_sumGraphs_r3 ++ wsX7_sumGraphs_r4))) ++ wsX70 ++ wsX80 ++ wsX10)
def wsX7_keepArc_r1 : List Cond := [Cond.fieldLink RX7 11 "StructureSearch$Shares" "sheet" "LStructureSearch$Sheet;", Cond.fieldLink RX7 74 "StructureSearch$Sheet" "names" "I", Cond.methodLink RX7 31 yX0_isIn, Cond.static yX0_isIn, Cond.initialized RX0, Cond.code yX0_isIn cX0_isIn 2 (some .boolean), Cond.methodLink RX7 122 yX7_weight, Cond.instanceMethod yX7_weight, Cond.selects RX7 yX7_weight yX7_weight, Cond.initialized RX7, Cond.code yX7_weight cX7_weight 4 (some (.object "StructureSearch$Big")), Cond.fieldLink RX7 27 "StructureSearch$Shares" "weights" "[LStructureSearch$Big;", Cond.fieldLink RX7 43 "StructureSearch$Shares" "none" "LStructureSearch$Big;", Cond.methodLink RX7 151 yX1_minus, Cond.instanceMethod yX1_minus, Cond.selects RX1 yX1_minus yX1_minus, Cond.initialized RX1, Cond.code yX1_minus cX1_minus 2 none, Cond.methodLink RX1 51 yX1_subtractMultiple, Cond.instanceMethod yX1_subtractMultiple, Cond.selects RX1 yX1_subtractMultiple yX1_subtractMultiple, Cond.code yX1_subtractMultiple cX1_subtractMultiple 14 none, Cond.fieldLink RX1 21 "StructureSearch$Big" "used" "I", Cond.fieldLink RX1 15 "StructureSearch$Big" "words" "[J"]
def wsX7_keepArc_r2 : List Cond := [Cond.methodLink RX1 25 Lib.Math.min.name, Cond.static Lib.Math.min.name, Cond.initialized "java/lang/Math", Cond.code Lib.Math.min.name Lib.Math.min.code 2 (some .int), Cond.constantLong RX1 38 (4294967295), Cond.methodLink RX1 48 yX1_trim, Cond.instanceMethod yX1_trim, Cond.selects RX1 yX1_trim yX1_trim, Cond.code yX1_trim cX1_trim 2 none, Cond.methodLink RX7 126 yX1_become, Cond.instanceMethod yX1_become, Cond.selects RX1 yX1_become yX1_become, Cond.code yX1_become cX1_become 2 none]
def wsX7_keepArc : List Cond := .code yX7_keepArc cX7_keepArc 5 none :: ((wsX7_keepArc_r1 ++ wsX7_keepArc_r2) ++ wsX70 ++ wsX80 ++ wsX10)
def wsX7_divide_r1 : List Cond := [Cond.fieldLink RX7 47 "StructureSearch$Shares" "term" "LStructureSearch$Big;", Cond.fieldLink RX7 53 "StructureSearch$Shares" "divisor" "LStructureSearch$Big;", Cond.methodLink RX7 126 yX1_become, Cond.instanceMethod yX1_become, Cond.selects RX1 yX1_become yX1_become, Cond.initialized RX1, Cond.code yX1_become cX1_become 2 none, Cond.fieldLink RX1 21 "StructureSearch$Big" "used" "I", Cond.fieldLink RX1 15 "StructureSearch$Big" "words" "[J", Cond.methodLink RX7 169 yX1_reduceBy, Cond.instanceMethod yX1_reduceBy, Cond.selects RX1 yX1_reduceBy yX1_reduceBy, Cond.code yX1_reduceBy cX1_reduceBy 11 none, Cond.methodLink RX1 9 Lib.Math.max.name, Cond.static Lib.Math.max.name, Cond.initialized "java/lang/Math", Cond.code Lib.Math.max.name Lib.Math.max.code 2 (some .int), Cond.methodLink RX1 61 Lib.MathLoose.max_long.x, Cond.static Lib.MathLoose.max_long.x, Cond.code Lib.MathLoose.max_long.x Lib.MathLoose.max_long.code 4 (some .long), Cond.constant RX1 64 (1000000), Cond.constantLong RX1 38 (4294967295), Cond.methodLink RX1 69 Lib.MathLoose.min_long.x, Cond.static Lib.MathLoose.min_long.x]
def wsX7_divide_r2 : List Cond := [Cond.code Lib.MathLoose.min_long.x Lib.MathLoose.min_long.code 4 (some .long), Cond.methodLink RX1 54 yX1_bits, Cond.instanceMethod yX1_bits, Cond.selects RX1 yX1_bits yX1_bits, Cond.code yX1_bits cX1_bits 1 (some .int), Cond.methodLink RX1 34 yX1_at, Cond.instanceMethod yX1_at, Cond.selects RX1 yX1_at yX1_at, Cond.code yX1_at cX1_at 2 (some .long), Cond.methodLink RX1 79 yJ13_numberOfLeadingZeros_95d88, Cond.static yJ13_numberOfLeadingZeros_95d88, Cond.initialized RJ13, Cond.code yJ13_numberOfLeadingZeros_95d88 cJ13_numberOfLeadingZeros_95d88 3 (some .int), Cond.methodLink RJ13 308 yJ6_numberOfLeadingZeros_0f7a4, Cond.static yJ6_numberOfLeadingZeros_0f7a4, Cond.initialized RJ6, Cond.code yJ6_numberOfLeadingZeros_0f7a4 cJ6_numberOfLeadingZeros_0f7a4 2 (some .int), Cond.constant RJ6 264 (65536), Cond.methodLink RX1 58 yX1_from, Cond.instanceMethod yX1_from, Cond.selects RX1 yX1_from yX1_from, Cond.code yX1_from cX1_from 6 (some .long), Cond.methodLink RX1 65 yX1_against, Cond.instanceMethod yX1_against]
def wsX7_divide_r3 : List Cond := [Cond.selects RX1 yX1_against yX1_against, Cond.code yX1_against cX1_against 3 (some .int), Cond.methodLink RX1 51 yX1_subtractMultiple, Cond.instanceMethod yX1_subtractMultiple, Cond.selects RX1 yX1_subtractMultiple yX1_subtractMultiple, Cond.code yX1_subtractMultiple cX1_subtractMultiple 14 none, Cond.methodLink RX1 25 Lib.Math.min.name, Cond.static Lib.Math.min.name, Cond.code Lib.Math.min.name Lib.Math.min.code 2 (some .int), Cond.methodLink RX1 48 yX1_trim, Cond.instanceMethod yX1_trim, Cond.selects RX1 yX1_trim yX1_trim, Cond.code yX1_trim cX1_trim 2 none, Cond.methodLink RX1 71 yX1_addDigit, Cond.instanceMethod yX1_addDigit, Cond.selects RX1 yX1_addDigit yX1_addDigit, Cond.code yX1_addDigit cX1_addDigit 10 none, Cond.methodLink RX1 40 yX1_widen, Cond.instanceMethod yX1_widen, Cond.selects RX1 yX1_widen yX1_widen, Cond.code yX1_widen cX1_widen 4 none, Cond.methodLink RX7 92 yX1_copy, Cond.instanceMethod yX1_copy, Cond.selects RX1 yX1_copy yX1_copy]
def wsX7_divide_r4 : List Cond := [Cond.code yX1_copy cX1_copy 2 none, Cond.methodLink RX1 28 arraycopyName, Cond.native arraycopyName, Cond.static arraycopyName, Cond.initialized "java/lang/System"]
def wsX7_divide : List Cond := .code yX7_divide cX7_divide 2 none :: ((wsX7_divide_r1 ++ (wsX7_divide_r2 ++ (wsX7_divide_r3 ++ wsX7_divide_r4))) ++ wsX70 ++ wsX10)
def wsX7_lower_r1 : List Cond := [Cond.fieldLink RX7 47 "StructureSearch$Shares" "term" "LStructureSearch$Big;", Cond.fieldLink RX7 59 "StructureSearch$Shares" "share" "LStructureSearch$Fraction;", Cond.fieldLink RX7 85 "StructureSearch$Fraction" "below" "LStructureSearch$Big;", Cond.fieldLink RX7 50 "StructureSearch$Shares" "rest" "LStructureSearch$Big;", Cond.fieldLink RX7 100 "StructureSearch$Fraction" "above" "LStructureSearch$Big;", Cond.fieldLink RX7 53 "StructureSearch$Shares" "divisor" "LStructureSearch$Big;", Cond.methodLink RX7 92 yX1_copy, Cond.instanceMethod yX1_copy, Cond.selects RX1 yX1_copy yX1_copy, Cond.initialized RX1, Cond.code yX1_copy cX1_copy 2 none, Cond.fieldLink RX1 21 "StructureSearch$Big" "used" "I", Cond.fieldLink RX1 15 "StructureSearch$Big" "words" "[J", Cond.methodLink RX1 25 Lib.Math.min.name, Cond.static Lib.Math.min.name, Cond.initialized "java/lang/Math", Cond.code Lib.Math.min.name Lib.Math.min.code 2 (some .int), Cond.methodLink RX1 28 arraycopyName, Cond.native arraycopyName, Cond.static arraycopyName, Cond.initialized "java/lang/System", Cond.methodLink RX7 163 yX1_commonDivisor, Cond.static yX1_commonDivisor, Cond.code yX1_commonDivisor cX1_commonDivisor 6 (some (.object "StructureSearch$Big"))]
def wsX7_lower_r2 : List Cond := [Cond.constant RX1 64 (1000000), Cond.methodLink RX1 75 yX1_reduceBy, Cond.instanceMethod yX1_reduceBy, Cond.selects RX1 yX1_reduceBy yX1_reduceBy, Cond.code yX1_reduceBy cX1_reduceBy 11 none, Cond.methodLink RX1 9 Lib.Math.max.name, Cond.static Lib.Math.max.name, Cond.code Lib.Math.max.name Lib.Math.max.code 2 (some .int), Cond.methodLink RX1 61 Lib.MathLoose.max_long.x, Cond.static Lib.MathLoose.max_long.x, Cond.code Lib.MathLoose.max_long.x Lib.MathLoose.max_long.code 4 (some .long), Cond.constantLong RX1 38 (4294967295), Cond.methodLink RX1 69 Lib.MathLoose.min_long.x, Cond.static Lib.MathLoose.min_long.x, Cond.code Lib.MathLoose.min_long.x Lib.MathLoose.min_long.code 4 (some .long), Cond.methodLink RX1 54 yX1_bits, Cond.instanceMethod yX1_bits, Cond.selects RX1 yX1_bits yX1_bits, Cond.code yX1_bits cX1_bits 1 (some .int), Cond.methodLink RX1 34 yX1_at, Cond.instanceMethod yX1_at, Cond.selects RX1 yX1_at yX1_at, Cond.code yX1_at cX1_at 2 (some .long), Cond.methodLink RX1 79 yJ13_numberOfLeadingZeros_95d88]
def wsX7_lower_r3 : List Cond := [Cond.static yJ13_numberOfLeadingZeros_95d88, Cond.initialized RJ13, Cond.code yJ13_numberOfLeadingZeros_95d88 cJ13_numberOfLeadingZeros_95d88 3 (some .int), Cond.methodLink RJ13 308 yJ6_numberOfLeadingZeros_0f7a4, Cond.static yJ6_numberOfLeadingZeros_0f7a4, Cond.initialized RJ6, Cond.code yJ6_numberOfLeadingZeros_0f7a4 cJ6_numberOfLeadingZeros_0f7a4 2 (some .int), Cond.constant RJ6 264 (65536), Cond.methodLink RX1 58 yX1_from, Cond.instanceMethod yX1_from, Cond.selects RX1 yX1_from yX1_from, Cond.code yX1_from cX1_from 6 (some .long), Cond.methodLink RX1 65 yX1_against, Cond.instanceMethod yX1_against, Cond.selects RX1 yX1_against yX1_against, Cond.code yX1_against cX1_against 3 (some .int), Cond.methodLink RX1 51 yX1_subtractMultiple, Cond.instanceMethod yX1_subtractMultiple, Cond.selects RX1 yX1_subtractMultiple yX1_subtractMultiple, Cond.code yX1_subtractMultiple cX1_subtractMultiple 14 none, Cond.methodLink RX1 48 yX1_trim, Cond.instanceMethod yX1_trim, Cond.selects RX1 yX1_trim yX1_trim, Cond.code yX1_trim cX1_trim 2 none]
def wsX7_lower_r4 : List Cond := [Cond.methodLink RX1 71 yX1_addDigit, Cond.instanceMethod yX1_addDigit, Cond.selects RX1 yX1_addDigit yX1_addDigit, Cond.code yX1_addDigit cX1_addDigit 10 none, Cond.methodLink RX1 40 yX1_widen, Cond.instanceMethod yX1_widen, Cond.selects RX1 yX1_widen yX1_widen, Cond.code yX1_widen cX1_widen 4 none, Cond.methodLink RX7 167 yX7_divide, Cond.instanceMethod yX7_divide, Cond.selects RX7 yX7_divide yX7_divide, Cond.initialized RX7, Cond.code yX7_divide cX7_divide 2 none, Cond.methodLink RX7 126 yX1_become, Cond.instanceMethod yX1_become, Cond.selects RX1 yX1_become yX1_become, Cond.code yX1_become cX1_become 2 none, Cond.methodLink RX7 169 yX1_reduceBy]
def wsX7_lower : List Cond := .code yX7_lower cX7_lower 1 none :: ((wsX7_lower_r1 ++ (wsX7_lower_r2 ++ (wsX7_lower_r3 ++ wsX7_lower_r4))) ++ wsX70 ++ wsX30 ++ wsX10)
def wsX7_of_r1 : List Cond := [Cond.fieldLink RX7 59 "StructureSearch$Shares" "share" "LStructureSearch$Fraction;", Cond.fieldLink RX7 70 "StructureSearch$Fraction" "ready" "Z", Cond.fieldLink RX7 63 "StructureSearch$Shares" "shareFrom" "I", Cond.fieldLink RX7 67 "StructureSearch$Shares" "shareTo" "I", Cond.fieldLink RX7 11 "StructureSearch$Shares" "sheet" "LStructureSearch$Sheet;", Cond.fieldLink RX7 74 "StructureSearch$Sheet" "names" "I", Cond.fieldLink RX7 85 "StructureSearch$Fraction" "below" "LStructureSearch$Big;", Cond.fieldLink RX7 100 "StructureSearch$Fraction" "above" "LStructureSearch$Big;", Cond.methodLink RX7 79 yX7_weigh, Cond.instanceMethod yX7_weigh, Cond.selects RX7 yX7_weigh yX7_weigh, Cond.initialized RX7, Cond.code yX7_weigh cX7_weigh 3 none, Cond.fieldLink RX7 15 "StructureSearch$Shares" "powers" "LStructureSearch$Powers;", Cond.fieldLink RX7 22 "StructureSearch$Shares" "least" "LStructureSearch$Powers;", Cond.methodLink RX7 106 yX7_isOpen, Cond.instanceMethod yX7_isOpen, Cond.selects RX7 yX7_isOpen yX7_isOpen, Cond.code yX7_isOpen cX7_isOpen 3 (some .boolean), Cond.fieldLink RX7 148 "StructureSearch$Sheet" "most" "I", Cond.methodLink RX7 31 yX0_isIn, Cond.static yX0_isIn, Cond.initialized RX0, Cond.code yX0_isIn cX0_isIn 2 (some .boolean)]
def wsX7_of_r2 : List Cond := [Cond.methodLink RX7 142 yJ6_bitCount_0f7a4, Cond.static yJ6_bitCount_0f7a4, Cond.initialized RJ6, Cond.code yJ6_bitCount_0f7a4 cJ6_bitCount_0f7a4 1 (some .int), Cond.constant RJ6 265 (1431655765), Cond.constant RJ6 266 (858993459), Cond.constant RJ6 267 (252645135), Cond.methodLink RX7 109 yX5_forget, Cond.instanceMethod yX5_forget, Cond.selects RX5 yX5_forget yX5_forget, Cond.initialized RX5, Cond.code yX5_forget cX5_forget 2 none, Cond.fieldLink RX5 15 "StructureSearch$Powers" "largest" "I", Cond.fieldLink RX5 11 "StructureSearch$Powers" "power" "[I", Cond.methodLink RX7 112 yX8_pourFit, Cond.instanceMethod yX8_pourFit, Cond.selects RX8 yX8_pourFit yX8_pourFit, Cond.initialized RX8, Cond.code yX8_pourFit cX8_pourFit 13 none, Cond.fieldLink RX8 21 "StructureSearch$Sheet" "names" "I", Cond.fieldLink RX8 25 "StructureSearch$Sheet" "rows" "I", Cond.fieldLink RX8 28 "StructureSearch$Sheet" "strength" "I", Cond.methodLink RX8 38 yX8_valuesOf, Cond.instanceMethod yX8_valuesOf]
def wsX7_of_r3 : List Cond := [Cond.selects RX8 yX8_valuesOf yX8_valuesOf, Cond.code yX8_valuesOf cX8_valuesOf 2 (some .int), Cond.fieldLink RX8 9 "StructureSearch$Sheet" "values" "[I", Cond.methodLink RX8 41 yX0_isIn, Cond.methodLink RX8 34 yX8_codeOf, Cond.instanceMethod yX8_codeOf, Cond.selects RX8 yX8_codeOf yX8_codeOf, Cond.code yX8_codeOf cX8_codeOf 2 (some .int), Cond.fieldLink RX8 15 "StructureSearch$Sheet" "codes" "[I", Cond.methodLink RX8 47 yX5_multiply, Cond.instanceMethod yX5_multiply, Cond.selects RX5 yX5_multiply yX5_multiply, Cond.code yX5_multiply cX5_multiply 7 none, Cond.fieldLink RX5 19 "StructureSearch$Powers" "SMALL_PRIMES" "[I", Cond.methodLink RX5 22 Lib.Math.max.name, Cond.static Lib.Math.max.name, Cond.initialized "java/lang/Math", Cond.code Lib.Math.max.name Lib.Math.max.code 2 (some .int), Cond.methodLink RX7 116 yX5_copy, Cond.instanceMethod yX5_copy, Cond.selects RX5 yX5_copy yX5_copy, Cond.code yX5_copy cX5_copy 3 none, Cond.methodLink RX5 40 yX5_forget, Cond.methodLink RX7 119 yX5_lowerTo]
def wsX7_of_r4 : List Cond := [Cond.instanceMethod yX5_lowerTo, Cond.selects RX5 yX5_lowerTo yX5_lowerTo, Cond.code yX5_lowerTo cX5_lowerTo 3 none, Cond.methodLink RX5 43 Lib.Math.min.name, Cond.static Lib.Math.min.name, Cond.code Lib.Math.min.name Lib.Math.min.code 2 (some .int), Cond.methodLink RX7 122 yX7_weight, Cond.instanceMethod yX7_weight, Cond.selects RX7 yX7_weight yX7_weight, Cond.code yX7_weight cX7_weight 4 (some (.object "StructureSearch$Big")), Cond.fieldLink RX7 27 "StructureSearch$Shares" "weights" "[LStructureSearch$Big;", Cond.fieldLink RX7 43 "StructureSearch$Shares" "none" "LStructureSearch$Big;", Cond.methodLink RX7 126 yX1_become, Cond.instanceMethod yX1_become, Cond.selects RX1 yX1_become yX1_become, Cond.initialized RX1, Cond.code yX1_become cX1_become 2 none, Cond.fieldLink RX1 21 "StructureSearch$Big" "used" "I", Cond.fieldLink RX1 15 "StructureSearch$Big" "words" "[J", Cond.methodLink RX7 129 yX5_divide, Cond.instanceMethod yX5_divide, Cond.selects RX5 yX5_divide yX5_divide, Cond.code yX5_divide cX5_divide 3 none, Cond.methodLink RX7 132 yX5_write]
def wsX7_of_r5 : List Cond := [Cond.instanceMethod yX5_write, Cond.selects RX5 yX5_write yX5_write, Cond.code yX5_write cX5_write 8 none, Cond.constantLong RX5 34 (4294967295), Cond.methodLink RX5 28 yX1_become, Cond.methodLink RX5 36 yX1_timesSmall, Cond.instanceMethod yX1_timesSmall, Cond.selects RX1 yX1_timesSmall yX1_timesSmall, Cond.code yX1_timesSmall cX1_timesSmall 9 none, Cond.methodLink RX1 25 Lib.Math.min.name, Cond.constantLong RX1 38 (4294967295), Cond.methodLink RX7 136 yX7_addSmaller, Cond.instanceMethod yX7_addSmaller, Cond.selects RX7 yX7_addSmaller yX7_addSmaller, Cond.code yX7_addSmaller cX7_addSmaller 5 none, Cond.methodLink RX7 139 yX1_plus, Cond.instanceMethod yX1_plus, Cond.selects RX1 yX1_plus yX1_plus, Cond.code yX1_plus cX1_plus 2 none, Cond.methodLink RX1 9 Lib.Math.max.name, Cond.methodLink RX1 40 yX1_widen, Cond.instanceMethod yX1_widen, Cond.selects RX1 yX1_widen yX1_widen, Cond.code yX1_widen cX1_widen 4 none]
def wsX7_of_r6 : List Cond := [Cond.methodLink RX1 44 yX1_addMultiple, Cond.instanceMethod yX1_addMultiple, Cond.selects RX1 yX1_addMultiple yX1_addMultiple, Cond.code yX1_addMultiple cX1_addMultiple 12 none, Cond.methodLink RX1 48 yX1_trim, Cond.instanceMethod yX1_trim, Cond.selects RX1 yX1_trim yX1_trim, Cond.code yX1_trim cX1_trim 2 none, Cond.methodLink RX7 82 yX7_sumGraphs, Cond.instanceMethod yX7_sumGraphs, Cond.selects RX7 yX7_sumGraphs yX7_sumGraphs, Cond.code yX7_sumGraphs cX7_sumGraphs 3 none, Cond.methodLink RX7 154 yX7_sumGraphsOf, Cond.instanceMethod yX7_sumGraphsOf, Cond.selects RX7 yX7_sumGraphsOf yX7_sumGraphsOf, Cond.code yX7_sumGraphsOf cX7_sumGraphsOf 5 none, Cond.fieldLink RX7 47 "StructureSearch$Shares" "term" "LStructureSearch$Big;", Cond.methodLink RX7 88 yX7_sum, Cond.instanceMethod yX7_sum, Cond.selects RX7 yX7_sum yX7_sum, Cond.code yX7_sum cX7_sum 2 (some (.object "StructureSearch$Big")), Cond.fieldLink RX7 40 "StructureSearch$Shares" "sums" "[LStructureSearch$Big;", Cond.methodLink RX7 157 yX7_multiplyOut, Cond.instanceMethod yX7_multiplyOut]
def wsX7_of_r7 : List Cond := [Cond.selects RX7 yX7_multiplyOut yX7_multiplyOut, Cond.code yX7_multiplyOut cX7_multiplyOut 4 none, Cond.methodLink RX7 92 yX1_copy, Cond.instanceMethod yX1_copy, Cond.selects RX1 yX1_copy yX1_copy, Cond.code yX1_copy cX1_copy 2 none, Cond.methodLink RX1 28 arraycopyName, Cond.native arraycopyName, Cond.static arraycopyName, Cond.initialized "java/lang/System", Cond.methodLink RX7 160 yX1_times, Cond.instanceMethod yX1_times, Cond.selects RX1 yX1_times yX1_times, Cond.code yX1_times cX1_times 6 none, Cond.methodLink RX7 151 yX1_minus, Cond.instanceMethod yX1_minus, Cond.selects RX1 yX1_minus yX1_minus, Cond.code yX1_minus cX1_minus 2 none, Cond.methodLink RX1 51 yX1_subtractMultiple, Cond.instanceMethod yX1_subtractMultiple, Cond.selects RX1 yX1_subtractMultiple yX1_subtractMultiple, Cond.code yX1_subtractMultiple cX1_subtractMultiple 14 none, Cond.methodLink RX7 96 yX7_keepArc, Cond.instanceMethod yX7_keepArc]
def wsX7_of_r8 : List Cond := [Cond.selects RX7 yX7_keepArc yX7_keepArc, Cond.code yX7_keepArc cX7_keepArc 5 none, Cond.methodLink RX7 103 yX7_lower, Cond.instanceMethod yX7_lower, Cond.selects RX7 yX7_lower yX7_lower, Cond.code yX7_lower cX7_lower 1 none, Cond.fieldLink RX7 50 "StructureSearch$Shares" "rest" "LStructureSearch$Big;", Cond.fieldLink RX7 53 "StructureSearch$Shares" "divisor" "LStructureSearch$Big;", Cond.methodLink RX7 163 yX1_commonDivisor, Cond.static yX1_commonDivisor, Cond.code yX1_commonDivisor cX1_commonDivisor 6 (some (.object "StructureSearch$Big")), Cond.constant RX1 64 (1000000), Cond.methodLink RX1 75 yX1_reduceBy, Cond.instanceMethod yX1_reduceBy, Cond.selects RX1 yX1_reduceBy yX1_reduceBy, Cond.code yX1_reduceBy cX1_reduceBy 11 none, Cond.methodLink RX1 61 Lib.MathLoose.max_long.x, Cond.static Lib.MathLoose.max_long.x, Cond.code Lib.MathLoose.max_long.x Lib.MathLoose.max_long.code 4 (some .long), Cond.methodLink RX1 69 Lib.MathLoose.min_long.x, Cond.static Lib.MathLoose.min_long.x, Cond.code Lib.MathLoose.min_long.x Lib.MathLoose.min_long.code 4 (some .long), Cond.methodLink RX1 54 yX1_bits, Cond.instanceMethod yX1_bits]
def wsX7_of_r9 : List Cond := [Cond.selects RX1 yX1_bits yX1_bits, Cond.code yX1_bits cX1_bits 1 (some .int), Cond.methodLink RX1 34 yX1_at, Cond.instanceMethod yX1_at, Cond.selects RX1 yX1_at yX1_at, Cond.code yX1_at cX1_at 2 (some .long), Cond.methodLink RX1 79 yJ13_numberOfLeadingZeros_95d88, Cond.static yJ13_numberOfLeadingZeros_95d88, Cond.initialized RJ13, Cond.code yJ13_numberOfLeadingZeros_95d88 cJ13_numberOfLeadingZeros_95d88 3 (some .int), Cond.methodLink RJ13 308 yJ6_numberOfLeadingZeros_0f7a4, Cond.static yJ6_numberOfLeadingZeros_0f7a4, Cond.code yJ6_numberOfLeadingZeros_0f7a4 cJ6_numberOfLeadingZeros_0f7a4 2 (some .int), Cond.constant RJ6 264 (65536), Cond.methodLink RX1 58 yX1_from, Cond.instanceMethod yX1_from, Cond.selects RX1 yX1_from yX1_from, Cond.code yX1_from cX1_from 6 (some .long), Cond.methodLink RX1 65 yX1_against, Cond.instanceMethod yX1_against, Cond.selects RX1 yX1_against yX1_against, Cond.code yX1_against cX1_against 3 (some .int), Cond.methodLink RX1 71 yX1_addDigit, Cond.instanceMethod yX1_addDigit]
def wsX7_of_r10 : List Cond := [Cond.selects RX1 yX1_addDigit yX1_addDigit, Cond.code yX1_addDigit cX1_addDigit 10 none, Cond.methodLink RX7 167 yX7_divide, Cond.instanceMethod yX7_divide, Cond.selects RX7 yX7_divide yX7_divide, Cond.code yX7_divide cX7_divide 2 none, Cond.methodLink RX7 169 yX1_reduceBy]
def wsX7_of : List Cond := .code yX7_of cX7_of 5 (some (.object "StructureSearch$Fraction")) :: ((wsX7_of_r1 ++ (wsX7_of_r2 ++ (wsX7_of_r3 ++ (wsX7_of_r4 ++ (wsX7_of_r5 ++ (wsX7_of_r6 ++ (wsX7_of_r7 ++ (wsX7_of_r8 ++ (wsX7_of_r9 ++ wsX7_of_r10))))))))) ++ wsX70 ++ wsX30 ++ wsX80 ++ wsX50 ++ wsX10)
def wsX8_startAnew : List Cond := .code yX8_startAnew cX8_startAnew 1 none :: ([.fieldLink RX8 21 "StructureSearch$Sheet" "names" "I", .fieldLink RX8 25 "StructureSearch$Sheet" "rows" "I", .fieldLink RX8 28 "StructureSearch$Sheet" "strength" "I", .fieldLink RX8 31 "StructureSearch$Sheet" "most" "I"] ++ wsX80)
def wsX8_init : List Cond := .code yX8_init cX8_init 1 none :: ([.methodLink RX8 3 objectInit, .instanceMethod objectInit, .code objectInit ⟨#[0xb1]⟩ 1 none, .arrayClass .int, .fieldLink RX8 9 "StructureSearch$Sheet" "values" "[I", .fieldLink RX8 15 "StructureSearch$Sheet" "codes" "[I", .methodLink RX8 18 yX8_startAnew, .instanceMethod yX8_startAnew, .selects RX8 yX8_startAnew yX8_startAnew, .initialized RX8, .code yX8_startAnew cX8_startAnew 1 none, .fieldLink RX8 21 "StructureSearch$Sheet" "names" "I", .fieldLink RX8 25 "StructureSearch$Sheet" "rows" "I", .fieldLink RX8 28 "StructureSearch$Sheet" "strength" "I", .fieldLink RX8 31 "StructureSearch$Sheet" "most" "I"] ++ wsX80)
def wsX8_addName : List Cond := .code yX8_addName cX8_addName 2 (some .int) :: ([.fieldLink RX8 21 "StructureSearch$Sheet" "names" "I", .fieldLink RX8 9 "StructureSearch$Sheet" "values" "[I"] ++ wsX80)
def wsX8_addRow : List Cond := .code yX8_addRow cX8_addRow 2 (some .int) :: ([.fieldLink RX8 25 "StructureSearch$Sheet" "rows" "I", .fieldLink RX8 15 "StructureSearch$Sheet" "codes" "[I"] ++ wsX80)
def wsX8_removeRow : List Cond := .code yX8_removeRow cX8_removeRow 3 (some .int) :: ([.fieldLink RX8 25 "StructureSearch$Sheet" "rows" "I", .fieldLink RX8 15 "StructureSearch$Sheet" "codes" "[I"] ++ wsX80)
def wsX8_valueIn : List Cond := .code yX8_valueIn cX8_valueIn 3 (some .int) :: ([.methodLink RX8 34 yX8_codeOf, .instanceMethod yX8_codeOf, .selects RX8 yX8_codeOf yX8_codeOf, .initialized RX8, .code yX8_codeOf cX8_codeOf 2 (some .int), .fieldLink RX8 25 "StructureSearch$Sheet" "rows" "I", .fieldLink RX8 15 "StructureSearch$Sheet" "codes" "[I"] ++ wsX80)
def wsX9_init : List Cond := .code yX9_init cX9_init 2 none :: ([.methodLink RX9 1 objectInit, .instanceMethod objectInit, .code objectInit ⟨#[0xb1]⟩ 1 none, .fieldLink RX9 7 "StructureSearch$Tables" "sheet" "LStructureSearch$Sheet;", .arrayClass .int, .fieldLink RX9 13 "StructureSearch$Tables" "cells" "[I", .fieldLink RX9 17 "StructureSearch$Tables" "ofFirst" "[I", .fieldLink RX9 20 "StructureSearch$Tables" "ofSecond" "[I"] ++ wsX90)
def wsX9_cell : List Cond := .code yX9_cell cX9_cell 4 (some .int) :: ([.fieldLink RX9 13 "StructureSearch$Tables" "cells" "[I"] ++ wsX90)
def wsX9_count : List Cond := .code yX9_count cX9_count 7 none :: ([.fieldLink RX9 13 "StructureSearch$Tables" "cells" "[I", .fieldLink RX9 7 "StructureSearch$Tables" "sheet" "LStructureSearch$Sheet;", .fieldLink RX9 23 "StructureSearch$Sheet" "rows" "I", .fieldLink RX9 17 "StructureSearch$Tables" "ofFirst" "[I", .fieldLink RX9 20 "StructureSearch$Tables" "ofSecond" "[I", .methodLink RX9 29 yX8_valueIn, .instanceMethod yX8_valueIn, .selects RX8 yX8_valueIn yX8_valueIn, .initialized RX8, .code yX8_valueIn cX8_valueIn 3 (some .int), .methodLink RX8 34 yX8_codeOf, .instanceMethod yX8_codeOf, .selects RX8 yX8_codeOf yX8_codeOf, .code yX8_codeOf cX8_codeOf 2 (some .int), .fieldLink RX8 25 "StructureSearch$Sheet" "rows" "I", .fieldLink RX8 15 "StructureSearch$Sheet" "codes" "[I", .methodLink RX9 33 yX9_cell, .instanceMethod yX9_cell, .selects RX9 yX9_cell yX9_cell, .initialized RX9, .code yX9_cell cX9_cell 4 (some .int)] ++ wsX90 ++ wsX80)
def wsX9_second : List Cond := .code yX9_second cX9_second 2 (some .int) :: ([.fieldLink RX9 20 "StructureSearch$Tables" "ofSecond" "[I"] ++ wsX90)
def wsX9_factorial : List Cond := .code yX9_factorial cX9_factorial 1 (some .long) :: ([.fieldLink RX9 51 "StructureSearch$Tables" "FACTORIALS" "[J"])
def wsX9_deals : List Cond := .code yX9_deals cX9_deals 3 (some .long) :: ([.fieldLink RX9 51 "StructureSearch$Tables" "FACTORIALS" "[J", .methodLink RX9 55 yX9_factorial, .static yX9_factorial, .initialized RX9, .code yX9_factorial cX9_factorial 1 (some .long)])
def wsX9_allWays : List Cond := .code yX9_allWays cX9_allWays 1 (some .long) :: ([.methodLink RX9 36 yX9_second, .instanceMethod yX9_second, .selects RX9 yX9_second yX9_second, .initialized RX9, .code yX9_second cX9_second 2 (some .int), .fieldLink RX9 20 "StructureSearch$Tables" "ofSecond" "[I", .methodLink RX9 40 yX9_deals, .static yX9_deals, .code yX9_deals cX9_deals 3 (some .long), .fieldLink RX9 51 "StructureSearch$Tables" "FACTORIALS" "[J", .methodLink RX9 55 yX9_factorial, .static yX9_factorial, .code yX9_factorial cX9_factorial 1 (some .long)] ++ wsX90)
def wsX9_first : List Cond := .code yX9_first cX9_first 2 (some .int) :: ([.fieldLink RX9 17 "StructureSearch$Tables" "ofFirst" "[I"] ++ wsX90)
def wsX9_waysWith : List Cond := .code yX9_waysWith cX9_waysWith 17 (some .long) :: ([.methodLink RX9 36 yX9_second, .instanceMethod yX9_second, .selects RX9 yX9_second yX9_second, .initialized RX9, .code yX9_second cX9_second 2 (some .int), .fieldLink RX9 20 "StructureSearch$Tables" "ofSecond" "[I", .methodLink RX9 44 yX9_first, .instanceMethod yX9_first, .selects RX9 yX9_first yX9_first, .code yX9_first cX9_first 2 (some .int), .fieldLink RX9 17 "StructureSearch$Tables" "ofFirst" "[I", .methodLink RX9 40 yX9_deals, .static yX9_deals, .code yX9_deals cX9_deals 3 (some .long), .fieldLink RX9 51 "StructureSearch$Tables" "FACTORIALS" "[J", .methodLink RX9 55 yX9_factorial, .static yX9_factorial, .code yX9_factorial cX9_factorial 1 (some .long)] ++ wsX90)
def wsX9_waysNotAbove_r1 : List Cond := [Cond.methodLink RX9 33 yX9_cell, Cond.instanceMethod yX9_cell, Cond.selects RX9 yX9_cell yX9_cell, Cond.initialized RX9, Cond.code yX9_cell cX9_cell 4 (some .int), Cond.fieldLink RX9 13 "StructureSearch$Tables" "cells" "[I", Cond.methodLink RX9 40 yX9_deals, Cond.static yX9_deals, Cond.code yX9_deals cX9_deals 3 (some .long), Cond.fieldLink RX9 51 "StructureSearch$Tables" "FACTORIALS" "[J", Cond.methodLink RX9 55 yX9_factorial, Cond.static yX9_factorial, Cond.code yX9_factorial cX9_factorial 1 (some .long), Cond.methodLink RX9 44 yX9_first, Cond.instanceMethod yX9_first, Cond.selects RX9 yX9_first yX9_first, Cond.code yX9_first cX9_first 2 (some .int), Cond.fieldLink RX9 17 "StructureSearch$Tables" "ofFirst" "[I", Cond.methodLink RX9 47 yX9_waysWith, Cond.instanceMethod yX9_waysWith, Cond.selects RX9 yX9_waysWith yX9_waysWith, Cond.code yX9_waysWith cX9_waysWith 17 (some .long), Cond.methodLink RX9 36 yX9_second, Cond.instanceMethod yX9_second]
def wsX9_waysNotAbove_r2 : List Cond := [Cond.selects RX9 yX9_second yX9_second, Cond.code yX9_second cX9_second 2 (some .int), Cond.fieldLink RX9 20 "StructureSearch$Tables" "ofSecond" "[I"]
def wsX9_waysNotAbove : List Cond := .code yX9_waysNotAbove cX9_waysNotAbove 7 (some .long) :: ((wsX9_waysNotAbove_r1 ++ wsX9_waysNotAbove_r2) ++ wsX90)
def wsX10_init_r1 : List Cond := [Cond.methodLink RX10 3 objectInit, Cond.instanceMethod objectInit, Cond.code objectInit ⟨#[0xb1]⟩ 1 none, Cond.classLink RX10 9 RX8, Cond.instantiable RX8 6, Cond.initialized RX8, Cond.fieldLink RX10 12 "StructureSearch" "sheet" "LStructureSearch$Sheet;", Cond.classLink RX10 16 RX5, Cond.instantiable RX5 2, Cond.initialized RX5, Cond.fieldLink RX10 19 "StructureSearch" "powers" "LStructureSearch$Powers;", Cond.classLink RX10 23 RX2, Cond.instantiable RX2 8, Cond.initialized RX2, Cond.fieldLink RX10 28 "StructureSearch" "fits" "LStructureSearch$Fits;", Cond.classLink RX10 32 RX6, Cond.instantiable RX6 3, Cond.initialized RX6, Cond.fieldLink RX10 37 "StructureSearch" "search" "LStructureSearch$Search;", Cond.classLink RX10 41 RX9, Cond.instantiable RX9 4, Cond.initialized RX9, Cond.fieldLink RX10 46 "StructureSearch" "tables" "LStructureSearch$Tables;", Cond.fieldLink RX10 50 "StructureSearch" "shares" "LStructureSearch$Shares;"]
def wsX10_init_r2 : List Cond := [Cond.methodLink RX10 11 yX8_init, Cond.instanceMethod yX8_init, Cond.code yX8_init cX8_init 1 none, Cond.methodLink RX8 3 objectInit, Cond.arrayClass .int, Cond.fieldLink RX8 9 "StructureSearch$Sheet" "values" "[I", Cond.fieldLink RX8 15 "StructureSearch$Sheet" "codes" "[I", Cond.methodLink RX8 18 yX8_startAnew, Cond.instanceMethod yX8_startAnew, Cond.selects RX8 yX8_startAnew yX8_startAnew, Cond.code yX8_startAnew cX8_startAnew 1 none, Cond.fieldLink RX8 21 "StructureSearch$Sheet" "names" "I", Cond.fieldLink RX8 25 "StructureSearch$Sheet" "rows" "I", Cond.fieldLink RX8 28 "StructureSearch$Sheet" "strength" "I", Cond.fieldLink RX8 31 "StructureSearch$Sheet" "most" "I", Cond.methodLink RX10 18 yX5_init, Cond.instanceMethod yX5_init, Cond.code yX5_init cX5_init 1 none, Cond.methodLink RX5 3 objectInit, Cond.fieldLink RX5 11 "StructureSearch$Powers" "power" "[I", Cond.fieldLink RX5 15 "StructureSearch$Powers" "largest" "I", Cond.methodLink RX10 25 yX2_init, Cond.instanceMethod yX2_init, Cond.code yX2_init cX2_init 3 none]
def wsX10_init_r3 : List Cond := [Cond.methodLink RX2 5 objectInit, Cond.fieldLink RX2 11 "StructureSearch$Fits" "sheet" "LStructureSearch$Sheet;", Cond.fieldLink RX2 15 "StructureSearch$Fits" "powers" "LStructureSearch$Powers;", Cond.classLink RX2 19 RX3, Cond.fieldLink RX2 21 "StructureSearch$Fits" "ofNames" "[LStructureSearch$Fraction;", Cond.instantiable RX3 3, Cond.initialized RX3, Cond.fieldLink RX2 28 "StructureSearch$Fits" "ofNothing" "LStructureSearch$Fraction;", Cond.fieldLink RX2 32 "StructureSearch$Fits" "whole" "LStructureSearch$Fraction;", Cond.fieldLink RX2 35 "StructureSearch$Fits" "wholeGraph" "I", Cond.classLink RX2 39 RX1, Cond.instantiable RX1 2, Cond.initialized RX1, Cond.fieldLink RX2 42 "StructureSearch$Fits" "left" "LStructureSearch$Big;", Cond.fieldLink RX2 46 "StructureSearch$Fits" "right" "LStructureSearch$Big;", Cond.methodLink RX2 25 yX3_init, Cond.instanceMethod yX3_init, Cond.code yX3_init cX3_init 2 none, Cond.methodLink RX3 1 objectInit, Cond.classLink RX3 7 RX1, Cond.fieldLink RX3 12 "StructureSearch$Fraction" "above" "LStructureSearch$Big;", Cond.fieldLink RX3 18 "StructureSearch$Fraction" "below" "LStructureSearch$Big;", Cond.fieldLink RX3 21 "StructureSearch$Fraction" "ready" "Z", Cond.methodLink RX3 9 yX1_init]
def wsX10_init_r4 : List Cond := [Cond.instanceMethod yX1_init, Cond.code yX1_init cX1_init 2 none, Cond.methodLink RX1 3 objectInit, Cond.methodLink RX1 9 Lib.Math.max.name, Cond.static Lib.Math.max.name, Cond.initialized "java/lang/Math", Cond.code Lib.Math.max.name Lib.Math.max.code 2 (some .int), Cond.arrayClass .long, Cond.fieldLink RX1 15 "StructureSearch$Big" "words" "[J", Cond.fieldLink RX1 21 "StructureSearch$Big" "used" "I", Cond.methodLink RX2 41 yX1_init, Cond.methodLink RX10 34 yX6_init, Cond.instanceMethod yX6_init, Cond.code yX6_init cX6_init 3 none, Cond.methodLink RX6 3 objectInit, Cond.fieldLink RX6 9 "StructureSearch$Search" "sheet" "LStructureSearch$Sheet;", Cond.fieldLink RX6 15 "StructureSearch$Search" "fits" "LStructureSearch$Fits;", Cond.fieldLink RX6 19 "StructureSearch$Search" "bestOf" "[I", Cond.methodLink RX10 43 yX9_init, Cond.instanceMethod yX9_init, Cond.code yX9_init cX9_init 2 none, Cond.methodLink RX9 1 objectInit, Cond.fieldLink RX9 7 "StructureSearch$Tables" "sheet" "LStructureSearch$Sheet;", Cond.fieldLink RX9 13 "StructureSearch$Tables" "cells" "[I"]
def wsX10_init_r5 : List Cond := [Cond.fieldLink RX9 17 "StructureSearch$Tables" "ofFirst" "[I", Cond.fieldLink RX9 20 "StructureSearch$Tables" "ofSecond" "[I"]
def wsX10_init : List Cond := .code yX10_init cX10_init 1 none :: ((wsX10_init_r1 ++ (wsX10_init_r2 ++ (wsX10_init_r3 ++ (wsX10_init_r4 ++ wsX10_init_r5)))) ++ wsX80 ++ wsX100 ++ wsX50 ++ wsX20 ++ wsX60 ++ wsX90 ++ wsX30 ++ wsX10)
def wsX10_forgetShares : List Cond := .code yX10_forgetShares cX10_forgetShares 1 none :: ([.fieldLink RX10 50 "StructureSearch" "shares" "LStructureSearch$Shares;", .methodLink RX10 222 yX7_forget, .instanceMethod yX7_forget, .selects RX7 yX7_forget yX7_forget, .initialized RX7, .code yX7_forget cX7_forget 1 none, .fieldLink RX7 59 "StructureSearch$Shares" "share" "LStructureSearch$Fraction;", .fieldLink RX7 70 "StructureSearch$Fraction" "ready" "Z"] ++ wsX100 ++ wsX70 ++ wsX30)
def wsX10_forgetFits : List Cond := .code yX10_forgetFits cX10_forgetFits 1 none :: ([.fieldLink RX10 28 "StructureSearch" "fits" "LStructureSearch$Fits;", .methodLink RX10 219 yX2_forget, .instanceMethod yX2_forget, .selects RX2 yX2_forget yX2_forget, .initialized RX2, .code yX2_forget cX2_forget 2 none, .fieldLink RX2 32 "StructureSearch$Fits" "whole" "LStructureSearch$Fraction;", .fieldLink RX2 49 "StructureSearch$Fraction" "ready" "Z", .fieldLink RX2 21 "StructureSearch$Fits" "ofNames" "[LStructureSearch$Fraction;", .methodLink RX10 101 yX10_forgetShares, .instanceMethod yX10_forgetShares, .selects RX10 yX10_forgetShares yX10_forgetShares, .initialized RX10, .code yX10_forgetShares cX10_forgetShares 1 none, .fieldLink RX10 50 "StructureSearch" "shares" "LStructureSearch$Shares;", .methodLink RX10 222 yX7_forget, .instanceMethod yX7_forget, .selects RX7 yX7_forget yX7_forget, .initialized RX7, .code yX7_forget cX7_forget 1 none, .fieldLink RX7 59 "StructureSearch$Shares" "share" "LStructureSearch$Fraction;", .fieldLink RX7 70 "StructureSearch$Fraction" "ready" "Z"] ++ wsX100 ++ wsX20 ++ wsX30 ++ wsX70)
def wsX10_clear_r1 : List Cond := [Cond.fieldLink RX10 12 "StructureSearch" "sheet" "LStructureSearch$Sheet;", Cond.fieldLink RX10 54 "StructureSearch$Sheet" "rows" "I", Cond.methodLink RX10 58 yX8_startAnew, Cond.instanceMethod yX8_startAnew, Cond.selects RX8 yX8_startAnew yX8_startAnew, Cond.initialized RX8, Cond.code yX8_startAnew cX8_startAnew 1 none, Cond.fieldLink RX8 21 "StructureSearch$Sheet" "names" "I", Cond.fieldLink RX8 25 "StructureSearch$Sheet" "rows" "I", Cond.fieldLink RX8 28 "StructureSearch$Sheet" "strength" "I", Cond.fieldLink RX8 31 "StructureSearch$Sheet" "most" "I", Cond.methodLink RX10 61 yX10_forgetFits, Cond.instanceMethod yX10_forgetFits, Cond.selects RX10 yX10_forgetFits yX10_forgetFits, Cond.initialized RX10, Cond.code yX10_forgetFits cX10_forgetFits 1 none, Cond.fieldLink RX10 28 "StructureSearch" "fits" "LStructureSearch$Fits;", Cond.methodLink RX10 219 yX2_forget, Cond.instanceMethod yX2_forget, Cond.selects RX2 yX2_forget yX2_forget, Cond.initialized RX2, Cond.code yX2_forget cX2_forget 2 none, Cond.fieldLink RX2 32 "StructureSearch$Fits" "whole" "LStructureSearch$Fraction;", Cond.fieldLink RX2 49 "StructureSearch$Fraction" "ready" "Z"]
def wsX10_clear_r2 : List Cond := [Cond.fieldLink RX2 21 "StructureSearch$Fits" "ofNames" "[LStructureSearch$Fraction;", Cond.methodLink RX10 101 yX10_forgetShares, Cond.instanceMethod yX10_forgetShares, Cond.selects RX10 yX10_forgetShares yX10_forgetShares, Cond.code yX10_forgetShares cX10_forgetShares 1 none, Cond.fieldLink RX10 50 "StructureSearch" "shares" "LStructureSearch$Shares;", Cond.methodLink RX10 222 yX7_forget, Cond.instanceMethod yX7_forget, Cond.selects RX7 yX7_forget yX7_forget, Cond.initialized RX7, Cond.code yX7_forget cX7_forget 1 none, Cond.fieldLink RX7 59 "StructureSearch$Shares" "share" "LStructureSearch$Fraction;", Cond.fieldLink RX7 70 "StructureSearch$Fraction" "ready" "Z"]
def wsX10_clear : List Cond := .code yX10_clear cX10_clear 2 (some .int) :: ((wsX10_clear_r1 ++ wsX10_clear_r2) ++ wsX100 ++ wsX80 ++ wsX20 ++ wsX30 ++ wsX70)
def wsX10_name_r1 : List Cond := [Cond.fieldLink RX10 12 "StructureSearch" "sheet" "LStructureSearch$Sheet;", Cond.fieldLink RX10 54 "StructureSearch$Sheet" "rows" "I", Cond.fieldLink RX10 64 "StructureSearch$Sheet" "names" "I", Cond.methodLink RX10 61 yX10_forgetFits, Cond.instanceMethod yX10_forgetFits, Cond.selects RX10 yX10_forgetFits yX10_forgetFits, Cond.initialized RX10, Cond.code yX10_forgetFits cX10_forgetFits 1 none, Cond.fieldLink RX10 28 "StructureSearch" "fits" "LStructureSearch$Fits;", Cond.methodLink RX10 219 yX2_forget, Cond.instanceMethod yX2_forget, Cond.selects RX2 yX2_forget yX2_forget, Cond.initialized RX2, Cond.code yX2_forget cX2_forget 2 none, Cond.fieldLink RX2 32 "StructureSearch$Fits" "whole" "LStructureSearch$Fraction;", Cond.fieldLink RX2 49 "StructureSearch$Fraction" "ready" "Z", Cond.fieldLink RX2 21 "StructureSearch$Fits" "ofNames" "[LStructureSearch$Fraction;", Cond.methodLink RX10 101 yX10_forgetShares, Cond.instanceMethod yX10_forgetShares, Cond.selects RX10 yX10_forgetShares yX10_forgetShares, Cond.code yX10_forgetShares cX10_forgetShares 1 none, Cond.fieldLink RX10 50 "StructureSearch" "shares" "LStructureSearch$Shares;", Cond.methodLink RX10 222 yX7_forget, Cond.instanceMethod yX7_forget]
def wsX10_name_r2 : List Cond := [Cond.selects RX7 yX7_forget yX7_forget, Cond.initialized RX7, Cond.code yX7_forget cX7_forget 1 none, Cond.fieldLink RX7 59 "StructureSearch$Shares" "share" "LStructureSearch$Fraction;", Cond.fieldLink RX7 70 "StructureSearch$Fraction" "ready" "Z", Cond.methodLink RX10 67 yX8_addName, Cond.instanceMethod yX8_addName, Cond.selects RX8 yX8_addName yX8_addName, Cond.initialized RX8, Cond.code yX8_addName cX8_addName 2 (some .int), Cond.fieldLink RX8 21 "StructureSearch$Sheet" "names" "I", Cond.fieldLink RX8 9 "StructureSearch$Sheet" "values" "[I"]
def wsX10_name : List Cond := .code yX10_name cX10_name 2 (some .int) :: ((wsX10_name_r1 ++ wsX10_name_r2) ++ wsX100 ++ wsX80 ++ wsX20 ++ wsX30 ++ wsX70)
def wsX10_isName : List Cond := .code yX10_isName cX10_isName 2 (some .boolean) :: ([.fieldLink RX10 12 "StructureSearch" "sheet" "LStructureSearch$Sheet;", .fieldLink RX10 64 "StructureSearch$Sheet" "names" "I"] ++ wsX100 ++ wsX80)
def wsX10_isValue : List Cond := .code yX10_isValue cX10_isValue 3 (some .boolean) :: ([.fieldLink RX10 12 "StructureSearch" "sheet" "LStructureSearch$Sheet;", .methodLink RX10 104 yX8_valuesOf, .instanceMethod yX8_valuesOf, .selects RX8 yX8_valuesOf yX8_valuesOf, .initialized RX8, .code yX8_valuesOf cX8_valuesOf 2 (some .int), .fieldLink RX8 21 "StructureSearch$Sheet" "names" "I", .fieldLink RX8 9 "StructureSearch$Sheet" "values" "[I"] ++ wsX100 ++ wsX80)
def wsX10_fitsName : List Cond := .code yX10_fitsName cX10_fitsName 3 (some .boolean) :: ([.methodLink RX10 89 yX10_isName, .instanceMethod yX10_isName, .selects RX10 yX10_isName yX10_isName, .initialized RX10, .code yX10_isName cX10_isName 2 (some .boolean), .fieldLink RX10 12 "StructureSearch" "sheet" "LStructureSearch$Sheet;", .fieldLink RX10 64 "StructureSearch$Sheet" "names" "I", .methodLink RX10 197 yX10_isValue, .instanceMethod yX10_isValue, .selects RX10 yX10_isValue yX10_isValue, .code yX10_isValue cX10_isValue 3 (some .boolean), .methodLink RX10 104 yX8_valuesOf, .instanceMethod yX8_valuesOf, .selects RX8 yX8_valuesOf yX8_valuesOf, .initialized RX8, .code yX8_valuesOf cX8_valuesOf 2 (some .int), .fieldLink RX8 21 "StructureSearch$Sheet" "names" "I", .fieldLink RX8 9 "StructureSearch$Sheet" "values" "[I"] ++ wsX100 ++ wsX80)
def wsX10_coded : List Cond := .code yX10_coded cX10_coded 3 (some .int) :: ([.methodLink RX10 89 yX10_isName, .instanceMethod yX10_isName, .selects RX10 yX10_isName yX10_isName, .initialized RX10, .code yX10_isName cX10_isName 2 (some .boolean), .fieldLink RX10 12 "StructureSearch" "sheet" "LStructureSearch$Sheet;", .fieldLink RX10 64 "StructureSearch$Sheet" "names" "I"] ++ wsX100 ++ wsX80)
def wsX10_row_r1 : List Cond := [Cond.fieldLink RX10 12 "StructureSearch" "sheet" "LStructureSearch$Sheet;", Cond.fieldLink RX10 64 "StructureSearch$Sheet" "names" "I", Cond.fieldLink RX10 54 "StructureSearch$Sheet" "rows" "I", Cond.methodLink RX10 71 yX10_fitsName, Cond.instanceMethod yX10_fitsName, Cond.selects RX10 yX10_fitsName yX10_fitsName, Cond.initialized RX10, Cond.code yX10_fitsName cX10_fitsName 3 (some .boolean), Cond.methodLink RX10 89 yX10_isName, Cond.instanceMethod yX10_isName, Cond.selects RX10 yX10_isName yX10_isName, Cond.code yX10_isName cX10_isName 2 (some .boolean), Cond.methodLink RX10 197 yX10_isValue, Cond.instanceMethod yX10_isValue, Cond.selects RX10 yX10_isValue yX10_isValue, Cond.code yX10_isValue cX10_isValue 3 (some .boolean), Cond.methodLink RX10 104 yX8_valuesOf, Cond.instanceMethod yX8_valuesOf, Cond.selects RX8 yX8_valuesOf yX8_valuesOf, Cond.initialized RX8, Cond.code yX8_valuesOf cX8_valuesOf 2 (some .int), Cond.fieldLink RX8 21 "StructureSearch$Sheet" "names" "I", Cond.fieldLink RX8 9 "StructureSearch$Sheet" "values" "[I", Cond.methodLink RX10 61 yX10_forgetFits]
def wsX10_row_r2 : List Cond := [Cond.instanceMethod yX10_forgetFits, Cond.selects RX10 yX10_forgetFits yX10_forgetFits, Cond.code yX10_forgetFits cX10_forgetFits 1 none, Cond.fieldLink RX10 28 "StructureSearch" "fits" "LStructureSearch$Fits;", Cond.methodLink RX10 219 yX2_forget, Cond.instanceMethod yX2_forget, Cond.selects RX2 yX2_forget yX2_forget, Cond.initialized RX2, Cond.code yX2_forget cX2_forget 2 none, Cond.fieldLink RX2 32 "StructureSearch$Fits" "whole" "LStructureSearch$Fraction;", Cond.fieldLink RX2 49 "StructureSearch$Fraction" "ready" "Z", Cond.fieldLink RX2 21 "StructureSearch$Fits" "ofNames" "[LStructureSearch$Fraction;", Cond.methodLink RX10 101 yX10_forgetShares, Cond.instanceMethod yX10_forgetShares, Cond.selects RX10 yX10_forgetShares yX10_forgetShares, Cond.code yX10_forgetShares cX10_forgetShares 1 none, Cond.fieldLink RX10 50 "StructureSearch" "shares" "LStructureSearch$Shares;", Cond.methodLink RX10 222 yX7_forget, Cond.instanceMethod yX7_forget, Cond.selects RX7 yX7_forget yX7_forget, Cond.initialized RX7, Cond.code yX7_forget cX7_forget 1 none, Cond.fieldLink RX7 59 "StructureSearch$Shares" "share" "LStructureSearch$Fraction;", Cond.fieldLink RX7 70 "StructureSearch$Fraction" "ready" "Z"]
def wsX10_row_r3 : List Cond := [Cond.methodLink RX10 75 yX10_coded, Cond.instanceMethod yX10_coded, Cond.selects RX10 yX10_coded yX10_coded, Cond.code yX10_coded cX10_coded 3 (some .int), Cond.methodLink RX10 79 yX8_addRow, Cond.instanceMethod yX8_addRow, Cond.selects RX8 yX8_addRow yX8_addRow, Cond.code yX8_addRow cX8_addRow 2 (some .int), Cond.fieldLink RX8 25 "StructureSearch$Sheet" "rows" "I", Cond.fieldLink RX8 15 "StructureSearch$Sheet" "codes" "[I"]
def wsX10_row : List Cond := .code yX10_row cX10_row 7 (some .int) :: ((wsX10_row_r1 ++ (wsX10_row_r2 ++ wsX10_row_r3)) ++ wsX100 ++ wsX80 ++ wsX20 ++ wsX30 ++ wsX70)
def wsX10_isRow : List Cond := .code yX10_isRow cX10_isRow 2 (some .boolean) :: ([.fieldLink RX10 12 "StructureSearch" "sheet" "LStructureSearch$Sheet;", .fieldLink RX10 54 "StructureSearch$Sheet" "rows" "I"] ++ wsX100 ++ wsX80)
def wsX10_drop_r1 : List Cond := [Cond.fieldLink RX10 12 "StructureSearch" "sheet" "LStructureSearch$Sheet;", Cond.methodLink RX10 82 yX10_isRow, Cond.instanceMethod yX10_isRow, Cond.selects RX10 yX10_isRow yX10_isRow, Cond.initialized RX10, Cond.code yX10_isRow cX10_isRow 2 (some .boolean), Cond.fieldLink RX10 54 "StructureSearch$Sheet" "rows" "I", Cond.methodLink RX10 61 yX10_forgetFits, Cond.instanceMethod yX10_forgetFits, Cond.selects RX10 yX10_forgetFits yX10_forgetFits, Cond.code yX10_forgetFits cX10_forgetFits 1 none, Cond.fieldLink RX10 28 "StructureSearch" "fits" "LStructureSearch$Fits;", Cond.methodLink RX10 219 yX2_forget, Cond.instanceMethod yX2_forget, Cond.selects RX2 yX2_forget yX2_forget, Cond.initialized RX2, Cond.code yX2_forget cX2_forget 2 none, Cond.fieldLink RX2 32 "StructureSearch$Fits" "whole" "LStructureSearch$Fraction;", Cond.fieldLink RX2 49 "StructureSearch$Fraction" "ready" "Z", Cond.fieldLink RX2 21 "StructureSearch$Fits" "ofNames" "[LStructureSearch$Fraction;", Cond.methodLink RX10 101 yX10_forgetShares, Cond.instanceMethod yX10_forgetShares, Cond.selects RX10 yX10_forgetShares yX10_forgetShares, Cond.code yX10_forgetShares cX10_forgetShares 1 none]
def wsX10_drop_r2 : List Cond := [Cond.fieldLink RX10 50 "StructureSearch" "shares" "LStructureSearch$Shares;", Cond.methodLink RX10 222 yX7_forget, Cond.instanceMethod yX7_forget, Cond.selects RX7 yX7_forget yX7_forget, Cond.initialized RX7, Cond.code yX7_forget cX7_forget 1 none, Cond.fieldLink RX7 59 "StructureSearch$Shares" "share" "LStructureSearch$Fraction;", Cond.fieldLink RX7 70 "StructureSearch$Fraction" "ready" "Z", Cond.methodLink RX10 86 yX8_removeRow, Cond.instanceMethod yX8_removeRow, Cond.selects RX8 yX8_removeRow yX8_removeRow, Cond.initialized RX8, Cond.code yX8_removeRow cX8_removeRow 3 (some .int), Cond.fieldLink RX8 25 "StructureSearch$Sheet" "rows" "I", Cond.fieldLink RX8 15 "StructureSearch$Sheet" "codes" "[I"]
def wsX10_drop : List Cond := .code yX10_drop cX10_drop 2 (some .int) :: ((wsX10_drop_r1 ++ wsX10_drop_r2) ++ wsX100 ++ wsX80 ++ wsX20 ++ wsX30 ++ wsX70)
def wsX10_value : List Cond := .code yX10_value cX10_value 3 (some .int) :: ([.fieldLink RX10 12 "StructureSearch" "sheet" "LStructureSearch$Sheet;", .methodLink RX10 82 yX10_isRow, .instanceMethod yX10_isRow, .selects RX10 yX10_isRow yX10_isRow, .initialized RX10, .code yX10_isRow cX10_isRow 2 (some .boolean), .fieldLink RX10 54 "StructureSearch$Sheet" "rows" "I", .methodLink RX10 89 yX10_isName, .instanceMethod yX10_isName, .selects RX10 yX10_isName yX10_isName, .code yX10_isName cX10_isName 2 (some .boolean), .fieldLink RX10 64 "StructureSearch$Sheet" "names" "I", .methodLink RX10 92 yX8_valueIn, .instanceMethod yX8_valueIn, .selects RX8 yX8_valueIn yX8_valueIn, .initialized RX8, .code yX8_valueIn cX8_valueIn 3 (some .int), .methodLink RX8 34 yX8_codeOf, .instanceMethod yX8_codeOf, .selects RX8 yX8_codeOf yX8_codeOf, .code yX8_codeOf cX8_codeOf 2 (some .int), .fieldLink RX8 25 "StructureSearch$Sheet" "rows" "I", .fieldLink RX8 15 "StructureSearch$Sheet" "codes" "[I"] ++ wsX100 ++ wsX80)
def wsX10_set_r1 : List Cond := [Cond.fieldLink RX10 12 "StructureSearch" "sheet" "LStructureSearch$Sheet;", Cond.fieldLink RX10 95 "StructureSearch$Sheet" "strength" "I", Cond.fieldLink RX10 98 "StructureSearch$Sheet" "most" "I", Cond.methodLink RX10 61 yX10_forgetFits, Cond.instanceMethod yX10_forgetFits, Cond.selects RX10 yX10_forgetFits yX10_forgetFits, Cond.initialized RX10, Cond.code yX10_forgetFits cX10_forgetFits 1 none, Cond.fieldLink RX10 28 "StructureSearch" "fits" "LStructureSearch$Fits;", Cond.methodLink RX10 219 yX2_forget, Cond.instanceMethod yX2_forget, Cond.selects RX2 yX2_forget yX2_forget, Cond.initialized RX2, Cond.code yX2_forget cX2_forget 2 none, Cond.fieldLink RX2 32 "StructureSearch$Fits" "whole" "LStructureSearch$Fraction;", Cond.fieldLink RX2 49 "StructureSearch$Fraction" "ready" "Z", Cond.fieldLink RX2 21 "StructureSearch$Fits" "ofNames" "[LStructureSearch$Fraction;", Cond.methodLink RX10 101 yX10_forgetShares, Cond.instanceMethod yX10_forgetShares, Cond.selects RX10 yX10_forgetShares yX10_forgetShares, Cond.code yX10_forgetShares cX10_forgetShares 1 none, Cond.fieldLink RX10 50 "StructureSearch" "shares" "LStructureSearch$Shares;", Cond.methodLink RX10 222 yX7_forget, Cond.instanceMethod yX7_forget]
def wsX10_set_r2 : List Cond := [Cond.selects RX7 yX7_forget yX7_forget, Cond.initialized RX7, Cond.code yX7_forget cX7_forget 1 none, Cond.fieldLink RX7 59 "StructureSearch$Shares" "share" "LStructureSearch$Fraction;", Cond.fieldLink RX7 70 "StructureSearch$Fraction" "ready" "Z"]
def wsX10_set : List Cond := .code yX10_set cX10_set 4 (some .int) :: ((wsX10_set_r1 ++ wsX10_set_r2) ++ wsX100 ++ wsX80 ++ wsX20 ++ wsX30 ++ wsX70)
def wsX10_about : List Cond := .code yX10_about cX10_about 2 (some .int) :: ([.fieldLink RX10 12 "StructureSearch" "sheet" "LStructureSearch$Sheet;", .fieldLink RX10 64 "StructureSearch$Sheet" "names" "I", .fieldLink RX10 54 "StructureSearch$Sheet" "rows" "I", .fieldLink RX10 95 "StructureSearch$Sheet" "strength" "I", .fieldLink RX10 98 "StructureSearch$Sheet" "most" "I", .methodLink RX10 89 yX10_isName, .instanceMethod yX10_isName, .selects RX10 yX10_isName yX10_isName, .initialized RX10, .code yX10_isName cX10_isName 2 (some .boolean), .methodLink RX10 104 yX8_valuesOf, .instanceMethod yX8_valuesOf, .selects RX8 yX8_valuesOf yX8_valuesOf, .initialized RX8, .code yX8_valuesOf cX8_valuesOf 2 (some .int), .fieldLink RX8 21 "StructureSearch$Sheet" "names" "I", .fieldLink RX8 9 "StructureSearch$Sheet" "values" "[I"] ++ wsX100 ++ wsX80)
def wsX10_isGraph : List Cond := .code yX10_isGraph cX10_isGraph 2 (some .boolean) :: ([.fieldLink RX10 12 "StructureSearch" "sheet" "LStructureSearch$Sheet;", .fieldLink RX10 64 "StructureSearch$Sheet" "names" "I", .methodLink RX10 107 yX0_areGraph, .static yX0_areGraph, .initialized RX0, .code yX0_areGraph cX0_areGraph 5 (some .boolean), .methodLink RX0 19 yX0_fromAll, .static yX0_fromAll, .code yX0_fromAll cX0_fromAll 4 (some .int), .methodLink RX0 15 yX0_isIn, .static yX0_isIn, .code yX0_isIn cX0_isIn 2 (some .boolean), .methodLink RX0 9 yX0_arc, .static yX0_arc, .code yX0_arc cX0_arc 2 (some .int), .methodLink RX0 22 yX0_haveNoRound, .static yX0_haveNoRound, .code yX0_haveNoRound cX0_haveNoRound 5 (some .boolean), .methodLink RX0 25 yX0_nextAfter, .static yX0_nextAfter, .code yX0_nextAfter cX0_nextAfter 4 (some .int), .methodLink RX0 29 yX0_parentsIn, .static yX0_parentsIn, .code yX0_parentsIn cX0_parentsIn 4 (some .int)] ++ wsX100 ++ wsX80)
def wsX10_order_r1 : List Cond := [Cond.fieldLink RX10 12 "StructureSearch" "sheet" "LStructureSearch$Sheet;", Cond.fieldLink RX10 64 "StructureSearch$Sheet" "names" "I", Cond.methodLink RX10 112 yX10_isGraph, Cond.instanceMethod yX10_isGraph, Cond.selects RX10 yX10_isGraph yX10_isGraph, Cond.initialized RX10, Cond.code yX10_isGraph cX10_isGraph 2 (some .boolean), Cond.methodLink RX10 107 yX0_areGraph, Cond.static yX0_areGraph, Cond.initialized RX0, Cond.code yX0_areGraph cX0_areGraph 5 (some .boolean), Cond.methodLink RX0 19 yX0_fromAll, Cond.static yX0_fromAll, Cond.code yX0_fromAll cX0_fromAll 4 (some .int), Cond.methodLink RX0 15 yX0_isIn, Cond.static yX0_isIn, Cond.code yX0_isIn cX0_isIn 2 (some .boolean), Cond.methodLink RX0 9 yX0_arc, Cond.static yX0_arc, Cond.code yX0_arc cX0_arc 2 (some .int), Cond.methodLink RX0 22 yX0_haveNoRound, Cond.static yX0_haveNoRound, Cond.code yX0_haveNoRound cX0_haveNoRound 5 (some .boolean), Cond.methodLink RX0 25 yX0_nextAfter]
def wsX10_order_r2 : List Cond := [Cond.static yX0_nextAfter, Cond.code yX0_nextAfter cX0_nextAfter 4 (some .int), Cond.methodLink RX0 29 yX0_parentsIn, Cond.static yX0_parentsIn, Cond.code yX0_parentsIn cX0_parentsIn 4 (some .int), Cond.methodLink RX10 89 yX10_isName, Cond.instanceMethod yX10_isName, Cond.selects RX10 yX10_isName yX10_isName, Cond.code yX10_isName cX10_isName 2 (some .boolean), Cond.methodLink RX10 115 yX0_nextAfter]
def wsX10_order : List Cond := .code yX10_order cX10_order 6 (some .int) :: ((wsX10_order_r1 ++ wsX10_order_r2) ++ wsX100 ++ wsX80)
def wsX10_isPart : List Cond := .code yX10_isPart cX10_isPart 1 (some .boolean) :: ([])
def wsX10_size_r1 : List Cond := [Cond.fieldLink RX10 28 "StructureSearch" "fits" "LStructureSearch$Fits;", Cond.methodLink RX10 112 yX10_isGraph, Cond.instanceMethod yX10_isGraph, Cond.selects RX10 yX10_isGraph yX10_isGraph, Cond.initialized RX10, Cond.code yX10_isGraph cX10_isGraph 2 (some .boolean), Cond.fieldLink RX10 12 "StructureSearch" "sheet" "LStructureSearch$Sheet;", Cond.fieldLink RX10 64 "StructureSearch$Sheet" "names" "I", Cond.methodLink RX10 107 yX0_areGraph, Cond.static yX0_areGraph, Cond.initialized RX0, Cond.code yX0_areGraph cX0_areGraph 5 (some .boolean), Cond.methodLink RX0 19 yX0_fromAll, Cond.static yX0_fromAll, Cond.code yX0_fromAll cX0_fromAll 4 (some .int), Cond.methodLink RX0 15 yX0_isIn, Cond.static yX0_isIn, Cond.code yX0_isIn cX0_isIn 2 (some .boolean), Cond.methodLink RX0 9 yX0_arc, Cond.static yX0_arc, Cond.code yX0_arc cX0_arc 2 (some .int), Cond.methodLink RX0 22 yX0_haveNoRound, Cond.static yX0_haveNoRound, Cond.code yX0_haveNoRound cX0_haveNoRound 5 (some .boolean)]
def wsX10_size_r2 : List Cond := [Cond.methodLink RX0 25 yX0_nextAfter, Cond.static yX0_nextAfter, Cond.code yX0_nextAfter cX0_nextAfter 4 (some .int), Cond.methodLink RX0 29 yX0_parentsIn, Cond.static yX0_parentsIn, Cond.code yX0_parentsIn cX0_parentsIn 4 (some .int), Cond.methodLink RX10 119 yX10_isPart, Cond.static yX10_isPart, Cond.code yX10_isPart cX10_isPart 1 (some .boolean), Cond.methodLink RX10 122 yX2_ofGraph, Cond.instanceMethod yX2_ofGraph, Cond.selects RX2 yX2_ofGraph yX2_ofGraph, Cond.initialized RX2, Cond.code yX2_ofGraph cX2_ofGraph 3 (some (.object "StructureSearch$Fraction")), Cond.fieldLink RX2 32 "StructureSearch$Fits" "whole" "LStructureSearch$Fraction;", Cond.fieldLink RX2 49 "StructureSearch$Fraction" "ready" "Z", Cond.fieldLink RX2 35 "StructureSearch$Fits" "wholeGraph" "I", Cond.fieldLink RX2 15 "StructureSearch$Fits" "powers" "LStructureSearch$Powers;", Cond.fieldLink RX2 11 "StructureSearch$Fits" "sheet" "LStructureSearch$Sheet;", Cond.fieldLink RX2 58 "StructureSearch$Sheet" "names" "I", Cond.fieldLink RX2 73 "StructureSearch$Fraction" "above" "LStructureSearch$Big;", Cond.fieldLink RX2 80 "StructureSearch$Fraction" "below" "LStructureSearch$Big;", Cond.methodLink RX2 53 yX5_forget, Cond.instanceMethod yX5_forget]
def wsX10_size_r3 : List Cond := [Cond.selects RX5 yX5_forget yX5_forget, Cond.initialized RX5, Cond.code yX5_forget cX5_forget 2 none, Cond.fieldLink RX5 15 "StructureSearch$Powers" "largest" "I", Cond.fieldLink RX5 11 "StructureSearch$Powers" "power" "[I", Cond.methodLink RX2 63 yX0_parentsIn, Cond.methodLink RX2 69 yX8_pourFit, Cond.instanceMethod yX8_pourFit, Cond.selects RX8 yX8_pourFit yX8_pourFit, Cond.initialized RX8, Cond.code yX8_pourFit cX8_pourFit 13 none, Cond.fieldLink RX8 21 "StructureSearch$Sheet" "names" "I", Cond.fieldLink RX8 25 "StructureSearch$Sheet" "rows" "I", Cond.fieldLink RX8 28 "StructureSearch$Sheet" "strength" "I", Cond.methodLink RX8 38 yX8_valuesOf, Cond.instanceMethod yX8_valuesOf, Cond.selects RX8 yX8_valuesOf yX8_valuesOf, Cond.code yX8_valuesOf cX8_valuesOf 2 (some .int), Cond.fieldLink RX8 9 "StructureSearch$Sheet" "values" "[I", Cond.methodLink RX8 41 yX0_isIn, Cond.methodLink RX8 34 yX8_codeOf, Cond.instanceMethod yX8_codeOf, Cond.selects RX8 yX8_codeOf yX8_codeOf, Cond.code yX8_codeOf cX8_codeOf 2 (some .int)]
def wsX10_size_r4 : List Cond := [Cond.fieldLink RX8 15 "StructureSearch$Sheet" "codes" "[I", Cond.methodLink RX8 47 yX5_multiply, Cond.instanceMethod yX5_multiply, Cond.selects RX5 yX5_multiply yX5_multiply, Cond.code yX5_multiply cX5_multiply 7 none, Cond.fieldLink RX5 19 "StructureSearch$Powers" "SMALL_PRIMES" "[I", Cond.methodLink RX5 22 Lib.Math.max.name, Cond.static Lib.Math.max.name, Cond.initialized "java/lang/Math", Cond.code Lib.Math.max.name Lib.Math.max.code 2 (some .int), Cond.methodLink RX2 76 yX5_write, Cond.instanceMethod yX5_write, Cond.selects RX5 yX5_write yX5_write, Cond.code yX5_write cX5_write 8 none, Cond.constantLong RX5 34 (4294967295), Cond.methodLink RX5 28 yX1_become, Cond.instanceMethod yX1_become, Cond.selects RX1 yX1_become yX1_become, Cond.initialized RX1, Cond.code yX1_become cX1_become 2 none, Cond.fieldLink RX1 21 "StructureSearch$Big" "used" "I", Cond.fieldLink RX1 15 "StructureSearch$Big" "words" "[J", Cond.methodLink RX5 36 yX1_timesSmall, Cond.instanceMethod yX1_timesSmall]
def wsX10_size_r5 : List Cond := [Cond.selects RX1 yX1_timesSmall yX1_timesSmall, Cond.code yX1_timesSmall cX1_timesSmall 9 none, Cond.methodLink RX1 25 Lib.Math.min.name, Cond.static Lib.Math.min.name, Cond.code Lib.Math.min.name Lib.Math.min.code 2 (some .int), Cond.constantLong RX1 38 (4294967295), Cond.methodLink RX10 126 yX3_side, Cond.instanceMethod yX3_side, Cond.selects RX3 yX3_side yX3_side, Cond.initialized RX3, Cond.code yX3_side cX3_side 2 (some (.object "StructureSearch$Big")), Cond.fieldLink RX3 12 "StructureSearch$Fraction" "above" "LStructureSearch$Big;", Cond.fieldLink RX3 18 "StructureSearch$Fraction" "below" "LStructureSearch$Big;", Cond.methodLink RX10 132 yX1_length, Cond.instanceMethod yX1_length, Cond.selects RX1 yX1_length yX1_length, Cond.code yX1_length cX1_length 1 (some .int)]
def wsX10_size : List Cond := .code yX10_size cX10_size 3 (some .int) :: ((wsX10_size_r1 ++ (wsX10_size_r2 ++ (wsX10_size_r3 ++ (wsX10_size_r4 ++ wsX10_size_r5)))) ++ wsX100 ++ wsX80 ++ wsX20 ++ wsX30 ++ wsX50 ++ wsX10)
def wsX10_wordOf : List Cond := .code yX10_wordOf cX10_wordOf 2 (some .long) :: ([.constantLong RX10 138 (-1), .methodLink RX10 132 yX1_length, .instanceMethod yX1_length, .selects RX1 yX1_length yX1_length, .initialized RX1, .code yX1_length cX1_length 1 (some .int), .fieldLink RX1 21 "StructureSearch$Big" "used" "I", .methodLink RX10 210 yX1_at, .instanceMethod yX1_at, .selects RX1 yX1_at yX1_at, .code yX1_at cX1_at 2 (some .long), .fieldLink RX1 15 "StructureSearch$Big" "words" "[J"] ++ wsX10)
def wsX10_word_r1 : List Cond := [Cond.constantLong RX10 138 (-1), Cond.fieldLink RX10 28 "StructureSearch" "fits" "LStructureSearch$Fits;", Cond.methodLink RX10 112 yX10_isGraph, Cond.instanceMethod yX10_isGraph, Cond.selects RX10 yX10_isGraph yX10_isGraph, Cond.initialized RX10, Cond.code yX10_isGraph cX10_isGraph 2 (some .boolean), Cond.fieldLink RX10 12 "StructureSearch" "sheet" "LStructureSearch$Sheet;", Cond.fieldLink RX10 64 "StructureSearch$Sheet" "names" "I", Cond.methodLink RX10 107 yX0_areGraph, Cond.static yX0_areGraph, Cond.initialized RX0, Cond.code yX0_areGraph cX0_areGraph 5 (some .boolean), Cond.methodLink RX0 19 yX0_fromAll, Cond.static yX0_fromAll, Cond.code yX0_fromAll cX0_fromAll 4 (some .int), Cond.methodLink RX0 15 yX0_isIn, Cond.static yX0_isIn, Cond.code yX0_isIn cX0_isIn 2 (some .boolean), Cond.methodLink RX0 9 yX0_arc, Cond.static yX0_arc, Cond.code yX0_arc cX0_arc 2 (some .int), Cond.methodLink RX0 22 yX0_haveNoRound, Cond.static yX0_haveNoRound]
def wsX10_word_r2 : List Cond := [Cond.code yX0_haveNoRound cX0_haveNoRound 5 (some .boolean), Cond.methodLink RX0 25 yX0_nextAfter, Cond.static yX0_nextAfter, Cond.code yX0_nextAfter cX0_nextAfter 4 (some .int), Cond.methodLink RX0 29 yX0_parentsIn, Cond.static yX0_parentsIn, Cond.code yX0_parentsIn cX0_parentsIn 4 (some .int), Cond.methodLink RX10 119 yX10_isPart, Cond.static yX10_isPart, Cond.code yX10_isPart cX10_isPart 1 (some .boolean), Cond.methodLink RX10 122 yX2_ofGraph, Cond.instanceMethod yX2_ofGraph, Cond.selects RX2 yX2_ofGraph yX2_ofGraph, Cond.initialized RX2, Cond.code yX2_ofGraph cX2_ofGraph 3 (some (.object "StructureSearch$Fraction")), Cond.fieldLink RX2 32 "StructureSearch$Fits" "whole" "LStructureSearch$Fraction;", Cond.fieldLink RX2 49 "StructureSearch$Fraction" "ready" "Z", Cond.fieldLink RX2 35 "StructureSearch$Fits" "wholeGraph" "I", Cond.fieldLink RX2 15 "StructureSearch$Fits" "powers" "LStructureSearch$Powers;", Cond.fieldLink RX2 11 "StructureSearch$Fits" "sheet" "LStructureSearch$Sheet;", Cond.fieldLink RX2 58 "StructureSearch$Sheet" "names" "I", Cond.fieldLink RX2 73 "StructureSearch$Fraction" "above" "LStructureSearch$Big;", Cond.fieldLink RX2 80 "StructureSearch$Fraction" "below" "LStructureSearch$Big;", Cond.methodLink RX2 53 yX5_forget]
def wsX10_word_r3 : List Cond := [Cond.instanceMethod yX5_forget, Cond.selects RX5 yX5_forget yX5_forget, Cond.initialized RX5, Cond.code yX5_forget cX5_forget 2 none, Cond.fieldLink RX5 15 "StructureSearch$Powers" "largest" "I", Cond.fieldLink RX5 11 "StructureSearch$Powers" "power" "[I", Cond.methodLink RX2 63 yX0_parentsIn, Cond.methodLink RX2 69 yX8_pourFit, Cond.instanceMethod yX8_pourFit, Cond.selects RX8 yX8_pourFit yX8_pourFit, Cond.initialized RX8, Cond.code yX8_pourFit cX8_pourFit 13 none, Cond.fieldLink RX8 21 "StructureSearch$Sheet" "names" "I", Cond.fieldLink RX8 25 "StructureSearch$Sheet" "rows" "I", Cond.fieldLink RX8 28 "StructureSearch$Sheet" "strength" "I", Cond.methodLink RX8 38 yX8_valuesOf, Cond.instanceMethod yX8_valuesOf, Cond.selects RX8 yX8_valuesOf yX8_valuesOf, Cond.code yX8_valuesOf cX8_valuesOf 2 (some .int), Cond.fieldLink RX8 9 "StructureSearch$Sheet" "values" "[I", Cond.methodLink RX8 41 yX0_isIn, Cond.methodLink RX8 34 yX8_codeOf, Cond.instanceMethod yX8_codeOf, Cond.selects RX8 yX8_codeOf yX8_codeOf]
def wsX10_word_r4 : List Cond := [Cond.code yX8_codeOf cX8_codeOf 2 (some .int), Cond.fieldLink RX8 15 "StructureSearch$Sheet" "codes" "[I", Cond.methodLink RX8 47 yX5_multiply, Cond.instanceMethod yX5_multiply, Cond.selects RX5 yX5_multiply yX5_multiply, Cond.code yX5_multiply cX5_multiply 7 none, Cond.fieldLink RX5 19 "StructureSearch$Powers" "SMALL_PRIMES" "[I", Cond.methodLink RX5 22 Lib.Math.max.name, Cond.static Lib.Math.max.name, Cond.initialized "java/lang/Math", Cond.code Lib.Math.max.name Lib.Math.max.code 2 (some .int), Cond.methodLink RX2 76 yX5_write, Cond.instanceMethod yX5_write, Cond.selects RX5 yX5_write yX5_write, Cond.code yX5_write cX5_write 8 none, Cond.constantLong RX5 34 (4294967295), Cond.methodLink RX5 28 yX1_become, Cond.instanceMethod yX1_become, Cond.selects RX1 yX1_become yX1_become, Cond.initialized RX1, Cond.code yX1_become cX1_become 2 none, Cond.fieldLink RX1 21 "StructureSearch$Big" "used" "I", Cond.fieldLink RX1 15 "StructureSearch$Big" "words" "[J", Cond.methodLink RX5 36 yX1_timesSmall]
def wsX10_word_r5 : List Cond := [Cond.instanceMethod yX1_timesSmall, Cond.selects RX1 yX1_timesSmall yX1_timesSmall, Cond.code yX1_timesSmall cX1_timesSmall 9 none, Cond.methodLink RX1 25 Lib.Math.min.name, Cond.static Lib.Math.min.name, Cond.code Lib.Math.min.name Lib.Math.min.code 2 (some .int), Cond.constantLong RX1 38 (4294967295), Cond.methodLink RX10 126 yX3_side, Cond.instanceMethod yX3_side, Cond.selects RX3 yX3_side yX3_side, Cond.initialized RX3, Cond.code yX3_side cX3_side 2 (some (.object "StructureSearch$Big")), Cond.fieldLink RX3 12 "StructureSearch$Fraction" "above" "LStructureSearch$Big;", Cond.fieldLink RX3 18 "StructureSearch$Fraction" "below" "LStructureSearch$Big;", Cond.methodLink RX10 140 yX10_wordOf, Cond.static yX10_wordOf, Cond.code yX10_wordOf cX10_wordOf 2 (some .long), Cond.methodLink RX10 132 yX1_length, Cond.instanceMethod yX1_length, Cond.selects RX1 yX1_length yX1_length, Cond.code yX1_length cX1_length 1 (some .int), Cond.methodLink RX10 210 yX1_at, Cond.instanceMethod yX1_at, Cond.selects RX1 yX1_at yX1_at]
def wsX10_word_r6 : List Cond := [Cond.code yX1_at cX1_at 2 (some .long)]
def wsX10_word : List Cond := .code yX10_word cX10_word 4 (some .long) :: ((wsX10_word_r1 ++ (wsX10_word_r2 ++ (wsX10_word_r3 ++ (wsX10_word_r4 ++ (wsX10_word_r5 ++ wsX10_word_r6))))) ++ wsX100 ++ wsX80 ++ wsX20 ++ wsX30 ++ wsX50 ++ wsX10)
def wsX10_compare_r1 : List Cond := [Cond.fieldLink RX10 28 "StructureSearch" "fits" "LStructureSearch$Fits;", Cond.methodLink RX10 112 yX10_isGraph, Cond.instanceMethod yX10_isGraph, Cond.selects RX10 yX10_isGraph yX10_isGraph, Cond.initialized RX10, Cond.code yX10_isGraph cX10_isGraph 2 (some .boolean), Cond.fieldLink RX10 12 "StructureSearch" "sheet" "LStructureSearch$Sheet;", Cond.fieldLink RX10 64 "StructureSearch$Sheet" "names" "I", Cond.methodLink RX10 107 yX0_areGraph, Cond.static yX0_areGraph, Cond.initialized RX0, Cond.code yX0_areGraph cX0_areGraph 5 (some .boolean), Cond.methodLink RX0 19 yX0_fromAll, Cond.static yX0_fromAll, Cond.code yX0_fromAll cX0_fromAll 4 (some .int), Cond.methodLink RX0 15 yX0_isIn, Cond.static yX0_isIn, Cond.code yX0_isIn cX0_isIn 2 (some .boolean), Cond.methodLink RX0 9 yX0_arc, Cond.static yX0_arc, Cond.code yX0_arc cX0_arc 2 (some .int), Cond.methodLink RX0 22 yX0_haveNoRound, Cond.static yX0_haveNoRound, Cond.code yX0_haveNoRound cX0_haveNoRound 5 (some .boolean)]
def wsX10_compare_r2 : List Cond := [Cond.methodLink RX0 25 yX0_nextAfter, Cond.static yX0_nextAfter, Cond.code yX0_nextAfter cX0_nextAfter 4 (some .int), Cond.methodLink RX0 29 yX0_parentsIn, Cond.static yX0_parentsIn, Cond.code yX0_parentsIn cX0_parentsIn 4 (some .int), Cond.methodLink RX10 144 yX2_weigh, Cond.instanceMethod yX2_weigh, Cond.selects RX2 yX2_weigh yX2_weigh, Cond.initialized RX2, Cond.code yX2_weigh cX2_weigh 8 (some .int), Cond.fieldLink RX2 42 "StructureSearch$Fits" "left" "LStructureSearch$Big;", Cond.fieldLink RX2 46 "StructureSearch$Fits" "right" "LStructureSearch$Big;", Cond.fieldLink RX2 11 "StructureSearch$Fits" "sheet" "LStructureSearch$Sheet;", Cond.fieldLink RX2 58 "StructureSearch$Sheet" "names" "I", Cond.fieldLink RX2 73 "StructureSearch$Fraction" "above" "LStructureSearch$Big;", Cond.fieldLink RX2 80 "StructureSearch$Fraction" "below" "LStructureSearch$Big;", Cond.methodLink RX2 83 yX1_become, Cond.instanceMethod yX1_become, Cond.selects RX1 yX1_become yX1_become, Cond.initialized RX1, Cond.code yX1_become cX1_become 2 none, Cond.fieldLink RX1 21 "StructureSearch$Big" "used" "I", Cond.fieldLink RX1 15 "StructureSearch$Big" "words" "[J"]
def wsX10_compare_r3 : List Cond := [Cond.methodLink RX2 63 yX0_parentsIn, Cond.methodLink RX2 86 yX2_ofName, Cond.instanceMethod yX2_ofName, Cond.selects RX2 yX2_ofName yX2_ofName, Cond.code yX2_ofName cX2_ofName 5 (some (.object "StructureSearch$Fraction")), Cond.fieldLink RX2 21 "StructureSearch$Fits" "ofNames" "[LStructureSearch$Fraction;", Cond.fieldLink RX2 28 "StructureSearch$Fits" "ofNothing" "LStructureSearch$Fraction;", Cond.classLink RX2 19 RX3, Cond.instantiable RX3 3, Cond.initialized RX3, Cond.fieldLink RX2 49 "StructureSearch$Fraction" "ready" "Z", Cond.fieldLink RX2 15 "StructureSearch$Fits" "powers" "LStructureSearch$Powers;", Cond.methodLink RX2 25 yX3_init, Cond.instanceMethod yX3_init, Cond.code yX3_init cX3_init 2 none, Cond.methodLink RX3 1 objectInit, Cond.instanceMethod objectInit, Cond.code objectInit ⟨#[0xb1]⟩ 1 none, Cond.classLink RX3 7 RX1, Cond.instantiable RX1 2, Cond.fieldLink RX3 12 "StructureSearch$Fraction" "above" "LStructureSearch$Big;", Cond.fieldLink RX3 18 "StructureSearch$Fraction" "below" "LStructureSearch$Big;", Cond.fieldLink RX3 21 "StructureSearch$Fraction" "ready" "Z", Cond.methodLink RX3 9 yX1_init]
def wsX10_compare_r4 : List Cond := [Cond.instanceMethod yX1_init, Cond.code yX1_init cX1_init 2 none, Cond.methodLink RX1 3 objectInit, Cond.methodLink RX1 9 Lib.Math.max.name, Cond.static Lib.Math.max.name, Cond.initialized "java/lang/Math", Cond.code Lib.Math.max.name Lib.Math.max.code 2 (some .int), Cond.arrayClass .long, Cond.methodLink RX2 53 yX5_forget, Cond.instanceMethod yX5_forget, Cond.selects RX5 yX5_forget yX5_forget, Cond.initialized RX5, Cond.code yX5_forget cX5_forget 2 none, Cond.fieldLink RX5 15 "StructureSearch$Powers" "largest" "I", Cond.fieldLink RX5 11 "StructureSearch$Powers" "power" "[I", Cond.methodLink RX2 69 yX8_pourFit, Cond.instanceMethod yX8_pourFit, Cond.selects RX8 yX8_pourFit yX8_pourFit, Cond.initialized RX8, Cond.code yX8_pourFit cX8_pourFit 13 none, Cond.fieldLink RX8 21 "StructureSearch$Sheet" "names" "I", Cond.fieldLink RX8 25 "StructureSearch$Sheet" "rows" "I", Cond.fieldLink RX8 28 "StructureSearch$Sheet" "strength" "I", Cond.methodLink RX8 38 yX8_valuesOf]
def wsX10_compare_r5 : List Cond := [Cond.instanceMethod yX8_valuesOf, Cond.selects RX8 yX8_valuesOf yX8_valuesOf, Cond.code yX8_valuesOf cX8_valuesOf 2 (some .int), Cond.fieldLink RX8 9 "StructureSearch$Sheet" "values" "[I", Cond.methodLink RX8 41 yX0_isIn, Cond.methodLink RX8 34 yX8_codeOf, Cond.instanceMethod yX8_codeOf, Cond.selects RX8 yX8_codeOf yX8_codeOf, Cond.code yX8_codeOf cX8_codeOf 2 (some .int), Cond.fieldLink RX8 15 "StructureSearch$Sheet" "codes" "[I", Cond.methodLink RX8 47 yX5_multiply, Cond.instanceMethod yX5_multiply, Cond.selects RX5 yX5_multiply yX5_multiply, Cond.code yX5_multiply cX5_multiply 7 none, Cond.fieldLink RX5 19 "StructureSearch$Powers" "SMALL_PRIMES" "[I", Cond.methodLink RX5 22 Lib.Math.max.name, Cond.methodLink RX2 76 yX5_write, Cond.instanceMethod yX5_write, Cond.selects RX5 yX5_write yX5_write, Cond.code yX5_write cX5_write 8 none, Cond.constantLong RX5 34 (4294967295), Cond.methodLink RX5 28 yX1_become, Cond.methodLink RX5 36 yX1_timesSmall, Cond.instanceMethod yX1_timesSmall]
def wsX10_compare_r6 : List Cond := [Cond.selects RX1 yX1_timesSmall yX1_timesSmall, Cond.code yX1_timesSmall cX1_timesSmall 9 none, Cond.methodLink RX1 25 Lib.Math.min.name, Cond.static Lib.Math.min.name, Cond.code Lib.Math.min.name Lib.Math.min.code 2 (some .int), Cond.constantLong RX1 38 (4294967295), Cond.methodLink RX2 90 yX1_times, Cond.instanceMethod yX1_times, Cond.selects RX1 yX1_times yX1_times, Cond.code yX1_times cX1_times 6 none, Cond.methodLink RX1 40 yX1_widen, Cond.instanceMethod yX1_widen, Cond.selects RX1 yX1_widen yX1_widen, Cond.code yX1_widen cX1_widen 4 none, Cond.methodLink RX1 44 yX1_addMultiple, Cond.instanceMethod yX1_addMultiple, Cond.selects RX1 yX1_addMultiple yX1_addMultiple, Cond.code yX1_addMultiple cX1_addMultiple 12 none, Cond.methodLink RX1 48 yX1_trim, Cond.instanceMethod yX1_trim, Cond.selects RX1 yX1_trim yX1_trim, Cond.code yX1_trim cX1_trim 2 none, Cond.methodLink RX2 94 yX1_against, Cond.instanceMethod yX1_against]
def wsX10_compare_r7 : List Cond := [Cond.selects RX1 yX1_against yX1_against, Cond.code yX1_against cX1_against 3 (some .int), Cond.methodLink RX1 34 yX1_at, Cond.instanceMethod yX1_at, Cond.selects RX1 yX1_at yX1_at, Cond.code yX1_at cX1_at 2 (some .long)]
def wsX10_compare : List Cond := .code yX10_compare cX10_compare 3 (some .int) :: ((wsX10_compare_r1 ++ (wsX10_compare_r2 ++ (wsX10_compare_r3 ++ (wsX10_compare_r4 ++ (wsX10_compare_r5 ++ (wsX10_compare_r6 ++ wsX10_compare_r7)))))) ++ wsX100 ++ wsX80 ++ wsX20 ++ wsX30 ++ wsX10 ++ wsX50)
def wsX10_parents_r1 : List Cond := [Cond.fieldLink RX10 12 "StructureSearch" "sheet" "LStructureSearch$Sheet;", Cond.fieldLink RX10 64 "StructureSearch$Sheet" "names" "I", Cond.fieldLink RX10 37 "StructureSearch" "search" "LStructureSearch$Search;", Cond.methodLink RX10 89 yX10_isName, Cond.instanceMethod yX10_isName, Cond.selects RX10 yX10_isName yX10_isName, Cond.initialized RX10, Cond.code yX10_isName cX10_isName 2 (some .boolean), Cond.methodLink RX10 147 yX0_isIn, Cond.static yX0_isIn, Cond.initialized RX0, Cond.code yX0_isIn cX0_isIn 2 (some .boolean), Cond.methodLink RX10 150 yX6_bestParents, Cond.instanceMethod yX6_bestParents, Cond.selects RX6 yX6_bestParents yX6_bestParents, Cond.initialized RX6, Cond.code yX6_bestParents cX6_bestParents 5 (some .int), Cond.fieldLink RX6 9 "StructureSearch$Search" "sheet" "LStructureSearch$Sheet;", Cond.fieldLink RX6 29 "StructureSearch$Sheet" "most" "I", Cond.fieldLink RX6 15 "StructureSearch$Search" "fits" "LStructureSearch$Fits;", Cond.methodLink RX6 23 yJ6_bitCount_0f7a4, Cond.static yJ6_bitCount_0f7a4, Cond.initialized RJ6, Cond.code yJ6_bitCount_0f7a4 cJ6_bitCount_0f7a4 1 (some .int)]
def wsX10_parents_r2 : List Cond := [Cond.constant RJ6 265 (1431655765), Cond.constant RJ6 266 (858993459), Cond.constant RJ6 267 (252645135), Cond.methodLink RX6 35 yX0_fromAll, Cond.static yX0_fromAll, Cond.code yX0_fromAll cX0_fromAll 4 (some .int), Cond.methodLink RX0 15 yX0_isIn, Cond.methodLink RX0 9 yX0_arc, Cond.static yX0_arc, Cond.code yX0_arc cX0_arc 2 (some .int), Cond.methodLink RX6 41 yX2_weigh, Cond.instanceMethod yX2_weigh, Cond.selects RX2 yX2_weigh yX2_weigh, Cond.initialized RX2, Cond.code yX2_weigh cX2_weigh 8 (some .int), Cond.fieldLink RX2 42 "StructureSearch$Fits" "left" "LStructureSearch$Big;", Cond.fieldLink RX2 46 "StructureSearch$Fits" "right" "LStructureSearch$Big;", Cond.fieldLink RX2 11 "StructureSearch$Fits" "sheet" "LStructureSearch$Sheet;", Cond.fieldLink RX2 58 "StructureSearch$Sheet" "names" "I", Cond.fieldLink RX2 73 "StructureSearch$Fraction" "above" "LStructureSearch$Big;", Cond.fieldLink RX2 80 "StructureSearch$Fraction" "below" "LStructureSearch$Big;", Cond.methodLink RX2 83 yX1_become, Cond.instanceMethod yX1_become, Cond.selects RX1 yX1_become yX1_become]
def wsX10_parents_r3 : List Cond := [Cond.initialized RX1, Cond.code yX1_become cX1_become 2 none, Cond.fieldLink RX1 21 "StructureSearch$Big" "used" "I", Cond.fieldLink RX1 15 "StructureSearch$Big" "words" "[J", Cond.methodLink RX2 63 yX0_parentsIn, Cond.static yX0_parentsIn, Cond.code yX0_parentsIn cX0_parentsIn 4 (some .int), Cond.methodLink RX2 86 yX2_ofName, Cond.instanceMethod yX2_ofName, Cond.selects RX2 yX2_ofName yX2_ofName, Cond.code yX2_ofName cX2_ofName 5 (some (.object "StructureSearch$Fraction")), Cond.fieldLink RX2 21 "StructureSearch$Fits" "ofNames" "[LStructureSearch$Fraction;", Cond.fieldLink RX2 28 "StructureSearch$Fits" "ofNothing" "LStructureSearch$Fraction;", Cond.classLink RX2 19 RX3, Cond.instantiable RX3 3, Cond.initialized RX3, Cond.fieldLink RX2 49 "StructureSearch$Fraction" "ready" "Z", Cond.fieldLink RX2 15 "StructureSearch$Fits" "powers" "LStructureSearch$Powers;", Cond.methodLink RX2 25 yX3_init, Cond.instanceMethod yX3_init, Cond.code yX3_init cX3_init 2 none, Cond.methodLink RX3 1 objectInit, Cond.instanceMethod objectInit, Cond.code objectInit ⟨#[0xb1]⟩ 1 none]
def wsX10_parents_r4 : List Cond := [Cond.classLink RX3 7 RX1, Cond.instantiable RX1 2, Cond.fieldLink RX3 12 "StructureSearch$Fraction" "above" "LStructureSearch$Big;", Cond.fieldLink RX3 18 "StructureSearch$Fraction" "below" "LStructureSearch$Big;", Cond.fieldLink RX3 21 "StructureSearch$Fraction" "ready" "Z", Cond.methodLink RX3 9 yX1_init, Cond.instanceMethod yX1_init, Cond.code yX1_init cX1_init 2 none, Cond.methodLink RX1 3 objectInit, Cond.methodLink RX1 9 Lib.Math.max.name, Cond.static Lib.Math.max.name, Cond.initialized "java/lang/Math", Cond.code Lib.Math.max.name Lib.Math.max.code 2 (some .int), Cond.arrayClass .long, Cond.methodLink RX2 53 yX5_forget, Cond.instanceMethod yX5_forget, Cond.selects RX5 yX5_forget yX5_forget, Cond.initialized RX5, Cond.code yX5_forget cX5_forget 2 none, Cond.fieldLink RX5 15 "StructureSearch$Powers" "largest" "I", Cond.fieldLink RX5 11 "StructureSearch$Powers" "power" "[I", Cond.methodLink RX2 69 yX8_pourFit, Cond.instanceMethod yX8_pourFit, Cond.selects RX8 yX8_pourFit yX8_pourFit]
def wsX10_parents_r5 : List Cond := [Cond.initialized RX8, Cond.code yX8_pourFit cX8_pourFit 13 none, Cond.fieldLink RX8 21 "StructureSearch$Sheet" "names" "I", Cond.fieldLink RX8 25 "StructureSearch$Sheet" "rows" "I", Cond.fieldLink RX8 28 "StructureSearch$Sheet" "strength" "I", Cond.methodLink RX8 38 yX8_valuesOf, Cond.instanceMethod yX8_valuesOf, Cond.selects RX8 yX8_valuesOf yX8_valuesOf, Cond.code yX8_valuesOf cX8_valuesOf 2 (some .int), Cond.fieldLink RX8 9 "StructureSearch$Sheet" "values" "[I", Cond.methodLink RX8 41 yX0_isIn, Cond.methodLink RX8 34 yX8_codeOf, Cond.instanceMethod yX8_codeOf, Cond.selects RX8 yX8_codeOf yX8_codeOf, Cond.code yX8_codeOf cX8_codeOf 2 (some .int), Cond.fieldLink RX8 15 "StructureSearch$Sheet" "codes" "[I", Cond.methodLink RX8 47 yX5_multiply, Cond.instanceMethod yX5_multiply, Cond.selects RX5 yX5_multiply yX5_multiply, Cond.code yX5_multiply cX5_multiply 7 none, Cond.fieldLink RX5 19 "StructureSearch$Powers" "SMALL_PRIMES" "[I", Cond.methodLink RX5 22 Lib.Math.max.name, Cond.methodLink RX2 76 yX5_write, Cond.instanceMethod yX5_write]
def wsX10_parents_r6 : List Cond := [Cond.selects RX5 yX5_write yX5_write, Cond.code yX5_write cX5_write 8 none, Cond.constantLong RX5 34 (4294967295), Cond.methodLink RX5 28 yX1_become, Cond.methodLink RX5 36 yX1_timesSmall, Cond.instanceMethod yX1_timesSmall, Cond.selects RX1 yX1_timesSmall yX1_timesSmall, Cond.code yX1_timesSmall cX1_timesSmall 9 none, Cond.methodLink RX1 25 Lib.Math.min.name, Cond.static Lib.Math.min.name, Cond.code Lib.Math.min.name Lib.Math.min.code 2 (some .int), Cond.constantLong RX1 38 (4294967295), Cond.methodLink RX2 90 yX1_times, Cond.instanceMethod yX1_times, Cond.selects RX1 yX1_times yX1_times, Cond.code yX1_times cX1_times 6 none, Cond.methodLink RX1 40 yX1_widen, Cond.instanceMethod yX1_widen, Cond.selects RX1 yX1_widen yX1_widen, Cond.code yX1_widen cX1_widen 4 none, Cond.methodLink RX1 44 yX1_addMultiple, Cond.instanceMethod yX1_addMultiple, Cond.selects RX1 yX1_addMultiple yX1_addMultiple, Cond.code yX1_addMultiple cX1_addMultiple 12 none]
def wsX10_parents_r7 : List Cond := [Cond.methodLink RX1 48 yX1_trim, Cond.instanceMethod yX1_trim, Cond.selects RX1 yX1_trim yX1_trim, Cond.code yX1_trim cX1_trim 2 none, Cond.methodLink RX2 94 yX1_against, Cond.instanceMethod yX1_against, Cond.selects RX1 yX1_against yX1_against, Cond.code yX1_against cX1_against 3 (some .int), Cond.methodLink RX1 34 yX1_at, Cond.instanceMethod yX1_at, Cond.selects RX1 yX1_at yX1_at, Cond.code yX1_at cX1_at 2 (some .long)]
def wsX10_parents : List Cond := .code yX10_parents cX10_parents 3 (some .int) :: ((wsX10_parents_r1 ++ (wsX10_parents_r2 ++ (wsX10_parents_r3 ++ (wsX10_parents_r4 ++ (wsX10_parents_r5 ++ (wsX10_parents_r6 ++ wsX10_parents_r7)))))) ++ wsX100 ++ wsX80 ++ wsX60 ++ wsX20 ++ wsX30 ++ wsX10 ++ wsX50)
def wsX10_best_r1 : List Cond := [Cond.fieldLink RX10 37 "StructureSearch" "search" "LStructureSearch$Search;", Cond.methodLink RX10 153 yX6_bestGraph, Cond.instanceMethod yX6_bestGraph, Cond.selects RX6 yX6_bestGraph yX6_bestGraph, Cond.initialized RX6, Cond.code yX6_bestGraph cX6_bestGraph 5 (some .int), Cond.fieldLink RX6 9 "StructureSearch$Search" "sheet" "LStructureSearch$Sheet;", Cond.fieldLink RX6 46 "StructureSearch$Sheet" "names" "I", Cond.methodLink RX6 49 yX0_isIn, Cond.static yX0_isIn, Cond.initialized RX0, Cond.code yX0_isIn cX0_isIn 2 (some .boolean), Cond.methodLink RX6 53 yX6_kept, Cond.instanceMethod yX6_kept, Cond.selects RX6 yX6_kept yX6_kept, Cond.code yX6_kept cX6_kept 2 (some .int), Cond.fieldLink RX6 19 "StructureSearch$Search" "bestOf" "[I", Cond.methodLink RX6 56 yX6_bestParents, Cond.instanceMethod yX6_bestParents, Cond.selects RX6 yX6_bestParents yX6_bestParents, Cond.code yX6_bestParents cX6_bestParents 5 (some .int), Cond.fieldLink RX6 29 "StructureSearch$Sheet" "most" "I", Cond.fieldLink RX6 15 "StructureSearch$Search" "fits" "LStructureSearch$Fits;", Cond.methodLink RX6 23 yJ6_bitCount_0f7a4]
def wsX10_best_r2 : List Cond := [Cond.static yJ6_bitCount_0f7a4, Cond.initialized RJ6, Cond.code yJ6_bitCount_0f7a4 cJ6_bitCount_0f7a4 1 (some .int), Cond.constant RJ6 265 (1431655765), Cond.constant RJ6 266 (858993459), Cond.constant RJ6 267 (252645135), Cond.methodLink RX6 35 yX0_fromAll, Cond.static yX0_fromAll, Cond.code yX0_fromAll cX0_fromAll 4 (some .int), Cond.methodLink RX0 15 yX0_isIn, Cond.methodLink RX0 9 yX0_arc, Cond.static yX0_arc, Cond.code yX0_arc cX0_arc 2 (some .int), Cond.methodLink RX6 41 yX2_weigh, Cond.instanceMethod yX2_weigh, Cond.selects RX2 yX2_weigh yX2_weigh, Cond.initialized RX2, Cond.code yX2_weigh cX2_weigh 8 (some .int), Cond.fieldLink RX2 42 "StructureSearch$Fits" "left" "LStructureSearch$Big;", Cond.fieldLink RX2 46 "StructureSearch$Fits" "right" "LStructureSearch$Big;", Cond.fieldLink RX2 11 "StructureSearch$Fits" "sheet" "LStructureSearch$Sheet;", Cond.fieldLink RX2 58 "StructureSearch$Sheet" "names" "I", Cond.fieldLink RX2 73 "StructureSearch$Fraction" "above" "LStructureSearch$Big;", Cond.fieldLink RX2 80 "StructureSearch$Fraction" "below" "LStructureSearch$Big;"]
def wsX10_best_r3 : List Cond := [Cond.methodLink RX2 83 yX1_become, Cond.instanceMethod yX1_become, Cond.selects RX1 yX1_become yX1_become, Cond.initialized RX1, Cond.code yX1_become cX1_become 2 none, Cond.fieldLink RX1 21 "StructureSearch$Big" "used" "I", Cond.fieldLink RX1 15 "StructureSearch$Big" "words" "[J", Cond.methodLink RX2 63 yX0_parentsIn, Cond.static yX0_parentsIn, Cond.code yX0_parentsIn cX0_parentsIn 4 (some .int), Cond.methodLink RX2 86 yX2_ofName, Cond.instanceMethod yX2_ofName, Cond.selects RX2 yX2_ofName yX2_ofName, Cond.code yX2_ofName cX2_ofName 5 (some (.object "StructureSearch$Fraction")), Cond.fieldLink RX2 21 "StructureSearch$Fits" "ofNames" "[LStructureSearch$Fraction;", Cond.fieldLink RX2 28 "StructureSearch$Fits" "ofNothing" "LStructureSearch$Fraction;", Cond.classLink RX2 19 RX3, Cond.instantiable RX3 3, Cond.initialized RX3, Cond.fieldLink RX2 49 "StructureSearch$Fraction" "ready" "Z", Cond.fieldLink RX2 15 "StructureSearch$Fits" "powers" "LStructureSearch$Powers;", Cond.methodLink RX2 25 yX3_init, Cond.instanceMethod yX3_init, Cond.code yX3_init cX3_init 2 none]
def wsX10_best_r4 : List Cond := [Cond.methodLink RX3 1 objectInit, Cond.instanceMethod objectInit, Cond.code objectInit ⟨#[0xb1]⟩ 1 none, Cond.classLink RX3 7 RX1, Cond.instantiable RX1 2, Cond.fieldLink RX3 12 "StructureSearch$Fraction" "above" "LStructureSearch$Big;", Cond.fieldLink RX3 18 "StructureSearch$Fraction" "below" "LStructureSearch$Big;", Cond.fieldLink RX3 21 "StructureSearch$Fraction" "ready" "Z", Cond.methodLink RX3 9 yX1_init, Cond.instanceMethod yX1_init, Cond.code yX1_init cX1_init 2 none, Cond.methodLink RX1 3 objectInit, Cond.methodLink RX1 9 Lib.Math.max.name, Cond.static Lib.Math.max.name, Cond.initialized "java/lang/Math", Cond.code Lib.Math.max.name Lib.Math.max.code 2 (some .int), Cond.arrayClass .long, Cond.methodLink RX2 53 yX5_forget, Cond.instanceMethod yX5_forget, Cond.selects RX5 yX5_forget yX5_forget, Cond.initialized RX5, Cond.code yX5_forget cX5_forget 2 none, Cond.fieldLink RX5 15 "StructureSearch$Powers" "largest" "I", Cond.fieldLink RX5 11 "StructureSearch$Powers" "power" "[I"]
def wsX10_best_r5 : List Cond := [Cond.methodLink RX2 69 yX8_pourFit, Cond.instanceMethod yX8_pourFit, Cond.selects RX8 yX8_pourFit yX8_pourFit, Cond.initialized RX8, Cond.code yX8_pourFit cX8_pourFit 13 none, Cond.fieldLink RX8 21 "StructureSearch$Sheet" "names" "I", Cond.fieldLink RX8 25 "StructureSearch$Sheet" "rows" "I", Cond.fieldLink RX8 28 "StructureSearch$Sheet" "strength" "I", Cond.methodLink RX8 38 yX8_valuesOf, Cond.instanceMethod yX8_valuesOf, Cond.selects RX8 yX8_valuesOf yX8_valuesOf, Cond.code yX8_valuesOf cX8_valuesOf 2 (some .int), Cond.fieldLink RX8 9 "StructureSearch$Sheet" "values" "[I", Cond.methodLink RX8 41 yX0_isIn, Cond.methodLink RX8 34 yX8_codeOf, Cond.instanceMethod yX8_codeOf, Cond.selects RX8 yX8_codeOf yX8_codeOf, Cond.code yX8_codeOf cX8_codeOf 2 (some .int), Cond.fieldLink RX8 15 "StructureSearch$Sheet" "codes" "[I", Cond.methodLink RX8 47 yX5_multiply, Cond.instanceMethod yX5_multiply, Cond.selects RX5 yX5_multiply yX5_multiply, Cond.code yX5_multiply cX5_multiply 7 none, Cond.fieldLink RX5 19 "StructureSearch$Powers" "SMALL_PRIMES" "[I"]
def wsX10_best_r6 : List Cond := [Cond.methodLink RX5 22 Lib.Math.max.name, Cond.methodLink RX2 76 yX5_write, Cond.instanceMethod yX5_write, Cond.selects RX5 yX5_write yX5_write, Cond.code yX5_write cX5_write 8 none, Cond.constantLong RX5 34 (4294967295), Cond.methodLink RX5 28 yX1_become, Cond.methodLink RX5 36 yX1_timesSmall, Cond.instanceMethod yX1_timesSmall, Cond.selects RX1 yX1_timesSmall yX1_timesSmall, Cond.code yX1_timesSmall cX1_timesSmall 9 none, Cond.methodLink RX1 25 Lib.Math.min.name, Cond.static Lib.Math.min.name, Cond.code Lib.Math.min.name Lib.Math.min.code 2 (some .int), Cond.constantLong RX1 38 (4294967295), Cond.methodLink RX2 90 yX1_times, Cond.instanceMethod yX1_times, Cond.selects RX1 yX1_times yX1_times, Cond.code yX1_times cX1_times 6 none, Cond.methodLink RX1 40 yX1_widen, Cond.instanceMethod yX1_widen, Cond.selects RX1 yX1_widen yX1_widen, Cond.code yX1_widen cX1_widen 4 none, Cond.methodLink RX1 44 yX1_addMultiple]
def wsX10_best_r7 : List Cond := [Cond.instanceMethod yX1_addMultiple, Cond.selects RX1 yX1_addMultiple yX1_addMultiple, Cond.code yX1_addMultiple cX1_addMultiple 12 none, Cond.methodLink RX1 48 yX1_trim, Cond.instanceMethod yX1_trim, Cond.selects RX1 yX1_trim yX1_trim, Cond.code yX1_trim cX1_trim 2 none, Cond.methodLink RX2 94 yX1_against, Cond.instanceMethod yX1_against, Cond.selects RX1 yX1_against yX1_against, Cond.code yX1_against cX1_against 3 (some .int), Cond.methodLink RX1 34 yX1_at, Cond.instanceMethod yX1_at, Cond.selects RX1 yX1_at yX1_at, Cond.code yX1_at cX1_at 2 (some .long), Cond.methodLink RX6 59 yX6_better, Cond.instanceMethod yX6_better, Cond.selects RX6 yX6_better yX6_better, Cond.code yX6_better cX6_better 4 (some .int), Cond.methodLink RX6 62 yX6_keep, Cond.instanceMethod yX6_keep, Cond.selects RX6 yX6_keep yX6_keep, Cond.code yX6_keep cX6_keep 3 none]
def wsX10_best : List Cond := .code yX10_best cX10_best 1 (some .int) :: ((wsX10_best_r1 ++ (wsX10_best_r2 ++ (wsX10_best_r3 ++ (wsX10_best_r4 ++ (wsX10_best_r5 ++ (wsX10_best_r6 ++ wsX10_best_r7)))))) ++ wsX100 ++ wsX60 ++ wsX80 ++ wsX20 ++ wsX30 ++ wsX10 ++ wsX50)
def wsX10_climb_r1 : List Cond := [Cond.fieldLink RX10 12 "StructureSearch" "sheet" "LStructureSearch$Sheet;", Cond.fieldLink RX10 98 "StructureSearch$Sheet" "most" "I", Cond.fieldLink RX10 37 "StructureSearch" "search" "LStructureSearch$Search;", Cond.methodLink RX10 112 yX10_isGraph, Cond.instanceMethod yX10_isGraph, Cond.selects RX10 yX10_isGraph yX10_isGraph, Cond.initialized RX10, Cond.code yX10_isGraph cX10_isGraph 2 (some .boolean), Cond.fieldLink RX10 64 "StructureSearch$Sheet" "names" "I", Cond.methodLink RX10 107 yX0_areGraph, Cond.static yX0_areGraph, Cond.initialized RX0, Cond.code yX0_areGraph cX0_areGraph 5 (some .boolean), Cond.methodLink RX0 19 yX0_fromAll, Cond.static yX0_fromAll, Cond.code yX0_fromAll cX0_fromAll 4 (some .int), Cond.methodLink RX0 15 yX0_isIn, Cond.static yX0_isIn, Cond.code yX0_isIn cX0_isIn 2 (some .boolean), Cond.methodLink RX0 9 yX0_arc, Cond.static yX0_arc, Cond.code yX0_arc cX0_arc 2 (some .int), Cond.methodLink RX0 22 yX0_haveNoRound, Cond.static yX0_haveNoRound]
def wsX10_climb_r2 : List Cond := [Cond.code yX0_haveNoRound cX0_haveNoRound 5 (some .boolean), Cond.methodLink RX0 25 yX0_nextAfter, Cond.static yX0_nextAfter, Cond.code yX0_nextAfter cX0_nextAfter 4 (some .int), Cond.methodLink RX0 29 yX0_parentsIn, Cond.static yX0_parentsIn, Cond.code yX0_parentsIn cX0_parentsIn 4 (some .int), Cond.methodLink RX10 156 yX0_areBounded, Cond.static yX0_areBounded, Cond.code yX0_areBounded cX0_areBounded 3 (some .boolean), Cond.methodLink RX0 32 yJ6_bitCount_0f7a4, Cond.static yJ6_bitCount_0f7a4, Cond.initialized RJ6, Cond.code yJ6_bitCount_0f7a4 cJ6_bitCount_0f7a4 1 (some .int), Cond.constant RJ6 265 (1431655765), Cond.constant RJ6 266 (858993459), Cond.constant RJ6 267 (252645135), Cond.methodLink RX10 159 yX6_climbFrom, Cond.instanceMethod yX6_climbFrom, Cond.selects RX6 yX6_climbFrom yX6_climbFrom, Cond.initialized RX6, Cond.code yX6_climbFrom cX6_climbFrom 6 (some .int), Cond.fieldLink RX6 15 "StructureSearch$Search" "fits" "LStructureSearch$Fits;", Cond.methodLink RX6 66 yX6_bestNear]
def wsX10_climb_r3 : List Cond := [Cond.instanceMethod yX6_bestNear, Cond.selects RX6 yX6_bestNear yX6_bestNear, Cond.code yX6_bestNear cX6_bestNear 6 (some .int), Cond.fieldLink RX6 9 "StructureSearch$Search" "sheet" "LStructureSearch$Sheet;", Cond.fieldLink RX6 46 "StructureSearch$Sheet" "names" "I", Cond.methodLink RX6 69 yX0_arc, Cond.methodLink RX6 72 yX0_has, Cond.static yX0_has, Cond.code yX0_has cX0_has 3 (some .boolean), Cond.methodLink RX6 76 yX6_isOpen, Cond.instanceMethod yX6_isOpen, Cond.selects RX6 yX6_isOpen yX6_isOpen, Cond.code yX6_isOpen cX6_isOpen 2 (some .boolean), Cond.fieldLink RX6 29 "StructureSearch$Sheet" "most" "I", Cond.methodLink RX6 80 yX0_areBounded, Cond.methodLink RX6 83 yX0_haveNoRound, Cond.methodLink RX6 59 yX6_better, Cond.instanceMethod yX6_better, Cond.selects RX6 yX6_better yX6_better, Cond.code yX6_better cX6_better 4 (some .int), Cond.methodLink RX6 41 yX2_weigh, Cond.instanceMethod yX2_weigh, Cond.selects RX2 yX2_weigh yX2_weigh, Cond.initialized RX2]
def wsX10_climb_r4 : List Cond := [Cond.code yX2_weigh cX2_weigh 8 (some .int), Cond.fieldLink RX2 42 "StructureSearch$Fits" "left" "LStructureSearch$Big;", Cond.fieldLink RX2 46 "StructureSearch$Fits" "right" "LStructureSearch$Big;", Cond.fieldLink RX2 11 "StructureSearch$Fits" "sheet" "LStructureSearch$Sheet;", Cond.fieldLink RX2 58 "StructureSearch$Sheet" "names" "I", Cond.fieldLink RX2 73 "StructureSearch$Fraction" "above" "LStructureSearch$Big;", Cond.fieldLink RX2 80 "StructureSearch$Fraction" "below" "LStructureSearch$Big;", Cond.methodLink RX2 83 yX1_become, Cond.instanceMethod yX1_become, Cond.selects RX1 yX1_become yX1_become, Cond.initialized RX1, Cond.code yX1_become cX1_become 2 none, Cond.fieldLink RX1 21 "StructureSearch$Big" "used" "I", Cond.fieldLink RX1 15 "StructureSearch$Big" "words" "[J", Cond.methodLink RX2 63 yX0_parentsIn, Cond.methodLink RX2 86 yX2_ofName, Cond.instanceMethod yX2_ofName, Cond.selects RX2 yX2_ofName yX2_ofName, Cond.code yX2_ofName cX2_ofName 5 (some (.object "StructureSearch$Fraction")), Cond.fieldLink RX2 21 "StructureSearch$Fits" "ofNames" "[LStructureSearch$Fraction;", Cond.fieldLink RX2 28 "StructureSearch$Fits" "ofNothing" "LStructureSearch$Fraction;", Cond.classLink RX2 19 RX3, Cond.instantiable RX3 3, Cond.initialized RX3]
def wsX10_climb_r5 : List Cond := [Cond.fieldLink RX2 49 "StructureSearch$Fraction" "ready" "Z", Cond.fieldLink RX2 15 "StructureSearch$Fits" "powers" "LStructureSearch$Powers;", Cond.methodLink RX2 25 yX3_init, Cond.instanceMethod yX3_init, Cond.code yX3_init cX3_init 2 none, Cond.methodLink RX3 1 objectInit, Cond.instanceMethod objectInit, Cond.code objectInit ⟨#[0xb1]⟩ 1 none, Cond.classLink RX3 7 RX1, Cond.instantiable RX1 2, Cond.fieldLink RX3 12 "StructureSearch$Fraction" "above" "LStructureSearch$Big;", Cond.fieldLink RX3 18 "StructureSearch$Fraction" "below" "LStructureSearch$Big;", Cond.fieldLink RX3 21 "StructureSearch$Fraction" "ready" "Z", Cond.methodLink RX3 9 yX1_init, Cond.instanceMethod yX1_init, Cond.code yX1_init cX1_init 2 none, Cond.methodLink RX1 3 objectInit, Cond.methodLink RX1 9 Lib.Math.max.name, Cond.static Lib.Math.max.name, Cond.initialized "java/lang/Math", Cond.code Lib.Math.max.name Lib.Math.max.code 2 (some .int), Cond.arrayClass .long, Cond.methodLink RX2 53 yX5_forget, Cond.instanceMethod yX5_forget]
def wsX10_climb_r6 : List Cond := [Cond.selects RX5 yX5_forget yX5_forget, Cond.initialized RX5, Cond.code yX5_forget cX5_forget 2 none, Cond.fieldLink RX5 15 "StructureSearch$Powers" "largest" "I", Cond.fieldLink RX5 11 "StructureSearch$Powers" "power" "[I", Cond.methodLink RX2 69 yX8_pourFit, Cond.instanceMethod yX8_pourFit, Cond.selects RX8 yX8_pourFit yX8_pourFit, Cond.initialized RX8, Cond.code yX8_pourFit cX8_pourFit 13 none, Cond.fieldLink RX8 21 "StructureSearch$Sheet" "names" "I", Cond.fieldLink RX8 25 "StructureSearch$Sheet" "rows" "I", Cond.fieldLink RX8 28 "StructureSearch$Sheet" "strength" "I", Cond.methodLink RX8 38 yX8_valuesOf, Cond.instanceMethod yX8_valuesOf, Cond.selects RX8 yX8_valuesOf yX8_valuesOf, Cond.code yX8_valuesOf cX8_valuesOf 2 (some .int), Cond.fieldLink RX8 9 "StructureSearch$Sheet" "values" "[I", Cond.methodLink RX8 41 yX0_isIn, Cond.methodLink RX8 34 yX8_codeOf, Cond.instanceMethod yX8_codeOf, Cond.selects RX8 yX8_codeOf yX8_codeOf, Cond.code yX8_codeOf cX8_codeOf 2 (some .int), Cond.fieldLink RX8 15 "StructureSearch$Sheet" "codes" "[I"]
def wsX10_climb_r7 : List Cond := [Cond.methodLink RX8 47 yX5_multiply, Cond.instanceMethod yX5_multiply, Cond.selects RX5 yX5_multiply yX5_multiply, Cond.code yX5_multiply cX5_multiply 7 none, Cond.fieldLink RX5 19 "StructureSearch$Powers" "SMALL_PRIMES" "[I", Cond.methodLink RX5 22 Lib.Math.max.name, Cond.methodLink RX2 76 yX5_write, Cond.instanceMethod yX5_write, Cond.selects RX5 yX5_write yX5_write, Cond.code yX5_write cX5_write 8 none, Cond.constantLong RX5 34 (4294967295), Cond.methodLink RX5 28 yX1_become, Cond.methodLink RX5 36 yX1_timesSmall, Cond.instanceMethod yX1_timesSmall, Cond.selects RX1 yX1_timesSmall yX1_timesSmall, Cond.code yX1_timesSmall cX1_timesSmall 9 none, Cond.methodLink RX1 25 Lib.Math.min.name, Cond.static Lib.Math.min.name, Cond.code Lib.Math.min.name Lib.Math.min.code 2 (some .int), Cond.constantLong RX1 38 (4294967295), Cond.methodLink RX2 90 yX1_times, Cond.instanceMethod yX1_times, Cond.selects RX1 yX1_times yX1_times, Cond.code yX1_times cX1_times 6 none]
def wsX10_climb_r8 : List Cond := [Cond.methodLink RX1 40 yX1_widen, Cond.instanceMethod yX1_widen, Cond.selects RX1 yX1_widen yX1_widen, Cond.code yX1_widen cX1_widen 4 none, Cond.methodLink RX1 44 yX1_addMultiple, Cond.instanceMethod yX1_addMultiple, Cond.selects RX1 yX1_addMultiple yX1_addMultiple, Cond.code yX1_addMultiple cX1_addMultiple 12 none, Cond.methodLink RX1 48 yX1_trim, Cond.instanceMethod yX1_trim, Cond.selects RX1 yX1_trim yX1_trim, Cond.code yX1_trim cX1_trim 2 none, Cond.methodLink RX2 94 yX1_against, Cond.instanceMethod yX1_against, Cond.selects RX1 yX1_against yX1_against, Cond.code yX1_against cX1_against 3 (some .int), Cond.methodLink RX1 34 yX1_at, Cond.instanceMethod yX1_at, Cond.selects RX1 yX1_at yX1_at, Cond.code yX1_at cX1_at 2 (some .long)]
def wsX10_climb : List Cond := .code yX10_climb cX10_climb 3 (some .int) :: ((wsX10_climb_r1 ++ (wsX10_climb_r2 ++ (wsX10_climb_r3 ++ (wsX10_climb_r4 ++ (wsX10_climb_r5 ++ (wsX10_climb_r6 ++ (wsX10_climb_r7 ++ wsX10_climb_r8))))))) ++ wsX100 ++ wsX80 ++ wsX60 ++ wsX20 ++ wsX30 ++ wsX10 ++ wsX50)
def wsX10_alike_r1 : List Cond := [Cond.methodLink RX10 112 yX10_isGraph, Cond.instanceMethod yX10_isGraph, Cond.selects RX10 yX10_isGraph yX10_isGraph, Cond.initialized RX10, Cond.code yX10_isGraph cX10_isGraph 2 (some .boolean), Cond.fieldLink RX10 12 "StructureSearch" "sheet" "LStructureSearch$Sheet;", Cond.fieldLink RX10 64 "StructureSearch$Sheet" "names" "I", Cond.methodLink RX10 107 yX0_areGraph, Cond.static yX0_areGraph, Cond.initialized RX0, Cond.code yX0_areGraph cX0_areGraph 5 (some .boolean), Cond.methodLink RX0 19 yX0_fromAll, Cond.static yX0_fromAll, Cond.code yX0_fromAll cX0_fromAll 4 (some .int), Cond.methodLink RX0 15 yX0_isIn, Cond.static yX0_isIn, Cond.code yX0_isIn cX0_isIn 2 (some .boolean), Cond.methodLink RX0 9 yX0_arc, Cond.static yX0_arc, Cond.code yX0_arc cX0_arc 2 (some .int), Cond.methodLink RX0 22 yX0_haveNoRound, Cond.static yX0_haveNoRound, Cond.code yX0_haveNoRound cX0_haveNoRound 5 (some .boolean), Cond.methodLink RX0 25 yX0_nextAfter]
def wsX10_alike_r2 : List Cond := [Cond.static yX0_nextAfter, Cond.code yX0_nextAfter cX0_nextAfter 4 (some .int), Cond.methodLink RX0 29 yX0_parentsIn, Cond.static yX0_parentsIn, Cond.code yX0_parentsIn cX0_parentsIn 4 (some .int), Cond.methodLink RX10 162 yX4_ties, Cond.static yX4_ties, Cond.initialized RX4, Cond.code yX4_ties cX4_ties 4 (some .int), Cond.methodLink RX4 24 yX0_has, Cond.static yX0_has, Cond.code yX0_has cX0_has 3 (some .boolean), Cond.methodLink RX4 30 yX0_arc, Cond.methodLink RX10 167 yX4_meetings, Cond.static yX4_meetings, Cond.code yX4_meetings cX4_meetings 10 (some .long), Cond.methodLink RX4 34 yX4_ties, Cond.methodLink RX4 38 yX0_parentsIn, Cond.methodLink RX4 41 yX0_isIn]
def wsX10_alike : List Cond := .code yX10_alike cX10_alike 4 (some .int) :: ((wsX10_alike_r1 ++ wsX10_alike_r2) ++ wsX100 ++ wsX80)
def wsX10_kin_r1 : List Cond := [Cond.classLink RX10 163 RX4, Cond.instantiable RX4 4, Cond.initialized RX4, Cond.fieldLink RX10 12 "StructureSearch" "sheet" "LStructureSearch$Sheet;", Cond.fieldLink RX10 64 "StructureSearch$Sheet" "names" "I", Cond.fieldLink RX10 176 "StructureSearch$Kin" "count" "I", Cond.fieldLink RX10 179 "StructureSearch$Kin" "least" "I", Cond.fieldLink RX10 182 "StructureSearch$Kin" "greatest" "I", Cond.fieldLink RX10 185 "StructureSearch$Kin" "common" "I", Cond.methodLink RX10 112 yX10_isGraph, Cond.instanceMethod yX10_isGraph, Cond.selects RX10 yX10_isGraph yX10_isGraph, Cond.initialized RX10, Cond.code yX10_isGraph cX10_isGraph 2 (some .boolean), Cond.methodLink RX10 107 yX0_areGraph, Cond.static yX0_areGraph, Cond.initialized RX0, Cond.code yX0_areGraph cX0_areGraph 5 (some .boolean), Cond.methodLink RX0 19 yX0_fromAll, Cond.static yX0_fromAll, Cond.code yX0_fromAll cX0_fromAll 4 (some .int), Cond.methodLink RX0 15 yX0_isIn, Cond.static yX0_isIn, Cond.code yX0_isIn cX0_isIn 2 (some .boolean)]
def wsX10_kin_r2 : List Cond := [Cond.methodLink RX0 9 yX0_arc, Cond.static yX0_arc, Cond.code yX0_arc cX0_arc 2 (some .int), Cond.methodLink RX0 22 yX0_haveNoRound, Cond.static yX0_haveNoRound, Cond.code yX0_haveNoRound cX0_haveNoRound 5 (some .boolean), Cond.methodLink RX0 25 yX0_nextAfter, Cond.static yX0_nextAfter, Cond.code yX0_nextAfter cX0_nextAfter 4 (some .int), Cond.methodLink RX0 29 yX0_parentsIn, Cond.static yX0_parentsIn, Cond.code yX0_parentsIn cX0_parentsIn 4 (some .int), Cond.methodLink RX10 171 yX4_init, Cond.instanceMethod yX4_init, Cond.code yX4_init cX4_init 1 none, Cond.methodLink RX4 3 objectInit, Cond.instanceMethod objectInit, Cond.code objectInit ⟨#[0xb1]⟩ 1 none, Cond.fieldLink RX4 9 "StructureSearch$Kin" "count" "I", Cond.fieldLink RX4 15 "StructureSearch$Kin" "least" "I", Cond.fieldLink RX4 18 "StructureSearch$Kin" "greatest" "I", Cond.fieldLink RX4 21 "StructureSearch$Kin" "common" "I", Cond.methodLink RX10 172 yX4_gather, Cond.instanceMethod yX4_gather]
def wsX10_kin_r3 : List Cond := [Cond.selects RX4 yX4_gather yX4_gather, Cond.code yX4_gather cX4_gather 9 none, Cond.methodLink RX4 34 yX4_ties, Cond.static yX4_ties, Cond.code yX4_ties cX4_ties 4 (some .int), Cond.methodLink RX4 24 yX0_has, Cond.static yX0_has, Cond.code yX0_has cX0_has 3 (some .boolean), Cond.methodLink RX4 30 yX0_arc, Cond.methodLink RX4 45 yX4_meetings, Cond.static yX4_meetings, Cond.code yX4_meetings cX4_meetings 10 (some .long), Cond.methodLink RX4 38 yX0_parentsIn, Cond.methodLink RX4 41 yX0_isIn, Cond.methodLink RX4 49 yJ6_bitCount_0f7a4, Cond.static yJ6_bitCount_0f7a4, Cond.initialized RJ6, Cond.code yJ6_bitCount_0f7a4 cJ6_bitCount_0f7a4 1 (some .int), Cond.constant RJ6 265 (1431655765), Cond.constant RJ6 266 (858993459), Cond.constant RJ6 267 (252645135), Cond.methodLink RX4 54 yX4_directed, Cond.static yX4_directed, Cond.code yX4_directed cX4_directed 6 (some .int)]
def wsX10_kin_r4 : List Cond := [Cond.methodLink RX4 57 yX0_haveNoRound, Cond.methodLink RX4 60 yX4_add, Cond.instanceMethod yX4_add, Cond.selects RX4 yX4_add yX4_add, Cond.code yX4_add cX4_add 2 none, Cond.methodLink RX4 64 Lib.Math.min.name, Cond.static Lib.Math.min.name, Cond.initialized "java/lang/Math", Cond.code Lib.Math.min.name Lib.Math.min.code 2 (some .int), Cond.methodLink RX4 69 Lib.Math.max.name, Cond.static Lib.Math.max.name, Cond.code Lib.Math.max.name Lib.Math.max.code 2 (some .int)]
def wsX10_kin : List Cond := .code yX10_kin cX10_kin 4 (some .int) :: ((wsX10_kin_r1 ++ (wsX10_kin_r2 ++ (wsX10_kin_r3 ++ wsX10_kin_r4))) ++ wsX40 ++ wsX100 ++ wsX80)
def wsX10_isPair : List Cond := .code yX10_isPair cX10_isPair 3 (some .boolean) :: ([.methodLink RX10 89 yX10_isName, .instanceMethod yX10_isName, .selects RX10 yX10_isName yX10_isName, .initialized RX10, .code yX10_isName cX10_isName 2 (some .boolean), .fieldLink RX10 12 "StructureSearch" "sheet" "LStructureSearch$Sheet;", .fieldLink RX10 64 "StructureSearch$Sheet" "names" "I"] ++ wsX100 ++ wsX80)
def wsX10_shareOf_r1 : List Cond := [Cond.fieldLink RX10 50 "StructureSearch" "shares" "LStructureSearch$Shares;", Cond.classLink RX10 213 RX7, Cond.instantiable RX7 12, Cond.initialized RX7, Cond.fieldLink RX10 12 "StructureSearch" "sheet" "LStructureSearch$Sheet;", Cond.fieldLink RX10 19 "StructureSearch" "powers" "LStructureSearch$Powers;", Cond.methodLink RX10 215 yX7_init, Cond.instanceMethod yX7_init, Cond.code yX7_init cX7_init 4 none, Cond.methodLink RX7 5 objectInit, Cond.instanceMethod objectInit, Cond.code objectInit ⟨#[0xb1]⟩ 1 none, Cond.fieldLink RX7 11 "StructureSearch$Shares" "sheet" "LStructureSearch$Sheet;", Cond.fieldLink RX7 15 "StructureSearch$Shares" "powers" "LStructureSearch$Powers;", Cond.classLink RX7 19 RX5, Cond.instantiable RX5 2, Cond.initialized RX5, Cond.fieldLink RX7 22 "StructureSearch$Shares" "least" "LStructureSearch$Powers;", Cond.classLink RX7 25 RX1, Cond.fieldLink RX7 27 "StructureSearch$Shares" "weights" "[LStructureSearch$Big;", Cond.instantiable RX1 2, Cond.initialized RX1, Cond.fieldLink RX7 40 "StructureSearch$Shares" "sums" "[LStructureSearch$Big;", Cond.fieldLink RX7 43 "StructureSearch$Shares" "none" "LStructureSearch$Big;"]
def wsX10_shareOf_r2 : List Cond := [Cond.fieldLink RX7 47 "StructureSearch$Shares" "term" "LStructureSearch$Big;", Cond.fieldLink RX7 50 "StructureSearch$Shares" "rest" "LStructureSearch$Big;", Cond.fieldLink RX7 53 "StructureSearch$Shares" "divisor" "LStructureSearch$Big;", Cond.classLink RX7 56 RX3, Cond.instantiable RX3 3, Cond.initialized RX3, Cond.fieldLink RX7 59 "StructureSearch$Shares" "share" "LStructureSearch$Fraction;", Cond.fieldLink RX7 63 "StructureSearch$Shares" "shareFrom" "I", Cond.fieldLink RX7 67 "StructureSearch$Shares" "shareTo" "I", Cond.methodLink RX7 21 yX5_init, Cond.instanceMethod yX5_init, Cond.code yX5_init cX5_init 1 none, Cond.methodLink RX5 3 objectInit, Cond.arrayClass .int, Cond.fieldLink RX5 11 "StructureSearch$Powers" "power" "[I", Cond.fieldLink RX5 15 "StructureSearch$Powers" "largest" "I", Cond.methodLink RX7 31 yX0_isIn, Cond.static yX0_isIn, Cond.initialized RX0, Cond.code yX0_isIn cX0_isIn 2 (some .boolean), Cond.methodLink RX7 37 yX1_init, Cond.instanceMethod yX1_init, Cond.code yX1_init cX1_init 2 none, Cond.methodLink RX1 3 objectInit]
def wsX10_shareOf_r3 : List Cond := [Cond.methodLink RX1 9 Lib.Math.max.name, Cond.static Lib.Math.max.name, Cond.initialized "java/lang/Math", Cond.code Lib.Math.max.name Lib.Math.max.code 2 (some .int), Cond.arrayClass .long, Cond.fieldLink RX1 15 "StructureSearch$Big" "words" "[J", Cond.fieldLink RX1 21 "StructureSearch$Big" "used" "I", Cond.methodLink RX7 58 yX3_init, Cond.instanceMethod yX3_init, Cond.code yX3_init cX3_init 2 none, Cond.methodLink RX3 1 objectInit, Cond.classLink RX3 7 RX1, Cond.fieldLink RX3 12 "StructureSearch$Fraction" "above" "LStructureSearch$Big;", Cond.fieldLink RX3 18 "StructureSearch$Fraction" "below" "LStructureSearch$Big;", Cond.fieldLink RX3 21 "StructureSearch$Fraction" "ready" "Z", Cond.methodLink RX3 9 yX1_init, Cond.methodLink RX10 216 yX7_of, Cond.instanceMethod yX7_of, Cond.selects RX7 yX7_of yX7_of, Cond.code yX7_of cX7_of 5 (some (.object "StructureSearch$Fraction")), Cond.fieldLink RX7 70 "StructureSearch$Fraction" "ready" "Z", Cond.fieldLink RX7 74 "StructureSearch$Sheet" "names" "I", Cond.fieldLink RX7 85 "StructureSearch$Fraction" "below" "LStructureSearch$Big;", Cond.fieldLink RX7 100 "StructureSearch$Fraction" "above" "LStructureSearch$Big;"]
def wsX10_shareOf_r4 : List Cond := [Cond.methodLink RX7 79 yX7_weigh, Cond.instanceMethod yX7_weigh, Cond.selects RX7 yX7_weigh yX7_weigh, Cond.code yX7_weigh cX7_weigh 3 none, Cond.methodLink RX7 106 yX7_isOpen, Cond.instanceMethod yX7_isOpen, Cond.selects RX7 yX7_isOpen yX7_isOpen, Cond.code yX7_isOpen cX7_isOpen 3 (some .boolean), Cond.fieldLink RX7 148 "StructureSearch$Sheet" "most" "I", Cond.methodLink RX7 142 yJ6_bitCount_0f7a4, Cond.static yJ6_bitCount_0f7a4, Cond.initialized RJ6, Cond.code yJ6_bitCount_0f7a4 cJ6_bitCount_0f7a4 1 (some .int), Cond.constant RJ6 265 (1431655765), Cond.constant RJ6 266 (858993459), Cond.constant RJ6 267 (252645135), Cond.methodLink RX7 109 yX5_forget, Cond.instanceMethod yX5_forget, Cond.selects RX5 yX5_forget yX5_forget, Cond.code yX5_forget cX5_forget 2 none, Cond.methodLink RX7 112 yX8_pourFit, Cond.instanceMethod yX8_pourFit, Cond.selects RX8 yX8_pourFit yX8_pourFit, Cond.initialized RX8]
def wsX10_shareOf_r5 : List Cond := [Cond.code yX8_pourFit cX8_pourFit 13 none, Cond.fieldLink RX8 21 "StructureSearch$Sheet" "names" "I", Cond.fieldLink RX8 25 "StructureSearch$Sheet" "rows" "I", Cond.fieldLink RX8 28 "StructureSearch$Sheet" "strength" "I", Cond.methodLink RX8 38 yX8_valuesOf, Cond.instanceMethod yX8_valuesOf, Cond.selects RX8 yX8_valuesOf yX8_valuesOf, Cond.code yX8_valuesOf cX8_valuesOf 2 (some .int), Cond.fieldLink RX8 9 "StructureSearch$Sheet" "values" "[I", Cond.methodLink RX8 41 yX0_isIn, Cond.methodLink RX8 34 yX8_codeOf, Cond.instanceMethod yX8_codeOf, Cond.selects RX8 yX8_codeOf yX8_codeOf, Cond.code yX8_codeOf cX8_codeOf 2 (some .int), Cond.fieldLink RX8 15 "StructureSearch$Sheet" "codes" "[I", Cond.methodLink RX8 47 yX5_multiply, Cond.instanceMethod yX5_multiply, Cond.selects RX5 yX5_multiply yX5_multiply, Cond.code yX5_multiply cX5_multiply 7 none, Cond.fieldLink RX5 19 "StructureSearch$Powers" "SMALL_PRIMES" "[I", Cond.methodLink RX5 22 Lib.Math.max.name, Cond.methodLink RX7 116 yX5_copy, Cond.instanceMethod yX5_copy, Cond.selects RX5 yX5_copy yX5_copy]
def wsX10_shareOf_r6 : List Cond := [Cond.code yX5_copy cX5_copy 3 none, Cond.methodLink RX5 40 yX5_forget, Cond.methodLink RX7 119 yX5_lowerTo, Cond.instanceMethod yX5_lowerTo, Cond.selects RX5 yX5_lowerTo yX5_lowerTo, Cond.code yX5_lowerTo cX5_lowerTo 3 none, Cond.methodLink RX5 43 Lib.Math.min.name, Cond.static Lib.Math.min.name, Cond.code Lib.Math.min.name Lib.Math.min.code 2 (some .int), Cond.methodLink RX7 122 yX7_weight, Cond.instanceMethod yX7_weight, Cond.selects RX7 yX7_weight yX7_weight, Cond.code yX7_weight cX7_weight 4 (some (.object "StructureSearch$Big")), Cond.methodLink RX7 126 yX1_become, Cond.instanceMethod yX1_become, Cond.selects RX1 yX1_become yX1_become, Cond.code yX1_become cX1_become 2 none, Cond.methodLink RX7 129 yX5_divide, Cond.instanceMethod yX5_divide, Cond.selects RX5 yX5_divide yX5_divide, Cond.code yX5_divide cX5_divide 3 none, Cond.methodLink RX7 132 yX5_write, Cond.instanceMethod yX5_write, Cond.selects RX5 yX5_write yX5_write]
def wsX10_shareOf_r7 : List Cond := [Cond.code yX5_write cX5_write 8 none, Cond.constantLong RX5 34 (4294967295), Cond.methodLink RX5 28 yX1_become, Cond.methodLink RX5 36 yX1_timesSmall, Cond.instanceMethod yX1_timesSmall, Cond.selects RX1 yX1_timesSmall yX1_timesSmall, Cond.code yX1_timesSmall cX1_timesSmall 9 none, Cond.methodLink RX1 25 Lib.Math.min.name, Cond.constantLong RX1 38 (4294967295), Cond.methodLink RX7 136 yX7_addSmaller, Cond.instanceMethod yX7_addSmaller, Cond.selects RX7 yX7_addSmaller yX7_addSmaller, Cond.code yX7_addSmaller cX7_addSmaller 5 none, Cond.methodLink RX7 139 yX1_plus, Cond.instanceMethod yX1_plus, Cond.selects RX1 yX1_plus yX1_plus, Cond.code yX1_plus cX1_plus 2 none, Cond.methodLink RX1 40 yX1_widen, Cond.instanceMethod yX1_widen, Cond.selects RX1 yX1_widen yX1_widen, Cond.code yX1_widen cX1_widen 4 none, Cond.methodLink RX1 44 yX1_addMultiple, Cond.instanceMethod yX1_addMultiple, Cond.selects RX1 yX1_addMultiple yX1_addMultiple]
def wsX10_shareOf_r8 : List Cond := [Cond.code yX1_addMultiple cX1_addMultiple 12 none, Cond.methodLink RX1 48 yX1_trim, Cond.instanceMethod yX1_trim, Cond.selects RX1 yX1_trim yX1_trim, Cond.code yX1_trim cX1_trim 2 none, Cond.methodLink RX7 82 yX7_sumGraphs, Cond.instanceMethod yX7_sumGraphs, Cond.selects RX7 yX7_sumGraphs yX7_sumGraphs, Cond.code yX7_sumGraphs cX7_sumGraphs 3 none, Cond.methodLink RX7 154 yX7_sumGraphsOf, Cond.instanceMethod yX7_sumGraphsOf, Cond.selects RX7 yX7_sumGraphsOf yX7_sumGraphsOf, Cond.code yX7_sumGraphsOf cX7_sumGraphsOf 5 none, Cond.methodLink RX7 88 yX7_sum, Cond.instanceMethod yX7_sum, Cond.selects RX7 yX7_sum yX7_sum, Cond.code yX7_sum cX7_sum 2 (some (.object "StructureSearch$Big")), Cond.methodLink RX7 157 yX7_multiplyOut, Cond.instanceMethod yX7_multiplyOut, Cond.selects RX7 yX7_multiplyOut yX7_multiplyOut, Cond.code yX7_multiplyOut cX7_multiplyOut 4 none, Cond.methodLink RX7 92 yX1_copy, Cond.instanceMethod yX1_copy, Cond.selects RX1 yX1_copy yX1_copy]
def wsX10_shareOf_r9 : List Cond := [Cond.code yX1_copy cX1_copy 2 none, Cond.methodLink RX1 28 arraycopyName, Cond.native arraycopyName, Cond.static arraycopyName, Cond.initialized "java/lang/System", Cond.methodLink RX7 160 yX1_times, Cond.instanceMethod yX1_times, Cond.selects RX1 yX1_times yX1_times, Cond.code yX1_times cX1_times 6 none, Cond.methodLink RX7 151 yX1_minus, Cond.instanceMethod yX1_minus, Cond.selects RX1 yX1_minus yX1_minus, Cond.code yX1_minus cX1_minus 2 none, Cond.methodLink RX1 51 yX1_subtractMultiple, Cond.instanceMethod yX1_subtractMultiple, Cond.selects RX1 yX1_subtractMultiple yX1_subtractMultiple, Cond.code yX1_subtractMultiple cX1_subtractMultiple 14 none, Cond.methodLink RX7 96 yX7_keepArc, Cond.instanceMethod yX7_keepArc, Cond.selects RX7 yX7_keepArc yX7_keepArc, Cond.code yX7_keepArc cX7_keepArc 5 none, Cond.methodLink RX7 103 yX7_lower, Cond.instanceMethod yX7_lower, Cond.selects RX7 yX7_lower yX7_lower]
def wsX10_shareOf_r10 : List Cond := [Cond.code yX7_lower cX7_lower 1 none, Cond.methodLink RX7 163 yX1_commonDivisor, Cond.static yX1_commonDivisor, Cond.code yX1_commonDivisor cX1_commonDivisor 6 (some (.object "StructureSearch$Big")), Cond.constant RX1 64 (1000000), Cond.methodLink RX1 75 yX1_reduceBy, Cond.instanceMethod yX1_reduceBy, Cond.selects RX1 yX1_reduceBy yX1_reduceBy, Cond.code yX1_reduceBy cX1_reduceBy 11 none, Cond.methodLink RX1 61 Lib.MathLoose.max_long.x, Cond.static Lib.MathLoose.max_long.x, Cond.code Lib.MathLoose.max_long.x Lib.MathLoose.max_long.code 4 (some .long), Cond.methodLink RX1 69 Lib.MathLoose.min_long.x, Cond.static Lib.MathLoose.min_long.x, Cond.code Lib.MathLoose.min_long.x Lib.MathLoose.min_long.code 4 (some .long), Cond.methodLink RX1 54 yX1_bits, Cond.instanceMethod yX1_bits, Cond.selects RX1 yX1_bits yX1_bits, Cond.code yX1_bits cX1_bits 1 (some .int), Cond.methodLink RX1 34 yX1_at, Cond.instanceMethod yX1_at, Cond.selects RX1 yX1_at yX1_at, Cond.code yX1_at cX1_at 2 (some .long), Cond.methodLink RX1 79 yJ13_numberOfLeadingZeros_95d88]
def wsX10_shareOf_r11 : List Cond := [Cond.static yJ13_numberOfLeadingZeros_95d88, Cond.initialized RJ13, Cond.code yJ13_numberOfLeadingZeros_95d88 cJ13_numberOfLeadingZeros_95d88 3 (some .int), Cond.methodLink RJ13 308 yJ6_numberOfLeadingZeros_0f7a4, Cond.static yJ6_numberOfLeadingZeros_0f7a4, Cond.code yJ6_numberOfLeadingZeros_0f7a4 cJ6_numberOfLeadingZeros_0f7a4 2 (some .int), Cond.constant RJ6 264 (65536), Cond.methodLink RX1 58 yX1_from, Cond.instanceMethod yX1_from, Cond.selects RX1 yX1_from yX1_from, Cond.code yX1_from cX1_from 6 (some .long), Cond.methodLink RX1 65 yX1_against, Cond.instanceMethod yX1_against, Cond.selects RX1 yX1_against yX1_against, Cond.code yX1_against cX1_against 3 (some .int), Cond.methodLink RX1 71 yX1_addDigit, Cond.instanceMethod yX1_addDigit, Cond.selects RX1 yX1_addDigit yX1_addDigit, Cond.code yX1_addDigit cX1_addDigit 10 none, Cond.methodLink RX7 167 yX7_divide, Cond.instanceMethod yX7_divide, Cond.selects RX7 yX7_divide yX7_divide, Cond.code yX7_divide cX7_divide 2 none, Cond.methodLink RX7 169 yX1_reduceBy]
def wsX10_shareOf : List Cond := .code yX10_shareOf cX10_shareOf 3 (some (.object "StructureSearch$Fraction")) :: ((wsX10_shareOf_r1 ++ (wsX10_shareOf_r2 ++ (wsX10_shareOf_r3 ++ (wsX10_shareOf_r4 ++ (wsX10_shareOf_r5 ++ (wsX10_shareOf_r6 ++ (wsX10_shareOf_r7 ++ (wsX10_shareOf_r8 ++ (wsX10_shareOf_r9 ++ (wsX10_shareOf_r10 ++ wsX10_shareOf_r11)))))))))) ++ wsX100 ++ wsX70 ++ wsX50 ++ wsX10 ++ wsX30 ++ wsX80)
def wsX10_shareSize_r1 : List Cond := [Cond.fieldLink RX10 12 "StructureSearch" "sheet" "LStructureSearch$Sheet;", Cond.fieldLink RX10 64 "StructureSearch$Sheet" "names" "I", Cond.methodLink RX10 188 yX10_isPair, Cond.instanceMethod yX10_isPair, Cond.selects RX10 yX10_isPair yX10_isPair, Cond.initialized RX10, Cond.code yX10_isPair cX10_isPair 3 (some .boolean), Cond.methodLink RX10 89 yX10_isName, Cond.instanceMethod yX10_isName, Cond.selects RX10 yX10_isName yX10_isName, Cond.code yX10_isName cX10_isName 2 (some .boolean), Cond.methodLink RX10 119 yX10_isPart, Cond.static yX10_isPart, Cond.code yX10_isPart cX10_isPart 1 (some .boolean), Cond.methodLink RX10 191 yX10_shareOf, Cond.instanceMethod yX10_shareOf, Cond.selects RX10 yX10_shareOf yX10_shareOf, Cond.code yX10_shareOf cX10_shareOf 3 (some (.object "StructureSearch$Fraction")), Cond.fieldLink RX10 50 "StructureSearch" "shares" "LStructureSearch$Shares;", Cond.classLink RX10 213 RX7, Cond.instantiable RX7 12, Cond.initialized RX7, Cond.fieldLink RX10 19 "StructureSearch" "powers" "LStructureSearch$Powers;", Cond.methodLink RX10 215 yX7_init]
def wsX10_shareSize_r2 : List Cond := [Cond.instanceMethod yX7_init, Cond.code yX7_init cX7_init 4 none, Cond.methodLink RX7 5 objectInit, Cond.instanceMethod objectInit, Cond.code objectInit ⟨#[0xb1]⟩ 1 none, Cond.fieldLink RX7 11 "StructureSearch$Shares" "sheet" "LStructureSearch$Sheet;", Cond.fieldLink RX7 15 "StructureSearch$Shares" "powers" "LStructureSearch$Powers;", Cond.classLink RX7 19 RX5, Cond.instantiable RX5 2, Cond.initialized RX5, Cond.fieldLink RX7 22 "StructureSearch$Shares" "least" "LStructureSearch$Powers;", Cond.classLink RX7 25 RX1, Cond.fieldLink RX7 27 "StructureSearch$Shares" "weights" "[LStructureSearch$Big;", Cond.instantiable RX1 2, Cond.initialized RX1, Cond.fieldLink RX7 40 "StructureSearch$Shares" "sums" "[LStructureSearch$Big;", Cond.fieldLink RX7 43 "StructureSearch$Shares" "none" "LStructureSearch$Big;", Cond.fieldLink RX7 47 "StructureSearch$Shares" "term" "LStructureSearch$Big;", Cond.fieldLink RX7 50 "StructureSearch$Shares" "rest" "LStructureSearch$Big;", Cond.fieldLink RX7 53 "StructureSearch$Shares" "divisor" "LStructureSearch$Big;", Cond.classLink RX7 56 RX3, Cond.instantiable RX3 3, Cond.initialized RX3, Cond.fieldLink RX7 59 "StructureSearch$Shares" "share" "LStructureSearch$Fraction;"]
def wsX10_shareSize_r3 : List Cond := [Cond.fieldLink RX7 63 "StructureSearch$Shares" "shareFrom" "I", Cond.fieldLink RX7 67 "StructureSearch$Shares" "shareTo" "I", Cond.methodLink RX7 21 yX5_init, Cond.instanceMethod yX5_init, Cond.code yX5_init cX5_init 1 none, Cond.methodLink RX5 3 objectInit, Cond.arrayClass .int, Cond.fieldLink RX5 11 "StructureSearch$Powers" "power" "[I", Cond.fieldLink RX5 15 "StructureSearch$Powers" "largest" "I", Cond.methodLink RX7 31 yX0_isIn, Cond.static yX0_isIn, Cond.initialized RX0, Cond.code yX0_isIn cX0_isIn 2 (some .boolean), Cond.methodLink RX7 37 yX1_init, Cond.instanceMethod yX1_init, Cond.code yX1_init cX1_init 2 none, Cond.methodLink RX1 3 objectInit, Cond.methodLink RX1 9 Lib.Math.max.name, Cond.static Lib.Math.max.name, Cond.initialized "java/lang/Math", Cond.code Lib.Math.max.name Lib.Math.max.code 2 (some .int), Cond.arrayClass .long, Cond.fieldLink RX1 15 "StructureSearch$Big" "words" "[J", Cond.fieldLink RX1 21 "StructureSearch$Big" "used" "I"]
def wsX10_shareSize_r4 : List Cond := [Cond.methodLink RX7 58 yX3_init, Cond.instanceMethod yX3_init, Cond.code yX3_init cX3_init 2 none, Cond.methodLink RX3 1 objectInit, Cond.classLink RX3 7 RX1, Cond.fieldLink RX3 12 "StructureSearch$Fraction" "above" "LStructureSearch$Big;", Cond.fieldLink RX3 18 "StructureSearch$Fraction" "below" "LStructureSearch$Big;", Cond.fieldLink RX3 21 "StructureSearch$Fraction" "ready" "Z", Cond.methodLink RX3 9 yX1_init, Cond.methodLink RX10 216 yX7_of, Cond.instanceMethod yX7_of, Cond.selects RX7 yX7_of yX7_of, Cond.code yX7_of cX7_of 5 (some (.object "StructureSearch$Fraction")), Cond.fieldLink RX7 70 "StructureSearch$Fraction" "ready" "Z", Cond.fieldLink RX7 74 "StructureSearch$Sheet" "names" "I", Cond.fieldLink RX7 85 "StructureSearch$Fraction" "below" "LStructureSearch$Big;", Cond.fieldLink RX7 100 "StructureSearch$Fraction" "above" "LStructureSearch$Big;", Cond.methodLink RX7 79 yX7_weigh, Cond.instanceMethod yX7_weigh, Cond.selects RX7 yX7_weigh yX7_weigh, Cond.code yX7_weigh cX7_weigh 3 none, Cond.methodLink RX7 106 yX7_isOpen, Cond.instanceMethod yX7_isOpen, Cond.selects RX7 yX7_isOpen yX7_isOpen]
def wsX10_shareSize_r5 : List Cond := [Cond.code yX7_isOpen cX7_isOpen 3 (some .boolean), Cond.fieldLink RX7 148 "StructureSearch$Sheet" "most" "I", Cond.methodLink RX7 142 yJ6_bitCount_0f7a4, Cond.static yJ6_bitCount_0f7a4, Cond.initialized RJ6, Cond.code yJ6_bitCount_0f7a4 cJ6_bitCount_0f7a4 1 (some .int), Cond.constant RJ6 265 (1431655765), Cond.constant RJ6 266 (858993459), Cond.constant RJ6 267 (252645135), Cond.methodLink RX7 109 yX5_forget, Cond.instanceMethod yX5_forget, Cond.selects RX5 yX5_forget yX5_forget, Cond.code yX5_forget cX5_forget 2 none, Cond.methodLink RX7 112 yX8_pourFit, Cond.instanceMethod yX8_pourFit, Cond.selects RX8 yX8_pourFit yX8_pourFit, Cond.initialized RX8, Cond.code yX8_pourFit cX8_pourFit 13 none, Cond.fieldLink RX8 21 "StructureSearch$Sheet" "names" "I", Cond.fieldLink RX8 25 "StructureSearch$Sheet" "rows" "I", Cond.fieldLink RX8 28 "StructureSearch$Sheet" "strength" "I", Cond.methodLink RX8 38 yX8_valuesOf, Cond.instanceMethod yX8_valuesOf, Cond.selects RX8 yX8_valuesOf yX8_valuesOf]
def wsX10_shareSize_r6 : List Cond := [Cond.code yX8_valuesOf cX8_valuesOf 2 (some .int), Cond.fieldLink RX8 9 "StructureSearch$Sheet" "values" "[I", Cond.methodLink RX8 41 yX0_isIn, Cond.methodLink RX8 34 yX8_codeOf, Cond.instanceMethod yX8_codeOf, Cond.selects RX8 yX8_codeOf yX8_codeOf, Cond.code yX8_codeOf cX8_codeOf 2 (some .int), Cond.fieldLink RX8 15 "StructureSearch$Sheet" "codes" "[I", Cond.methodLink RX8 47 yX5_multiply, Cond.instanceMethod yX5_multiply, Cond.selects RX5 yX5_multiply yX5_multiply, Cond.code yX5_multiply cX5_multiply 7 none, Cond.fieldLink RX5 19 "StructureSearch$Powers" "SMALL_PRIMES" "[I", Cond.methodLink RX5 22 Lib.Math.max.name, Cond.methodLink RX7 116 yX5_copy, Cond.instanceMethod yX5_copy, Cond.selects RX5 yX5_copy yX5_copy, Cond.code yX5_copy cX5_copy 3 none, Cond.methodLink RX5 40 yX5_forget, Cond.methodLink RX7 119 yX5_lowerTo, Cond.instanceMethod yX5_lowerTo, Cond.selects RX5 yX5_lowerTo yX5_lowerTo, Cond.code yX5_lowerTo cX5_lowerTo 3 none, Cond.methodLink RX5 43 Lib.Math.min.name]
def wsX10_shareSize_r7 : List Cond := [Cond.static Lib.Math.min.name, Cond.code Lib.Math.min.name Lib.Math.min.code 2 (some .int), Cond.methodLink RX7 122 yX7_weight, Cond.instanceMethod yX7_weight, Cond.selects RX7 yX7_weight yX7_weight, Cond.code yX7_weight cX7_weight 4 (some (.object "StructureSearch$Big")), Cond.methodLink RX7 126 yX1_become, Cond.instanceMethod yX1_become, Cond.selects RX1 yX1_become yX1_become, Cond.code yX1_become cX1_become 2 none, Cond.methodLink RX7 129 yX5_divide, Cond.instanceMethod yX5_divide, Cond.selects RX5 yX5_divide yX5_divide, Cond.code yX5_divide cX5_divide 3 none, Cond.methodLink RX7 132 yX5_write, Cond.instanceMethod yX5_write, Cond.selects RX5 yX5_write yX5_write, Cond.code yX5_write cX5_write 8 none, Cond.constantLong RX5 34 (4294967295), Cond.methodLink RX5 28 yX1_become, Cond.methodLink RX5 36 yX1_timesSmall, Cond.instanceMethod yX1_timesSmall, Cond.selects RX1 yX1_timesSmall yX1_timesSmall, Cond.code yX1_timesSmall cX1_timesSmall 9 none]
def wsX10_shareSize_r8 : List Cond := [Cond.methodLink RX1 25 Lib.Math.min.name, Cond.constantLong RX1 38 (4294967295), Cond.methodLink RX7 136 yX7_addSmaller, Cond.instanceMethod yX7_addSmaller, Cond.selects RX7 yX7_addSmaller yX7_addSmaller, Cond.code yX7_addSmaller cX7_addSmaller 5 none, Cond.methodLink RX7 139 yX1_plus, Cond.instanceMethod yX1_plus, Cond.selects RX1 yX1_plus yX1_plus, Cond.code yX1_plus cX1_plus 2 none, Cond.methodLink RX1 40 yX1_widen, Cond.instanceMethod yX1_widen, Cond.selects RX1 yX1_widen yX1_widen, Cond.code yX1_widen cX1_widen 4 none, Cond.methodLink RX1 44 yX1_addMultiple, Cond.instanceMethod yX1_addMultiple, Cond.selects RX1 yX1_addMultiple yX1_addMultiple, Cond.code yX1_addMultiple cX1_addMultiple 12 none, Cond.methodLink RX1 48 yX1_trim, Cond.instanceMethod yX1_trim, Cond.selects RX1 yX1_trim yX1_trim, Cond.code yX1_trim cX1_trim 2 none, Cond.methodLink RX7 82 yX7_sumGraphs, Cond.instanceMethod yX7_sumGraphs]
def wsX10_shareSize_r9 : List Cond := [Cond.selects RX7 yX7_sumGraphs yX7_sumGraphs, Cond.code yX7_sumGraphs cX7_sumGraphs 3 none, Cond.methodLink RX7 154 yX7_sumGraphsOf, Cond.instanceMethod yX7_sumGraphsOf, Cond.selects RX7 yX7_sumGraphsOf yX7_sumGraphsOf, Cond.code yX7_sumGraphsOf cX7_sumGraphsOf 5 none, Cond.methodLink RX7 88 yX7_sum, Cond.instanceMethod yX7_sum, Cond.selects RX7 yX7_sum yX7_sum, Cond.code yX7_sum cX7_sum 2 (some (.object "StructureSearch$Big")), Cond.methodLink RX7 157 yX7_multiplyOut, Cond.instanceMethod yX7_multiplyOut, Cond.selects RX7 yX7_multiplyOut yX7_multiplyOut, Cond.code yX7_multiplyOut cX7_multiplyOut 4 none, Cond.methodLink RX7 92 yX1_copy, Cond.instanceMethod yX1_copy, Cond.selects RX1 yX1_copy yX1_copy, Cond.code yX1_copy cX1_copy 2 none, Cond.methodLink RX1 28 arraycopyName, Cond.native arraycopyName, Cond.static arraycopyName, Cond.initialized "java/lang/System", Cond.methodLink RX7 160 yX1_times, Cond.instanceMethod yX1_times]
def wsX10_shareSize_r10 : List Cond := [Cond.selects RX1 yX1_times yX1_times, Cond.code yX1_times cX1_times 6 none, Cond.methodLink RX7 151 yX1_minus, Cond.instanceMethod yX1_minus, Cond.selects RX1 yX1_minus yX1_minus, Cond.code yX1_minus cX1_minus 2 none, Cond.methodLink RX1 51 yX1_subtractMultiple, Cond.instanceMethod yX1_subtractMultiple, Cond.selects RX1 yX1_subtractMultiple yX1_subtractMultiple, Cond.code yX1_subtractMultiple cX1_subtractMultiple 14 none, Cond.methodLink RX7 96 yX7_keepArc, Cond.instanceMethod yX7_keepArc, Cond.selects RX7 yX7_keepArc yX7_keepArc, Cond.code yX7_keepArc cX7_keepArc 5 none, Cond.methodLink RX7 103 yX7_lower, Cond.instanceMethod yX7_lower, Cond.selects RX7 yX7_lower yX7_lower, Cond.code yX7_lower cX7_lower 1 none, Cond.methodLink RX7 163 yX1_commonDivisor, Cond.static yX1_commonDivisor, Cond.code yX1_commonDivisor cX1_commonDivisor 6 (some (.object "StructureSearch$Big")), Cond.constant RX1 64 (1000000), Cond.methodLink RX1 75 yX1_reduceBy, Cond.instanceMethod yX1_reduceBy]
def wsX10_shareSize_r11 : List Cond := [Cond.selects RX1 yX1_reduceBy yX1_reduceBy, Cond.code yX1_reduceBy cX1_reduceBy 11 none, Cond.methodLink RX1 61 Lib.MathLoose.max_long.x, Cond.static Lib.MathLoose.max_long.x, Cond.code Lib.MathLoose.max_long.x Lib.MathLoose.max_long.code 4 (some .long), Cond.methodLink RX1 69 Lib.MathLoose.min_long.x, Cond.static Lib.MathLoose.min_long.x, Cond.code Lib.MathLoose.min_long.x Lib.MathLoose.min_long.code 4 (some .long), Cond.methodLink RX1 54 yX1_bits, Cond.instanceMethod yX1_bits, Cond.selects RX1 yX1_bits yX1_bits, Cond.code yX1_bits cX1_bits 1 (some .int), Cond.methodLink RX1 34 yX1_at, Cond.instanceMethod yX1_at, Cond.selects RX1 yX1_at yX1_at, Cond.code yX1_at cX1_at 2 (some .long), Cond.methodLink RX1 79 yJ13_numberOfLeadingZeros_95d88, Cond.static yJ13_numberOfLeadingZeros_95d88, Cond.initialized RJ13, Cond.code yJ13_numberOfLeadingZeros_95d88 cJ13_numberOfLeadingZeros_95d88 3 (some .int), Cond.methodLink RJ13 308 yJ6_numberOfLeadingZeros_0f7a4, Cond.static yJ6_numberOfLeadingZeros_0f7a4, Cond.code yJ6_numberOfLeadingZeros_0f7a4 cJ6_numberOfLeadingZeros_0f7a4 2 (some .int), Cond.constant RJ6 264 (65536)]
def wsX10_shareSize_r12 : List Cond := [Cond.methodLink RX1 58 yX1_from, Cond.instanceMethod yX1_from, Cond.selects RX1 yX1_from yX1_from, Cond.code yX1_from cX1_from 6 (some .long), Cond.methodLink RX1 65 yX1_against, Cond.instanceMethod yX1_against, Cond.selects RX1 yX1_against yX1_against, Cond.code yX1_against cX1_against 3 (some .int), Cond.methodLink RX1 71 yX1_addDigit, Cond.instanceMethod yX1_addDigit, Cond.selects RX1 yX1_addDigit yX1_addDigit, Cond.code yX1_addDigit cX1_addDigit 10 none, Cond.methodLink RX7 167 yX7_divide, Cond.instanceMethod yX7_divide, Cond.selects RX7 yX7_divide yX7_divide, Cond.code yX7_divide cX7_divide 2 none, Cond.methodLink RX7 169 yX1_reduceBy, Cond.methodLink RX10 126 yX3_side, Cond.instanceMethod yX3_side, Cond.selects RX3 yX3_side yX3_side, Cond.code yX3_side cX3_side 2 (some (.object "StructureSearch$Big")), Cond.methodLink RX10 132 yX1_length, Cond.instanceMethod yX1_length, Cond.selects RX1 yX1_length yX1_length]
def wsX10_shareSize_r13 : List Cond := [Cond.code yX1_length cX1_length 1 (some .int)]
def wsX10_shareSize : List Cond := .code yX10_shareSize cX10_shareSize 4 (some .int) :: ((wsX10_shareSize_r1 ++ (wsX10_shareSize_r2 ++ (wsX10_shareSize_r3 ++ (wsX10_shareSize_r4 ++ (wsX10_shareSize_r5 ++ (wsX10_shareSize_r6 ++ (wsX10_shareSize_r7 ++ (wsX10_shareSize_r8 ++ (wsX10_shareSize_r9 ++ (wsX10_shareSize_r10 ++ (wsX10_shareSize_r11 ++ (wsX10_shareSize_r12 ++ wsX10_shareSize_r13)))))))))))) ++ wsX100 ++ wsX80 ++ wsX70 ++ wsX50 ++ wsX10 ++ wsX30)
def wsX10_shareWord_r1 : List Cond := [Cond.constantLong RX10 138 (-1), Cond.fieldLink RX10 12 "StructureSearch" "sheet" "LStructureSearch$Sheet;", Cond.fieldLink RX10 64 "StructureSearch$Sheet" "names" "I", Cond.constantLong RX10 195 (-2), Cond.methodLink RX10 188 yX10_isPair, Cond.instanceMethod yX10_isPair, Cond.selects RX10 yX10_isPair yX10_isPair, Cond.initialized RX10, Cond.code yX10_isPair cX10_isPair 3 (some .boolean), Cond.methodLink RX10 89 yX10_isName, Cond.instanceMethod yX10_isName, Cond.selects RX10 yX10_isName yX10_isName, Cond.code yX10_isName cX10_isName 2 (some .boolean), Cond.methodLink RX10 119 yX10_isPart, Cond.static yX10_isPart, Cond.code yX10_isPart cX10_isPart 1 (some .boolean), Cond.methodLink RX10 191 yX10_shareOf, Cond.instanceMethod yX10_shareOf, Cond.selects RX10 yX10_shareOf yX10_shareOf, Cond.code yX10_shareOf cX10_shareOf 3 (some (.object "StructureSearch$Fraction")), Cond.fieldLink RX10 50 "StructureSearch" "shares" "LStructureSearch$Shares;", Cond.classLink RX10 213 RX7, Cond.instantiable RX7 12, Cond.initialized RX7]
def wsX10_shareWord_r2 : List Cond := [Cond.fieldLink RX10 19 "StructureSearch" "powers" "LStructureSearch$Powers;", Cond.methodLink RX10 215 yX7_init, Cond.instanceMethod yX7_init, Cond.code yX7_init cX7_init 4 none, Cond.methodLink RX7 5 objectInit, Cond.instanceMethod objectInit, Cond.code objectInit ⟨#[0xb1]⟩ 1 none, Cond.fieldLink RX7 11 "StructureSearch$Shares" "sheet" "LStructureSearch$Sheet;", Cond.fieldLink RX7 15 "StructureSearch$Shares" "powers" "LStructureSearch$Powers;", Cond.classLink RX7 19 RX5, Cond.instantiable RX5 2, Cond.initialized RX5, Cond.fieldLink RX7 22 "StructureSearch$Shares" "least" "LStructureSearch$Powers;", Cond.classLink RX7 25 RX1, Cond.fieldLink RX7 27 "StructureSearch$Shares" "weights" "[LStructureSearch$Big;", Cond.instantiable RX1 2, Cond.initialized RX1, Cond.fieldLink RX7 40 "StructureSearch$Shares" "sums" "[LStructureSearch$Big;", Cond.fieldLink RX7 43 "StructureSearch$Shares" "none" "LStructureSearch$Big;", Cond.fieldLink RX7 47 "StructureSearch$Shares" "term" "LStructureSearch$Big;", Cond.fieldLink RX7 50 "StructureSearch$Shares" "rest" "LStructureSearch$Big;", Cond.fieldLink RX7 53 "StructureSearch$Shares" "divisor" "LStructureSearch$Big;", Cond.classLink RX7 56 RX3, Cond.instantiable RX3 3]
def wsX10_shareWord_r3 : List Cond := [Cond.initialized RX3, Cond.fieldLink RX7 59 "StructureSearch$Shares" "share" "LStructureSearch$Fraction;", Cond.fieldLink RX7 63 "StructureSearch$Shares" "shareFrom" "I", Cond.fieldLink RX7 67 "StructureSearch$Shares" "shareTo" "I", Cond.methodLink RX7 21 yX5_init, Cond.instanceMethod yX5_init, Cond.code yX5_init cX5_init 1 none, Cond.methodLink RX5 3 objectInit, Cond.arrayClass .int, Cond.fieldLink RX5 11 "StructureSearch$Powers" "power" "[I", Cond.fieldLink RX5 15 "StructureSearch$Powers" "largest" "I", Cond.methodLink RX7 31 yX0_isIn, Cond.static yX0_isIn, Cond.initialized RX0, Cond.code yX0_isIn cX0_isIn 2 (some .boolean), Cond.methodLink RX7 37 yX1_init, Cond.instanceMethod yX1_init, Cond.code yX1_init cX1_init 2 none, Cond.methodLink RX1 3 objectInit, Cond.methodLink RX1 9 Lib.Math.max.name, Cond.static Lib.Math.max.name, Cond.initialized "java/lang/Math", Cond.code Lib.Math.max.name Lib.Math.max.code 2 (some .int), Cond.arrayClass .long]
def wsX10_shareWord_r4 : List Cond := [Cond.fieldLink RX1 15 "StructureSearch$Big" "words" "[J", Cond.fieldLink RX1 21 "StructureSearch$Big" "used" "I", Cond.methodLink RX7 58 yX3_init, Cond.instanceMethod yX3_init, Cond.code yX3_init cX3_init 2 none, Cond.methodLink RX3 1 objectInit, Cond.classLink RX3 7 RX1, Cond.fieldLink RX3 12 "StructureSearch$Fraction" "above" "LStructureSearch$Big;", Cond.fieldLink RX3 18 "StructureSearch$Fraction" "below" "LStructureSearch$Big;", Cond.fieldLink RX3 21 "StructureSearch$Fraction" "ready" "Z", Cond.methodLink RX3 9 yX1_init, Cond.methodLink RX10 216 yX7_of, Cond.instanceMethod yX7_of, Cond.selects RX7 yX7_of yX7_of, Cond.code yX7_of cX7_of 5 (some (.object "StructureSearch$Fraction")), Cond.fieldLink RX7 70 "StructureSearch$Fraction" "ready" "Z", Cond.fieldLink RX7 74 "StructureSearch$Sheet" "names" "I", Cond.fieldLink RX7 85 "StructureSearch$Fraction" "below" "LStructureSearch$Big;", Cond.fieldLink RX7 100 "StructureSearch$Fraction" "above" "LStructureSearch$Big;", Cond.methodLink RX7 79 yX7_weigh, Cond.instanceMethod yX7_weigh, Cond.selects RX7 yX7_weigh yX7_weigh, Cond.code yX7_weigh cX7_weigh 3 none, Cond.methodLink RX7 106 yX7_isOpen]
def wsX10_shareWord_r5 : List Cond := [Cond.instanceMethod yX7_isOpen, Cond.selects RX7 yX7_isOpen yX7_isOpen, Cond.code yX7_isOpen cX7_isOpen 3 (some .boolean), Cond.fieldLink RX7 148 "StructureSearch$Sheet" "most" "I", Cond.methodLink RX7 142 yJ6_bitCount_0f7a4, Cond.static yJ6_bitCount_0f7a4, Cond.initialized RJ6, Cond.code yJ6_bitCount_0f7a4 cJ6_bitCount_0f7a4 1 (some .int), Cond.constant RJ6 265 (1431655765), Cond.constant RJ6 266 (858993459), Cond.constant RJ6 267 (252645135), Cond.methodLink RX7 109 yX5_forget, Cond.instanceMethod yX5_forget, Cond.selects RX5 yX5_forget yX5_forget, Cond.code yX5_forget cX5_forget 2 none, Cond.methodLink RX7 112 yX8_pourFit, Cond.instanceMethod yX8_pourFit, Cond.selects RX8 yX8_pourFit yX8_pourFit, Cond.initialized RX8, Cond.code yX8_pourFit cX8_pourFit 13 none, Cond.fieldLink RX8 21 "StructureSearch$Sheet" "names" "I", Cond.fieldLink RX8 25 "StructureSearch$Sheet" "rows" "I", Cond.fieldLink RX8 28 "StructureSearch$Sheet" "strength" "I", Cond.methodLink RX8 38 yX8_valuesOf]
def wsX10_shareWord_r6 : List Cond := [Cond.instanceMethod yX8_valuesOf, Cond.selects RX8 yX8_valuesOf yX8_valuesOf, Cond.code yX8_valuesOf cX8_valuesOf 2 (some .int), Cond.fieldLink RX8 9 "StructureSearch$Sheet" "values" "[I", Cond.methodLink RX8 41 yX0_isIn, Cond.methodLink RX8 34 yX8_codeOf, Cond.instanceMethod yX8_codeOf, Cond.selects RX8 yX8_codeOf yX8_codeOf, Cond.code yX8_codeOf cX8_codeOf 2 (some .int), Cond.fieldLink RX8 15 "StructureSearch$Sheet" "codes" "[I", Cond.methodLink RX8 47 yX5_multiply, Cond.instanceMethod yX5_multiply, Cond.selects RX5 yX5_multiply yX5_multiply, Cond.code yX5_multiply cX5_multiply 7 none, Cond.fieldLink RX5 19 "StructureSearch$Powers" "SMALL_PRIMES" "[I", Cond.methodLink RX5 22 Lib.Math.max.name, Cond.methodLink RX7 116 yX5_copy, Cond.instanceMethod yX5_copy, Cond.selects RX5 yX5_copy yX5_copy, Cond.code yX5_copy cX5_copy 3 none, Cond.methodLink RX5 40 yX5_forget, Cond.methodLink RX7 119 yX5_lowerTo, Cond.instanceMethod yX5_lowerTo, Cond.selects RX5 yX5_lowerTo yX5_lowerTo]
def wsX10_shareWord_r7 : List Cond := [Cond.code yX5_lowerTo cX5_lowerTo 3 none, Cond.methodLink RX5 43 Lib.Math.min.name, Cond.static Lib.Math.min.name, Cond.code Lib.Math.min.name Lib.Math.min.code 2 (some .int), Cond.methodLink RX7 122 yX7_weight, Cond.instanceMethod yX7_weight, Cond.selects RX7 yX7_weight yX7_weight, Cond.code yX7_weight cX7_weight 4 (some (.object "StructureSearch$Big")), Cond.methodLink RX7 126 yX1_become, Cond.instanceMethod yX1_become, Cond.selects RX1 yX1_become yX1_become, Cond.code yX1_become cX1_become 2 none, Cond.methodLink RX7 129 yX5_divide, Cond.instanceMethod yX5_divide, Cond.selects RX5 yX5_divide yX5_divide, Cond.code yX5_divide cX5_divide 3 none, Cond.methodLink RX7 132 yX5_write, Cond.instanceMethod yX5_write, Cond.selects RX5 yX5_write yX5_write, Cond.code yX5_write cX5_write 8 none, Cond.constantLong RX5 34 (4294967295), Cond.methodLink RX5 28 yX1_become, Cond.methodLink RX5 36 yX1_timesSmall, Cond.instanceMethod yX1_timesSmall]
def wsX10_shareWord_r8 : List Cond := [Cond.selects RX1 yX1_timesSmall yX1_timesSmall, Cond.code yX1_timesSmall cX1_timesSmall 9 none, Cond.methodLink RX1 25 Lib.Math.min.name, Cond.constantLong RX1 38 (4294967295), Cond.methodLink RX7 136 yX7_addSmaller, Cond.instanceMethod yX7_addSmaller, Cond.selects RX7 yX7_addSmaller yX7_addSmaller, Cond.code yX7_addSmaller cX7_addSmaller 5 none, Cond.methodLink RX7 139 yX1_plus, Cond.instanceMethod yX1_plus, Cond.selects RX1 yX1_plus yX1_plus, Cond.code yX1_plus cX1_plus 2 none, Cond.methodLink RX1 40 yX1_widen, Cond.instanceMethod yX1_widen, Cond.selects RX1 yX1_widen yX1_widen, Cond.code yX1_widen cX1_widen 4 none, Cond.methodLink RX1 44 yX1_addMultiple, Cond.instanceMethod yX1_addMultiple, Cond.selects RX1 yX1_addMultiple yX1_addMultiple, Cond.code yX1_addMultiple cX1_addMultiple 12 none, Cond.methodLink RX1 48 yX1_trim, Cond.instanceMethod yX1_trim, Cond.selects RX1 yX1_trim yX1_trim, Cond.code yX1_trim cX1_trim 2 none]
def wsX10_shareWord_r9 : List Cond := [Cond.methodLink RX7 82 yX7_sumGraphs, Cond.instanceMethod yX7_sumGraphs, Cond.selects RX7 yX7_sumGraphs yX7_sumGraphs, Cond.code yX7_sumGraphs cX7_sumGraphs 3 none, Cond.methodLink RX7 154 yX7_sumGraphsOf, Cond.instanceMethod yX7_sumGraphsOf, Cond.selects RX7 yX7_sumGraphsOf yX7_sumGraphsOf, Cond.code yX7_sumGraphsOf cX7_sumGraphsOf 5 none, Cond.methodLink RX7 88 yX7_sum, Cond.instanceMethod yX7_sum, Cond.selects RX7 yX7_sum yX7_sum, Cond.code yX7_sum cX7_sum 2 (some (.object "StructureSearch$Big")), Cond.methodLink RX7 157 yX7_multiplyOut, Cond.instanceMethod yX7_multiplyOut, Cond.selects RX7 yX7_multiplyOut yX7_multiplyOut, Cond.code yX7_multiplyOut cX7_multiplyOut 4 none, Cond.methodLink RX7 92 yX1_copy, Cond.instanceMethod yX1_copy, Cond.selects RX1 yX1_copy yX1_copy, Cond.code yX1_copy cX1_copy 2 none, Cond.methodLink RX1 28 arraycopyName, Cond.native arraycopyName, Cond.static arraycopyName, Cond.initialized "java/lang/System"]
def wsX10_shareWord_r10 : List Cond := [Cond.methodLink RX7 160 yX1_times, Cond.instanceMethod yX1_times, Cond.selects RX1 yX1_times yX1_times, Cond.code yX1_times cX1_times 6 none, Cond.methodLink RX7 151 yX1_minus, Cond.instanceMethod yX1_minus, Cond.selects RX1 yX1_minus yX1_minus, Cond.code yX1_minus cX1_minus 2 none, Cond.methodLink RX1 51 yX1_subtractMultiple, Cond.instanceMethod yX1_subtractMultiple, Cond.selects RX1 yX1_subtractMultiple yX1_subtractMultiple, Cond.code yX1_subtractMultiple cX1_subtractMultiple 14 none, Cond.methodLink RX7 96 yX7_keepArc, Cond.instanceMethod yX7_keepArc, Cond.selects RX7 yX7_keepArc yX7_keepArc, Cond.code yX7_keepArc cX7_keepArc 5 none, Cond.methodLink RX7 103 yX7_lower, Cond.instanceMethod yX7_lower, Cond.selects RX7 yX7_lower yX7_lower, Cond.code yX7_lower cX7_lower 1 none, Cond.methodLink RX7 163 yX1_commonDivisor, Cond.static yX1_commonDivisor, Cond.code yX1_commonDivisor cX1_commonDivisor 6 (some (.object "StructureSearch$Big")), Cond.constant RX1 64 (1000000)]
def wsX10_shareWord_r11 : List Cond := [Cond.methodLink RX1 75 yX1_reduceBy, Cond.instanceMethod yX1_reduceBy, Cond.selects RX1 yX1_reduceBy yX1_reduceBy, Cond.code yX1_reduceBy cX1_reduceBy 11 none, Cond.methodLink RX1 61 Lib.MathLoose.max_long.x, Cond.static Lib.MathLoose.max_long.x, Cond.code Lib.MathLoose.max_long.x Lib.MathLoose.max_long.code 4 (some .long), Cond.methodLink RX1 69 Lib.MathLoose.min_long.x, Cond.static Lib.MathLoose.min_long.x, Cond.code Lib.MathLoose.min_long.x Lib.MathLoose.min_long.code 4 (some .long), Cond.methodLink RX1 54 yX1_bits, Cond.instanceMethod yX1_bits, Cond.selects RX1 yX1_bits yX1_bits, Cond.code yX1_bits cX1_bits 1 (some .int), Cond.methodLink RX1 34 yX1_at, Cond.instanceMethod yX1_at, Cond.selects RX1 yX1_at yX1_at, Cond.code yX1_at cX1_at 2 (some .long), Cond.methodLink RX1 79 yJ13_numberOfLeadingZeros_95d88, Cond.static yJ13_numberOfLeadingZeros_95d88, Cond.initialized RJ13, Cond.code yJ13_numberOfLeadingZeros_95d88 cJ13_numberOfLeadingZeros_95d88 3 (some .int), Cond.methodLink RJ13 308 yJ6_numberOfLeadingZeros_0f7a4, Cond.static yJ6_numberOfLeadingZeros_0f7a4]
def wsX10_shareWord_r12 : List Cond := [Cond.code yJ6_numberOfLeadingZeros_0f7a4 cJ6_numberOfLeadingZeros_0f7a4 2 (some .int), Cond.constant RJ6 264 (65536), Cond.methodLink RX1 58 yX1_from, Cond.instanceMethod yX1_from, Cond.selects RX1 yX1_from yX1_from, Cond.code yX1_from cX1_from 6 (some .long), Cond.methodLink RX1 65 yX1_against, Cond.instanceMethod yX1_against, Cond.selects RX1 yX1_against yX1_against, Cond.code yX1_against cX1_against 3 (some .int), Cond.methodLink RX1 71 yX1_addDigit, Cond.instanceMethod yX1_addDigit, Cond.selects RX1 yX1_addDigit yX1_addDigit, Cond.code yX1_addDigit cX1_addDigit 10 none, Cond.methodLink RX7 167 yX7_divide, Cond.instanceMethod yX7_divide, Cond.selects RX7 yX7_divide yX7_divide, Cond.code yX7_divide cX7_divide 2 none, Cond.methodLink RX7 169 yX1_reduceBy, Cond.methodLink RX10 126 yX3_side, Cond.instanceMethod yX3_side, Cond.selects RX3 yX3_side yX3_side, Cond.code yX3_side cX3_side 2 (some (.object "StructureSearch$Big")), Cond.methodLink RX10 140 yX10_wordOf]
def wsX10_shareWord_r13 : List Cond := [Cond.static yX10_wordOf, Cond.code yX10_wordOf cX10_wordOf 2 (some .long), Cond.methodLink RX10 132 yX1_length, Cond.instanceMethod yX1_length, Cond.selects RX1 yX1_length yX1_length, Cond.code yX1_length cX1_length 1 (some .int), Cond.methodLink RX10 210 yX1_at]
def wsX10_shareWord : List Cond := .code yX10_shareWord cX10_shareWord 5 (some .long) :: ((wsX10_shareWord_r1 ++ (wsX10_shareWord_r2 ++ (wsX10_shareWord_r3 ++ (wsX10_shareWord_r4 ++ (wsX10_shareWord_r5 ++ (wsX10_shareWord_r6 ++ (wsX10_shareWord_r7 ++ (wsX10_shareWord_r8 ++ (wsX10_shareWord_r9 ++ (wsX10_shareWord_r10 ++ (wsX10_shareWord_r11 ++ (wsX10_shareWord_r12 ++ wsX10_shareWord_r13)))))))))))) ++ wsX100 ++ wsX80 ++ wsX70 ++ wsX50 ++ wsX10 ++ wsX30)
def wsX10_test_r1 : List Cond := [Cond.constantLong RX10 138 (-1), Cond.fieldLink RX10 46 "StructureSearch" "tables" "LStructureSearch$Tables;", Cond.methodLink RX10 188 yX10_isPair, Cond.instanceMethod yX10_isPair, Cond.selects RX10 yX10_isPair yX10_isPair, Cond.initialized RX10, Cond.code yX10_isPair cX10_isPair 3 (some .boolean), Cond.methodLink RX10 89 yX10_isName, Cond.instanceMethod yX10_isName, Cond.selects RX10 yX10_isName yX10_isName, Cond.code yX10_isName cX10_isName 2 (some .boolean), Cond.fieldLink RX10 12 "StructureSearch" "sheet" "LStructureSearch$Sheet;", Cond.fieldLink RX10 64 "StructureSearch$Sheet" "names" "I", Cond.methodLink RX10 119 yX10_isPart, Cond.static yX10_isPart, Cond.code yX10_isPart cX10_isPart 1 (some .boolean), Cond.methodLink RX10 197 yX10_isValue, Cond.instanceMethod yX10_isValue, Cond.selects RX10 yX10_isValue yX10_isValue, Cond.code yX10_isValue cX10_isValue 3 (some .boolean), Cond.methodLink RX10 104 yX8_valuesOf, Cond.instanceMethod yX8_valuesOf, Cond.selects RX8 yX8_valuesOf yX8_valuesOf, Cond.initialized RX8]
def wsX10_test_r2 : List Cond := [Cond.code yX8_valuesOf cX8_valuesOf 2 (some .int), Cond.fieldLink RX8 21 "StructureSearch$Sheet" "names" "I", Cond.fieldLink RX8 9 "StructureSearch$Sheet" "values" "[I", Cond.methodLink RX10 200 yX9_count, Cond.instanceMethod yX9_count, Cond.selects RX9 yX9_count yX9_count, Cond.initialized RX9, Cond.code yX9_count cX9_count 7 none, Cond.fieldLink RX9 13 "StructureSearch$Tables" "cells" "[I", Cond.fieldLink RX9 7 "StructureSearch$Tables" "sheet" "LStructureSearch$Sheet;", Cond.fieldLink RX9 23 "StructureSearch$Sheet" "rows" "I", Cond.fieldLink RX9 17 "StructureSearch$Tables" "ofFirst" "[I", Cond.fieldLink RX9 20 "StructureSearch$Tables" "ofSecond" "[I", Cond.methodLink RX9 29 yX8_valueIn, Cond.instanceMethod yX8_valueIn, Cond.selects RX8 yX8_valueIn yX8_valueIn, Cond.code yX8_valueIn cX8_valueIn 3 (some .int), Cond.methodLink RX8 34 yX8_codeOf, Cond.instanceMethod yX8_codeOf, Cond.selects RX8 yX8_codeOf yX8_codeOf, Cond.code yX8_codeOf cX8_codeOf 2 (some .int), Cond.fieldLink RX8 25 "StructureSearch$Sheet" "rows" "I", Cond.fieldLink RX8 15 "StructureSearch$Sheet" "codes" "[I", Cond.methodLink RX9 33 yX9_cell]
def wsX10_test_r3 : List Cond := [Cond.instanceMethod yX9_cell, Cond.selects RX9 yX9_cell yX9_cell, Cond.code yX9_cell cX9_cell 4 (some .int), Cond.methodLink RX10 203 yX9_waysNotAbove, Cond.instanceMethod yX9_waysNotAbove, Cond.selects RX9 yX9_waysNotAbove yX9_waysNotAbove, Cond.code yX9_waysNotAbove cX9_waysNotAbove 7 (some .long), Cond.methodLink RX9 40 yX9_deals, Cond.static yX9_deals, Cond.code yX9_deals cX9_deals 3 (some .long), Cond.fieldLink RX9 51 "StructureSearch$Tables" "FACTORIALS" "[J", Cond.methodLink RX9 55 yX9_factorial, Cond.static yX9_factorial, Cond.code yX9_factorial cX9_factorial 1 (some .long), Cond.methodLink RX9 44 yX9_first, Cond.instanceMethod yX9_first, Cond.selects RX9 yX9_first yX9_first, Cond.code yX9_first cX9_first 2 (some .int), Cond.methodLink RX9 47 yX9_waysWith, Cond.instanceMethod yX9_waysWith, Cond.selects RX9 yX9_waysWith yX9_waysWith, Cond.code yX9_waysWith cX9_waysWith 17 (some .long), Cond.methodLink RX9 36 yX9_second, Cond.instanceMethod yX9_second]
def wsX10_test_r4 : List Cond := [Cond.selects RX9 yX9_second yX9_second, Cond.code yX9_second cX9_second 2 (some .int), Cond.methodLink RX10 207 yX9_allWays, Cond.instanceMethod yX9_allWays, Cond.selects RX9 yX9_allWays yX9_allWays, Cond.code yX9_allWays cX9_allWays 1 (some .long)]
def wsX10_test : List Cond := .code yX10_test cX10_test 6 (some .long) :: ((wsX10_test_r1 ++ (wsX10_test_r2 ++ (wsX10_test_r3 ++ wsX10_test_r4))) ++ wsX100 ++ wsX80 ++ wsX90)
def wsX11_init_r1 : List Cond := [Cond.methodLink RX11 1 objectInit, Cond.instanceMethod objectInit, Cond.code objectInit ⟨#[0xb1]⟩ 1 none, Cond.arrayClass .int, Cond.fieldLink RX11 7 "StructureSearchModel" "values" "[I", Cond.fieldLink RX11 13 "StructureSearchModel" "cells" "[I", Cond.fieldLink RX11 16 "StructureSearchModel" "strength" "I", Cond.fieldLink RX11 20 "StructureSearchModel" "most" "I", Cond.fieldLink RX11 23 "StructureSearchModel" "one" "[I", Cond.fieldLink RX11 26 "StructureSearchModel" "two" "[I", Cond.fieldLink RX11 29 "StructureSearchModel" "rest" "[I", Cond.fieldLink RX11 32 "StructureSearchModel" "above" "[I", Cond.fieldLink RX11 35 "StructureSearchModel" "below" "[I", Cond.arrayClass .boolean, Cond.fieldLink RX11 38 "StructureSearchModel" "isKnown" "[Z", Cond.fieldLink RX11 42 "StructureSearchModel" "tops" "[I", Cond.fieldLink RX11 45 "StructureSearchModel" "lows" "[I", Cond.fieldLink RX11 48 "StructureSearchModel" "small" "[I", Cond.fieldLink RX11 51 "StructureSearchModel" "large" "[I", Cond.fieldLink RX11 54 "StructureSearchModel" "factor" "[I", Cond.fieldLink RX11 57 "StructureSearchModel" "made" "[I", Cond.fieldLink RX11 60 "StructureSearchModel" "topA" "[I", Cond.fieldLink RX11 63 "StructureSearchModel" "lowA" "[I", Cond.fieldLink RX11 66 "StructureSearchModel" "topB" "[I"]
def wsX11_init_r2 : List Cond := [Cond.fieldLink RX11 69 "StructureSearchModel" "lowB" "[I", Cond.fieldLink RX11 72 "StructureSearchModel" "left" "[I", Cond.fieldLink RX11 75 "StructureSearchModel" "right" "[I", Cond.fieldLink RX11 78 "StructureSearchModel" "toldGraph" "I", Cond.fieldLink RX11 81 "StructureSearchModel" "toldArc" "I", Cond.fieldLink RX11 84 "StructureSearchModel" "bests" "[I", Cond.fieldLink RX11 87 "StructureSearchModel" "first" "[I", Cond.fieldLink RX11 90 "StructureSearchModel" "second" "[I", Cond.fieldLink RX11 93 "StructureSearchModel" "sums" "[I", Cond.fieldLink RX11 96 "StructureSearchModel" "terms" "[I", Cond.fieldLink RX11 99 "StructureSearchModel" "wholes" "[I", Cond.fieldLink RX11 102 "StructureSearchModel" "term" "[I", Cond.fieldLink RX11 105 "StructureSearchModel" "more" "[I", Cond.fieldLink RX11 108 "StructureSearchModel" "fewer" "[I", Cond.fieldLink RX11 111 "StructureSearchModel" "sum" "[I", Cond.fieldLink RX11 114 "StructureSearchModel" "ofA" "[I", Cond.fieldLink RX11 117 "StructureSearchModel" "ofB" "[I", Cond.fieldLink RX11 120 "StructureSearchModel" "both" "[I"]
def wsX11_init : List Cond := .code yX11_init cX11_init 1 none :: ((wsX11_init_r1 ++ wsX11_init_r2) ++ wsX110)
def wsX11_put : List Cond := .code yX11_put cX11_put 2 none :: ([])
def wsX11_copy : List Cond := .code yX11_copy cX11_copy 3 none :: ([])
def wsX11_compareTo : List Cond := .code yX11_compareTo cX11_compareTo 6 (some .int) :: ([.constantLong RX11 123 (4294967295)])
def wsX11_trim : List Cond := .code yX11_trim cX11_trim 3 none :: ([])
def wsX11_times : List Cond := .code yX11_times cX11_times 10 none :: ([.constantLong RX11 123 (4294967295), .methodLink RX11 125 yX11_trim, .static yX11_trim, .initialized RX11, .code yX11_trim cX11_trim 3 none])
def wsX11_plus : List Cond := .code yX11_plus cX11_plus 6 none :: ([.constantLong RX11 123 (4294967295), .methodLink RX11 125 yX11_trim, .static yX11_trim, .initialized RX11, .code yX11_trim cX11_trim 3 none])
def wsX11_less : List Cond := .code yX11_less cX11_less 7 none :: ([.constantLong RX11 123 (4294967295), .methodLink RX11 125 yX11_trim, .static yX11_trim, .initialized RX11, .code yX11_trim cX11_trim 3 none])
def wsX11_halve : List Cond := .code yX11_halve cX11_halve 2 none :: ([.methodLink RX11 125 yX11_trim, .static yX11_trim, .initialized RX11, .code yX11_trim cX11_trim 3 none])
def wsX11_twice : List Cond := .code yX11_twice cX11_twice 5 none :: ([.methodLink RX11 125 yX11_trim, .static yX11_trim, .initialized RX11, .code yX11_trim cX11_trim 3 none])
def wsX11_isEven : List Cond := .code yX11_isEven cX11_isEven 1 (some .boolean) :: ([])
def wsX11_common_r1 : List Cond := [Cond.fieldLink RX11 23 "StructureSearchModel" "one" "[I", Cond.fieldLink RX11 26 "StructureSearchModel" "two" "[I", Cond.fieldLink RX11 29 "StructureSearchModel" "rest" "[I", Cond.methodLink RX11 129 yX11_copy, Cond.static yX11_copy, Cond.initialized RX11, Cond.code yX11_copy cX11_copy 3 none, Cond.methodLink RX11 133 yX11_isEven, Cond.static yX11_isEven, Cond.code yX11_isEven cX11_isEven 1 (some .boolean), Cond.methodLink RX11 137 yX11_halve, Cond.static yX11_halve, Cond.code yX11_halve cX11_halve 2 none, Cond.methodLink RX11 125 yX11_trim, Cond.static yX11_trim, Cond.code yX11_trim cX11_trim 3 none, Cond.methodLink RX11 141 yX11_compareTo, Cond.static yX11_compareTo, Cond.code yX11_compareTo cX11_compareTo 6 (some .int), Cond.constantLong RX11 123 (4294967295), Cond.methodLink RX11 145 yX11_less, Cond.static yX11_less, Cond.code yX11_less cX11_less 7 none, Cond.methodLink RX11 148 yX11_twice]
def wsX11_common_r2 : List Cond := [Cond.static yX11_twice, Cond.code yX11_twice cX11_twice 5 none]
def wsX11_common : List Cond := .code yX11_common cX11_common 5 none :: ((wsX11_common_r1 ++ wsX11_common_r2) ++ wsX110)
def wsX11_divide : List Cond := .code yX11_divide cX11_divide 7 none :: ([.fieldLink RX11 29 "StructureSearchModel" "rest" "[I", .fieldLink RX11 23 "StructureSearchModel" "one" "[I", .methodLink RX11 148 yX11_twice, .static yX11_twice, .initialized RX11, .code yX11_twice cX11_twice 5 none, .methodLink RX11 125 yX11_trim, .static yX11_trim, .code yX11_trim cX11_trim 3 none, .methodLink RX11 141 yX11_compareTo, .static yX11_compareTo, .code yX11_compareTo cX11_compareTo 6 (some .int), .constantLong RX11 123 (4294967295), .methodLink RX11 145 yX11_less, .static yX11_less, .code yX11_less cX11_less 7 none] ++ wsX110)
def wsX11_least_r1 : List Cond := [Cond.fieldLink RX11 32 "StructureSearchModel" "above" "[I", Cond.fieldLink RX11 35 "StructureSearchModel" "below" "[I", Cond.methodLink RX11 151 yX11_put, Cond.static yX11_put, Cond.initialized RX11, Cond.code yX11_put cX11_put 2 none, Cond.methodLink RX11 154 yX11_common, Cond.instanceMethod yX11_common, Cond.selects RX11 yX11_common yX11_common, Cond.code yX11_common cX11_common 5 none, Cond.fieldLink RX11 23 "StructureSearchModel" "one" "[I", Cond.fieldLink RX11 26 "StructureSearchModel" "two" "[I", Cond.fieldLink RX11 29 "StructureSearchModel" "rest" "[I", Cond.methodLink RX11 129 yX11_copy, Cond.static yX11_copy, Cond.code yX11_copy cX11_copy 3 none, Cond.methodLink RX11 133 yX11_isEven, Cond.static yX11_isEven, Cond.code yX11_isEven cX11_isEven 1 (some .boolean), Cond.methodLink RX11 137 yX11_halve, Cond.static yX11_halve, Cond.code yX11_halve cX11_halve 2 none, Cond.methodLink RX11 125 yX11_trim, Cond.static yX11_trim]
def wsX11_least_r2 : List Cond := [Cond.code yX11_trim cX11_trim 3 none, Cond.methodLink RX11 141 yX11_compareTo, Cond.static yX11_compareTo, Cond.code yX11_compareTo cX11_compareTo 6 (some .int), Cond.constantLong RX11 123 (4294967295), Cond.methodLink RX11 145 yX11_less, Cond.static yX11_less, Cond.code yX11_less cX11_less 7 none, Cond.methodLink RX11 148 yX11_twice, Cond.static yX11_twice, Cond.code yX11_twice cX11_twice 5 none, Cond.methodLink RX11 157 yX11_divide, Cond.instanceMethod yX11_divide, Cond.selects RX11 yX11_divide yX11_divide, Cond.code yX11_divide cX11_divide 7 none]
def wsX11_least : List Cond := .code yX11_least cX11_least 1 none :: ((wsX11_least_r1 ++ wsX11_least_r2) ++ wsX110)
def wsX11_grow : List Cond := .code yX11_grow cX11_grow 7 none :: ([.constantLong RX11 123 (4294967295)])
def wsX11_place : List Cond := .code yX11_place cX11_place 2 (some .int) :: ([])
def wsX11_agree : List Cond := .code yX11_agree cX11_agree 6 (some .boolean) :: ([.fieldLink RX11 160 "StructureSearchModel" "names" "I", .fieldLink RX11 13 "StructureSearchModel" "cells" "[I"] ++ wsX110)
def wsX11_work : List Cond := .code yX11_work cX11_work 9 none :: ([.fieldLink RX11 42 "StructureSearchModel" "tops" "[I", .fieldLink RX11 45 "StructureSearchModel" "lows" "[I", .fieldLink RX11 7 "StructureSearchModel" "values" "[I", .fieldLink RX11 160 "StructureSearchModel" "names" "I", .fieldLink RX11 179 "StructureSearchModel" "rows" "I", .fieldLink RX11 13 "StructureSearchModel" "cells" "[I", .fieldLink RX11 16 "StructureSearchModel" "strength" "I", .methodLink RX11 163 yX11_place, .static yX11_place, .initialized RX11, .code yX11_place cX11_place 2 (some .int), .methodLink RX11 182 yX11_agree, .instanceMethod yX11_agree, .selects RX11 yX11_agree yX11_agree, .code yX11_agree cX11_agree 6 (some .boolean), .methodLink RX11 186 yX11_grow, .static yX11_grow, .code yX11_grow cX11_grow 7 none, .constantLong RX11 123 (4294967295)] ++ wsX110)
def wsX11_load : List Cond := .code yX11_load cX11_load 4 none :: ([])
def wsX11_store : List Cond := .code yX11_store cX11_store 4 none :: ([])
def wsX11_family_r1 : List Cond := [Cond.fieldLink RX11 38 "StructureSearchModel" "isKnown" "[Z", Cond.fieldLink RX11 42 "StructureSearchModel" "tops" "[I", Cond.fieldLink RX11 48 "StructureSearchModel" "small" "[I", Cond.fieldLink RX11 45 "StructureSearchModel" "lows" "[I", Cond.fieldLink RX11 51 "StructureSearchModel" "large" "[I", Cond.methodLink RX11 163 yX11_place, Cond.static yX11_place, Cond.initialized RX11, Cond.code yX11_place cX11_place 2 (some .int), Cond.methodLink RX11 167 yX11_work, Cond.instanceMethod yX11_work, Cond.selects RX11 yX11_work yX11_work, Cond.code yX11_work cX11_work 9 none, Cond.fieldLink RX11 7 "StructureSearchModel" "values" "[I", Cond.fieldLink RX11 160 "StructureSearchModel" "names" "I", Cond.fieldLink RX11 179 "StructureSearchModel" "rows" "I", Cond.fieldLink RX11 13 "StructureSearchModel" "cells" "[I", Cond.fieldLink RX11 16 "StructureSearchModel" "strength" "I", Cond.methodLink RX11 182 yX11_agree, Cond.instanceMethod yX11_agree, Cond.selects RX11 yX11_agree yX11_agree, Cond.code yX11_agree cX11_agree 6 (some .boolean), Cond.methodLink RX11 186 yX11_grow, Cond.static yX11_grow]
def wsX11_family_r2 : List Cond := [Cond.code yX11_grow cX11_grow 7 none, Cond.constantLong RX11 123 (4294967295), Cond.methodLink RX11 171 yX11_load, Cond.static yX11_load, Cond.code yX11_load cX11_load 4 none, Cond.methodLink RX11 154 yX11_common, Cond.instanceMethod yX11_common, Cond.selects RX11 yX11_common yX11_common, Cond.code yX11_common cX11_common 5 none, Cond.fieldLink RX11 23 "StructureSearchModel" "one" "[I", Cond.fieldLink RX11 26 "StructureSearchModel" "two" "[I", Cond.fieldLink RX11 29 "StructureSearchModel" "rest" "[I", Cond.methodLink RX11 129 yX11_copy, Cond.static yX11_copy, Cond.code yX11_copy cX11_copy 3 none, Cond.methodLink RX11 133 yX11_isEven, Cond.static yX11_isEven, Cond.code yX11_isEven cX11_isEven 1 (some .boolean), Cond.methodLink RX11 137 yX11_halve, Cond.static yX11_halve, Cond.code yX11_halve cX11_halve 2 none, Cond.methodLink RX11 125 yX11_trim, Cond.static yX11_trim, Cond.code yX11_trim cX11_trim 3 none]
def wsX11_family_r3 : List Cond := [Cond.methodLink RX11 141 yX11_compareTo, Cond.static yX11_compareTo, Cond.code yX11_compareTo cX11_compareTo 6 (some .int), Cond.methodLink RX11 145 yX11_less, Cond.static yX11_less, Cond.code yX11_less cX11_less 7 none, Cond.methodLink RX11 148 yX11_twice, Cond.static yX11_twice, Cond.code yX11_twice cX11_twice 5 none, Cond.methodLink RX11 157 yX11_divide, Cond.instanceMethod yX11_divide, Cond.selects RX11 yX11_divide yX11_divide, Cond.code yX11_divide cX11_divide 7 none, Cond.methodLink RX11 175 yX11_store, Cond.static yX11_store, Cond.code yX11_store cX11_store 4 none]
def wsX11_family : List Cond := .code yX11_family cX11_family 4 (some .int) :: ((wsX11_family_r1 ++ (wsX11_family_r2 ++ wsX11_family_r3)) ++ wsX110)
def wsX11_multiply : List Cond := .code yX11_multiply cX11_multiply 4 none :: ([.fieldLink RX11 54 "StructureSearchModel" "factor" "[I", .fieldLink RX11 57 "StructureSearchModel" "made" "[I", .methodLink RX11 171 yX11_load, .static yX11_load, .initialized RX11, .code yX11_load cX11_load 4 none, .methodLink RX11 190 yX11_times, .static yX11_times, .code yX11_times cX11_times 10 none, .constantLong RX11 123 (4294967295), .methodLink RX11 125 yX11_trim, .static yX11_trim, .code yX11_trim cX11_trim 3 none, .methodLink RX11 129 yX11_copy, .static yX11_copy, .code yX11_copy cX11_copy 3 none] ++ wsX110)
def wsX11_bits : List Cond := .code yX11_bits cX11_bits 3 (some .int) :: ([])
def wsX11_parentsOf : List Cond := .code yX11_parentsOf cX11_parentsOf 4 (some .int) :: ([])
def wsX11_fit_r1 : List Cond := [Cond.fieldLink RX11 160 "StructureSearchModel" "names" "I", Cond.fieldLink RX11 42 "StructureSearchModel" "tops" "[I", Cond.fieldLink RX11 45 "StructureSearchModel" "lows" "[I", Cond.methodLink RX11 151 yX11_put, Cond.static yX11_put, Cond.initialized RX11, Cond.code yX11_put cX11_put 2 none, Cond.methodLink RX11 194 yX11_parentsOf, Cond.static yX11_parentsOf, Cond.code yX11_parentsOf cX11_parentsOf 4 (some .int), Cond.methodLink RX11 197 yX11_family, Cond.instanceMethod yX11_family, Cond.selects RX11 yX11_family yX11_family, Cond.code yX11_family cX11_family 4 (some .int), Cond.fieldLink RX11 38 "StructureSearchModel" "isKnown" "[Z", Cond.fieldLink RX11 48 "StructureSearchModel" "small" "[I", Cond.fieldLink RX11 51 "StructureSearchModel" "large" "[I", Cond.methodLink RX11 163 yX11_place, Cond.static yX11_place, Cond.code yX11_place cX11_place 2 (some .int), Cond.methodLink RX11 167 yX11_work, Cond.instanceMethod yX11_work, Cond.selects RX11 yX11_work yX11_work, Cond.code yX11_work cX11_work 9 none]
def wsX11_fit_r2 : List Cond := [Cond.fieldLink RX11 7 "StructureSearchModel" "values" "[I", Cond.fieldLink RX11 179 "StructureSearchModel" "rows" "I", Cond.fieldLink RX11 13 "StructureSearchModel" "cells" "[I", Cond.fieldLink RX11 16 "StructureSearchModel" "strength" "I", Cond.methodLink RX11 182 yX11_agree, Cond.instanceMethod yX11_agree, Cond.selects RX11 yX11_agree yX11_agree, Cond.code yX11_agree cX11_agree 6 (some .boolean), Cond.methodLink RX11 186 yX11_grow, Cond.static yX11_grow, Cond.code yX11_grow cX11_grow 7 none, Cond.constantLong RX11 123 (4294967295), Cond.methodLink RX11 171 yX11_load, Cond.static yX11_load, Cond.code yX11_load cX11_load 4 none, Cond.methodLink RX11 154 yX11_common, Cond.instanceMethod yX11_common, Cond.selects RX11 yX11_common yX11_common, Cond.code yX11_common cX11_common 5 none, Cond.fieldLink RX11 23 "StructureSearchModel" "one" "[I", Cond.fieldLink RX11 26 "StructureSearchModel" "two" "[I", Cond.fieldLink RX11 29 "StructureSearchModel" "rest" "[I", Cond.methodLink RX11 129 yX11_copy, Cond.static yX11_copy]
def wsX11_fit_r3 : List Cond := [Cond.code yX11_copy cX11_copy 3 none, Cond.methodLink RX11 133 yX11_isEven, Cond.static yX11_isEven, Cond.code yX11_isEven cX11_isEven 1 (some .boolean), Cond.methodLink RX11 137 yX11_halve, Cond.static yX11_halve, Cond.code yX11_halve cX11_halve 2 none, Cond.methodLink RX11 125 yX11_trim, Cond.static yX11_trim, Cond.code yX11_trim cX11_trim 3 none, Cond.methodLink RX11 141 yX11_compareTo, Cond.static yX11_compareTo, Cond.code yX11_compareTo cX11_compareTo 6 (some .int), Cond.methodLink RX11 145 yX11_less, Cond.static yX11_less, Cond.code yX11_less cX11_less 7 none, Cond.methodLink RX11 148 yX11_twice, Cond.static yX11_twice, Cond.code yX11_twice cX11_twice 5 none, Cond.methodLink RX11 157 yX11_divide, Cond.instanceMethod yX11_divide, Cond.selects RX11 yX11_divide yX11_divide, Cond.code yX11_divide cX11_divide 7 none, Cond.methodLink RX11 175 yX11_store]
def wsX11_fit_r4 : List Cond := [Cond.static yX11_store, Cond.code yX11_store cX11_store 4 none, Cond.methodLink RX11 200 yX11_multiply, Cond.instanceMethod yX11_multiply, Cond.selects RX11 yX11_multiply yX11_multiply, Cond.code yX11_multiply cX11_multiply 4 none, Cond.fieldLink RX11 54 "StructureSearchModel" "factor" "[I", Cond.fieldLink RX11 57 "StructureSearchModel" "made" "[I", Cond.methodLink RX11 190 yX11_times, Cond.static yX11_times, Cond.code yX11_times cX11_times 10 none]
def wsX11_fit : List Cond := .code yX11_fit cX11_fit 6 none :: ((wsX11_fit_r1 ++ (wsX11_fit_r2 ++ (wsX11_fit_r3 ++ wsX11_fit_r4))) ++ wsX110)
def wsX11_sign : List Cond := .code yX11_sign cX11_sign 1 (some .int) :: ([.fieldLink RX11 60 "StructureSearchModel" "topA" "[I", .fieldLink RX11 69 "StructureSearchModel" "lowB" "[I", .fieldLink RX11 72 "StructureSearchModel" "left" "[I", .fieldLink RX11 66 "StructureSearchModel" "topB" "[I", .fieldLink RX11 63 "StructureSearchModel" "lowA" "[I", .fieldLink RX11 75 "StructureSearchModel" "right" "[I", .methodLink RX11 190 yX11_times, .static yX11_times, .initialized RX11, .code yX11_times cX11_times 10 none, .constantLong RX11 123 (4294967295), .methodLink RX11 125 yX11_trim, .static yX11_trim, .code yX11_trim cX11_trim 3 none, .methodLink RX11 141 yX11_compareTo, .static yX11_compareTo, .code yX11_compareTo cX11_compareTo 6 (some .int)] ++ wsX110)
def wsX11_signOf_r1 : List Cond := [Cond.fieldLink RX11 60 "StructureSearchModel" "topA" "[I", Cond.fieldLink RX11 63 "StructureSearchModel" "lowA" "[I", Cond.fieldLink RX11 66 "StructureSearchModel" "topB" "[I", Cond.fieldLink RX11 69 "StructureSearchModel" "lowB" "[I", Cond.methodLink RX11 203 yX11_fit, Cond.instanceMethod yX11_fit, Cond.selects RX11 yX11_fit yX11_fit, Cond.initialized RX11, Cond.code yX11_fit cX11_fit 6 none, Cond.fieldLink RX11 160 "StructureSearchModel" "names" "I", Cond.fieldLink RX11 42 "StructureSearchModel" "tops" "[I", Cond.fieldLink RX11 45 "StructureSearchModel" "lows" "[I", Cond.methodLink RX11 151 yX11_put, Cond.static yX11_put, Cond.code yX11_put cX11_put 2 none, Cond.methodLink RX11 194 yX11_parentsOf, Cond.static yX11_parentsOf, Cond.code yX11_parentsOf cX11_parentsOf 4 (some .int), Cond.methodLink RX11 197 yX11_family, Cond.instanceMethod yX11_family, Cond.selects RX11 yX11_family yX11_family, Cond.code yX11_family cX11_family 4 (some .int), Cond.fieldLink RX11 38 "StructureSearchModel" "isKnown" "[Z", Cond.fieldLink RX11 48 "StructureSearchModel" "small" "[I"]
def wsX11_signOf_r2 : List Cond := [Cond.fieldLink RX11 51 "StructureSearchModel" "large" "[I", Cond.methodLink RX11 163 yX11_place, Cond.static yX11_place, Cond.code yX11_place cX11_place 2 (some .int), Cond.methodLink RX11 167 yX11_work, Cond.instanceMethod yX11_work, Cond.selects RX11 yX11_work yX11_work, Cond.code yX11_work cX11_work 9 none, Cond.fieldLink RX11 7 "StructureSearchModel" "values" "[I", Cond.fieldLink RX11 179 "StructureSearchModel" "rows" "I", Cond.fieldLink RX11 13 "StructureSearchModel" "cells" "[I", Cond.fieldLink RX11 16 "StructureSearchModel" "strength" "I", Cond.methodLink RX11 182 yX11_agree, Cond.instanceMethod yX11_agree, Cond.selects RX11 yX11_agree yX11_agree, Cond.code yX11_agree cX11_agree 6 (some .boolean), Cond.methodLink RX11 186 yX11_grow, Cond.static yX11_grow, Cond.code yX11_grow cX11_grow 7 none, Cond.constantLong RX11 123 (4294967295), Cond.methodLink RX11 171 yX11_load, Cond.static yX11_load, Cond.code yX11_load cX11_load 4 none, Cond.methodLink RX11 154 yX11_common]
def wsX11_signOf_r3 : List Cond := [Cond.instanceMethod yX11_common, Cond.selects RX11 yX11_common yX11_common, Cond.code yX11_common cX11_common 5 none, Cond.fieldLink RX11 23 "StructureSearchModel" "one" "[I", Cond.fieldLink RX11 26 "StructureSearchModel" "two" "[I", Cond.fieldLink RX11 29 "StructureSearchModel" "rest" "[I", Cond.methodLink RX11 129 yX11_copy, Cond.static yX11_copy, Cond.code yX11_copy cX11_copy 3 none, Cond.methodLink RX11 133 yX11_isEven, Cond.static yX11_isEven, Cond.code yX11_isEven cX11_isEven 1 (some .boolean), Cond.methodLink RX11 137 yX11_halve, Cond.static yX11_halve, Cond.code yX11_halve cX11_halve 2 none, Cond.methodLink RX11 125 yX11_trim, Cond.static yX11_trim, Cond.code yX11_trim cX11_trim 3 none, Cond.methodLink RX11 141 yX11_compareTo, Cond.static yX11_compareTo, Cond.code yX11_compareTo cX11_compareTo 6 (some .int), Cond.methodLink RX11 145 yX11_less, Cond.static yX11_less, Cond.code yX11_less cX11_less 7 none]
def wsX11_signOf_r4 : List Cond := [Cond.methodLink RX11 148 yX11_twice, Cond.static yX11_twice, Cond.code yX11_twice cX11_twice 5 none, Cond.methodLink RX11 157 yX11_divide, Cond.instanceMethod yX11_divide, Cond.selects RX11 yX11_divide yX11_divide, Cond.code yX11_divide cX11_divide 7 none, Cond.methodLink RX11 175 yX11_store, Cond.static yX11_store, Cond.code yX11_store cX11_store 4 none, Cond.methodLink RX11 200 yX11_multiply, Cond.instanceMethod yX11_multiply, Cond.selects RX11 yX11_multiply yX11_multiply, Cond.code yX11_multiply cX11_multiply 4 none, Cond.fieldLink RX11 54 "StructureSearchModel" "factor" "[I", Cond.fieldLink RX11 57 "StructureSearchModel" "made" "[I", Cond.methodLink RX11 190 yX11_times, Cond.static yX11_times, Cond.code yX11_times cX11_times 10 none, Cond.methodLink RX11 207 yX11_sign, Cond.instanceMethod yX11_sign, Cond.selects RX11 yX11_sign yX11_sign, Cond.code yX11_sign cX11_sign 1 (some .int), Cond.fieldLink RX11 72 "StructureSearchModel" "left" "[I"]
def wsX11_signOf_r5 : List Cond := [Cond.fieldLink RX11 75 "StructureSearchModel" "right" "[I"]
def wsX11_signOf : List Cond := .code yX11_signOf cX11_signOf 3 (some .int) :: ((wsX11_signOf_r1 ++ (wsX11_signOf_r2 ++ (wsX11_signOf_r3 ++ (wsX11_signOf_r4 ++ wsX11_signOf_r5)))) ++ wsX110)
def wsX11_isSet : List Cond := .code yX11_isSet cX11_isSet 2 (some .boolean) :: ([.fieldLink RX11 160 "StructureSearchModel" "names" "I"] ++ wsX110)
def wsX11_isName : List Cond := .code yX11_isName cX11_isName 2 (some .boolean) :: ([.fieldLink RX11 160 "StructureSearchModel" "names" "I"] ++ wsX110)
def wsX11_isGraph : List Cond := .code yX11_isGraph cX11_isGraph 5 (some .boolean) :: ([.constant RX11 211 (33554432), .fieldLink RX11 160 "StructureSearchModel" "names" "I", .methodLink RX11 212 yX11_isSet, .instanceMethod yX11_isSet, .selects RX11 yX11_isSet yX11_isSet, .initialized RX11, .code yX11_isSet cX11_isSet 2 (some .boolean), .methodLink RX11 194 yX11_parentsOf, .static yX11_parentsOf, .code yX11_parentsOf cX11_parentsOf 4 (some .int)] ++ wsX110)
def wsX11_isBounded : List Cond := .code yX11_isBounded cX11_isBounded 4 (some .boolean) :: ([.fieldLink RX11 160 "StructureSearchModel" "names" "I", .fieldLink RX11 20 "StructureSearchModel" "most" "I", .methodLink RX11 194 yX11_parentsOf, .static yX11_parentsOf, .initialized RX11, .code yX11_parentsOf cX11_parentsOf 4 (some .int), .methodLink RX11 216 yX11_bits, .static yX11_bits, .code yX11_bits cX11_bits 3 (some .int)] ++ wsX110)
def wsX11_has : List Cond := .code yX11_has cX11_has 3 (some .boolean) :: ([])
def wsX11_touch : List Cond := .code yX11_touch cX11_touch 3 (some .boolean) :: ([.methodLink RX11 220 yX11_has, .static yX11_has, .initialized RX11, .code yX11_has cX11_has 3 (some .boolean)])
def wsX11_isAlike : List Cond := .code yX11_isAlike cX11_isAlike 6 (some .boolean) :: ([.methodLink RX11 223 yX11_touch, .static yX11_touch, .initialized RX11, .code yX11_touch cX11_touch 3 (some .boolean), .methodLink RX11 220 yX11_has, .static yX11_has, .code yX11_has cX11_has 3 (some .boolean)])
def wsX11_change : List Cond := .code yX11_change cX11_change 2 none :: ([.fieldLink RX11 38 "StructureSearchModel" "isKnown" "[Z", .fieldLink RX11 78 "StructureSearchModel" "toldGraph" "I", .fieldLink RX11 81 "StructureSearchModel" "toldArc" "I"] ++ wsX110)
def wsX11_clear : List Cond := .code yX11_clear cX11_clear 2 (some .int) :: ([.fieldLink RX11 179 "StructureSearchModel" "rows" "I", .fieldLink RX11 160 "StructureSearchModel" "names" "I", .fieldLink RX11 16 "StructureSearchModel" "strength" "I", .fieldLink RX11 20 "StructureSearchModel" "most" "I", .methodLink RX11 226 yX11_change, .instanceMethod yX11_change, .selects RX11 yX11_change yX11_change, .initialized RX11, .code yX11_change cX11_change 2 none, .fieldLink RX11 38 "StructureSearchModel" "isKnown" "[Z", .fieldLink RX11 78 "StructureSearchModel" "toldGraph" "I", .fieldLink RX11 81 "StructureSearchModel" "toldArc" "I"] ++ wsX110)
def wsX11_name : List Cond := .code yX11_name cX11_name 2 (some .int) :: ([.fieldLink RX11 179 "StructureSearchModel" "rows" "I", .fieldLink RX11 160 "StructureSearchModel" "names" "I", .fieldLink RX11 7 "StructureSearchModel" "values" "[I", .methodLink RX11 226 yX11_change, .instanceMethod yX11_change, .selects RX11 yX11_change yX11_change, .initialized RX11, .code yX11_change cX11_change 2 none, .fieldLink RX11 38 "StructureSearchModel" "isKnown" "[Z", .fieldLink RX11 78 "StructureSearchModel" "toldGraph" "I", .fieldLink RX11 81 "StructureSearchModel" "toldArc" "I"] ++ wsX110)
def wsX11_isValue : List Cond := .code yX11_isValue cX11_isValue 3 (some .boolean) :: ([.fieldLink RX11 160 "StructureSearchModel" "names" "I", .fieldLink RX11 7 "StructureSearchModel" "values" "[I"] ++ wsX110)
def wsX11_row : List Cond := .code yX11_row cX11_row 7 (some .int) :: ([.fieldLink RX11 160 "StructureSearchModel" "names" "I", .fieldLink RX11 179 "StructureSearchModel" "rows" "I", .fieldLink RX11 13 "StructureSearchModel" "cells" "[I", .methodLink RX11 229 yX11_isValue, .instanceMethod yX11_isValue, .selects RX11 yX11_isValue yX11_isValue, .initialized RX11, .code yX11_isValue cX11_isValue 3 (some .boolean), .fieldLink RX11 7 "StructureSearchModel" "values" "[I", .methodLink RX11 226 yX11_change, .instanceMethod yX11_change, .selects RX11 yX11_change yX11_change, .code yX11_change cX11_change 2 none, .fieldLink RX11 38 "StructureSearchModel" "isKnown" "[Z", .fieldLink RX11 78 "StructureSearchModel" "toldGraph" "I", .fieldLink RX11 81 "StructureSearchModel" "toldArc" "I"] ++ wsX110)
def wsX11_drop : List Cond := .code yX11_drop cX11_drop 3 (some .int) :: ([.fieldLink RX11 179 "StructureSearchModel" "rows" "I", .fieldLink RX11 13 "StructureSearchModel" "cells" "[I", .methodLink RX11 226 yX11_change, .instanceMethod yX11_change, .selects RX11 yX11_change yX11_change, .initialized RX11, .code yX11_change cX11_change 2 none, .fieldLink RX11 38 "StructureSearchModel" "isKnown" "[Z", .fieldLink RX11 78 "StructureSearchModel" "toldGraph" "I", .fieldLink RX11 81 "StructureSearchModel" "toldArc" "I"] ++ wsX110)
def wsX11_value : List Cond := .code yX11_value cX11_value 3 (some .int) :: ([.fieldLink RX11 179 "StructureSearchModel" "rows" "I", .fieldLink RX11 13 "StructureSearchModel" "cells" "[I", .methodLink RX11 233 yX11_isName, .instanceMethod yX11_isName, .selects RX11 yX11_isName yX11_isName, .initialized RX11, .code yX11_isName cX11_isName 2 (some .boolean), .fieldLink RX11 160 "StructureSearchModel" "names" "I"] ++ wsX110)
def wsX11_set : List Cond := .code yX11_set cX11_set 4 (some .int) :: ([.fieldLink RX11 16 "StructureSearchModel" "strength" "I", .fieldLink RX11 20 "StructureSearchModel" "most" "I", .methodLink RX11 226 yX11_change, .instanceMethod yX11_change, .selects RX11 yX11_change yX11_change, .initialized RX11, .code yX11_change cX11_change 2 none, .fieldLink RX11 38 "StructureSearchModel" "isKnown" "[Z", .fieldLink RX11 78 "StructureSearchModel" "toldGraph" "I", .fieldLink RX11 81 "StructureSearchModel" "toldArc" "I"] ++ wsX110)
def wsX11_about : List Cond := .code yX11_about cX11_about 2 (some .int) :: ([.fieldLink RX11 160 "StructureSearchModel" "names" "I", .fieldLink RX11 179 "StructureSearchModel" "rows" "I", .fieldLink RX11 16 "StructureSearchModel" "strength" "I", .fieldLink RX11 20 "StructureSearchModel" "most" "I", .fieldLink RX11 7 "StructureSearchModel" "values" "[I"] ++ wsX110)
def wsX11_order : List Cond := .code yX11_order cX11_order 6 (some .int) :: ([.methodLink RX11 236 yX11_isGraph, .instanceMethod yX11_isGraph, .selects RX11 yX11_isGraph yX11_isGraph, .initialized RX11, .code yX11_isGraph cX11_isGraph 5 (some .boolean), .constant RX11 211 (33554432), .fieldLink RX11 160 "StructureSearchModel" "names" "I", .methodLink RX11 212 yX11_isSet, .instanceMethod yX11_isSet, .selects RX11 yX11_isSet yX11_isSet, .code yX11_isSet cX11_isSet 2 (some .boolean), .methodLink RX11 194 yX11_parentsOf, .static yX11_parentsOf, .code yX11_parentsOf cX11_parentsOf 4 (some .int), .methodLink RX11 233 yX11_isName, .instanceMethod yX11_isName, .selects RX11 yX11_isName yX11_isName, .code yX11_isName cX11_isName 2 (some .boolean)] ++ wsX110)
def wsX11_tell_r1 : List Cond := [Cond.fieldLink RX11 78 "StructureSearchModel" "toldGraph" "I", Cond.fieldLink RX11 32 "StructureSearchModel" "above" "[I", Cond.fieldLink RX11 35 "StructureSearchModel" "below" "[I", Cond.fieldLink RX11 81 "StructureSearchModel" "toldArc" "I", Cond.methodLink RX11 203 yX11_fit, Cond.instanceMethod yX11_fit, Cond.selects RX11 yX11_fit yX11_fit, Cond.initialized RX11, Cond.code yX11_fit cX11_fit 6 none, Cond.fieldLink RX11 160 "StructureSearchModel" "names" "I", Cond.fieldLink RX11 42 "StructureSearchModel" "tops" "[I", Cond.fieldLink RX11 45 "StructureSearchModel" "lows" "[I", Cond.methodLink RX11 151 yX11_put, Cond.static yX11_put, Cond.code yX11_put cX11_put 2 none, Cond.methodLink RX11 194 yX11_parentsOf, Cond.static yX11_parentsOf, Cond.code yX11_parentsOf cX11_parentsOf 4 (some .int), Cond.methodLink RX11 197 yX11_family, Cond.instanceMethod yX11_family, Cond.selects RX11 yX11_family yX11_family, Cond.code yX11_family cX11_family 4 (some .int), Cond.fieldLink RX11 38 "StructureSearchModel" "isKnown" "[Z", Cond.fieldLink RX11 48 "StructureSearchModel" "small" "[I"]
def wsX11_tell_r2 : List Cond := [Cond.fieldLink RX11 51 "StructureSearchModel" "large" "[I", Cond.methodLink RX11 163 yX11_place, Cond.static yX11_place, Cond.code yX11_place cX11_place 2 (some .int), Cond.methodLink RX11 167 yX11_work, Cond.instanceMethod yX11_work, Cond.selects RX11 yX11_work yX11_work, Cond.code yX11_work cX11_work 9 none, Cond.fieldLink RX11 7 "StructureSearchModel" "values" "[I", Cond.fieldLink RX11 179 "StructureSearchModel" "rows" "I", Cond.fieldLink RX11 13 "StructureSearchModel" "cells" "[I", Cond.fieldLink RX11 16 "StructureSearchModel" "strength" "I", Cond.methodLink RX11 182 yX11_agree, Cond.instanceMethod yX11_agree, Cond.selects RX11 yX11_agree yX11_agree, Cond.code yX11_agree cX11_agree 6 (some .boolean), Cond.methodLink RX11 186 yX11_grow, Cond.static yX11_grow, Cond.code yX11_grow cX11_grow 7 none, Cond.constantLong RX11 123 (4294967295), Cond.methodLink RX11 171 yX11_load, Cond.static yX11_load, Cond.code yX11_load cX11_load 4 none, Cond.methodLink RX11 154 yX11_common]
def wsX11_tell_r3 : List Cond := [Cond.instanceMethod yX11_common, Cond.selects RX11 yX11_common yX11_common, Cond.code yX11_common cX11_common 5 none, Cond.fieldLink RX11 23 "StructureSearchModel" "one" "[I", Cond.fieldLink RX11 26 "StructureSearchModel" "two" "[I", Cond.fieldLink RX11 29 "StructureSearchModel" "rest" "[I", Cond.methodLink RX11 129 yX11_copy, Cond.static yX11_copy, Cond.code yX11_copy cX11_copy 3 none, Cond.methodLink RX11 133 yX11_isEven, Cond.static yX11_isEven, Cond.code yX11_isEven cX11_isEven 1 (some .boolean), Cond.methodLink RX11 137 yX11_halve, Cond.static yX11_halve, Cond.code yX11_halve cX11_halve 2 none, Cond.methodLink RX11 125 yX11_trim, Cond.static yX11_trim, Cond.code yX11_trim cX11_trim 3 none, Cond.methodLink RX11 141 yX11_compareTo, Cond.static yX11_compareTo, Cond.code yX11_compareTo cX11_compareTo 6 (some .int), Cond.methodLink RX11 145 yX11_less, Cond.static yX11_less, Cond.code yX11_less cX11_less 7 none]
def wsX11_tell_r4 : List Cond := [Cond.methodLink RX11 148 yX11_twice, Cond.static yX11_twice, Cond.code yX11_twice cX11_twice 5 none, Cond.methodLink RX11 157 yX11_divide, Cond.instanceMethod yX11_divide, Cond.selects RX11 yX11_divide yX11_divide, Cond.code yX11_divide cX11_divide 7 none, Cond.methodLink RX11 175 yX11_store, Cond.static yX11_store, Cond.code yX11_store cX11_store 4 none, Cond.methodLink RX11 200 yX11_multiply, Cond.instanceMethod yX11_multiply, Cond.selects RX11 yX11_multiply yX11_multiply, Cond.code yX11_multiply cX11_multiply 4 none, Cond.fieldLink RX11 54 "StructureSearchModel" "factor" "[I", Cond.fieldLink RX11 57 "StructureSearchModel" "made" "[I", Cond.methodLink RX11 190 yX11_times, Cond.static yX11_times, Cond.code yX11_times cX11_times 10 none, Cond.methodLink RX11 239 yX11_least, Cond.instanceMethod yX11_least, Cond.selects RX11 yX11_least yX11_least, Cond.code yX11_least cX11_least 1 none]
def wsX11_tell : List Cond := .code yX11_tell cX11_tell 2 none :: ((wsX11_tell_r1 ++ (wsX11_tell_r2 ++ (wsX11_tell_r3 ++ wsX11_tell_r4))) ++ wsX110)
def wsX11_wordOf : List Cond := .code yX11_wordOf cX11_wordOf 4 (some .long) :: ([.fieldLink RX11 32 "StructureSearchModel" "above" "[I", .fieldLink RX11 35 "StructureSearchModel" "below" "[I", .constantLong RX11 242 (-1), .constantLong RX11 123 (4294967295)] ++ wsX110)
def wsX11_isPart : List Cond := .code yX11_isPart cX11_isPart 1 (some .boolean) :: ([])
def wsX11_size_r1 : List Cond := [Cond.fieldLink RX11 32 "StructureSearchModel" "above" "[I", Cond.fieldLink RX11 35 "StructureSearchModel" "below" "[I", Cond.methodLink RX11 236 yX11_isGraph, Cond.instanceMethod yX11_isGraph, Cond.selects RX11 yX11_isGraph yX11_isGraph, Cond.initialized RX11, Cond.code yX11_isGraph cX11_isGraph 5 (some .boolean), Cond.constant RX11 211 (33554432), Cond.fieldLink RX11 160 "StructureSearchModel" "names" "I", Cond.methodLink RX11 212 yX11_isSet, Cond.instanceMethod yX11_isSet, Cond.selects RX11 yX11_isSet yX11_isSet, Cond.code yX11_isSet cX11_isSet 2 (some .boolean), Cond.methodLink RX11 194 yX11_parentsOf, Cond.static yX11_parentsOf, Cond.code yX11_parentsOf cX11_parentsOf 4 (some .int), Cond.methodLink RX11 244 yX11_isPart, Cond.static yX11_isPart, Cond.code yX11_isPart cX11_isPart 1 (some .boolean), Cond.methodLink RX11 247 yX11_tell, Cond.instanceMethod yX11_tell, Cond.selects RX11 yX11_tell yX11_tell, Cond.code yX11_tell cX11_tell 2 none, Cond.fieldLink RX11 78 "StructureSearchModel" "toldGraph" "I"]
def wsX11_size_r2 : List Cond := [Cond.fieldLink RX11 81 "StructureSearchModel" "toldArc" "I", Cond.methodLink RX11 203 yX11_fit, Cond.instanceMethod yX11_fit, Cond.selects RX11 yX11_fit yX11_fit, Cond.code yX11_fit cX11_fit 6 none, Cond.fieldLink RX11 42 "StructureSearchModel" "tops" "[I", Cond.fieldLink RX11 45 "StructureSearchModel" "lows" "[I", Cond.methodLink RX11 151 yX11_put, Cond.static yX11_put, Cond.code yX11_put cX11_put 2 none, Cond.methodLink RX11 197 yX11_family, Cond.instanceMethod yX11_family, Cond.selects RX11 yX11_family yX11_family, Cond.code yX11_family cX11_family 4 (some .int), Cond.fieldLink RX11 38 "StructureSearchModel" "isKnown" "[Z", Cond.fieldLink RX11 48 "StructureSearchModel" "small" "[I", Cond.fieldLink RX11 51 "StructureSearchModel" "large" "[I", Cond.methodLink RX11 163 yX11_place, Cond.static yX11_place, Cond.code yX11_place cX11_place 2 (some .int), Cond.methodLink RX11 167 yX11_work, Cond.instanceMethod yX11_work, Cond.selects RX11 yX11_work yX11_work, Cond.code yX11_work cX11_work 9 none]
def wsX11_size_r3 : List Cond := [Cond.fieldLink RX11 7 "StructureSearchModel" "values" "[I", Cond.fieldLink RX11 179 "StructureSearchModel" "rows" "I", Cond.fieldLink RX11 13 "StructureSearchModel" "cells" "[I", Cond.fieldLink RX11 16 "StructureSearchModel" "strength" "I", Cond.methodLink RX11 182 yX11_agree, Cond.instanceMethod yX11_agree, Cond.selects RX11 yX11_agree yX11_agree, Cond.code yX11_agree cX11_agree 6 (some .boolean), Cond.methodLink RX11 186 yX11_grow, Cond.static yX11_grow, Cond.code yX11_grow cX11_grow 7 none, Cond.constantLong RX11 123 (4294967295), Cond.methodLink RX11 171 yX11_load, Cond.static yX11_load, Cond.code yX11_load cX11_load 4 none, Cond.methodLink RX11 154 yX11_common, Cond.instanceMethod yX11_common, Cond.selects RX11 yX11_common yX11_common, Cond.code yX11_common cX11_common 5 none, Cond.fieldLink RX11 23 "StructureSearchModel" "one" "[I", Cond.fieldLink RX11 26 "StructureSearchModel" "two" "[I", Cond.fieldLink RX11 29 "StructureSearchModel" "rest" "[I", Cond.methodLink RX11 129 yX11_copy, Cond.static yX11_copy]
def wsX11_size_r4 : List Cond := [Cond.code yX11_copy cX11_copy 3 none, Cond.methodLink RX11 133 yX11_isEven, Cond.static yX11_isEven, Cond.code yX11_isEven cX11_isEven 1 (some .boolean), Cond.methodLink RX11 137 yX11_halve, Cond.static yX11_halve, Cond.code yX11_halve cX11_halve 2 none, Cond.methodLink RX11 125 yX11_trim, Cond.static yX11_trim, Cond.code yX11_trim cX11_trim 3 none, Cond.methodLink RX11 141 yX11_compareTo, Cond.static yX11_compareTo, Cond.code yX11_compareTo cX11_compareTo 6 (some .int), Cond.methodLink RX11 145 yX11_less, Cond.static yX11_less, Cond.code yX11_less cX11_less 7 none, Cond.methodLink RX11 148 yX11_twice, Cond.static yX11_twice, Cond.code yX11_twice cX11_twice 5 none, Cond.methodLink RX11 157 yX11_divide, Cond.instanceMethod yX11_divide, Cond.selects RX11 yX11_divide yX11_divide, Cond.code yX11_divide cX11_divide 7 none, Cond.methodLink RX11 175 yX11_store]
def wsX11_size_r5 : List Cond := [Cond.static yX11_store, Cond.code yX11_store cX11_store 4 none, Cond.methodLink RX11 200 yX11_multiply, Cond.instanceMethod yX11_multiply, Cond.selects RX11 yX11_multiply yX11_multiply, Cond.code yX11_multiply cX11_multiply 4 none, Cond.fieldLink RX11 54 "StructureSearchModel" "factor" "[I", Cond.fieldLink RX11 57 "StructureSearchModel" "made" "[I", Cond.methodLink RX11 190 yX11_times, Cond.static yX11_times, Cond.code yX11_times cX11_times 10 none, Cond.methodLink RX11 239 yX11_least, Cond.instanceMethod yX11_least, Cond.selects RX11 yX11_least yX11_least, Cond.code yX11_least cX11_least 1 none]
def wsX11_size : List Cond := .code yX11_size cX11_size 3 (some .int) :: ((wsX11_size_r1 ++ (wsX11_size_r2 ++ (wsX11_size_r3 ++ (wsX11_size_r4 ++ wsX11_size_r5)))) ++ wsX110)
def wsX11_word_r1 : List Cond := [Cond.constantLong RX11 242 (-1), Cond.methodLink RX11 236 yX11_isGraph, Cond.instanceMethod yX11_isGraph, Cond.selects RX11 yX11_isGraph yX11_isGraph, Cond.initialized RX11, Cond.code yX11_isGraph cX11_isGraph 5 (some .boolean), Cond.constant RX11 211 (33554432), Cond.fieldLink RX11 160 "StructureSearchModel" "names" "I", Cond.methodLink RX11 212 yX11_isSet, Cond.instanceMethod yX11_isSet, Cond.selects RX11 yX11_isSet yX11_isSet, Cond.code yX11_isSet cX11_isSet 2 (some .boolean), Cond.methodLink RX11 194 yX11_parentsOf, Cond.static yX11_parentsOf, Cond.code yX11_parentsOf cX11_parentsOf 4 (some .int), Cond.methodLink RX11 244 yX11_isPart, Cond.static yX11_isPart, Cond.code yX11_isPart cX11_isPart 1 (some .boolean), Cond.methodLink RX11 247 yX11_tell, Cond.instanceMethod yX11_tell, Cond.selects RX11 yX11_tell yX11_tell, Cond.code yX11_tell cX11_tell 2 none, Cond.fieldLink RX11 78 "StructureSearchModel" "toldGraph" "I", Cond.fieldLink RX11 32 "StructureSearchModel" "above" "[I"]
def wsX11_word_r2 : List Cond := [Cond.fieldLink RX11 35 "StructureSearchModel" "below" "[I", Cond.fieldLink RX11 81 "StructureSearchModel" "toldArc" "I", Cond.methodLink RX11 203 yX11_fit, Cond.instanceMethod yX11_fit, Cond.selects RX11 yX11_fit yX11_fit, Cond.code yX11_fit cX11_fit 6 none, Cond.fieldLink RX11 42 "StructureSearchModel" "tops" "[I", Cond.fieldLink RX11 45 "StructureSearchModel" "lows" "[I", Cond.methodLink RX11 151 yX11_put, Cond.static yX11_put, Cond.code yX11_put cX11_put 2 none, Cond.methodLink RX11 197 yX11_family, Cond.instanceMethod yX11_family, Cond.selects RX11 yX11_family yX11_family, Cond.code yX11_family cX11_family 4 (some .int), Cond.fieldLink RX11 38 "StructureSearchModel" "isKnown" "[Z", Cond.fieldLink RX11 48 "StructureSearchModel" "small" "[I", Cond.fieldLink RX11 51 "StructureSearchModel" "large" "[I", Cond.methodLink RX11 163 yX11_place, Cond.static yX11_place, Cond.code yX11_place cX11_place 2 (some .int), Cond.methodLink RX11 167 yX11_work, Cond.instanceMethod yX11_work, Cond.selects RX11 yX11_work yX11_work]
def wsX11_word_r3 : List Cond := [Cond.code yX11_work cX11_work 9 none, Cond.fieldLink RX11 7 "StructureSearchModel" "values" "[I", Cond.fieldLink RX11 179 "StructureSearchModel" "rows" "I", Cond.fieldLink RX11 13 "StructureSearchModel" "cells" "[I", Cond.fieldLink RX11 16 "StructureSearchModel" "strength" "I", Cond.methodLink RX11 182 yX11_agree, Cond.instanceMethod yX11_agree, Cond.selects RX11 yX11_agree yX11_agree, Cond.code yX11_agree cX11_agree 6 (some .boolean), Cond.methodLink RX11 186 yX11_grow, Cond.static yX11_grow, Cond.code yX11_grow cX11_grow 7 none, Cond.constantLong RX11 123 (4294967295), Cond.methodLink RX11 171 yX11_load, Cond.static yX11_load, Cond.code yX11_load cX11_load 4 none, Cond.methodLink RX11 154 yX11_common, Cond.instanceMethod yX11_common, Cond.selects RX11 yX11_common yX11_common, Cond.code yX11_common cX11_common 5 none, Cond.fieldLink RX11 23 "StructureSearchModel" "one" "[I", Cond.fieldLink RX11 26 "StructureSearchModel" "two" "[I", Cond.fieldLink RX11 29 "StructureSearchModel" "rest" "[I", Cond.methodLink RX11 129 yX11_copy]
def wsX11_word_r4 : List Cond := [Cond.static yX11_copy, Cond.code yX11_copy cX11_copy 3 none, Cond.methodLink RX11 133 yX11_isEven, Cond.static yX11_isEven, Cond.code yX11_isEven cX11_isEven 1 (some .boolean), Cond.methodLink RX11 137 yX11_halve, Cond.static yX11_halve, Cond.code yX11_halve cX11_halve 2 none, Cond.methodLink RX11 125 yX11_trim, Cond.static yX11_trim, Cond.code yX11_trim cX11_trim 3 none, Cond.methodLink RX11 141 yX11_compareTo, Cond.static yX11_compareTo, Cond.code yX11_compareTo cX11_compareTo 6 (some .int), Cond.methodLink RX11 145 yX11_less, Cond.static yX11_less, Cond.code yX11_less cX11_less 7 none, Cond.methodLink RX11 148 yX11_twice, Cond.static yX11_twice, Cond.code yX11_twice cX11_twice 5 none, Cond.methodLink RX11 157 yX11_divide, Cond.instanceMethod yX11_divide, Cond.selects RX11 yX11_divide yX11_divide, Cond.code yX11_divide cX11_divide 7 none]
def wsX11_word_r5 : List Cond := [Cond.methodLink RX11 175 yX11_store, Cond.static yX11_store, Cond.code yX11_store cX11_store 4 none, Cond.methodLink RX11 200 yX11_multiply, Cond.instanceMethod yX11_multiply, Cond.selects RX11 yX11_multiply yX11_multiply, Cond.code yX11_multiply cX11_multiply 4 none, Cond.fieldLink RX11 54 "StructureSearchModel" "factor" "[I", Cond.fieldLink RX11 57 "StructureSearchModel" "made" "[I", Cond.methodLink RX11 190 yX11_times, Cond.static yX11_times, Cond.code yX11_times cX11_times 10 none, Cond.methodLink RX11 239 yX11_least, Cond.instanceMethod yX11_least, Cond.selects RX11 yX11_least yX11_least, Cond.code yX11_least cX11_least 1 none, Cond.methodLink RX11 251 yX11_wordOf, Cond.instanceMethod yX11_wordOf, Cond.selects RX11 yX11_wordOf yX11_wordOf, Cond.code yX11_wordOf cX11_wordOf 4 (some .long)]
def wsX11_word : List Cond := .code yX11_word cX11_word 4 (some .long) :: ((wsX11_word_r1 ++ (wsX11_word_r2 ++ (wsX11_word_r3 ++ (wsX11_word_r4 ++ wsX11_word_r5)))) ++ wsX110)
def wsX11_compare_r1 : List Cond := [Cond.methodLink RX11 236 yX11_isGraph, Cond.instanceMethod yX11_isGraph, Cond.selects RX11 yX11_isGraph yX11_isGraph, Cond.initialized RX11, Cond.code yX11_isGraph cX11_isGraph 5 (some .boolean), Cond.constant RX11 211 (33554432), Cond.fieldLink RX11 160 "StructureSearchModel" "names" "I", Cond.methodLink RX11 212 yX11_isSet, Cond.instanceMethod yX11_isSet, Cond.selects RX11 yX11_isSet yX11_isSet, Cond.code yX11_isSet cX11_isSet 2 (some .boolean), Cond.methodLink RX11 194 yX11_parentsOf, Cond.static yX11_parentsOf, Cond.code yX11_parentsOf cX11_parentsOf 4 (some .int), Cond.methodLink RX11 255 yX11_signOf, Cond.instanceMethod yX11_signOf, Cond.selects RX11 yX11_signOf yX11_signOf, Cond.code yX11_signOf cX11_signOf 3 (some .int), Cond.fieldLink RX11 60 "StructureSearchModel" "topA" "[I", Cond.fieldLink RX11 63 "StructureSearchModel" "lowA" "[I", Cond.fieldLink RX11 66 "StructureSearchModel" "topB" "[I", Cond.fieldLink RX11 69 "StructureSearchModel" "lowB" "[I", Cond.methodLink RX11 203 yX11_fit, Cond.instanceMethod yX11_fit]
def wsX11_compare_r2 : List Cond := [Cond.selects RX11 yX11_fit yX11_fit, Cond.code yX11_fit cX11_fit 6 none, Cond.fieldLink RX11 42 "StructureSearchModel" "tops" "[I", Cond.fieldLink RX11 45 "StructureSearchModel" "lows" "[I", Cond.methodLink RX11 151 yX11_put, Cond.static yX11_put, Cond.code yX11_put cX11_put 2 none, Cond.methodLink RX11 197 yX11_family, Cond.instanceMethod yX11_family, Cond.selects RX11 yX11_family yX11_family, Cond.code yX11_family cX11_family 4 (some .int), Cond.fieldLink RX11 38 "StructureSearchModel" "isKnown" "[Z", Cond.fieldLink RX11 48 "StructureSearchModel" "small" "[I", Cond.fieldLink RX11 51 "StructureSearchModel" "large" "[I", Cond.methodLink RX11 163 yX11_place, Cond.static yX11_place, Cond.code yX11_place cX11_place 2 (some .int), Cond.methodLink RX11 167 yX11_work, Cond.instanceMethod yX11_work, Cond.selects RX11 yX11_work yX11_work, Cond.code yX11_work cX11_work 9 none, Cond.fieldLink RX11 7 "StructureSearchModel" "values" "[I", Cond.fieldLink RX11 179 "StructureSearchModel" "rows" "I", Cond.fieldLink RX11 13 "StructureSearchModel" "cells" "[I"]
def wsX11_compare_r3 : List Cond := [Cond.fieldLink RX11 16 "StructureSearchModel" "strength" "I", Cond.methodLink RX11 182 yX11_agree, Cond.instanceMethod yX11_agree, Cond.selects RX11 yX11_agree yX11_agree, Cond.code yX11_agree cX11_agree 6 (some .boolean), Cond.methodLink RX11 186 yX11_grow, Cond.static yX11_grow, Cond.code yX11_grow cX11_grow 7 none, Cond.constantLong RX11 123 (4294967295), Cond.methodLink RX11 171 yX11_load, Cond.static yX11_load, Cond.code yX11_load cX11_load 4 none, Cond.methodLink RX11 154 yX11_common, Cond.instanceMethod yX11_common, Cond.selects RX11 yX11_common yX11_common, Cond.code yX11_common cX11_common 5 none, Cond.fieldLink RX11 23 "StructureSearchModel" "one" "[I", Cond.fieldLink RX11 26 "StructureSearchModel" "two" "[I", Cond.fieldLink RX11 29 "StructureSearchModel" "rest" "[I", Cond.methodLink RX11 129 yX11_copy, Cond.static yX11_copy, Cond.code yX11_copy cX11_copy 3 none, Cond.methodLink RX11 133 yX11_isEven, Cond.static yX11_isEven]
def wsX11_compare_r4 : List Cond := [Cond.code yX11_isEven cX11_isEven 1 (some .boolean), Cond.methodLink RX11 137 yX11_halve, Cond.static yX11_halve, Cond.code yX11_halve cX11_halve 2 none, Cond.methodLink RX11 125 yX11_trim, Cond.static yX11_trim, Cond.code yX11_trim cX11_trim 3 none, Cond.methodLink RX11 141 yX11_compareTo, Cond.static yX11_compareTo, Cond.code yX11_compareTo cX11_compareTo 6 (some .int), Cond.methodLink RX11 145 yX11_less, Cond.static yX11_less, Cond.code yX11_less cX11_less 7 none, Cond.methodLink RX11 148 yX11_twice, Cond.static yX11_twice, Cond.code yX11_twice cX11_twice 5 none, Cond.methodLink RX11 157 yX11_divide, Cond.instanceMethod yX11_divide, Cond.selects RX11 yX11_divide yX11_divide, Cond.code yX11_divide cX11_divide 7 none, Cond.methodLink RX11 175 yX11_store, Cond.static yX11_store, Cond.code yX11_store cX11_store 4 none, Cond.methodLink RX11 200 yX11_multiply]
def wsX11_compare_r5 : List Cond := [Cond.instanceMethod yX11_multiply, Cond.selects RX11 yX11_multiply yX11_multiply, Cond.code yX11_multiply cX11_multiply 4 none, Cond.fieldLink RX11 54 "StructureSearchModel" "factor" "[I", Cond.fieldLink RX11 57 "StructureSearchModel" "made" "[I", Cond.methodLink RX11 190 yX11_times, Cond.static yX11_times, Cond.code yX11_times cX11_times 10 none, Cond.methodLink RX11 207 yX11_sign, Cond.instanceMethod yX11_sign, Cond.selects RX11 yX11_sign yX11_sign, Cond.code yX11_sign cX11_sign 1 (some .int), Cond.fieldLink RX11 72 "StructureSearchModel" "left" "[I", Cond.fieldLink RX11 75 "StructureSearchModel" "right" "[I"]
def wsX11_compare : List Cond := .code yX11_compare cX11_compare 4 (some .int) :: ((wsX11_compare_r1 ++ (wsX11_compare_r2 ++ (wsX11_compare_r3 ++ (wsX11_compare_r4 ++ wsX11_compare_r5)))) ++ wsX110)
def wsX11_bestParents_r1 : List Cond := [Cond.fieldLink RX11 42 "StructureSearchModel" "tops" "[I", Cond.fieldLink RX11 66 "StructureSearchModel" "topB" "[I", Cond.fieldLink RX11 45 "StructureSearchModel" "lows" "[I", Cond.fieldLink RX11 69 "StructureSearchModel" "lowB" "[I", Cond.fieldLink RX11 20 "StructureSearchModel" "most" "I", Cond.fieldLink RX11 60 "StructureSearchModel" "topA" "[I", Cond.fieldLink RX11 63 "StructureSearchModel" "lowA" "[I", Cond.methodLink RX11 197 yX11_family, Cond.instanceMethod yX11_family, Cond.selects RX11 yX11_family yX11_family, Cond.initialized RX11, Cond.code yX11_family cX11_family 4 (some .int), Cond.fieldLink RX11 38 "StructureSearchModel" "isKnown" "[Z", Cond.fieldLink RX11 48 "StructureSearchModel" "small" "[I", Cond.fieldLink RX11 51 "StructureSearchModel" "large" "[I", Cond.methodLink RX11 163 yX11_place, Cond.static yX11_place, Cond.code yX11_place cX11_place 2 (some .int), Cond.methodLink RX11 167 yX11_work, Cond.instanceMethod yX11_work, Cond.selects RX11 yX11_work yX11_work, Cond.code yX11_work cX11_work 9 none, Cond.fieldLink RX11 7 "StructureSearchModel" "values" "[I", Cond.fieldLink RX11 160 "StructureSearchModel" "names" "I"]
def wsX11_bestParents_r2 : List Cond := [Cond.fieldLink RX11 179 "StructureSearchModel" "rows" "I", Cond.fieldLink RX11 13 "StructureSearchModel" "cells" "[I", Cond.fieldLink RX11 16 "StructureSearchModel" "strength" "I", Cond.methodLink RX11 182 yX11_agree, Cond.instanceMethod yX11_agree, Cond.selects RX11 yX11_agree yX11_agree, Cond.code yX11_agree cX11_agree 6 (some .boolean), Cond.methodLink RX11 186 yX11_grow, Cond.static yX11_grow, Cond.code yX11_grow cX11_grow 7 none, Cond.constantLong RX11 123 (4294967295), Cond.methodLink RX11 171 yX11_load, Cond.static yX11_load, Cond.code yX11_load cX11_load 4 none, Cond.methodLink RX11 154 yX11_common, Cond.instanceMethod yX11_common, Cond.selects RX11 yX11_common yX11_common, Cond.code yX11_common cX11_common 5 none, Cond.fieldLink RX11 23 "StructureSearchModel" "one" "[I", Cond.fieldLink RX11 26 "StructureSearchModel" "two" "[I", Cond.fieldLink RX11 29 "StructureSearchModel" "rest" "[I", Cond.methodLink RX11 129 yX11_copy, Cond.static yX11_copy, Cond.code yX11_copy cX11_copy 3 none]
def wsX11_bestParents_r3 : List Cond := [Cond.methodLink RX11 133 yX11_isEven, Cond.static yX11_isEven, Cond.code yX11_isEven cX11_isEven 1 (some .boolean), Cond.methodLink RX11 137 yX11_halve, Cond.static yX11_halve, Cond.code yX11_halve cX11_halve 2 none, Cond.methodLink RX11 125 yX11_trim, Cond.static yX11_trim, Cond.code yX11_trim cX11_trim 3 none, Cond.methodLink RX11 141 yX11_compareTo, Cond.static yX11_compareTo, Cond.code yX11_compareTo cX11_compareTo 6 (some .int), Cond.methodLink RX11 145 yX11_less, Cond.static yX11_less, Cond.code yX11_less cX11_less 7 none, Cond.methodLink RX11 148 yX11_twice, Cond.static yX11_twice, Cond.code yX11_twice cX11_twice 5 none, Cond.methodLink RX11 157 yX11_divide, Cond.instanceMethod yX11_divide, Cond.selects RX11 yX11_divide yX11_divide, Cond.code yX11_divide cX11_divide 7 none, Cond.methodLink RX11 175 yX11_store, Cond.static yX11_store]
def wsX11_bestParents_r4 : List Cond := [Cond.code yX11_store cX11_store 4 none, Cond.methodLink RX11 216 yX11_bits, Cond.static yX11_bits, Cond.code yX11_bits cX11_bits 3 (some .int), Cond.methodLink RX11 207 yX11_sign, Cond.instanceMethod yX11_sign, Cond.selects RX11 yX11_sign yX11_sign, Cond.code yX11_sign cX11_sign 1 (some .int), Cond.fieldLink RX11 72 "StructureSearchModel" "left" "[I", Cond.fieldLink RX11 75 "StructureSearchModel" "right" "[I", Cond.methodLink RX11 190 yX11_times, Cond.static yX11_times, Cond.code yX11_times cX11_times 10 none]
def wsX11_bestParents : List Cond := .code yX11_bestParents cX11_bestParents 5 (some .int) :: ((wsX11_bestParents_r1 ++ (wsX11_bestParents_r2 ++ (wsX11_bestParents_r3 ++ wsX11_bestParents_r4))) ++ wsX110)
def wsX11_parents_r1 : List Cond := [Cond.methodLink RX11 233 yX11_isName, Cond.instanceMethod yX11_isName, Cond.selects RX11 yX11_isName yX11_isName, Cond.initialized RX11, Cond.code yX11_isName cX11_isName 2 (some .boolean), Cond.fieldLink RX11 160 "StructureSearchModel" "names" "I", Cond.methodLink RX11 212 yX11_isSet, Cond.instanceMethod yX11_isSet, Cond.selects RX11 yX11_isSet yX11_isSet, Cond.code yX11_isSet cX11_isSet 2 (some .boolean), Cond.methodLink RX11 258 yX11_bestParents, Cond.instanceMethod yX11_bestParents, Cond.selects RX11 yX11_bestParents yX11_bestParents, Cond.code yX11_bestParents cX11_bestParents 5 (some .int), Cond.fieldLink RX11 42 "StructureSearchModel" "tops" "[I", Cond.fieldLink RX11 66 "StructureSearchModel" "topB" "[I", Cond.fieldLink RX11 45 "StructureSearchModel" "lows" "[I", Cond.fieldLink RX11 69 "StructureSearchModel" "lowB" "[I", Cond.fieldLink RX11 20 "StructureSearchModel" "most" "I", Cond.fieldLink RX11 60 "StructureSearchModel" "topA" "[I", Cond.fieldLink RX11 63 "StructureSearchModel" "lowA" "[I", Cond.methodLink RX11 197 yX11_family, Cond.instanceMethod yX11_family, Cond.selects RX11 yX11_family yX11_family]
def wsX11_parents_r2 : List Cond := [Cond.code yX11_family cX11_family 4 (some .int), Cond.fieldLink RX11 38 "StructureSearchModel" "isKnown" "[Z", Cond.fieldLink RX11 48 "StructureSearchModel" "small" "[I", Cond.fieldLink RX11 51 "StructureSearchModel" "large" "[I", Cond.methodLink RX11 163 yX11_place, Cond.static yX11_place, Cond.code yX11_place cX11_place 2 (some .int), Cond.methodLink RX11 167 yX11_work, Cond.instanceMethod yX11_work, Cond.selects RX11 yX11_work yX11_work, Cond.code yX11_work cX11_work 9 none, Cond.fieldLink RX11 7 "StructureSearchModel" "values" "[I", Cond.fieldLink RX11 179 "StructureSearchModel" "rows" "I", Cond.fieldLink RX11 13 "StructureSearchModel" "cells" "[I", Cond.fieldLink RX11 16 "StructureSearchModel" "strength" "I", Cond.methodLink RX11 182 yX11_agree, Cond.instanceMethod yX11_agree, Cond.selects RX11 yX11_agree yX11_agree, Cond.code yX11_agree cX11_agree 6 (some .boolean), Cond.methodLink RX11 186 yX11_grow, Cond.static yX11_grow, Cond.code yX11_grow cX11_grow 7 none, Cond.constantLong RX11 123 (4294967295), Cond.methodLink RX11 171 yX11_load]
def wsX11_parents_r3 : List Cond := [Cond.static yX11_load, Cond.code yX11_load cX11_load 4 none, Cond.methodLink RX11 154 yX11_common, Cond.instanceMethod yX11_common, Cond.selects RX11 yX11_common yX11_common, Cond.code yX11_common cX11_common 5 none, Cond.fieldLink RX11 23 "StructureSearchModel" "one" "[I", Cond.fieldLink RX11 26 "StructureSearchModel" "two" "[I", Cond.fieldLink RX11 29 "StructureSearchModel" "rest" "[I", Cond.methodLink RX11 129 yX11_copy, Cond.static yX11_copy, Cond.code yX11_copy cX11_copy 3 none, Cond.methodLink RX11 133 yX11_isEven, Cond.static yX11_isEven, Cond.code yX11_isEven cX11_isEven 1 (some .boolean), Cond.methodLink RX11 137 yX11_halve, Cond.static yX11_halve, Cond.code yX11_halve cX11_halve 2 none, Cond.methodLink RX11 125 yX11_trim, Cond.static yX11_trim, Cond.code yX11_trim cX11_trim 3 none, Cond.methodLink RX11 141 yX11_compareTo, Cond.static yX11_compareTo, Cond.code yX11_compareTo cX11_compareTo 6 (some .int)]
def wsX11_parents_r4 : List Cond := [Cond.methodLink RX11 145 yX11_less, Cond.static yX11_less, Cond.code yX11_less cX11_less 7 none, Cond.methodLink RX11 148 yX11_twice, Cond.static yX11_twice, Cond.code yX11_twice cX11_twice 5 none, Cond.methodLink RX11 157 yX11_divide, Cond.instanceMethod yX11_divide, Cond.selects RX11 yX11_divide yX11_divide, Cond.code yX11_divide cX11_divide 7 none, Cond.methodLink RX11 175 yX11_store, Cond.static yX11_store, Cond.code yX11_store cX11_store 4 none, Cond.methodLink RX11 216 yX11_bits, Cond.static yX11_bits, Cond.code yX11_bits cX11_bits 3 (some .int), Cond.methodLink RX11 207 yX11_sign, Cond.instanceMethod yX11_sign, Cond.selects RX11 yX11_sign yX11_sign, Cond.code yX11_sign cX11_sign 1 (some .int), Cond.fieldLink RX11 72 "StructureSearchModel" "left" "[I", Cond.fieldLink RX11 75 "StructureSearchModel" "right" "[I", Cond.methodLink RX11 190 yX11_times, Cond.static yX11_times]
def wsX11_parents_r5 : List Cond := [Cond.code yX11_times cX11_times 10 none]
def wsX11_parents : List Cond := .code yX11_parents cX11_parents 3 (some .int) :: ((wsX11_parents_r1 ++ (wsX11_parents_r2 ++ (wsX11_parents_r3 ++ (wsX11_parents_r4 ++ wsX11_parents_r5)))) ++ wsX110)
def wsX11_arcs : List Cond := .code yX11_arcs cX11_arcs 4 (some .int) :: ([])
def wsX11_fitIn_r1 : List Cond := [Cond.fieldLink RX11 160 "StructureSearchModel" "names" "I", Cond.fieldLink RX11 42 "StructureSearchModel" "tops" "[I", Cond.fieldLink RX11 45 "StructureSearchModel" "lows" "[I", Cond.methodLink RX11 151 yX11_put, Cond.static yX11_put, Cond.initialized RX11, Cond.code yX11_put cX11_put 2 none, Cond.methodLink RX11 194 yX11_parentsOf, Cond.static yX11_parentsOf, Cond.code yX11_parentsOf cX11_parentsOf 4 (some .int), Cond.methodLink RX11 197 yX11_family, Cond.instanceMethod yX11_family, Cond.selects RX11 yX11_family yX11_family, Cond.code yX11_family cX11_family 4 (some .int), Cond.fieldLink RX11 38 "StructureSearchModel" "isKnown" "[Z", Cond.fieldLink RX11 48 "StructureSearchModel" "small" "[I", Cond.fieldLink RX11 51 "StructureSearchModel" "large" "[I", Cond.methodLink RX11 163 yX11_place, Cond.static yX11_place, Cond.code yX11_place cX11_place 2 (some .int), Cond.methodLink RX11 167 yX11_work, Cond.instanceMethod yX11_work, Cond.selects RX11 yX11_work yX11_work, Cond.code yX11_work cX11_work 9 none]
def wsX11_fitIn_r2 : List Cond := [Cond.fieldLink RX11 7 "StructureSearchModel" "values" "[I", Cond.fieldLink RX11 179 "StructureSearchModel" "rows" "I", Cond.fieldLink RX11 13 "StructureSearchModel" "cells" "[I", Cond.fieldLink RX11 16 "StructureSearchModel" "strength" "I", Cond.methodLink RX11 182 yX11_agree, Cond.instanceMethod yX11_agree, Cond.selects RX11 yX11_agree yX11_agree, Cond.code yX11_agree cX11_agree 6 (some .boolean), Cond.methodLink RX11 186 yX11_grow, Cond.static yX11_grow, Cond.code yX11_grow cX11_grow 7 none, Cond.constantLong RX11 123 (4294967295), Cond.methodLink RX11 171 yX11_load, Cond.static yX11_load, Cond.code yX11_load cX11_load 4 none, Cond.methodLink RX11 154 yX11_common, Cond.instanceMethod yX11_common, Cond.selects RX11 yX11_common yX11_common, Cond.code yX11_common cX11_common 5 none, Cond.fieldLink RX11 23 "StructureSearchModel" "one" "[I", Cond.fieldLink RX11 26 "StructureSearchModel" "two" "[I", Cond.fieldLink RX11 29 "StructureSearchModel" "rest" "[I", Cond.methodLink RX11 129 yX11_copy, Cond.static yX11_copy]
def wsX11_fitIn_r3 : List Cond := [Cond.code yX11_copy cX11_copy 3 none, Cond.methodLink RX11 133 yX11_isEven, Cond.static yX11_isEven, Cond.code yX11_isEven cX11_isEven 1 (some .boolean), Cond.methodLink RX11 137 yX11_halve, Cond.static yX11_halve, Cond.code yX11_halve cX11_halve 2 none, Cond.methodLink RX11 125 yX11_trim, Cond.static yX11_trim, Cond.code yX11_trim cX11_trim 3 none, Cond.methodLink RX11 141 yX11_compareTo, Cond.static yX11_compareTo, Cond.code yX11_compareTo cX11_compareTo 6 (some .int), Cond.methodLink RX11 145 yX11_less, Cond.static yX11_less, Cond.code yX11_less cX11_less 7 none, Cond.methodLink RX11 148 yX11_twice, Cond.static yX11_twice, Cond.code yX11_twice cX11_twice 5 none, Cond.methodLink RX11 157 yX11_divide, Cond.instanceMethod yX11_divide, Cond.selects RX11 yX11_divide yX11_divide, Cond.code yX11_divide cX11_divide 7 none, Cond.methodLink RX11 175 yX11_store]
def wsX11_fitIn_r4 : List Cond := [Cond.static yX11_store, Cond.code yX11_store cX11_store 4 none, Cond.methodLink RX11 200 yX11_multiply, Cond.instanceMethod yX11_multiply, Cond.selects RX11 yX11_multiply yX11_multiply, Cond.code yX11_multiply cX11_multiply 4 none, Cond.fieldLink RX11 54 "StructureSearchModel" "factor" "[I", Cond.fieldLink RX11 57 "StructureSearchModel" "made" "[I", Cond.methodLink RX11 190 yX11_times, Cond.static yX11_times, Cond.code yX11_times cX11_times 10 none]
def wsX11_fitIn : List Cond := .code yX11_fitIn cX11_fitIn 7 none :: ((wsX11_fitIn_r1 ++ (wsX11_fitIn_r2 ++ (wsX11_fitIn_r3 ++ wsX11_fitIn_r4))) ++ wsX110)
def wsX11_signIn_r1 : List Cond := [Cond.fieldLink RX11 60 "StructureSearchModel" "topA" "[I", Cond.fieldLink RX11 63 "StructureSearchModel" "lowA" "[I", Cond.fieldLink RX11 66 "StructureSearchModel" "topB" "[I", Cond.fieldLink RX11 69 "StructureSearchModel" "lowB" "[I", Cond.methodLink RX11 268 yX11_fitIn, Cond.instanceMethod yX11_fitIn, Cond.selects RX11 yX11_fitIn yX11_fitIn, Cond.initialized RX11, Cond.code yX11_fitIn cX11_fitIn 7 none, Cond.fieldLink RX11 160 "StructureSearchModel" "names" "I", Cond.fieldLink RX11 42 "StructureSearchModel" "tops" "[I", Cond.fieldLink RX11 45 "StructureSearchModel" "lows" "[I", Cond.methodLink RX11 151 yX11_put, Cond.static yX11_put, Cond.code yX11_put cX11_put 2 none, Cond.methodLink RX11 194 yX11_parentsOf, Cond.static yX11_parentsOf, Cond.code yX11_parentsOf cX11_parentsOf 4 (some .int), Cond.methodLink RX11 197 yX11_family, Cond.instanceMethod yX11_family, Cond.selects RX11 yX11_family yX11_family, Cond.code yX11_family cX11_family 4 (some .int), Cond.fieldLink RX11 38 "StructureSearchModel" "isKnown" "[Z", Cond.fieldLink RX11 48 "StructureSearchModel" "small" "[I"]
def wsX11_signIn_r2 : List Cond := [Cond.fieldLink RX11 51 "StructureSearchModel" "large" "[I", Cond.methodLink RX11 163 yX11_place, Cond.static yX11_place, Cond.code yX11_place cX11_place 2 (some .int), Cond.methodLink RX11 167 yX11_work, Cond.instanceMethod yX11_work, Cond.selects RX11 yX11_work yX11_work, Cond.code yX11_work cX11_work 9 none, Cond.fieldLink RX11 7 "StructureSearchModel" "values" "[I", Cond.fieldLink RX11 179 "StructureSearchModel" "rows" "I", Cond.fieldLink RX11 13 "StructureSearchModel" "cells" "[I", Cond.fieldLink RX11 16 "StructureSearchModel" "strength" "I", Cond.methodLink RX11 182 yX11_agree, Cond.instanceMethod yX11_agree, Cond.selects RX11 yX11_agree yX11_agree, Cond.code yX11_agree cX11_agree 6 (some .boolean), Cond.methodLink RX11 186 yX11_grow, Cond.static yX11_grow, Cond.code yX11_grow cX11_grow 7 none, Cond.constantLong RX11 123 (4294967295), Cond.methodLink RX11 171 yX11_load, Cond.static yX11_load, Cond.code yX11_load cX11_load 4 none, Cond.methodLink RX11 154 yX11_common]
def wsX11_signIn_r3 : List Cond := [Cond.instanceMethod yX11_common, Cond.selects RX11 yX11_common yX11_common, Cond.code yX11_common cX11_common 5 none, Cond.fieldLink RX11 23 "StructureSearchModel" "one" "[I", Cond.fieldLink RX11 26 "StructureSearchModel" "two" "[I", Cond.fieldLink RX11 29 "StructureSearchModel" "rest" "[I", Cond.methodLink RX11 129 yX11_copy, Cond.static yX11_copy, Cond.code yX11_copy cX11_copy 3 none, Cond.methodLink RX11 133 yX11_isEven, Cond.static yX11_isEven, Cond.code yX11_isEven cX11_isEven 1 (some .boolean), Cond.methodLink RX11 137 yX11_halve, Cond.static yX11_halve, Cond.code yX11_halve cX11_halve 2 none, Cond.methodLink RX11 125 yX11_trim, Cond.static yX11_trim, Cond.code yX11_trim cX11_trim 3 none, Cond.methodLink RX11 141 yX11_compareTo, Cond.static yX11_compareTo, Cond.code yX11_compareTo cX11_compareTo 6 (some .int), Cond.methodLink RX11 145 yX11_less, Cond.static yX11_less, Cond.code yX11_less cX11_less 7 none]
def wsX11_signIn_r4 : List Cond := [Cond.methodLink RX11 148 yX11_twice, Cond.static yX11_twice, Cond.code yX11_twice cX11_twice 5 none, Cond.methodLink RX11 157 yX11_divide, Cond.instanceMethod yX11_divide, Cond.selects RX11 yX11_divide yX11_divide, Cond.code yX11_divide cX11_divide 7 none, Cond.methodLink RX11 175 yX11_store, Cond.static yX11_store, Cond.code yX11_store cX11_store 4 none, Cond.methodLink RX11 200 yX11_multiply, Cond.instanceMethod yX11_multiply, Cond.selects RX11 yX11_multiply yX11_multiply, Cond.code yX11_multiply cX11_multiply 4 none, Cond.fieldLink RX11 54 "StructureSearchModel" "factor" "[I", Cond.fieldLink RX11 57 "StructureSearchModel" "made" "[I", Cond.methodLink RX11 190 yX11_times, Cond.static yX11_times, Cond.code yX11_times cX11_times 10 none, Cond.methodLink RX11 207 yX11_sign, Cond.instanceMethod yX11_sign, Cond.selects RX11 yX11_sign yX11_sign, Cond.code yX11_sign cX11_sign 1 (some .int), Cond.fieldLink RX11 72 "StructureSearchModel" "left" "[I"]
def wsX11_signIn_r5 : List Cond := [Cond.fieldLink RX11 75 "StructureSearchModel" "right" "[I"]
def wsX11_signIn : List Cond := .code yX11_signIn cX11_signIn 4 (some .int) :: ((wsX11_signIn_r1 ++ (wsX11_signIn_r2 ++ (wsX11_signIn_r3 ++ (wsX11_signIn_r4 ++ wsX11_signIn_r5)))) ++ wsX110)
def wsX11_best_r1 : List Cond := [Cond.fieldLink RX11 84 "StructureSearchModel" "bests" "[I", Cond.fieldLink RX11 160 "StructureSearchModel" "names" "I", Cond.methodLink RX11 258 yX11_bestParents, Cond.instanceMethod yX11_bestParents, Cond.selects RX11 yX11_bestParents yX11_bestParents, Cond.initialized RX11, Cond.code yX11_bestParents cX11_bestParents 5 (some .int), Cond.fieldLink RX11 42 "StructureSearchModel" "tops" "[I", Cond.fieldLink RX11 66 "StructureSearchModel" "topB" "[I", Cond.fieldLink RX11 45 "StructureSearchModel" "lows" "[I", Cond.fieldLink RX11 69 "StructureSearchModel" "lowB" "[I", Cond.fieldLink RX11 20 "StructureSearchModel" "most" "I", Cond.fieldLink RX11 60 "StructureSearchModel" "topA" "[I", Cond.fieldLink RX11 63 "StructureSearchModel" "lowA" "[I", Cond.methodLink RX11 197 yX11_family, Cond.instanceMethod yX11_family, Cond.selects RX11 yX11_family yX11_family, Cond.code yX11_family cX11_family 4 (some .int), Cond.fieldLink RX11 38 "StructureSearchModel" "isKnown" "[Z", Cond.fieldLink RX11 48 "StructureSearchModel" "small" "[I", Cond.fieldLink RX11 51 "StructureSearchModel" "large" "[I", Cond.methodLink RX11 163 yX11_place, Cond.static yX11_place, Cond.code yX11_place cX11_place 2 (some .int)]
def wsX11_best_r2 : List Cond := [Cond.methodLink RX11 167 yX11_work, Cond.instanceMethod yX11_work, Cond.selects RX11 yX11_work yX11_work, Cond.code yX11_work cX11_work 9 none, Cond.fieldLink RX11 7 "StructureSearchModel" "values" "[I", Cond.fieldLink RX11 179 "StructureSearchModel" "rows" "I", Cond.fieldLink RX11 13 "StructureSearchModel" "cells" "[I", Cond.fieldLink RX11 16 "StructureSearchModel" "strength" "I", Cond.methodLink RX11 182 yX11_agree, Cond.instanceMethod yX11_agree, Cond.selects RX11 yX11_agree yX11_agree, Cond.code yX11_agree cX11_agree 6 (some .boolean), Cond.methodLink RX11 186 yX11_grow, Cond.static yX11_grow, Cond.code yX11_grow cX11_grow 7 none, Cond.constantLong RX11 123 (4294967295), Cond.methodLink RX11 171 yX11_load, Cond.static yX11_load, Cond.code yX11_load cX11_load 4 none, Cond.methodLink RX11 154 yX11_common, Cond.instanceMethod yX11_common, Cond.selects RX11 yX11_common yX11_common, Cond.code yX11_common cX11_common 5 none, Cond.fieldLink RX11 23 "StructureSearchModel" "one" "[I"]
def wsX11_best_r3 : List Cond := [Cond.fieldLink RX11 26 "StructureSearchModel" "two" "[I", Cond.fieldLink RX11 29 "StructureSearchModel" "rest" "[I", Cond.methodLink RX11 129 yX11_copy, Cond.static yX11_copy, Cond.code yX11_copy cX11_copy 3 none, Cond.methodLink RX11 133 yX11_isEven, Cond.static yX11_isEven, Cond.code yX11_isEven cX11_isEven 1 (some .boolean), Cond.methodLink RX11 137 yX11_halve, Cond.static yX11_halve, Cond.code yX11_halve cX11_halve 2 none, Cond.methodLink RX11 125 yX11_trim, Cond.static yX11_trim, Cond.code yX11_trim cX11_trim 3 none, Cond.methodLink RX11 141 yX11_compareTo, Cond.static yX11_compareTo, Cond.code yX11_compareTo cX11_compareTo 6 (some .int), Cond.methodLink RX11 145 yX11_less, Cond.static yX11_less, Cond.code yX11_less cX11_less 7 none, Cond.methodLink RX11 148 yX11_twice, Cond.static yX11_twice, Cond.code yX11_twice cX11_twice 5 none, Cond.methodLink RX11 157 yX11_divide]
def wsX11_best_r4 : List Cond := [Cond.instanceMethod yX11_divide, Cond.selects RX11 yX11_divide yX11_divide, Cond.code yX11_divide cX11_divide 7 none, Cond.methodLink RX11 175 yX11_store, Cond.static yX11_store, Cond.code yX11_store cX11_store 4 none, Cond.methodLink RX11 216 yX11_bits, Cond.static yX11_bits, Cond.code yX11_bits cX11_bits 3 (some .int), Cond.methodLink RX11 207 yX11_sign, Cond.instanceMethod yX11_sign, Cond.selects RX11 yX11_sign yX11_sign, Cond.code yX11_sign cX11_sign 1 (some .int), Cond.fieldLink RX11 72 "StructureSearchModel" "left" "[I", Cond.fieldLink RX11 75 "StructureSearchModel" "right" "[I", Cond.methodLink RX11 190 yX11_times, Cond.static yX11_times, Cond.code yX11_times cX11_times 10 none, Cond.methodLink RX11 261 yX11_arcs, Cond.static yX11_arcs, Cond.code yX11_arcs cX11_arcs 4 (some .int), Cond.methodLink RX11 264 yX11_signIn, Cond.instanceMethod yX11_signIn, Cond.selects RX11 yX11_signIn yX11_signIn]
def wsX11_best_r5 : List Cond := [Cond.code yX11_signIn cX11_signIn 4 (some .int), Cond.methodLink RX11 268 yX11_fitIn, Cond.instanceMethod yX11_fitIn, Cond.selects RX11 yX11_fitIn yX11_fitIn, Cond.code yX11_fitIn cX11_fitIn 7 none, Cond.methodLink RX11 151 yX11_put, Cond.static yX11_put, Cond.code yX11_put cX11_put 2 none, Cond.methodLink RX11 194 yX11_parentsOf, Cond.static yX11_parentsOf, Cond.code yX11_parentsOf cX11_parentsOf 4 (some .int), Cond.methodLink RX11 200 yX11_multiply, Cond.instanceMethod yX11_multiply, Cond.selects RX11 yX11_multiply yX11_multiply, Cond.code yX11_multiply cX11_multiply 4 none, Cond.fieldLink RX11 54 "StructureSearchModel" "factor" "[I", Cond.fieldLink RX11 57 "StructureSearchModel" "made" "[I"]
def wsX11_best : List Cond := .code yX11_best cX11_best 7 (some .int) :: ((wsX11_best_r1 ++ (wsX11_best_r2 ++ (wsX11_best_r3 ++ (wsX11_best_r4 ++ wsX11_best_r5)))) ++ wsX110)
def wsX11_better_r1 : List Cond := [Cond.methodLink RX11 236 yX11_isGraph, Cond.instanceMethod yX11_isGraph, Cond.selects RX11 yX11_isGraph yX11_isGraph, Cond.initialized RX11, Cond.code yX11_isGraph cX11_isGraph 5 (some .boolean), Cond.constant RX11 211 (33554432), Cond.fieldLink RX11 160 "StructureSearchModel" "names" "I", Cond.methodLink RX11 212 yX11_isSet, Cond.instanceMethod yX11_isSet, Cond.selects RX11 yX11_isSet yX11_isSet, Cond.code yX11_isSet cX11_isSet 2 (some .boolean), Cond.methodLink RX11 194 yX11_parentsOf, Cond.static yX11_parentsOf, Cond.code yX11_parentsOf cX11_parentsOf 4 (some .int), Cond.methodLink RX11 272 yX11_isBounded, Cond.instanceMethod yX11_isBounded, Cond.selects RX11 yX11_isBounded yX11_isBounded, Cond.code yX11_isBounded cX11_isBounded 4 (some .boolean), Cond.fieldLink RX11 20 "StructureSearchModel" "most" "I", Cond.methodLink RX11 216 yX11_bits, Cond.static yX11_bits, Cond.code yX11_bits cX11_bits 3 (some .int), Cond.methodLink RX11 255 yX11_signOf, Cond.instanceMethod yX11_signOf]
def wsX11_better_r2 : List Cond := [Cond.selects RX11 yX11_signOf yX11_signOf, Cond.code yX11_signOf cX11_signOf 3 (some .int), Cond.fieldLink RX11 60 "StructureSearchModel" "topA" "[I", Cond.fieldLink RX11 63 "StructureSearchModel" "lowA" "[I", Cond.fieldLink RX11 66 "StructureSearchModel" "topB" "[I", Cond.fieldLink RX11 69 "StructureSearchModel" "lowB" "[I", Cond.methodLink RX11 203 yX11_fit, Cond.instanceMethod yX11_fit, Cond.selects RX11 yX11_fit yX11_fit, Cond.code yX11_fit cX11_fit 6 none, Cond.fieldLink RX11 42 "StructureSearchModel" "tops" "[I", Cond.fieldLink RX11 45 "StructureSearchModel" "lows" "[I", Cond.methodLink RX11 151 yX11_put, Cond.static yX11_put, Cond.code yX11_put cX11_put 2 none, Cond.methodLink RX11 197 yX11_family, Cond.instanceMethod yX11_family, Cond.selects RX11 yX11_family yX11_family, Cond.code yX11_family cX11_family 4 (some .int), Cond.fieldLink RX11 38 "StructureSearchModel" "isKnown" "[Z", Cond.fieldLink RX11 48 "StructureSearchModel" "small" "[I", Cond.fieldLink RX11 51 "StructureSearchModel" "large" "[I", Cond.methodLink RX11 163 yX11_place, Cond.static yX11_place]
def wsX11_better_r3 : List Cond := [Cond.code yX11_place cX11_place 2 (some .int), Cond.methodLink RX11 167 yX11_work, Cond.instanceMethod yX11_work, Cond.selects RX11 yX11_work yX11_work, Cond.code yX11_work cX11_work 9 none, Cond.fieldLink RX11 7 "StructureSearchModel" "values" "[I", Cond.fieldLink RX11 179 "StructureSearchModel" "rows" "I", Cond.fieldLink RX11 13 "StructureSearchModel" "cells" "[I", Cond.fieldLink RX11 16 "StructureSearchModel" "strength" "I", Cond.methodLink RX11 182 yX11_agree, Cond.instanceMethod yX11_agree, Cond.selects RX11 yX11_agree yX11_agree, Cond.code yX11_agree cX11_agree 6 (some .boolean), Cond.methodLink RX11 186 yX11_grow, Cond.static yX11_grow, Cond.code yX11_grow cX11_grow 7 none, Cond.constantLong RX11 123 (4294967295), Cond.methodLink RX11 171 yX11_load, Cond.static yX11_load, Cond.code yX11_load cX11_load 4 none, Cond.methodLink RX11 154 yX11_common, Cond.instanceMethod yX11_common, Cond.selects RX11 yX11_common yX11_common, Cond.code yX11_common cX11_common 5 none]
def wsX11_better_r4 : List Cond := [Cond.fieldLink RX11 23 "StructureSearchModel" "one" "[I", Cond.fieldLink RX11 26 "StructureSearchModel" "two" "[I", Cond.fieldLink RX11 29 "StructureSearchModel" "rest" "[I", Cond.methodLink RX11 129 yX11_copy, Cond.static yX11_copy, Cond.code yX11_copy cX11_copy 3 none, Cond.methodLink RX11 133 yX11_isEven, Cond.static yX11_isEven, Cond.code yX11_isEven cX11_isEven 1 (some .boolean), Cond.methodLink RX11 137 yX11_halve, Cond.static yX11_halve, Cond.code yX11_halve cX11_halve 2 none, Cond.methodLink RX11 125 yX11_trim, Cond.static yX11_trim, Cond.code yX11_trim cX11_trim 3 none, Cond.methodLink RX11 141 yX11_compareTo, Cond.static yX11_compareTo, Cond.code yX11_compareTo cX11_compareTo 6 (some .int), Cond.methodLink RX11 145 yX11_less, Cond.static yX11_less, Cond.code yX11_less cX11_less 7 none, Cond.methodLink RX11 148 yX11_twice, Cond.static yX11_twice, Cond.code yX11_twice cX11_twice 5 none]
def wsX11_better_r5 : List Cond := [Cond.methodLink RX11 157 yX11_divide, Cond.instanceMethod yX11_divide, Cond.selects RX11 yX11_divide yX11_divide, Cond.code yX11_divide cX11_divide 7 none, Cond.methodLink RX11 175 yX11_store, Cond.static yX11_store, Cond.code yX11_store cX11_store 4 none, Cond.methodLink RX11 200 yX11_multiply, Cond.instanceMethod yX11_multiply, Cond.selects RX11 yX11_multiply yX11_multiply, Cond.code yX11_multiply cX11_multiply 4 none, Cond.fieldLink RX11 54 "StructureSearchModel" "factor" "[I", Cond.fieldLink RX11 57 "StructureSearchModel" "made" "[I", Cond.methodLink RX11 190 yX11_times, Cond.static yX11_times, Cond.code yX11_times cX11_times 10 none, Cond.methodLink RX11 207 yX11_sign, Cond.instanceMethod yX11_sign, Cond.selects RX11 yX11_sign yX11_sign, Cond.code yX11_sign cX11_sign 1 (some .int), Cond.fieldLink RX11 72 "StructureSearchModel" "left" "[I", Cond.fieldLink RX11 75 "StructureSearchModel" "right" "[I"]
def wsX11_better : List Cond := .code yX11_better cX11_better 4 (some .int) :: ((wsX11_better_r1 ++ (wsX11_better_r2 ++ (wsX11_better_r3 ++ (wsX11_better_r4 ++ wsX11_better_r5)))) ++ wsX110)
def wsX11_climb_r1 : List Cond := [Cond.fieldLink RX11 160 "StructureSearchModel" "names" "I", Cond.methodLink RX11 236 yX11_isGraph, Cond.instanceMethod yX11_isGraph, Cond.selects RX11 yX11_isGraph yX11_isGraph, Cond.initialized RX11, Cond.code yX11_isGraph cX11_isGraph 5 (some .boolean), Cond.constant RX11 211 (33554432), Cond.methodLink RX11 212 yX11_isSet, Cond.instanceMethod yX11_isSet, Cond.selects RX11 yX11_isSet yX11_isSet, Cond.code yX11_isSet cX11_isSet 2 (some .boolean), Cond.methodLink RX11 194 yX11_parentsOf, Cond.static yX11_parentsOf, Cond.code yX11_parentsOf cX11_parentsOf 4 (some .int), Cond.methodLink RX11 272 yX11_isBounded, Cond.instanceMethod yX11_isBounded, Cond.selects RX11 yX11_isBounded yX11_isBounded, Cond.code yX11_isBounded cX11_isBounded 4 (some .boolean), Cond.fieldLink RX11 20 "StructureSearchModel" "most" "I", Cond.methodLink RX11 216 yX11_bits, Cond.static yX11_bits, Cond.code yX11_bits cX11_bits 3 (some .int), Cond.methodLink RX11 275 yX11_better, Cond.instanceMethod yX11_better]
def wsX11_climb_r2 : List Cond := [Cond.selects RX11 yX11_better yX11_better, Cond.code yX11_better cX11_better 4 (some .int), Cond.methodLink RX11 255 yX11_signOf, Cond.instanceMethod yX11_signOf, Cond.selects RX11 yX11_signOf yX11_signOf, Cond.code yX11_signOf cX11_signOf 3 (some .int), Cond.fieldLink RX11 60 "StructureSearchModel" "topA" "[I", Cond.fieldLink RX11 63 "StructureSearchModel" "lowA" "[I", Cond.fieldLink RX11 66 "StructureSearchModel" "topB" "[I", Cond.fieldLink RX11 69 "StructureSearchModel" "lowB" "[I", Cond.methodLink RX11 203 yX11_fit, Cond.instanceMethod yX11_fit, Cond.selects RX11 yX11_fit yX11_fit, Cond.code yX11_fit cX11_fit 6 none, Cond.fieldLink RX11 42 "StructureSearchModel" "tops" "[I", Cond.fieldLink RX11 45 "StructureSearchModel" "lows" "[I", Cond.methodLink RX11 151 yX11_put, Cond.static yX11_put, Cond.code yX11_put cX11_put 2 none, Cond.methodLink RX11 197 yX11_family, Cond.instanceMethod yX11_family, Cond.selects RX11 yX11_family yX11_family, Cond.code yX11_family cX11_family 4 (some .int), Cond.fieldLink RX11 38 "StructureSearchModel" "isKnown" "[Z"]
def wsX11_climb_r3 : List Cond := [Cond.fieldLink RX11 48 "StructureSearchModel" "small" "[I", Cond.fieldLink RX11 51 "StructureSearchModel" "large" "[I", Cond.methodLink RX11 163 yX11_place, Cond.static yX11_place, Cond.code yX11_place cX11_place 2 (some .int), Cond.methodLink RX11 167 yX11_work, Cond.instanceMethod yX11_work, Cond.selects RX11 yX11_work yX11_work, Cond.code yX11_work cX11_work 9 none, Cond.fieldLink RX11 7 "StructureSearchModel" "values" "[I", Cond.fieldLink RX11 179 "StructureSearchModel" "rows" "I", Cond.fieldLink RX11 13 "StructureSearchModel" "cells" "[I", Cond.fieldLink RX11 16 "StructureSearchModel" "strength" "I", Cond.methodLink RX11 182 yX11_agree, Cond.instanceMethod yX11_agree, Cond.selects RX11 yX11_agree yX11_agree, Cond.code yX11_agree cX11_agree 6 (some .boolean), Cond.methodLink RX11 186 yX11_grow, Cond.static yX11_grow, Cond.code yX11_grow cX11_grow 7 none, Cond.constantLong RX11 123 (4294967295), Cond.methodLink RX11 171 yX11_load, Cond.static yX11_load, Cond.code yX11_load cX11_load 4 none]
def wsX11_climb_r4 : List Cond := [Cond.methodLink RX11 154 yX11_common, Cond.instanceMethod yX11_common, Cond.selects RX11 yX11_common yX11_common, Cond.code yX11_common cX11_common 5 none, Cond.fieldLink RX11 23 "StructureSearchModel" "one" "[I", Cond.fieldLink RX11 26 "StructureSearchModel" "two" "[I", Cond.fieldLink RX11 29 "StructureSearchModel" "rest" "[I", Cond.methodLink RX11 129 yX11_copy, Cond.static yX11_copy, Cond.code yX11_copy cX11_copy 3 none, Cond.methodLink RX11 133 yX11_isEven, Cond.static yX11_isEven, Cond.code yX11_isEven cX11_isEven 1 (some .boolean), Cond.methodLink RX11 137 yX11_halve, Cond.static yX11_halve, Cond.code yX11_halve cX11_halve 2 none, Cond.methodLink RX11 125 yX11_trim, Cond.static yX11_trim, Cond.code yX11_trim cX11_trim 3 none, Cond.methodLink RX11 141 yX11_compareTo, Cond.static yX11_compareTo, Cond.code yX11_compareTo cX11_compareTo 6 (some .int), Cond.methodLink RX11 145 yX11_less, Cond.static yX11_less]
def wsX11_climb_r5 : List Cond := [Cond.code yX11_less cX11_less 7 none, Cond.methodLink RX11 148 yX11_twice, Cond.static yX11_twice, Cond.code yX11_twice cX11_twice 5 none, Cond.methodLink RX11 157 yX11_divide, Cond.instanceMethod yX11_divide, Cond.selects RX11 yX11_divide yX11_divide, Cond.code yX11_divide cX11_divide 7 none, Cond.methodLink RX11 175 yX11_store, Cond.static yX11_store, Cond.code yX11_store cX11_store 4 none, Cond.methodLink RX11 200 yX11_multiply, Cond.instanceMethod yX11_multiply, Cond.selects RX11 yX11_multiply yX11_multiply, Cond.code yX11_multiply cX11_multiply 4 none, Cond.fieldLink RX11 54 "StructureSearchModel" "factor" "[I", Cond.fieldLink RX11 57 "StructureSearchModel" "made" "[I", Cond.methodLink RX11 190 yX11_times, Cond.static yX11_times, Cond.code yX11_times cX11_times 10 none, Cond.methodLink RX11 207 yX11_sign, Cond.instanceMethod yX11_sign, Cond.selects RX11 yX11_sign yX11_sign, Cond.code yX11_sign cX11_sign 1 (some .int)]
def wsX11_climb_r6 : List Cond := [Cond.fieldLink RX11 72 "StructureSearchModel" "left" "[I", Cond.fieldLink RX11 75 "StructureSearchModel" "right" "[I"]
def wsX11_climb : List Cond := .code yX11_climb cX11_climb 11 (some .int) :: ((wsX11_climb_r1 ++ (wsX11_climb_r2 ++ (wsX11_climb_r3 ++ (wsX11_climb_r4 ++ (wsX11_climb_r5 ++ wsX11_climb_r6))))) ++ wsX110)
def wsX11_alike : List Cond := .code yX11_alike cX11_alike 3 (some .int) :: ([.methodLink RX11 236 yX11_isGraph, .instanceMethod yX11_isGraph, .selects RX11 yX11_isGraph yX11_isGraph, .initialized RX11, .code yX11_isGraph cX11_isGraph 5 (some .boolean), .constant RX11 211 (33554432), .fieldLink RX11 160 "StructureSearchModel" "names" "I", .methodLink RX11 212 yX11_isSet, .instanceMethod yX11_isSet, .selects RX11 yX11_isSet yX11_isSet, .code yX11_isSet cX11_isSet 2 (some .boolean), .methodLink RX11 194 yX11_parentsOf, .static yX11_parentsOf, .code yX11_parentsOf cX11_parentsOf 4 (some .int), .methodLink RX11 278 yX11_isAlike, .static yX11_isAlike, .code yX11_isAlike cX11_isAlike 6 (some .boolean), .methodLink RX11 223 yX11_touch, .static yX11_touch, .code yX11_touch cX11_touch 3 (some .boolean), .methodLink RX11 220 yX11_has, .static yX11_has, .code yX11_has cX11_has 3 (some .boolean)] ++ wsX110)
def wsX11_kin_r1 : List Cond := [Cond.fieldLink RX11 87 "StructureSearchModel" "first" "[I", Cond.fieldLink RX11 90 "StructureSearchModel" "second" "[I", Cond.constant RX11 211 (33554432), Cond.constant RX11 281 (33554431), Cond.methodLink RX11 236 yX11_isGraph, Cond.instanceMethod yX11_isGraph, Cond.selects RX11 yX11_isGraph yX11_isGraph, Cond.initialized RX11, Cond.code yX11_isGraph cX11_isGraph 5 (some .boolean), Cond.fieldLink RX11 160 "StructureSearchModel" "names" "I", Cond.methodLink RX11 212 yX11_isSet, Cond.instanceMethod yX11_isSet, Cond.selects RX11 yX11_isSet yX11_isSet, Cond.code yX11_isSet cX11_isSet 2 (some .boolean), Cond.methodLink RX11 194 yX11_parentsOf, Cond.static yX11_parentsOf, Cond.code yX11_parentsOf cX11_parentsOf 4 (some .int), Cond.methodLink RX11 223 yX11_touch, Cond.static yX11_touch, Cond.code yX11_touch cX11_touch 3 (some .boolean), Cond.methodLink RX11 220 yX11_has, Cond.static yX11_has, Cond.code yX11_has cX11_has 3 (some .boolean), Cond.methodLink RX11 278 yX11_isAlike]
def wsX11_kin_r2 : List Cond := [Cond.static yX11_isAlike, Cond.code yX11_isAlike cX11_isAlike 6 (some .boolean)]
def wsX11_kin : List Cond := .code yX11_kin cX11_kin 11 (some .int) :: ((wsX11_kin_r1 ++ wsX11_kin_r2) ++ wsX110)
def wsX11_whole_r1 : List Cond := [Cond.fieldLink RX11 42 "StructureSearchModel" "tops" "[I", Cond.fieldLink RX11 102 "StructureSearchModel" "term" "[I", Cond.fieldLink RX11 160 "StructureSearchModel" "names" "I", Cond.fieldLink RX11 45 "StructureSearchModel" "lows" "[I", Cond.fieldLink RX11 96 "StructureSearchModel" "terms" "[I", Cond.methodLink RX11 197 yX11_family, Cond.instanceMethod yX11_family, Cond.selects RX11 yX11_family yX11_family, Cond.initialized RX11, Cond.code yX11_family cX11_family 4 (some .int), Cond.fieldLink RX11 38 "StructureSearchModel" "isKnown" "[Z", Cond.fieldLink RX11 48 "StructureSearchModel" "small" "[I", Cond.fieldLink RX11 51 "StructureSearchModel" "large" "[I", Cond.methodLink RX11 163 yX11_place, Cond.static yX11_place, Cond.code yX11_place cX11_place 2 (some .int), Cond.methodLink RX11 167 yX11_work, Cond.instanceMethod yX11_work, Cond.selects RX11 yX11_work yX11_work, Cond.code yX11_work cX11_work 9 none, Cond.fieldLink RX11 7 "StructureSearchModel" "values" "[I", Cond.fieldLink RX11 179 "StructureSearchModel" "rows" "I", Cond.fieldLink RX11 13 "StructureSearchModel" "cells" "[I", Cond.fieldLink RX11 16 "StructureSearchModel" "strength" "I"]
def wsX11_whole_r2 : List Cond := [Cond.methodLink RX11 182 yX11_agree, Cond.instanceMethod yX11_agree, Cond.selects RX11 yX11_agree yX11_agree, Cond.code yX11_agree cX11_agree 6 (some .boolean), Cond.methodLink RX11 186 yX11_grow, Cond.static yX11_grow, Cond.code yX11_grow cX11_grow 7 none, Cond.constantLong RX11 123 (4294967295), Cond.methodLink RX11 171 yX11_load, Cond.static yX11_load, Cond.code yX11_load cX11_load 4 none, Cond.methodLink RX11 154 yX11_common, Cond.instanceMethod yX11_common, Cond.selects RX11 yX11_common yX11_common, Cond.code yX11_common cX11_common 5 none, Cond.fieldLink RX11 23 "StructureSearchModel" "one" "[I", Cond.fieldLink RX11 26 "StructureSearchModel" "two" "[I", Cond.fieldLink RX11 29 "StructureSearchModel" "rest" "[I", Cond.methodLink RX11 129 yX11_copy, Cond.static yX11_copy, Cond.code yX11_copy cX11_copy 3 none, Cond.methodLink RX11 133 yX11_isEven, Cond.static yX11_isEven, Cond.code yX11_isEven cX11_isEven 1 (some .boolean)]
def wsX11_whole_r3 : List Cond := [Cond.methodLink RX11 137 yX11_halve, Cond.static yX11_halve, Cond.code yX11_halve cX11_halve 2 none, Cond.methodLink RX11 125 yX11_trim, Cond.static yX11_trim, Cond.code yX11_trim cX11_trim 3 none, Cond.methodLink RX11 141 yX11_compareTo, Cond.static yX11_compareTo, Cond.code yX11_compareTo cX11_compareTo 6 (some .int), Cond.methodLink RX11 145 yX11_less, Cond.static yX11_less, Cond.code yX11_less cX11_less 7 none, Cond.methodLink RX11 148 yX11_twice, Cond.static yX11_twice, Cond.code yX11_twice cX11_twice 5 none, Cond.methodLink RX11 157 yX11_divide, Cond.instanceMethod yX11_divide, Cond.selects RX11 yX11_divide yX11_divide, Cond.code yX11_divide cX11_divide 7 none, Cond.methodLink RX11 175 yX11_store, Cond.static yX11_store, Cond.code yX11_store cX11_store 4 none, Cond.methodLink RX11 200 yX11_multiply, Cond.instanceMethod yX11_multiply]
def wsX11_whole_r4 : List Cond := [Cond.selects RX11 yX11_multiply yX11_multiply, Cond.code yX11_multiply cX11_multiply 4 none, Cond.fieldLink RX11 54 "StructureSearchModel" "factor" "[I", Cond.fieldLink RX11 57 "StructureSearchModel" "made" "[I", Cond.methodLink RX11 190 yX11_times, Cond.static yX11_times, Cond.code yX11_times cX11_times 10 none]
def wsX11_whole : List Cond := .code yX11_whole cX11_whole 4 none :: ((wsX11_whole_r1 ++ (wsX11_whole_r2 ++ (wsX11_whole_r3 ++ wsX11_whole_r4))) ++ wsX110)
def wsX11_sumUp_r1 : List Cond := [Cond.fieldLink RX11 160 "StructureSearchModel" "names" "I", Cond.fieldLink RX11 111 "StructureSearchModel" "sum" "[I", Cond.fieldLink RX11 20 "StructureSearchModel" "most" "I", Cond.fieldLink RX11 96 "StructureSearchModel" "terms" "[I", Cond.fieldLink RX11 102 "StructureSearchModel" "term" "[I", Cond.fieldLink RX11 93 "StructureSearchModel" "sums" "[I", Cond.methodLink RX11 282 yX11_whole, Cond.instanceMethod yX11_whole, Cond.selects RX11 yX11_whole yX11_whole, Cond.initialized RX11, Cond.code yX11_whole cX11_whole 4 none, Cond.fieldLink RX11 42 "StructureSearchModel" "tops" "[I", Cond.fieldLink RX11 45 "StructureSearchModel" "lows" "[I", Cond.methodLink RX11 197 yX11_family, Cond.instanceMethod yX11_family, Cond.selects RX11 yX11_family yX11_family, Cond.code yX11_family cX11_family 4 (some .int), Cond.fieldLink RX11 38 "StructureSearchModel" "isKnown" "[Z", Cond.fieldLink RX11 48 "StructureSearchModel" "small" "[I", Cond.fieldLink RX11 51 "StructureSearchModel" "large" "[I", Cond.methodLink RX11 163 yX11_place, Cond.static yX11_place, Cond.code yX11_place cX11_place 2 (some .int), Cond.methodLink RX11 167 yX11_work]
def wsX11_sumUp_r2 : List Cond := [Cond.instanceMethod yX11_work, Cond.selects RX11 yX11_work yX11_work, Cond.code yX11_work cX11_work 9 none, Cond.fieldLink RX11 7 "StructureSearchModel" "values" "[I", Cond.fieldLink RX11 179 "StructureSearchModel" "rows" "I", Cond.fieldLink RX11 13 "StructureSearchModel" "cells" "[I", Cond.fieldLink RX11 16 "StructureSearchModel" "strength" "I", Cond.methodLink RX11 182 yX11_agree, Cond.instanceMethod yX11_agree, Cond.selects RX11 yX11_agree yX11_agree, Cond.code yX11_agree cX11_agree 6 (some .boolean), Cond.methodLink RX11 186 yX11_grow, Cond.static yX11_grow, Cond.code yX11_grow cX11_grow 7 none, Cond.constantLong RX11 123 (4294967295), Cond.methodLink RX11 171 yX11_load, Cond.static yX11_load, Cond.code yX11_load cX11_load 4 none, Cond.methodLink RX11 154 yX11_common, Cond.instanceMethod yX11_common, Cond.selects RX11 yX11_common yX11_common, Cond.code yX11_common cX11_common 5 none, Cond.fieldLink RX11 23 "StructureSearchModel" "one" "[I", Cond.fieldLink RX11 26 "StructureSearchModel" "two" "[I"]
def wsX11_sumUp_r3 : List Cond := [Cond.fieldLink RX11 29 "StructureSearchModel" "rest" "[I", Cond.methodLink RX11 129 yX11_copy, Cond.static yX11_copy, Cond.code yX11_copy cX11_copy 3 none, Cond.methodLink RX11 133 yX11_isEven, Cond.static yX11_isEven, Cond.code yX11_isEven cX11_isEven 1 (some .boolean), Cond.methodLink RX11 137 yX11_halve, Cond.static yX11_halve, Cond.code yX11_halve cX11_halve 2 none, Cond.methodLink RX11 125 yX11_trim, Cond.static yX11_trim, Cond.code yX11_trim cX11_trim 3 none, Cond.methodLink RX11 141 yX11_compareTo, Cond.static yX11_compareTo, Cond.code yX11_compareTo cX11_compareTo 6 (some .int), Cond.methodLink RX11 145 yX11_less, Cond.static yX11_less, Cond.code yX11_less cX11_less 7 none, Cond.methodLink RX11 148 yX11_twice, Cond.static yX11_twice, Cond.code yX11_twice cX11_twice 5 none, Cond.methodLink RX11 157 yX11_divide, Cond.instanceMethod yX11_divide]
def wsX11_sumUp_r4 : List Cond := [Cond.selects RX11 yX11_divide yX11_divide, Cond.code yX11_divide cX11_divide 7 none, Cond.methodLink RX11 175 yX11_store, Cond.static yX11_store, Cond.code yX11_store cX11_store 4 none, Cond.methodLink RX11 200 yX11_multiply, Cond.instanceMethod yX11_multiply, Cond.selects RX11 yX11_multiply yX11_multiply, Cond.code yX11_multiply cX11_multiply 4 none, Cond.fieldLink RX11 54 "StructureSearchModel" "factor" "[I", Cond.fieldLink RX11 57 "StructureSearchModel" "made" "[I", Cond.methodLink RX11 190 yX11_times, Cond.static yX11_times, Cond.code yX11_times cX11_times 10 none, Cond.methodLink RX11 151 yX11_put, Cond.static yX11_put, Cond.code yX11_put cX11_put 2 none, Cond.methodLink RX11 216 yX11_bits, Cond.static yX11_bits, Cond.code yX11_bits cX11_bits 3 (some .int), Cond.methodLink RX11 285 yX11_plus, Cond.static yX11_plus, Cond.code yX11_plus cX11_plus 6 none]
def wsX11_sumUp : List Cond := .code yX11_sumUp cX11_sumUp 6 none :: ((wsX11_sumUp_r1 ++ (wsX11_sumUp_r2 ++ (wsX11_sumUp_r3 ++ wsX11_sumUp_r4))) ++ wsX110)
def wsX11_total_r1 : List Cond := [Cond.fieldLink RX11 99 "StructureSearchModel" "wholes" "[I", Cond.fieldLink RX11 160 "StructureSearchModel" "names" "I", Cond.fieldLink RX11 105 "StructureSearchModel" "more" "[I", Cond.fieldLink RX11 108 "StructureSearchModel" "fewer" "[I", Cond.fieldLink RX11 102 "StructureSearchModel" "term" "[I", Cond.fieldLink RX11 93 "StructureSearchModel" "sums" "[I", Cond.methodLink RX11 288 yX11_sumUp, Cond.instanceMethod yX11_sumUp, Cond.selects RX11 yX11_sumUp yX11_sumUp, Cond.initialized RX11, Cond.code yX11_sumUp cX11_sumUp 6 none, Cond.fieldLink RX11 111 "StructureSearchModel" "sum" "[I", Cond.fieldLink RX11 20 "StructureSearchModel" "most" "I", Cond.fieldLink RX11 96 "StructureSearchModel" "terms" "[I", Cond.methodLink RX11 282 yX11_whole, Cond.instanceMethod yX11_whole, Cond.selects RX11 yX11_whole yX11_whole, Cond.code yX11_whole cX11_whole 4 none, Cond.fieldLink RX11 42 "StructureSearchModel" "tops" "[I", Cond.fieldLink RX11 45 "StructureSearchModel" "lows" "[I", Cond.methodLink RX11 197 yX11_family, Cond.instanceMethod yX11_family, Cond.selects RX11 yX11_family yX11_family, Cond.code yX11_family cX11_family 4 (some .int)]
def wsX11_total_r2 : List Cond := [Cond.fieldLink RX11 38 "StructureSearchModel" "isKnown" "[Z", Cond.fieldLink RX11 48 "StructureSearchModel" "small" "[I", Cond.fieldLink RX11 51 "StructureSearchModel" "large" "[I", Cond.methodLink RX11 163 yX11_place, Cond.static yX11_place, Cond.code yX11_place cX11_place 2 (some .int), Cond.methodLink RX11 167 yX11_work, Cond.instanceMethod yX11_work, Cond.selects RX11 yX11_work yX11_work, Cond.code yX11_work cX11_work 9 none, Cond.fieldLink RX11 7 "StructureSearchModel" "values" "[I", Cond.fieldLink RX11 179 "StructureSearchModel" "rows" "I", Cond.fieldLink RX11 13 "StructureSearchModel" "cells" "[I", Cond.fieldLink RX11 16 "StructureSearchModel" "strength" "I", Cond.methodLink RX11 182 yX11_agree, Cond.instanceMethod yX11_agree, Cond.selects RX11 yX11_agree yX11_agree, Cond.code yX11_agree cX11_agree 6 (some .boolean), Cond.methodLink RX11 186 yX11_grow, Cond.static yX11_grow, Cond.code yX11_grow cX11_grow 7 none, Cond.constantLong RX11 123 (4294967295), Cond.methodLink RX11 171 yX11_load, Cond.static yX11_load]
def wsX11_total_r3 : List Cond := [Cond.code yX11_load cX11_load 4 none, Cond.methodLink RX11 154 yX11_common, Cond.instanceMethod yX11_common, Cond.selects RX11 yX11_common yX11_common, Cond.code yX11_common cX11_common 5 none, Cond.fieldLink RX11 23 "StructureSearchModel" "one" "[I", Cond.fieldLink RX11 26 "StructureSearchModel" "two" "[I", Cond.fieldLink RX11 29 "StructureSearchModel" "rest" "[I", Cond.methodLink RX11 129 yX11_copy, Cond.static yX11_copy, Cond.code yX11_copy cX11_copy 3 none, Cond.methodLink RX11 133 yX11_isEven, Cond.static yX11_isEven, Cond.code yX11_isEven cX11_isEven 1 (some .boolean), Cond.methodLink RX11 137 yX11_halve, Cond.static yX11_halve, Cond.code yX11_halve cX11_halve 2 none, Cond.methodLink RX11 125 yX11_trim, Cond.static yX11_trim, Cond.code yX11_trim cX11_trim 3 none, Cond.methodLink RX11 141 yX11_compareTo, Cond.static yX11_compareTo, Cond.code yX11_compareTo cX11_compareTo 6 (some .int), Cond.methodLink RX11 145 yX11_less]
def wsX11_total_r4 : List Cond := [Cond.static yX11_less, Cond.code yX11_less cX11_less 7 none, Cond.methodLink RX11 148 yX11_twice, Cond.static yX11_twice, Cond.code yX11_twice cX11_twice 5 none, Cond.methodLink RX11 157 yX11_divide, Cond.instanceMethod yX11_divide, Cond.selects RX11 yX11_divide yX11_divide, Cond.code yX11_divide cX11_divide 7 none, Cond.methodLink RX11 175 yX11_store, Cond.static yX11_store, Cond.code yX11_store cX11_store 4 none, Cond.methodLink RX11 200 yX11_multiply, Cond.instanceMethod yX11_multiply, Cond.selects RX11 yX11_multiply yX11_multiply, Cond.code yX11_multiply cX11_multiply 4 none, Cond.fieldLink RX11 54 "StructureSearchModel" "factor" "[I", Cond.fieldLink RX11 57 "StructureSearchModel" "made" "[I", Cond.methodLink RX11 190 yX11_times, Cond.static yX11_times, Cond.code yX11_times cX11_times 10 none, Cond.methodLink RX11 151 yX11_put, Cond.static yX11_put, Cond.code yX11_put cX11_put 2 none]
def wsX11_total_r5 : List Cond := [Cond.methodLink RX11 216 yX11_bits, Cond.static yX11_bits, Cond.code yX11_bits cX11_bits 3 (some .int), Cond.methodLink RX11 285 yX11_plus, Cond.static yX11_plus, Cond.code yX11_plus cX11_plus 6 none]
def wsX11_total : List Cond := .code yX11_total cX11_total 8 none :: ((wsX11_total_r1 ++ (wsX11_total_r2 ++ (wsX11_total_r3 ++ (wsX11_total_r4 ++ wsX11_total_r5)))) ++ wsX110)
def wsX11_tellShare_r1 : List Cond := [Cond.fieldLink RX11 81 "StructureSearchModel" "toldArc" "I", Cond.fieldLink RX11 32 "StructureSearchModel" "above" "[I", Cond.fieldLink RX11 35 "StructureSearchModel" "below" "[I", Cond.fieldLink RX11 78 "StructureSearchModel" "toldGraph" "I", Cond.methodLink RX11 291 yX11_total, Cond.instanceMethod yX11_total, Cond.selects RX11 yX11_total yX11_total, Cond.initialized RX11, Cond.code yX11_total cX11_total 8 none, Cond.fieldLink RX11 99 "StructureSearchModel" "wholes" "[I", Cond.fieldLink RX11 160 "StructureSearchModel" "names" "I", Cond.fieldLink RX11 105 "StructureSearchModel" "more" "[I", Cond.fieldLink RX11 108 "StructureSearchModel" "fewer" "[I", Cond.fieldLink RX11 102 "StructureSearchModel" "term" "[I", Cond.fieldLink RX11 93 "StructureSearchModel" "sums" "[I", Cond.methodLink RX11 288 yX11_sumUp, Cond.instanceMethod yX11_sumUp, Cond.selects RX11 yX11_sumUp yX11_sumUp, Cond.code yX11_sumUp cX11_sumUp 6 none, Cond.fieldLink RX11 111 "StructureSearchModel" "sum" "[I", Cond.fieldLink RX11 20 "StructureSearchModel" "most" "I", Cond.fieldLink RX11 96 "StructureSearchModel" "terms" "[I", Cond.methodLink RX11 282 yX11_whole, Cond.instanceMethod yX11_whole]
def wsX11_tellShare_r2 : List Cond := [Cond.selects RX11 yX11_whole yX11_whole, Cond.code yX11_whole cX11_whole 4 none, Cond.fieldLink RX11 42 "StructureSearchModel" "tops" "[I", Cond.fieldLink RX11 45 "StructureSearchModel" "lows" "[I", Cond.methodLink RX11 197 yX11_family, Cond.instanceMethod yX11_family, Cond.selects RX11 yX11_family yX11_family, Cond.code yX11_family cX11_family 4 (some .int), Cond.fieldLink RX11 38 "StructureSearchModel" "isKnown" "[Z", Cond.fieldLink RX11 48 "StructureSearchModel" "small" "[I", Cond.fieldLink RX11 51 "StructureSearchModel" "large" "[I", Cond.methodLink RX11 163 yX11_place, Cond.static yX11_place, Cond.code yX11_place cX11_place 2 (some .int), Cond.methodLink RX11 167 yX11_work, Cond.instanceMethod yX11_work, Cond.selects RX11 yX11_work yX11_work, Cond.code yX11_work cX11_work 9 none, Cond.fieldLink RX11 7 "StructureSearchModel" "values" "[I", Cond.fieldLink RX11 179 "StructureSearchModel" "rows" "I", Cond.fieldLink RX11 13 "StructureSearchModel" "cells" "[I", Cond.fieldLink RX11 16 "StructureSearchModel" "strength" "I", Cond.methodLink RX11 182 yX11_agree, Cond.instanceMethod yX11_agree]
def wsX11_tellShare_r3 : List Cond := [Cond.selects RX11 yX11_agree yX11_agree, Cond.code yX11_agree cX11_agree 6 (some .boolean), Cond.methodLink RX11 186 yX11_grow, Cond.static yX11_grow, Cond.code yX11_grow cX11_grow 7 none, Cond.constantLong RX11 123 (4294967295), Cond.methodLink RX11 171 yX11_load, Cond.static yX11_load, Cond.code yX11_load cX11_load 4 none, Cond.methodLink RX11 154 yX11_common, Cond.instanceMethod yX11_common, Cond.selects RX11 yX11_common yX11_common, Cond.code yX11_common cX11_common 5 none, Cond.fieldLink RX11 23 "StructureSearchModel" "one" "[I", Cond.fieldLink RX11 26 "StructureSearchModel" "two" "[I", Cond.fieldLink RX11 29 "StructureSearchModel" "rest" "[I", Cond.methodLink RX11 129 yX11_copy, Cond.static yX11_copy, Cond.code yX11_copy cX11_copy 3 none, Cond.methodLink RX11 133 yX11_isEven, Cond.static yX11_isEven, Cond.code yX11_isEven cX11_isEven 1 (some .boolean), Cond.methodLink RX11 137 yX11_halve, Cond.static yX11_halve]
def wsX11_tellShare_r4 : List Cond := [Cond.code yX11_halve cX11_halve 2 none, Cond.methodLink RX11 125 yX11_trim, Cond.static yX11_trim, Cond.code yX11_trim cX11_trim 3 none, Cond.methodLink RX11 141 yX11_compareTo, Cond.static yX11_compareTo, Cond.code yX11_compareTo cX11_compareTo 6 (some .int), Cond.methodLink RX11 145 yX11_less, Cond.static yX11_less, Cond.code yX11_less cX11_less 7 none, Cond.methodLink RX11 148 yX11_twice, Cond.static yX11_twice, Cond.code yX11_twice cX11_twice 5 none, Cond.methodLink RX11 157 yX11_divide, Cond.instanceMethod yX11_divide, Cond.selects RX11 yX11_divide yX11_divide, Cond.code yX11_divide cX11_divide 7 none, Cond.methodLink RX11 175 yX11_store, Cond.static yX11_store, Cond.code yX11_store cX11_store 4 none, Cond.methodLink RX11 200 yX11_multiply, Cond.instanceMethod yX11_multiply, Cond.selects RX11 yX11_multiply yX11_multiply, Cond.code yX11_multiply cX11_multiply 4 none]
def wsX11_tellShare_r5 : List Cond := [Cond.fieldLink RX11 54 "StructureSearchModel" "factor" "[I", Cond.fieldLink RX11 57 "StructureSearchModel" "made" "[I", Cond.methodLink RX11 190 yX11_times, Cond.static yX11_times, Cond.code yX11_times cX11_times 10 none, Cond.methodLink RX11 151 yX11_put, Cond.static yX11_put, Cond.code yX11_put cX11_put 2 none, Cond.methodLink RX11 216 yX11_bits, Cond.static yX11_bits, Cond.code yX11_bits cX11_bits 3 (some .int), Cond.methodLink RX11 285 yX11_plus, Cond.static yX11_plus, Cond.code yX11_plus cX11_plus 6 none, Cond.methodLink RX11 239 yX11_least, Cond.instanceMethod yX11_least, Cond.selects RX11 yX11_least yX11_least, Cond.code yX11_least cX11_least 1 none]
def wsX11_tellShare : List Cond := .code yX11_tellShare cX11_tellShare 3 none :: ((wsX11_tellShare_r1 ++ (wsX11_tellShare_r2 ++ (wsX11_tellShare_r3 ++ (wsX11_tellShare_r4 ++ wsX11_tellShare_r5)))) ++ wsX110)
def wsX11_shareFault : List Cond := .code yX11_shareFault cX11_shareFault 4 (some .int) :: ([.fieldLink RX11 160 "StructureSearchModel" "names" "I", .methodLink RX11 233 yX11_isName, .instanceMethod yX11_isName, .selects RX11 yX11_isName yX11_isName, .initialized RX11, .code yX11_isName cX11_isName 2 (some .boolean), .methodLink RX11 244 yX11_isPart, .static yX11_isPart, .code yX11_isPart cX11_isPart 1 (some .boolean)] ++ wsX110)
def wsX11_shareSize_r1 : List Cond := [Cond.fieldLink RX11 32 "StructureSearchModel" "above" "[I", Cond.fieldLink RX11 35 "StructureSearchModel" "below" "[I", Cond.methodLink RX11 295 yX11_shareFault, Cond.instanceMethod yX11_shareFault, Cond.selects RX11 yX11_shareFault yX11_shareFault, Cond.initialized RX11, Cond.code yX11_shareFault cX11_shareFault 4 (some .int), Cond.fieldLink RX11 160 "StructureSearchModel" "names" "I", Cond.methodLink RX11 233 yX11_isName, Cond.instanceMethod yX11_isName, Cond.selects RX11 yX11_isName yX11_isName, Cond.code yX11_isName cX11_isName 2 (some .boolean), Cond.methodLink RX11 244 yX11_isPart, Cond.static yX11_isPart, Cond.code yX11_isPart cX11_isPart 1 (some .boolean), Cond.methodLink RX11 298 yX11_tellShare, Cond.instanceMethod yX11_tellShare, Cond.selects RX11 yX11_tellShare yX11_tellShare, Cond.code yX11_tellShare cX11_tellShare 3 none, Cond.fieldLink RX11 81 "StructureSearchModel" "toldArc" "I", Cond.fieldLink RX11 78 "StructureSearchModel" "toldGraph" "I", Cond.methodLink RX11 291 yX11_total, Cond.instanceMethod yX11_total, Cond.selects RX11 yX11_total yX11_total]
def wsX11_shareSize_r2 : List Cond := [Cond.code yX11_total cX11_total 8 none, Cond.fieldLink RX11 99 "StructureSearchModel" "wholes" "[I", Cond.fieldLink RX11 105 "StructureSearchModel" "more" "[I", Cond.fieldLink RX11 108 "StructureSearchModel" "fewer" "[I", Cond.fieldLink RX11 102 "StructureSearchModel" "term" "[I", Cond.fieldLink RX11 93 "StructureSearchModel" "sums" "[I", Cond.methodLink RX11 288 yX11_sumUp, Cond.instanceMethod yX11_sumUp, Cond.selects RX11 yX11_sumUp yX11_sumUp, Cond.code yX11_sumUp cX11_sumUp 6 none, Cond.fieldLink RX11 111 "StructureSearchModel" "sum" "[I", Cond.fieldLink RX11 20 "StructureSearchModel" "most" "I", Cond.fieldLink RX11 96 "StructureSearchModel" "terms" "[I", Cond.methodLink RX11 282 yX11_whole, Cond.instanceMethod yX11_whole, Cond.selects RX11 yX11_whole yX11_whole, Cond.code yX11_whole cX11_whole 4 none, Cond.fieldLink RX11 42 "StructureSearchModel" "tops" "[I", Cond.fieldLink RX11 45 "StructureSearchModel" "lows" "[I", Cond.methodLink RX11 197 yX11_family, Cond.instanceMethod yX11_family, Cond.selects RX11 yX11_family yX11_family, Cond.code yX11_family cX11_family 4 (some .int), Cond.fieldLink RX11 38 "StructureSearchModel" "isKnown" "[Z"]
def wsX11_shareSize_r3 : List Cond := [Cond.fieldLink RX11 48 "StructureSearchModel" "small" "[I", Cond.fieldLink RX11 51 "StructureSearchModel" "large" "[I", Cond.methodLink RX11 163 yX11_place, Cond.static yX11_place, Cond.code yX11_place cX11_place 2 (some .int), Cond.methodLink RX11 167 yX11_work, Cond.instanceMethod yX11_work, Cond.selects RX11 yX11_work yX11_work, Cond.code yX11_work cX11_work 9 none, Cond.fieldLink RX11 7 "StructureSearchModel" "values" "[I", Cond.fieldLink RX11 179 "StructureSearchModel" "rows" "I", Cond.fieldLink RX11 13 "StructureSearchModel" "cells" "[I", Cond.fieldLink RX11 16 "StructureSearchModel" "strength" "I", Cond.methodLink RX11 182 yX11_agree, Cond.instanceMethod yX11_agree, Cond.selects RX11 yX11_agree yX11_agree, Cond.code yX11_agree cX11_agree 6 (some .boolean), Cond.methodLink RX11 186 yX11_grow, Cond.static yX11_grow, Cond.code yX11_grow cX11_grow 7 none, Cond.constantLong RX11 123 (4294967295), Cond.methodLink RX11 171 yX11_load, Cond.static yX11_load, Cond.code yX11_load cX11_load 4 none]
def wsX11_shareSize_r4 : List Cond := [Cond.methodLink RX11 154 yX11_common, Cond.instanceMethod yX11_common, Cond.selects RX11 yX11_common yX11_common, Cond.code yX11_common cX11_common 5 none, Cond.fieldLink RX11 23 "StructureSearchModel" "one" "[I", Cond.fieldLink RX11 26 "StructureSearchModel" "two" "[I", Cond.fieldLink RX11 29 "StructureSearchModel" "rest" "[I", Cond.methodLink RX11 129 yX11_copy, Cond.static yX11_copy, Cond.code yX11_copy cX11_copy 3 none, Cond.methodLink RX11 133 yX11_isEven, Cond.static yX11_isEven, Cond.code yX11_isEven cX11_isEven 1 (some .boolean), Cond.methodLink RX11 137 yX11_halve, Cond.static yX11_halve, Cond.code yX11_halve cX11_halve 2 none, Cond.methodLink RX11 125 yX11_trim, Cond.static yX11_trim, Cond.code yX11_trim cX11_trim 3 none, Cond.methodLink RX11 141 yX11_compareTo, Cond.static yX11_compareTo, Cond.code yX11_compareTo cX11_compareTo 6 (some .int), Cond.methodLink RX11 145 yX11_less, Cond.static yX11_less]
def wsX11_shareSize_r5 : List Cond := [Cond.code yX11_less cX11_less 7 none, Cond.methodLink RX11 148 yX11_twice, Cond.static yX11_twice, Cond.code yX11_twice cX11_twice 5 none, Cond.methodLink RX11 157 yX11_divide, Cond.instanceMethod yX11_divide, Cond.selects RX11 yX11_divide yX11_divide, Cond.code yX11_divide cX11_divide 7 none, Cond.methodLink RX11 175 yX11_store, Cond.static yX11_store, Cond.code yX11_store cX11_store 4 none, Cond.methodLink RX11 200 yX11_multiply, Cond.instanceMethod yX11_multiply, Cond.selects RX11 yX11_multiply yX11_multiply, Cond.code yX11_multiply cX11_multiply 4 none, Cond.fieldLink RX11 54 "StructureSearchModel" "factor" "[I", Cond.fieldLink RX11 57 "StructureSearchModel" "made" "[I", Cond.methodLink RX11 190 yX11_times, Cond.static yX11_times, Cond.code yX11_times cX11_times 10 none, Cond.methodLink RX11 151 yX11_put, Cond.static yX11_put, Cond.code yX11_put cX11_put 2 none, Cond.methodLink RX11 216 yX11_bits]
def wsX11_shareSize_r6 : List Cond := [Cond.static yX11_bits, Cond.code yX11_bits cX11_bits 3 (some .int), Cond.methodLink RX11 285 yX11_plus, Cond.static yX11_plus, Cond.code yX11_plus cX11_plus 6 none, Cond.methodLink RX11 239 yX11_least, Cond.instanceMethod yX11_least, Cond.selects RX11 yX11_least yX11_least, Cond.code yX11_least cX11_least 1 none]
def wsX11_shareSize : List Cond := .code yX11_shareSize cX11_shareSize 5 (some .int) :: ((wsX11_shareSize_r1 ++ (wsX11_shareSize_r2 ++ (wsX11_shareSize_r3 ++ (wsX11_shareSize_r4 ++ (wsX11_shareSize_r5 ++ wsX11_shareSize_r6))))) ++ wsX110)
def wsX11_shareWord_r1 : List Cond := [Cond.methodLink RX11 295 yX11_shareFault, Cond.instanceMethod yX11_shareFault, Cond.selects RX11 yX11_shareFault yX11_shareFault, Cond.initialized RX11, Cond.code yX11_shareFault cX11_shareFault 4 (some .int), Cond.fieldLink RX11 160 "StructureSearchModel" "names" "I", Cond.methodLink RX11 233 yX11_isName, Cond.instanceMethod yX11_isName, Cond.selects RX11 yX11_isName yX11_isName, Cond.code yX11_isName cX11_isName 2 (some .boolean), Cond.methodLink RX11 244 yX11_isPart, Cond.static yX11_isPart, Cond.code yX11_isPart cX11_isPart 1 (some .boolean), Cond.methodLink RX11 298 yX11_tellShare, Cond.instanceMethod yX11_tellShare, Cond.selects RX11 yX11_tellShare yX11_tellShare, Cond.code yX11_tellShare cX11_tellShare 3 none, Cond.fieldLink RX11 81 "StructureSearchModel" "toldArc" "I", Cond.fieldLink RX11 32 "StructureSearchModel" "above" "[I", Cond.fieldLink RX11 35 "StructureSearchModel" "below" "[I", Cond.fieldLink RX11 78 "StructureSearchModel" "toldGraph" "I", Cond.methodLink RX11 291 yX11_total, Cond.instanceMethod yX11_total, Cond.selects RX11 yX11_total yX11_total]
def wsX11_shareWord_r2 : List Cond := [Cond.code yX11_total cX11_total 8 none, Cond.fieldLink RX11 99 "StructureSearchModel" "wholes" "[I", Cond.fieldLink RX11 105 "StructureSearchModel" "more" "[I", Cond.fieldLink RX11 108 "StructureSearchModel" "fewer" "[I", Cond.fieldLink RX11 102 "StructureSearchModel" "term" "[I", Cond.fieldLink RX11 93 "StructureSearchModel" "sums" "[I", Cond.methodLink RX11 288 yX11_sumUp, Cond.instanceMethod yX11_sumUp, Cond.selects RX11 yX11_sumUp yX11_sumUp, Cond.code yX11_sumUp cX11_sumUp 6 none, Cond.fieldLink RX11 111 "StructureSearchModel" "sum" "[I", Cond.fieldLink RX11 20 "StructureSearchModel" "most" "I", Cond.fieldLink RX11 96 "StructureSearchModel" "terms" "[I", Cond.methodLink RX11 282 yX11_whole, Cond.instanceMethod yX11_whole, Cond.selects RX11 yX11_whole yX11_whole, Cond.code yX11_whole cX11_whole 4 none, Cond.fieldLink RX11 42 "StructureSearchModel" "tops" "[I", Cond.fieldLink RX11 45 "StructureSearchModel" "lows" "[I", Cond.methodLink RX11 197 yX11_family, Cond.instanceMethod yX11_family, Cond.selects RX11 yX11_family yX11_family, Cond.code yX11_family cX11_family 4 (some .int), Cond.fieldLink RX11 38 "StructureSearchModel" "isKnown" "[Z"]
def wsX11_shareWord_r3 : List Cond := [Cond.fieldLink RX11 48 "StructureSearchModel" "small" "[I", Cond.fieldLink RX11 51 "StructureSearchModel" "large" "[I", Cond.methodLink RX11 163 yX11_place, Cond.static yX11_place, Cond.code yX11_place cX11_place 2 (some .int), Cond.methodLink RX11 167 yX11_work, Cond.instanceMethod yX11_work, Cond.selects RX11 yX11_work yX11_work, Cond.code yX11_work cX11_work 9 none, Cond.fieldLink RX11 7 "StructureSearchModel" "values" "[I", Cond.fieldLink RX11 179 "StructureSearchModel" "rows" "I", Cond.fieldLink RX11 13 "StructureSearchModel" "cells" "[I", Cond.fieldLink RX11 16 "StructureSearchModel" "strength" "I", Cond.methodLink RX11 182 yX11_agree, Cond.instanceMethod yX11_agree, Cond.selects RX11 yX11_agree yX11_agree, Cond.code yX11_agree cX11_agree 6 (some .boolean), Cond.methodLink RX11 186 yX11_grow, Cond.static yX11_grow, Cond.code yX11_grow cX11_grow 7 none, Cond.constantLong RX11 123 (4294967295), Cond.methodLink RX11 171 yX11_load, Cond.static yX11_load, Cond.code yX11_load cX11_load 4 none]
def wsX11_shareWord_r4 : List Cond := [Cond.methodLink RX11 154 yX11_common, Cond.instanceMethod yX11_common, Cond.selects RX11 yX11_common yX11_common, Cond.code yX11_common cX11_common 5 none, Cond.fieldLink RX11 23 "StructureSearchModel" "one" "[I", Cond.fieldLink RX11 26 "StructureSearchModel" "two" "[I", Cond.fieldLink RX11 29 "StructureSearchModel" "rest" "[I", Cond.methodLink RX11 129 yX11_copy, Cond.static yX11_copy, Cond.code yX11_copy cX11_copy 3 none, Cond.methodLink RX11 133 yX11_isEven, Cond.static yX11_isEven, Cond.code yX11_isEven cX11_isEven 1 (some .boolean), Cond.methodLink RX11 137 yX11_halve, Cond.static yX11_halve, Cond.code yX11_halve cX11_halve 2 none, Cond.methodLink RX11 125 yX11_trim, Cond.static yX11_trim, Cond.code yX11_trim cX11_trim 3 none, Cond.methodLink RX11 141 yX11_compareTo, Cond.static yX11_compareTo, Cond.code yX11_compareTo cX11_compareTo 6 (some .int), Cond.methodLink RX11 145 yX11_less, Cond.static yX11_less]
def wsX11_shareWord_r5 : List Cond := [Cond.code yX11_less cX11_less 7 none, Cond.methodLink RX11 148 yX11_twice, Cond.static yX11_twice, Cond.code yX11_twice cX11_twice 5 none, Cond.methodLink RX11 157 yX11_divide, Cond.instanceMethod yX11_divide, Cond.selects RX11 yX11_divide yX11_divide, Cond.code yX11_divide cX11_divide 7 none, Cond.methodLink RX11 175 yX11_store, Cond.static yX11_store, Cond.code yX11_store cX11_store 4 none, Cond.methodLink RX11 200 yX11_multiply, Cond.instanceMethod yX11_multiply, Cond.selects RX11 yX11_multiply yX11_multiply, Cond.code yX11_multiply cX11_multiply 4 none, Cond.fieldLink RX11 54 "StructureSearchModel" "factor" "[I", Cond.fieldLink RX11 57 "StructureSearchModel" "made" "[I", Cond.methodLink RX11 190 yX11_times, Cond.static yX11_times, Cond.code yX11_times cX11_times 10 none, Cond.methodLink RX11 151 yX11_put, Cond.static yX11_put, Cond.code yX11_put cX11_put 2 none, Cond.methodLink RX11 216 yX11_bits]
def wsX11_shareWord_r6 : List Cond := [Cond.static yX11_bits, Cond.code yX11_bits cX11_bits 3 (some .int), Cond.methodLink RX11 285 yX11_plus, Cond.static yX11_plus, Cond.code yX11_plus cX11_plus 6 none, Cond.methodLink RX11 239 yX11_least, Cond.instanceMethod yX11_least, Cond.selects RX11 yX11_least yX11_least, Cond.code yX11_least cX11_least 1 none, Cond.methodLink RX11 251 yX11_wordOf, Cond.instanceMethod yX11_wordOf, Cond.selects RX11 yX11_wordOf yX11_wordOf, Cond.code yX11_wordOf cX11_wordOf 4 (some .long), Cond.constantLong RX11 242 (-1)]
def wsX11_shareWord : List Cond := .code yX11_shareWord cX11_shareWord 6 (some .long) :: ((wsX11_shareWord_r1 ++ (wsX11_shareWord_r2 ++ (wsX11_shareWord_r3 ++ (wsX11_shareWord_r4 ++ (wsX11_shareWord_r5 ++ wsX11_shareWord_r6))))) ++ wsX110)
def wsX11_lesser : List Cond := .code yX11_lesser cX11_lesser 2 (some .int) :: ([])
def wsX11_choose : List Cond := .code yX11_choose cX11_choose 5 (some .long) :: ([])
def wsX11_ways : List Cond := .code yX11_ways cX11_ways 3 (some .long) :: ([.methodLink RX11 301 yX11_choose, .static yX11_choose, .initialized RX11, .code yX11_choose cX11_choose 5 (some .long)])
def wsX11_test_r1 : List Cond := [Cond.constantLong RX11 242 (-1), Cond.fieldLink RX11 7 "StructureSearchModel" "values" "[I", Cond.fieldLink RX11 114 "StructureSearchModel" "ofA" "[I", Cond.fieldLink RX11 117 "StructureSearchModel" "ofB" "[I", Cond.fieldLink RX11 120 "StructureSearchModel" "both" "[I", Cond.fieldLink RX11 179 "StructureSearchModel" "rows" "I", Cond.fieldLink RX11 13 "StructureSearchModel" "cells" "[I", Cond.methodLink RX11 233 yX11_isName, Cond.instanceMethod yX11_isName, Cond.selects RX11 yX11_isName yX11_isName, Cond.initialized RX11, Cond.code yX11_isName cX11_isName 2 (some .boolean), Cond.fieldLink RX11 160 "StructureSearchModel" "names" "I", Cond.methodLink RX11 244 yX11_isPart, Cond.static yX11_isPart, Cond.code yX11_isPart cX11_isPart 1 (some .boolean), Cond.methodLink RX11 304 yX11_ways, Cond.static yX11_ways, Cond.code yX11_ways cX11_ways 3 (some .long), Cond.methodLink RX11 301 yX11_choose, Cond.static yX11_choose, Cond.code yX11_choose cX11_choose 5 (some .long), Cond.methodLink RX11 308 yX11_lesser, Cond.static yX11_lesser]
def wsX11_test_r2 : List Cond := [Cond.code yX11_lesser cX11_lesser 2 (some .int)]
def wsX11_test : List Cond := .code yX11_test cX11_test 18 (some .long) :: ((wsX11_test_r1 ++ wsX11_test_r2) ++ wsX110)
def wsJ9_max_7cf53 : List Cond := .code yJ9_max_7cf53 cJ9_max_7cf53 2 (some .int) :: ([])
def wsJ9_max_f86c9 : List Cond := .code yJ9_max_f86c9 cJ9_max_f86c9 4 (some .long) :: ([])
def wsJ9_min_7cf53 : List Cond := .code yJ9_min_7cf53 cJ9_min_7cf53 2 (some .int) :: ([])
def wsJ9_min_f86c9 : List Cond := .code yJ9_min_f86c9 cJ9_min_f86c9 4 (some .long) :: ([])
def wsL_law_r1 : List Cond := [Cond.classLink RL 7 RX10, Cond.instantiable RX10 6, Cond.initialized RX10, Cond.classLink RL 10 RX11, Cond.instantiable RX11 39, Cond.initialized RX11, Cond.methodLink RL 9 yX10_init, Cond.instanceMethod yX10_init, Cond.code yX10_init cX10_init 1 none, Cond.methodLink RX10 3 objectInit, Cond.instanceMethod objectInit, Cond.code objectInit ⟨#[0xb1]⟩ 1 none, Cond.classLink RX10 9 RX8, Cond.instantiable RX8 6, Cond.initialized RX8, Cond.fieldLink RX10 12 "StructureSearch" "sheet" "LStructureSearch$Sheet;", Cond.classLink RX10 16 RX5, Cond.instantiable RX5 2, Cond.initialized RX5, Cond.fieldLink RX10 19 "StructureSearch" "powers" "LStructureSearch$Powers;", Cond.classLink RX10 23 RX2, Cond.instantiable RX2 8, Cond.initialized RX2, Cond.fieldLink RX10 28 "StructureSearch" "fits" "LStructureSearch$Fits;"]
def wsL_law_r2 : List Cond := [Cond.classLink RX10 32 RX6, Cond.instantiable RX6 3, Cond.initialized RX6, Cond.fieldLink RX10 37 "StructureSearch" "search" "LStructureSearch$Search;", Cond.classLink RX10 41 RX9, Cond.instantiable RX9 4, Cond.initialized RX9, Cond.fieldLink RX10 46 "StructureSearch" "tables" "LStructureSearch$Tables;", Cond.fieldLink RX10 50 "StructureSearch" "shares" "LStructureSearch$Shares;", Cond.methodLink RX10 11 yX8_init, Cond.instanceMethod yX8_init, Cond.code yX8_init cX8_init 1 none, Cond.methodLink RX8 3 objectInit, Cond.arrayClass .int, Cond.fieldLink RX8 9 "StructureSearch$Sheet" "values" "[I", Cond.fieldLink RX8 15 "StructureSearch$Sheet" "codes" "[I", Cond.methodLink RX8 18 yX8_startAnew, Cond.instanceMethod yX8_startAnew, Cond.selects RX8 yX8_startAnew yX8_startAnew, Cond.code yX8_startAnew cX8_startAnew 1 none, Cond.fieldLink RX8 21 "StructureSearch$Sheet" "names" "I", Cond.fieldLink RX8 25 "StructureSearch$Sheet" "rows" "I", Cond.fieldLink RX8 28 "StructureSearch$Sheet" "strength" "I", Cond.fieldLink RX8 31 "StructureSearch$Sheet" "most" "I"]
def wsL_law_r3 : List Cond := [Cond.methodLink RX10 18 yX5_init, Cond.instanceMethod yX5_init, Cond.code yX5_init cX5_init 1 none, Cond.methodLink RX5 3 objectInit, Cond.fieldLink RX5 11 "StructureSearch$Powers" "power" "[I", Cond.fieldLink RX5 15 "StructureSearch$Powers" "largest" "I", Cond.methodLink RX10 25 yX2_init, Cond.instanceMethod yX2_init, Cond.code yX2_init cX2_init 3 none, Cond.methodLink RX2 5 objectInit, Cond.fieldLink RX2 11 "StructureSearch$Fits" "sheet" "LStructureSearch$Sheet;", Cond.fieldLink RX2 15 "StructureSearch$Fits" "powers" "LStructureSearch$Powers;", Cond.classLink RX2 19 RX3, Cond.fieldLink RX2 21 "StructureSearch$Fits" "ofNames" "[LStructureSearch$Fraction;", Cond.instantiable RX3 3, Cond.initialized RX3, Cond.fieldLink RX2 28 "StructureSearch$Fits" "ofNothing" "LStructureSearch$Fraction;", Cond.fieldLink RX2 32 "StructureSearch$Fits" "whole" "LStructureSearch$Fraction;", Cond.fieldLink RX2 35 "StructureSearch$Fits" "wholeGraph" "I", Cond.classLink RX2 39 RX1, Cond.instantiable RX1 2, Cond.initialized RX1, Cond.fieldLink RX2 42 "StructureSearch$Fits" "left" "LStructureSearch$Big;", Cond.fieldLink RX2 46 "StructureSearch$Fits" "right" "LStructureSearch$Big;"]
def wsL_law_r4 : List Cond := [Cond.methodLink RX2 25 yX3_init, Cond.instanceMethod yX3_init, Cond.code yX3_init cX3_init 2 none, Cond.methodLink RX3 1 objectInit, Cond.classLink RX3 7 RX1, Cond.fieldLink RX3 12 "StructureSearch$Fraction" "above" "LStructureSearch$Big;", Cond.fieldLink RX3 18 "StructureSearch$Fraction" "below" "LStructureSearch$Big;", Cond.fieldLink RX3 21 "StructureSearch$Fraction" "ready" "Z", Cond.methodLink RX3 9 yX1_init, Cond.instanceMethod yX1_init, Cond.code yX1_init cX1_init 2 none, Cond.methodLink RX1 3 objectInit, Cond.methodLink RX1 9 Lib.Math.max.name, Cond.static Lib.Math.max.name, Cond.initialized "java/lang/Math", Cond.code Lib.Math.max.name Lib.Math.max.code 2 (some .int), Cond.arrayClass .long, Cond.fieldLink RX1 15 "StructureSearch$Big" "words" "[J", Cond.fieldLink RX1 21 "StructureSearch$Big" "used" "I", Cond.methodLink RX2 41 yX1_init, Cond.methodLink RX10 34 yX6_init, Cond.instanceMethod yX6_init, Cond.code yX6_init cX6_init 3 none, Cond.methodLink RX6 3 objectInit]
def wsL_law_r5 : List Cond := [Cond.fieldLink RX6 9 "StructureSearch$Search" "sheet" "LStructureSearch$Sheet;", Cond.fieldLink RX6 15 "StructureSearch$Search" "fits" "LStructureSearch$Fits;", Cond.fieldLink RX6 19 "StructureSearch$Search" "bestOf" "[I", Cond.methodLink RX10 43 yX9_init, Cond.instanceMethod yX9_init, Cond.code yX9_init cX9_init 2 none, Cond.methodLink RX9 1 objectInit, Cond.fieldLink RX9 7 "StructureSearch$Tables" "sheet" "LStructureSearch$Sheet;", Cond.fieldLink RX9 13 "StructureSearch$Tables" "cells" "[I", Cond.fieldLink RX9 17 "StructureSearch$Tables" "ofFirst" "[I", Cond.fieldLink RX9 20 "StructureSearch$Tables" "ofSecond" "[I", Cond.methodLink RL 12 yX11_init, Cond.instanceMethod yX11_init, Cond.code yX11_init cX11_init 1 none, Cond.methodLink RX11 1 objectInit, Cond.fieldLink RX11 7 "StructureSearchModel" "values" "[I", Cond.fieldLink RX11 13 "StructureSearchModel" "cells" "[I", Cond.fieldLink RX11 16 "StructureSearchModel" "strength" "I", Cond.fieldLink RX11 20 "StructureSearchModel" "most" "I", Cond.fieldLink RX11 23 "StructureSearchModel" "one" "[I", Cond.fieldLink RX11 26 "StructureSearchModel" "two" "[I", Cond.fieldLink RX11 29 "StructureSearchModel" "rest" "[I", Cond.fieldLink RX11 32 "StructureSearchModel" "above" "[I", Cond.fieldLink RX11 35 "StructureSearchModel" "below" "[I"]
def wsL_law_r6 : List Cond := [Cond.arrayClass .boolean, Cond.fieldLink RX11 38 "StructureSearchModel" "isKnown" "[Z", Cond.fieldLink RX11 42 "StructureSearchModel" "tops" "[I", Cond.fieldLink RX11 45 "StructureSearchModel" "lows" "[I", Cond.fieldLink RX11 48 "StructureSearchModel" "small" "[I", Cond.fieldLink RX11 51 "StructureSearchModel" "large" "[I", Cond.fieldLink RX11 54 "StructureSearchModel" "factor" "[I", Cond.fieldLink RX11 57 "StructureSearchModel" "made" "[I", Cond.fieldLink RX11 60 "StructureSearchModel" "topA" "[I", Cond.fieldLink RX11 63 "StructureSearchModel" "lowA" "[I", Cond.fieldLink RX11 66 "StructureSearchModel" "topB" "[I", Cond.fieldLink RX11 69 "StructureSearchModel" "lowB" "[I", Cond.fieldLink RX11 72 "StructureSearchModel" "left" "[I", Cond.fieldLink RX11 75 "StructureSearchModel" "right" "[I", Cond.fieldLink RX11 78 "StructureSearchModel" "toldGraph" "I", Cond.fieldLink RX11 81 "StructureSearchModel" "toldArc" "I", Cond.fieldLink RX11 84 "StructureSearchModel" "bests" "[I", Cond.fieldLink RX11 87 "StructureSearchModel" "first" "[I", Cond.fieldLink RX11 90 "StructureSearchModel" "second" "[I", Cond.fieldLink RX11 93 "StructureSearchModel" "sums" "[I", Cond.fieldLink RX11 96 "StructureSearchModel" "terms" "[I", Cond.fieldLink RX11 99 "StructureSearchModel" "wholes" "[I", Cond.fieldLink RX11 102 "StructureSearchModel" "term" "[I", Cond.fieldLink RX11 105 "StructureSearchModel" "more" "[I"]
def wsL_law_r7 : List Cond := [Cond.fieldLink RX11 108 "StructureSearchModel" "fewer" "[I", Cond.fieldLink RX11 111 "StructureSearchModel" "sum" "[I", Cond.fieldLink RX11 114 "StructureSearchModel" "ofA" "[I", Cond.fieldLink RX11 117 "StructureSearchModel" "ofB" "[I", Cond.fieldLink RX11 120 "StructureSearchModel" "both" "[I", Cond.methodLink RL 13 yX10_clear, Cond.instanceMethod yX10_clear, Cond.selects RX10 yX10_clear yX10_clear, Cond.code yX10_clear cX10_clear 2 (some .int), Cond.fieldLink RX10 54 "StructureSearch$Sheet" "rows" "I", Cond.methodLink RX10 58 yX8_startAnew, Cond.methodLink RX10 61 yX10_forgetFits, Cond.instanceMethod yX10_forgetFits, Cond.selects RX10 yX10_forgetFits yX10_forgetFits, Cond.code yX10_forgetFits cX10_forgetFits 1 none, Cond.methodLink RX10 219 yX2_forget, Cond.instanceMethod yX2_forget, Cond.selects RX2 yX2_forget yX2_forget, Cond.code yX2_forget cX2_forget 2 none, Cond.fieldLink RX2 49 "StructureSearch$Fraction" "ready" "Z", Cond.methodLink RX10 101 yX10_forgetShares, Cond.instanceMethod yX10_forgetShares, Cond.selects RX10 yX10_forgetShares yX10_forgetShares, Cond.code yX10_forgetShares cX10_forgetShares 1 none]
def wsL_law_r8 : List Cond := [Cond.methodLink RX10 222 yX7_forget, Cond.instanceMethod yX7_forget, Cond.selects RX7 yX7_forget yX7_forget, Cond.initialized RX7, Cond.code yX7_forget cX7_forget 1 none, Cond.fieldLink RX7 59 "StructureSearch$Shares" "share" "LStructureSearch$Fraction;", Cond.fieldLink RX7 70 "StructureSearch$Fraction" "ready" "Z", Cond.methodLink RL 17 yX11_clear, Cond.instanceMethod yX11_clear, Cond.selects RX11 yX11_clear yX11_clear, Cond.code yX11_clear cX11_clear 2 (some .int), Cond.fieldLink RX11 179 "StructureSearchModel" "rows" "I", Cond.fieldLink RX11 160 "StructureSearchModel" "names" "I", Cond.methodLink RX11 226 yX11_change, Cond.instanceMethod yX11_change, Cond.selects RX11 yX11_change yX11_change, Cond.code yX11_change cX11_change 2 none, Cond.methodLink RL 18 yX10_name, Cond.instanceMethod yX10_name, Cond.selects RX10 yX10_name yX10_name, Cond.code yX10_name cX10_name 2 (some .int), Cond.fieldLink RX10 64 "StructureSearch$Sheet" "names" "I", Cond.methodLink RX10 67 yX8_addName, Cond.instanceMethod yX8_addName]
def wsL_law_r9 : List Cond := [Cond.selects RX8 yX8_addName yX8_addName, Cond.code yX8_addName cX8_addName 2 (some .int), Cond.methodLink RL 22 yX11_name, Cond.instanceMethod yX11_name, Cond.selects RX11 yX11_name yX11_name, Cond.code yX11_name cX11_name 2 (some .int), Cond.methodLink RL 23 yX10_row, Cond.instanceMethod yX10_row, Cond.selects RX10 yX10_row yX10_row, Cond.code yX10_row cX10_row 7 (some .int), Cond.methodLink RX10 71 yX10_fitsName, Cond.instanceMethod yX10_fitsName, Cond.selects RX10 yX10_fitsName yX10_fitsName, Cond.code yX10_fitsName cX10_fitsName 3 (some .boolean), Cond.methodLink RX10 89 yX10_isName, Cond.instanceMethod yX10_isName, Cond.selects RX10 yX10_isName yX10_isName, Cond.code yX10_isName cX10_isName 2 (some .boolean), Cond.methodLink RX10 197 yX10_isValue, Cond.instanceMethod yX10_isValue, Cond.selects RX10 yX10_isValue yX10_isValue, Cond.code yX10_isValue cX10_isValue 3 (some .boolean), Cond.methodLink RX10 104 yX8_valuesOf, Cond.instanceMethod yX8_valuesOf]
def wsL_law_r10 : List Cond := [Cond.selects RX8 yX8_valuesOf yX8_valuesOf, Cond.code yX8_valuesOf cX8_valuesOf 2 (some .int), Cond.methodLink RX10 75 yX10_coded, Cond.instanceMethod yX10_coded, Cond.selects RX10 yX10_coded yX10_coded, Cond.code yX10_coded cX10_coded 3 (some .int), Cond.methodLink RX10 79 yX8_addRow, Cond.instanceMethod yX8_addRow, Cond.selects RX8 yX8_addRow yX8_addRow, Cond.code yX8_addRow cX8_addRow 2 (some .int), Cond.methodLink RL 27 yX11_row, Cond.instanceMethod yX11_row, Cond.selects RX11 yX11_row yX11_row, Cond.code yX11_row cX11_row 7 (some .int), Cond.methodLink RX11 229 yX11_isValue, Cond.instanceMethod yX11_isValue, Cond.selects RX11 yX11_isValue yX11_isValue, Cond.code yX11_isValue cX11_isValue 3 (some .boolean), Cond.methodLink RL 28 yX10_drop, Cond.instanceMethod yX10_drop, Cond.selects RX10 yX10_drop yX10_drop, Cond.code yX10_drop cX10_drop 2 (some .int), Cond.methodLink RX10 82 yX10_isRow, Cond.instanceMethod yX10_isRow]
def wsL_law_r11 : List Cond := [Cond.selects RX10 yX10_isRow yX10_isRow, Cond.code yX10_isRow cX10_isRow 2 (some .boolean), Cond.methodLink RX10 86 yX8_removeRow, Cond.instanceMethod yX8_removeRow, Cond.selects RX8 yX8_removeRow yX8_removeRow, Cond.code yX8_removeRow cX8_removeRow 3 (some .int), Cond.methodLink RL 31 yX11_drop, Cond.instanceMethod yX11_drop, Cond.selects RX11 yX11_drop yX11_drop, Cond.code yX11_drop cX11_drop 3 (some .int), Cond.methodLink RL 32 yX10_value, Cond.instanceMethod yX10_value, Cond.selects RX10 yX10_value yX10_value, Cond.code yX10_value cX10_value 3 (some .int), Cond.methodLink RX10 92 yX8_valueIn, Cond.instanceMethod yX8_valueIn, Cond.selects RX8 yX8_valueIn yX8_valueIn, Cond.code yX8_valueIn cX8_valueIn 3 (some .int), Cond.methodLink RX8 34 yX8_codeOf, Cond.instanceMethod yX8_codeOf, Cond.selects RX8 yX8_codeOf yX8_codeOf, Cond.code yX8_codeOf cX8_codeOf 2 (some .int), Cond.methodLink RL 36 yX11_value, Cond.instanceMethod yX11_value]
def wsL_law_r12 : List Cond := [Cond.selects RX11 yX11_value yX11_value, Cond.code yX11_value cX11_value 3 (some .int), Cond.methodLink RX11 233 yX11_isName, Cond.instanceMethod yX11_isName, Cond.selects RX11 yX11_isName yX11_isName, Cond.code yX11_isName cX11_isName 2 (some .boolean), Cond.methodLink RL 37 yX10_set, Cond.instanceMethod yX10_set, Cond.selects RX10 yX10_set yX10_set, Cond.code yX10_set cX10_set 4 (some .int), Cond.fieldLink RX10 95 "StructureSearch$Sheet" "strength" "I", Cond.fieldLink RX10 98 "StructureSearch$Sheet" "most" "I", Cond.methodLink RL 40 yX11_set, Cond.instanceMethod yX11_set, Cond.selects RX11 yX11_set yX11_set, Cond.code yX11_set cX11_set 4 (some .int), Cond.methodLink RL 41 yX10_about, Cond.instanceMethod yX10_about, Cond.selects RX10 yX10_about yX10_about, Cond.code yX10_about cX10_about 2 (some .int), Cond.methodLink RL 44 yX11_about, Cond.instanceMethod yX11_about, Cond.selects RX11 yX11_about yX11_about, Cond.code yX11_about cX11_about 2 (some .int)]
def wsL_law_r13 : List Cond := [Cond.methodLink RL 45 yX10_isGraph, Cond.instanceMethod yX10_isGraph, Cond.selects RX10 yX10_isGraph yX10_isGraph, Cond.code yX10_isGraph cX10_isGraph 2 (some .boolean), Cond.methodLink RX10 107 yX0_areGraph, Cond.static yX0_areGraph, Cond.initialized RX0, Cond.code yX0_areGraph cX0_areGraph 5 (some .boolean), Cond.methodLink RX0 19 yX0_fromAll, Cond.static yX0_fromAll, Cond.code yX0_fromAll cX0_fromAll 4 (some .int), Cond.methodLink RX0 15 yX0_isIn, Cond.static yX0_isIn, Cond.code yX0_isIn cX0_isIn 2 (some .boolean), Cond.methodLink RX0 9 yX0_arc, Cond.static yX0_arc, Cond.code yX0_arc cX0_arc 2 (some .int), Cond.methodLink RX0 22 yX0_haveNoRound, Cond.static yX0_haveNoRound, Cond.code yX0_haveNoRound cX0_haveNoRound 5 (some .boolean), Cond.methodLink RX0 25 yX0_nextAfter, Cond.static yX0_nextAfter, Cond.code yX0_nextAfter cX0_nextAfter 4 (some .int), Cond.methodLink RX0 29 yX0_parentsIn]
def wsL_law_r14 : List Cond := [Cond.static yX0_parentsIn, Cond.code yX0_parentsIn cX0_parentsIn 4 (some .int), Cond.methodLink RL 49 yX11_isGraph, Cond.instanceMethod yX11_isGraph, Cond.selects RX11 yX11_isGraph yX11_isGraph, Cond.code yX11_isGraph cX11_isGraph 5 (some .boolean), Cond.constant RX11 211 (33554432), Cond.methodLink RX11 212 yX11_isSet, Cond.instanceMethod yX11_isSet, Cond.selects RX11 yX11_isSet yX11_isSet, Cond.code yX11_isSet cX11_isSet 2 (some .boolean), Cond.methodLink RX11 194 yX11_parentsOf, Cond.static yX11_parentsOf, Cond.code yX11_parentsOf cX11_parentsOf 4 (some .int), Cond.methodLink RL 50 yX10_order, Cond.instanceMethod yX10_order, Cond.selects RX10 yX10_order yX10_order, Cond.code yX10_order cX10_order 6 (some .int), Cond.methodLink RX10 112 yX10_isGraph, Cond.methodLink RX10 115 yX0_nextAfter, Cond.methodLink RL 53 yX11_order, Cond.instanceMethod yX11_order, Cond.selects RX11 yX11_order yX11_order, Cond.code yX11_order cX11_order 6 (some .int)]
def wsL_law_r15 : List Cond := [Cond.methodLink RX11 236 yX11_isGraph, Cond.methodLink RL 54 yX10_size, Cond.instanceMethod yX10_size, Cond.selects RX10 yX10_size yX10_size, Cond.code yX10_size cX10_size 3 (some .int), Cond.methodLink RX10 119 yX10_isPart, Cond.static yX10_isPart, Cond.code yX10_isPart cX10_isPart 1 (some .boolean), Cond.methodLink RX10 122 yX2_ofGraph, Cond.instanceMethod yX2_ofGraph, Cond.selects RX2 yX2_ofGraph yX2_ofGraph, Cond.code yX2_ofGraph cX2_ofGraph 3 (some (.object "StructureSearch$Fraction")), Cond.fieldLink RX2 58 "StructureSearch$Sheet" "names" "I", Cond.fieldLink RX2 73 "StructureSearch$Fraction" "above" "LStructureSearch$Big;", Cond.fieldLink RX2 80 "StructureSearch$Fraction" "below" "LStructureSearch$Big;", Cond.methodLink RX2 53 yX5_forget, Cond.instanceMethod yX5_forget, Cond.selects RX5 yX5_forget yX5_forget, Cond.code yX5_forget cX5_forget 2 none, Cond.methodLink RX2 63 yX0_parentsIn, Cond.methodLink RX2 69 yX8_pourFit, Cond.instanceMethod yX8_pourFit, Cond.selects RX8 yX8_pourFit yX8_pourFit, Cond.code yX8_pourFit cX8_pourFit 13 none]
def wsL_law_r16 : List Cond := [Cond.methodLink RX8 38 yX8_valuesOf, Cond.methodLink RX8 41 yX0_isIn, Cond.methodLink RX8 47 yX5_multiply, Cond.instanceMethod yX5_multiply, Cond.selects RX5 yX5_multiply yX5_multiply, Cond.code yX5_multiply cX5_multiply 7 none, Cond.fieldLink RX5 19 "StructureSearch$Powers" "SMALL_PRIMES" "[I", Cond.methodLink RX5 22 Lib.Math.max.name, Cond.methodLink RX2 76 yX5_write, Cond.instanceMethod yX5_write, Cond.selects RX5 yX5_write yX5_write, Cond.code yX5_write cX5_write 8 none, Cond.constantLong RX5 34 (4294967295), Cond.methodLink RX5 28 yX1_become, Cond.instanceMethod yX1_become, Cond.selects RX1 yX1_become yX1_become, Cond.code yX1_become cX1_become 2 none, Cond.methodLink RX5 36 yX1_timesSmall, Cond.instanceMethod yX1_timesSmall, Cond.selects RX1 yX1_timesSmall yX1_timesSmall, Cond.code yX1_timesSmall cX1_timesSmall 9 none, Cond.methodLink RX1 25 Lib.Math.min.name, Cond.static Lib.Math.min.name, Cond.code Lib.Math.min.name Lib.Math.min.code 2 (some .int)]
def wsL_law_r17 : List Cond := [Cond.constantLong RX1 38 (4294967295), Cond.methodLink RX10 126 yX3_side, Cond.instanceMethod yX3_side, Cond.selects RX3 yX3_side yX3_side, Cond.code yX3_side cX3_side 2 (some (.object "StructureSearch$Big")), Cond.methodLink RX10 132 yX1_length, Cond.instanceMethod yX1_length, Cond.selects RX1 yX1_length yX1_length, Cond.code yX1_length cX1_length 1 (some .int), Cond.methodLink RL 57 yX11_size, Cond.instanceMethod yX11_size, Cond.selects RX11 yX11_size yX11_size, Cond.code yX11_size cX11_size 3 (some .int), Cond.methodLink RX11 244 yX11_isPart, Cond.static yX11_isPart, Cond.code yX11_isPart cX11_isPart 1 (some .boolean), Cond.methodLink RX11 247 yX11_tell, Cond.instanceMethod yX11_tell, Cond.selects RX11 yX11_tell yX11_tell, Cond.code yX11_tell cX11_tell 2 none, Cond.methodLink RX11 203 yX11_fit, Cond.instanceMethod yX11_fit, Cond.selects RX11 yX11_fit yX11_fit, Cond.code yX11_fit cX11_fit 6 none]
def wsL_law_r18 : List Cond := [Cond.methodLink RX11 151 yX11_put, Cond.static yX11_put, Cond.code yX11_put cX11_put 2 none, Cond.methodLink RX11 197 yX11_family, Cond.instanceMethod yX11_family, Cond.selects RX11 yX11_family yX11_family, Cond.code yX11_family cX11_family 4 (some .int), Cond.methodLink RX11 163 yX11_place, Cond.static yX11_place, Cond.code yX11_place cX11_place 2 (some .int), Cond.methodLink RX11 167 yX11_work, Cond.instanceMethod yX11_work, Cond.selects RX11 yX11_work yX11_work, Cond.code yX11_work cX11_work 9 none, Cond.methodLink RX11 182 yX11_agree, Cond.instanceMethod yX11_agree, Cond.selects RX11 yX11_agree yX11_agree, Cond.code yX11_agree cX11_agree 6 (some .boolean), Cond.methodLink RX11 186 yX11_grow, Cond.static yX11_grow, Cond.code yX11_grow cX11_grow 7 none, Cond.constantLong RX11 123 (4294967295), Cond.methodLink RX11 171 yX11_load, Cond.static yX11_load]
def wsL_law_r19 : List Cond := [Cond.code yX11_load cX11_load 4 none, Cond.methodLink RX11 154 yX11_common, Cond.instanceMethod yX11_common, Cond.selects RX11 yX11_common yX11_common, Cond.code yX11_common cX11_common 5 none, Cond.methodLink RX11 129 yX11_copy, Cond.static yX11_copy, Cond.code yX11_copy cX11_copy 3 none, Cond.methodLink RX11 133 yX11_isEven, Cond.static yX11_isEven, Cond.code yX11_isEven cX11_isEven 1 (some .boolean), Cond.methodLink RX11 137 yX11_halve, Cond.static yX11_halve, Cond.code yX11_halve cX11_halve 2 none, Cond.methodLink RX11 125 yX11_trim, Cond.static yX11_trim, Cond.code yX11_trim cX11_trim 3 none, Cond.methodLink RX11 141 yX11_compareTo, Cond.static yX11_compareTo, Cond.code yX11_compareTo cX11_compareTo 6 (some .int), Cond.methodLink RX11 145 yX11_less, Cond.static yX11_less, Cond.code yX11_less cX11_less 7 none, Cond.methodLink RX11 148 yX11_twice]
def wsL_law_r20 : List Cond := [Cond.static yX11_twice, Cond.code yX11_twice cX11_twice 5 none, Cond.methodLink RX11 157 yX11_divide, Cond.instanceMethod yX11_divide, Cond.selects RX11 yX11_divide yX11_divide, Cond.code yX11_divide cX11_divide 7 none, Cond.methodLink RX11 175 yX11_store, Cond.static yX11_store, Cond.code yX11_store cX11_store 4 none, Cond.methodLink RX11 200 yX11_multiply, Cond.instanceMethod yX11_multiply, Cond.selects RX11 yX11_multiply yX11_multiply, Cond.code yX11_multiply cX11_multiply 4 none, Cond.methodLink RX11 190 yX11_times, Cond.static yX11_times, Cond.code yX11_times cX11_times 10 none, Cond.methodLink RX11 239 yX11_least, Cond.instanceMethod yX11_least, Cond.selects RX11 yX11_least yX11_least, Cond.code yX11_least cX11_least 1 none, Cond.methodLink RL 58 yX10_word, Cond.instanceMethod yX10_word, Cond.selects RX10 yX10_word yX10_word, Cond.code yX10_word cX10_word 4 (some .long)]
def wsL_law_r21 : List Cond := [Cond.constantLong RX10 138 (-1), Cond.methodLink RX10 140 yX10_wordOf, Cond.static yX10_wordOf, Cond.code yX10_wordOf cX10_wordOf 2 (some .long), Cond.methodLink RX10 210 yX1_at, Cond.instanceMethod yX1_at, Cond.selects RX1 yX1_at yX1_at, Cond.code yX1_at cX1_at 2 (some .long), Cond.methodLink RL 62 yX11_word, Cond.instanceMethod yX11_word, Cond.selects RX11 yX11_word yX11_word, Cond.code yX11_word cX11_word 4 (some .long), Cond.constantLong RX11 242 (-1), Cond.methodLink RX11 251 yX11_wordOf, Cond.instanceMethod yX11_wordOf, Cond.selects RX11 yX11_wordOf yX11_wordOf, Cond.code yX11_wordOf cX11_wordOf 4 (some .long), Cond.methodLink RL 63 yX10_compare, Cond.instanceMethod yX10_compare, Cond.selects RX10 yX10_compare yX10_compare, Cond.code yX10_compare cX10_compare 3 (some .int), Cond.methodLink RX10 144 yX2_weigh, Cond.instanceMethod yX2_weigh, Cond.selects RX2 yX2_weigh yX2_weigh]
def wsL_law_r22 : List Cond := [Cond.code yX2_weigh cX2_weigh 8 (some .int), Cond.methodLink RX2 83 yX1_become, Cond.methodLink RX2 86 yX2_ofName, Cond.instanceMethod yX2_ofName, Cond.selects RX2 yX2_ofName yX2_ofName, Cond.code yX2_ofName cX2_ofName 5 (some (.object "StructureSearch$Fraction")), Cond.methodLink RX2 90 yX1_times, Cond.instanceMethod yX1_times, Cond.selects RX1 yX1_times yX1_times, Cond.code yX1_times cX1_times 6 none, Cond.methodLink RX1 40 yX1_widen, Cond.instanceMethod yX1_widen, Cond.selects RX1 yX1_widen yX1_widen, Cond.code yX1_widen cX1_widen 4 none, Cond.methodLink RX1 44 yX1_addMultiple, Cond.instanceMethod yX1_addMultiple, Cond.selects RX1 yX1_addMultiple yX1_addMultiple, Cond.code yX1_addMultiple cX1_addMultiple 12 none, Cond.methodLink RX1 48 yX1_trim, Cond.instanceMethod yX1_trim, Cond.selects RX1 yX1_trim yX1_trim, Cond.code yX1_trim cX1_trim 2 none, Cond.methodLink RX2 94 yX1_against, Cond.instanceMethod yX1_against]
def wsL_law_r23 : List Cond := [Cond.selects RX1 yX1_against yX1_against, Cond.code yX1_against cX1_against 3 (some .int), Cond.methodLink RX1 34 yX1_at, Cond.methodLink RL 66 yX11_compare, Cond.instanceMethod yX11_compare, Cond.selects RX11 yX11_compare yX11_compare, Cond.code yX11_compare cX11_compare 4 (some .int), Cond.methodLink RX11 255 yX11_signOf, Cond.instanceMethod yX11_signOf, Cond.selects RX11 yX11_signOf yX11_signOf, Cond.code yX11_signOf cX11_signOf 3 (some .int), Cond.methodLink RX11 207 yX11_sign, Cond.instanceMethod yX11_sign, Cond.selects RX11 yX11_sign yX11_sign, Cond.code yX11_sign cX11_sign 1 (some .int), Cond.methodLink RL 67 yX10_parents, Cond.instanceMethod yX10_parents, Cond.selects RX10 yX10_parents yX10_parents, Cond.code yX10_parents cX10_parents 3 (some .int), Cond.methodLink RX10 147 yX0_isIn, Cond.methodLink RX10 150 yX6_bestParents, Cond.instanceMethod yX6_bestParents, Cond.selects RX6 yX6_bestParents yX6_bestParents, Cond.code yX6_bestParents cX6_bestParents 5 (some .int)]
def wsL_law_r24 : List Cond := [Cond.fieldLink RX6 29 "StructureSearch$Sheet" "most" "I", Cond.methodLink RX6 23 yJ6_bitCount_0f7a4, Cond.static yJ6_bitCount_0f7a4, Cond.initialized RJ6, Cond.code yJ6_bitCount_0f7a4 cJ6_bitCount_0f7a4 1 (some .int), Cond.constant RJ6 265 (1431655765), Cond.constant RJ6 266 (858993459), Cond.constant RJ6 267 (252645135), Cond.methodLink RX6 35 yX0_fromAll, Cond.methodLink RX6 41 yX2_weigh, Cond.methodLink RL 70 yX11_parents, Cond.instanceMethod yX11_parents, Cond.selects RX11 yX11_parents yX11_parents, Cond.code yX11_parents cX11_parents 3 (some .int), Cond.methodLink RX11 258 yX11_bestParents, Cond.instanceMethod yX11_bestParents, Cond.selects RX11 yX11_bestParents yX11_bestParents, Cond.code yX11_bestParents cX11_bestParents 5 (some .int), Cond.methodLink RX11 216 yX11_bits, Cond.static yX11_bits, Cond.code yX11_bits cX11_bits 3 (some .int), Cond.methodLink RL 71 yX10_best, Cond.instanceMethod yX10_best, Cond.selects RX10 yX10_best yX10_best]
def wsL_law_r25 : List Cond := [Cond.code yX10_best cX10_best 1 (some .int), Cond.methodLink RX10 153 yX6_bestGraph, Cond.instanceMethod yX6_bestGraph, Cond.selects RX6 yX6_bestGraph yX6_bestGraph, Cond.code yX6_bestGraph cX6_bestGraph 5 (some .int), Cond.fieldLink RX6 46 "StructureSearch$Sheet" "names" "I", Cond.methodLink RX6 49 yX0_isIn, Cond.methodLink RX6 53 yX6_kept, Cond.instanceMethod yX6_kept, Cond.selects RX6 yX6_kept yX6_kept, Cond.code yX6_kept cX6_kept 2 (some .int), Cond.methodLink RX6 56 yX6_bestParents, Cond.methodLink RX6 59 yX6_better, Cond.instanceMethod yX6_better, Cond.selects RX6 yX6_better yX6_better, Cond.code yX6_better cX6_better 4 (some .int), Cond.methodLink RX6 62 yX6_keep, Cond.instanceMethod yX6_keep, Cond.selects RX6 yX6_keep yX6_keep, Cond.code yX6_keep cX6_keep 3 none, Cond.methodLink RL 74 yX11_best, Cond.instanceMethod yX11_best, Cond.selects RX11 yX11_best yX11_best, Cond.code yX11_best cX11_best 7 (some .int)]
def wsL_law_r26 : List Cond := [Cond.methodLink RX11 261 yX11_arcs, Cond.static yX11_arcs, Cond.code yX11_arcs cX11_arcs 4 (some .int), Cond.methodLink RX11 264 yX11_signIn, Cond.instanceMethod yX11_signIn, Cond.selects RX11 yX11_signIn yX11_signIn, Cond.code yX11_signIn cX11_signIn 4 (some .int), Cond.methodLink RX11 268 yX11_fitIn, Cond.instanceMethod yX11_fitIn, Cond.selects RX11 yX11_fitIn yX11_fitIn, Cond.code yX11_fitIn cX11_fitIn 7 none, Cond.methodLink RL 75 yX10_climb, Cond.instanceMethod yX10_climb, Cond.selects RX10 yX10_climb yX10_climb, Cond.code yX10_climb cX10_climb 3 (some .int), Cond.methodLink RX10 156 yX0_areBounded, Cond.static yX0_areBounded, Cond.code yX0_areBounded cX0_areBounded 3 (some .boolean), Cond.methodLink RX0 32 yJ6_bitCount_0f7a4, Cond.methodLink RX10 159 yX6_climbFrom, Cond.instanceMethod yX6_climbFrom, Cond.selects RX6 yX6_climbFrom yX6_climbFrom, Cond.code yX6_climbFrom cX6_climbFrom 6 (some .int), Cond.methodLink RX6 66 yX6_bestNear]
def wsL_law_r27 : List Cond := [Cond.instanceMethod yX6_bestNear, Cond.selects RX6 yX6_bestNear yX6_bestNear, Cond.code yX6_bestNear cX6_bestNear 6 (some .int), Cond.methodLink RX6 69 yX0_arc, Cond.methodLink RX6 72 yX0_has, Cond.static yX0_has, Cond.code yX0_has cX0_has 3 (some .boolean), Cond.methodLink RX6 76 yX6_isOpen, Cond.instanceMethod yX6_isOpen, Cond.selects RX6 yX6_isOpen yX6_isOpen, Cond.code yX6_isOpen cX6_isOpen 2 (some .boolean), Cond.methodLink RX6 80 yX0_areBounded, Cond.methodLink RX6 83 yX0_haveNoRound, Cond.methodLink RL 78 yX11_climb, Cond.instanceMethod yX11_climb, Cond.selects RX11 yX11_climb yX11_climb, Cond.code yX11_climb cX11_climb 11 (some .int), Cond.methodLink RX11 272 yX11_isBounded, Cond.instanceMethod yX11_isBounded, Cond.selects RX11 yX11_isBounded yX11_isBounded, Cond.code yX11_isBounded cX11_isBounded 4 (some .boolean), Cond.methodLink RX11 275 yX11_better, Cond.instanceMethod yX11_better, Cond.selects RX11 yX11_better yX11_better]
def wsL_law_r28 : List Cond := [Cond.code yX11_better cX11_better 4 (some .int), Cond.methodLink RL 79 yX10_alike, Cond.instanceMethod yX10_alike, Cond.selects RX10 yX10_alike yX10_alike, Cond.code yX10_alike cX10_alike 4 (some .int), Cond.methodLink RX10 162 yX4_ties, Cond.static yX4_ties, Cond.initialized RX4, Cond.code yX4_ties cX4_ties 4 (some .int), Cond.methodLink RX4 24 yX0_has, Cond.methodLink RX4 30 yX0_arc, Cond.methodLink RX10 167 yX4_meetings, Cond.static yX4_meetings, Cond.code yX4_meetings cX4_meetings 10 (some .long), Cond.methodLink RX4 34 yX4_ties, Cond.methodLink RX4 38 yX0_parentsIn, Cond.methodLink RX4 41 yX0_isIn, Cond.methodLink RL 82 yX11_alike, Cond.instanceMethod yX11_alike, Cond.selects RX11 yX11_alike yX11_alike, Cond.code yX11_alike cX11_alike 3 (some .int), Cond.methodLink RX11 278 yX11_isAlike, Cond.static yX11_isAlike, Cond.code yX11_isAlike cX11_isAlike 6 (some .boolean)]
def wsL_law_r29 : List Cond := [Cond.methodLink RX11 223 yX11_touch, Cond.static yX11_touch, Cond.code yX11_touch cX11_touch 3 (some .boolean), Cond.methodLink RX11 220 yX11_has, Cond.static yX11_has, Cond.code yX11_has cX11_has 3 (some .boolean), Cond.methodLink RL 83 yX10_kin, Cond.instanceMethod yX10_kin, Cond.selects RX10 yX10_kin yX10_kin, Cond.code yX10_kin cX10_kin 4 (some .int), Cond.classLink RX10 163 RX4, Cond.instantiable RX4 4, Cond.fieldLink RX10 176 "StructureSearch$Kin" "count" "I", Cond.fieldLink RX10 179 "StructureSearch$Kin" "least" "I", Cond.fieldLink RX10 182 "StructureSearch$Kin" "greatest" "I", Cond.fieldLink RX10 185 "StructureSearch$Kin" "common" "I", Cond.methodLink RX10 171 yX4_init, Cond.instanceMethod yX4_init, Cond.code yX4_init cX4_init 1 none, Cond.methodLink RX4 3 objectInit, Cond.fieldLink RX4 9 "StructureSearch$Kin" "count" "I", Cond.fieldLink RX4 15 "StructureSearch$Kin" "least" "I", Cond.fieldLink RX4 18 "StructureSearch$Kin" "greatest" "I", Cond.fieldLink RX4 21 "StructureSearch$Kin" "common" "I"]
def wsL_law_r30 : List Cond := [Cond.methodLink RX10 172 yX4_gather, Cond.instanceMethod yX4_gather, Cond.selects RX4 yX4_gather yX4_gather, Cond.code yX4_gather cX4_gather 9 none, Cond.methodLink RX4 45 yX4_meetings, Cond.methodLink RX4 49 yJ6_bitCount_0f7a4, Cond.methodLink RX4 54 yX4_directed, Cond.static yX4_directed, Cond.code yX4_directed cX4_directed 6 (some .int), Cond.methodLink RX4 57 yX0_haveNoRound, Cond.methodLink RX4 60 yX4_add, Cond.instanceMethod yX4_add, Cond.selects RX4 yX4_add yX4_add, Cond.code yX4_add cX4_add 2 none, Cond.methodLink RX4 64 Lib.Math.min.name, Cond.methodLink RX4 69 Lib.Math.max.name, Cond.methodLink RL 86 yX11_kin, Cond.instanceMethod yX11_kin, Cond.selects RX11 yX11_kin yX11_kin, Cond.code yX11_kin cX11_kin 11 (some .int), Cond.constant RX11 281 (33554431), Cond.methodLink RL 87 yX10_shareSize, Cond.instanceMethod yX10_shareSize, Cond.selects RX10 yX10_shareSize yX10_shareSize]
def wsL_law_r31 : List Cond := [Cond.code yX10_shareSize cX10_shareSize 4 (some .int), Cond.methodLink RX10 188 yX10_isPair, Cond.instanceMethod yX10_isPair, Cond.selects RX10 yX10_isPair yX10_isPair, Cond.code yX10_isPair cX10_isPair 3 (some .boolean), Cond.methodLink RX10 191 yX10_shareOf, Cond.instanceMethod yX10_shareOf, Cond.selects RX10 yX10_shareOf yX10_shareOf, Cond.code yX10_shareOf cX10_shareOf 3 (some (.object "StructureSearch$Fraction")), Cond.classLink RX10 213 RX7, Cond.instantiable RX7 12, Cond.methodLink RX10 215 yX7_init, Cond.instanceMethod yX7_init, Cond.code yX7_init cX7_init 4 none, Cond.methodLink RX7 5 objectInit, Cond.fieldLink RX7 11 "StructureSearch$Shares" "sheet" "LStructureSearch$Sheet;", Cond.fieldLink RX7 15 "StructureSearch$Shares" "powers" "LStructureSearch$Powers;", Cond.classLink RX7 19 RX5, Cond.fieldLink RX7 22 "StructureSearch$Shares" "least" "LStructureSearch$Powers;", Cond.classLink RX7 25 RX1, Cond.fieldLink RX7 27 "StructureSearch$Shares" "weights" "[LStructureSearch$Big;", Cond.fieldLink RX7 40 "StructureSearch$Shares" "sums" "[LStructureSearch$Big;", Cond.fieldLink RX7 43 "StructureSearch$Shares" "none" "LStructureSearch$Big;", Cond.fieldLink RX7 47 "StructureSearch$Shares" "term" "LStructureSearch$Big;"]
def wsL_law_r32 : List Cond := [Cond.fieldLink RX7 50 "StructureSearch$Shares" "rest" "LStructureSearch$Big;", Cond.fieldLink RX7 53 "StructureSearch$Shares" "divisor" "LStructureSearch$Big;", Cond.classLink RX7 56 RX3, Cond.fieldLink RX7 63 "StructureSearch$Shares" "shareFrom" "I", Cond.fieldLink RX7 67 "StructureSearch$Shares" "shareTo" "I", Cond.methodLink RX7 21 yX5_init, Cond.methodLink RX7 31 yX0_isIn, Cond.methodLink RX7 37 yX1_init, Cond.methodLink RX7 58 yX3_init, Cond.methodLink RX10 216 yX7_of, Cond.instanceMethod yX7_of, Cond.selects RX7 yX7_of yX7_of, Cond.code yX7_of cX7_of 5 (some (.object "StructureSearch$Fraction")), Cond.fieldLink RX7 74 "StructureSearch$Sheet" "names" "I", Cond.fieldLink RX7 85 "StructureSearch$Fraction" "below" "LStructureSearch$Big;", Cond.fieldLink RX7 100 "StructureSearch$Fraction" "above" "LStructureSearch$Big;", Cond.methodLink RX7 79 yX7_weigh, Cond.instanceMethod yX7_weigh, Cond.selects RX7 yX7_weigh yX7_weigh, Cond.code yX7_weigh cX7_weigh 3 none, Cond.methodLink RX7 106 yX7_isOpen, Cond.instanceMethod yX7_isOpen, Cond.selects RX7 yX7_isOpen yX7_isOpen, Cond.code yX7_isOpen cX7_isOpen 3 (some .boolean)]
def wsL_law_r33 : List Cond := [Cond.fieldLink RX7 148 "StructureSearch$Sheet" "most" "I", Cond.methodLink RX7 142 yJ6_bitCount_0f7a4, Cond.methodLink RX7 109 yX5_forget, Cond.methodLink RX7 112 yX8_pourFit, Cond.methodLink RX7 116 yX5_copy, Cond.instanceMethod yX5_copy, Cond.selects RX5 yX5_copy yX5_copy, Cond.code yX5_copy cX5_copy 3 none, Cond.methodLink RX5 40 yX5_forget, Cond.methodLink RX7 119 yX5_lowerTo, Cond.instanceMethod yX5_lowerTo, Cond.selects RX5 yX5_lowerTo yX5_lowerTo, Cond.code yX5_lowerTo cX5_lowerTo 3 none, Cond.methodLink RX5 43 Lib.Math.min.name, Cond.methodLink RX7 122 yX7_weight, Cond.instanceMethod yX7_weight, Cond.selects RX7 yX7_weight yX7_weight, Cond.code yX7_weight cX7_weight 4 (some (.object "StructureSearch$Big")), Cond.methodLink RX7 126 yX1_become, Cond.methodLink RX7 129 yX5_divide, Cond.instanceMethod yX5_divide, Cond.selects RX5 yX5_divide yX5_divide, Cond.code yX5_divide cX5_divide 3 none, Cond.methodLink RX7 132 yX5_write]
def wsL_law_r34 : List Cond := [Cond.methodLink RX7 136 yX7_addSmaller, Cond.instanceMethod yX7_addSmaller, Cond.selects RX7 yX7_addSmaller yX7_addSmaller, Cond.code yX7_addSmaller cX7_addSmaller 5 none, Cond.methodLink RX7 139 yX1_plus, Cond.instanceMethod yX1_plus, Cond.selects RX1 yX1_plus yX1_plus, Cond.code yX1_plus cX1_plus 2 none, Cond.methodLink RX7 82 yX7_sumGraphs, Cond.instanceMethod yX7_sumGraphs, Cond.selects RX7 yX7_sumGraphs yX7_sumGraphs, Cond.code yX7_sumGraphs cX7_sumGraphs 3 none, Cond.methodLink RX7 154 yX7_sumGraphsOf, Cond.instanceMethod yX7_sumGraphsOf, Cond.selects RX7 yX7_sumGraphsOf yX7_sumGraphsOf, Cond.code yX7_sumGraphsOf cX7_sumGraphsOf 5 none, Cond.methodLink RX7 88 yX7_sum, Cond.instanceMethod yX7_sum, Cond.selects RX7 yX7_sum yX7_sum, Cond.code yX7_sum cX7_sum 2 (some (.object "StructureSearch$Big")), Cond.methodLink RX7 157 yX7_multiplyOut, Cond.instanceMethod yX7_multiplyOut, Cond.selects RX7 yX7_multiplyOut yX7_multiplyOut, Cond.code yX7_multiplyOut cX7_multiplyOut 4 none]
def wsL_law_r35 : List Cond := [Cond.methodLink RX7 92 yX1_copy, Cond.instanceMethod yX1_copy, Cond.selects RX1 yX1_copy yX1_copy, Cond.code yX1_copy cX1_copy 2 none, Cond.methodLink RX1 28 arraycopyName, Cond.native arraycopyName, Cond.static arraycopyName, Cond.initialized "java/lang/System", Cond.methodLink RX7 160 yX1_times, Cond.methodLink RX7 151 yX1_minus, Cond.instanceMethod yX1_minus, Cond.selects RX1 yX1_minus yX1_minus, Cond.code yX1_minus cX1_minus 2 none, Cond.methodLink RX1 51 yX1_subtractMultiple, Cond.instanceMethod yX1_subtractMultiple, Cond.selects RX1 yX1_subtractMultiple yX1_subtractMultiple, Cond.code yX1_subtractMultiple cX1_subtractMultiple 14 none, Cond.methodLink RX7 96 yX7_keepArc, Cond.instanceMethod yX7_keepArc, Cond.selects RX7 yX7_keepArc yX7_keepArc, Cond.code yX7_keepArc cX7_keepArc 5 none, Cond.methodLink RX7 103 yX7_lower, Cond.instanceMethod yX7_lower, Cond.selects RX7 yX7_lower yX7_lower]
def wsL_law_r36 : List Cond := [Cond.code yX7_lower cX7_lower 1 none, Cond.methodLink RX7 163 yX1_commonDivisor, Cond.static yX1_commonDivisor, Cond.code yX1_commonDivisor cX1_commonDivisor 6 (some (.object "StructureSearch$Big")), Cond.constant RX1 64 (1000000), Cond.methodLink RX1 75 yX1_reduceBy, Cond.instanceMethod yX1_reduceBy, Cond.selects RX1 yX1_reduceBy yX1_reduceBy, Cond.code yX1_reduceBy cX1_reduceBy 11 none, Cond.methodLink RX1 61 Lib.MathLoose.max_long.x, Cond.static Lib.MathLoose.max_long.x, Cond.code Lib.MathLoose.max_long.x Lib.MathLoose.max_long.code 4 (some .long), Cond.methodLink RX1 69 Lib.MathLoose.min_long.x, Cond.static Lib.MathLoose.min_long.x, Cond.code Lib.MathLoose.min_long.x Lib.MathLoose.min_long.code 4 (some .long), Cond.methodLink RX1 54 yX1_bits, Cond.instanceMethod yX1_bits, Cond.selects RX1 yX1_bits yX1_bits, Cond.code yX1_bits cX1_bits 1 (some .int), Cond.methodLink RX1 79 yJ13_numberOfLeadingZeros_95d88, Cond.static yJ13_numberOfLeadingZeros_95d88, Cond.initialized RJ13, Cond.code yJ13_numberOfLeadingZeros_95d88 cJ13_numberOfLeadingZeros_95d88 3 (some .int), Cond.methodLink RJ13 308 yJ6_numberOfLeadingZeros_0f7a4]
def wsL_law_r37 : List Cond := [Cond.static yJ6_numberOfLeadingZeros_0f7a4, Cond.code yJ6_numberOfLeadingZeros_0f7a4 cJ6_numberOfLeadingZeros_0f7a4 2 (some .int), Cond.constant RJ6 264 (65536), Cond.methodLink RX1 58 yX1_from, Cond.instanceMethod yX1_from, Cond.selects RX1 yX1_from yX1_from, Cond.code yX1_from cX1_from 6 (some .long), Cond.methodLink RX1 65 yX1_against, Cond.methodLink RX1 71 yX1_addDigit, Cond.instanceMethod yX1_addDigit, Cond.selects RX1 yX1_addDigit yX1_addDigit, Cond.code yX1_addDigit cX1_addDigit 10 none, Cond.methodLink RX7 167 yX7_divide, Cond.instanceMethod yX7_divide, Cond.selects RX7 yX7_divide yX7_divide, Cond.code yX7_divide cX7_divide 2 none, Cond.methodLink RX7 169 yX1_reduceBy, Cond.methodLink RL 91 yX11_shareSize, Cond.instanceMethod yX11_shareSize, Cond.selects RX11 yX11_shareSize yX11_shareSize, Cond.code yX11_shareSize cX11_shareSize 5 (some .int), Cond.methodLink RX11 295 yX11_shareFault, Cond.instanceMethod yX11_shareFault, Cond.selects RX11 yX11_shareFault yX11_shareFault]
def wsL_law_r38 : List Cond := [Cond.code yX11_shareFault cX11_shareFault 4 (some .int), Cond.methodLink RX11 298 yX11_tellShare, Cond.instanceMethod yX11_tellShare, Cond.selects RX11 yX11_tellShare yX11_tellShare, Cond.code yX11_tellShare cX11_tellShare 3 none, Cond.methodLink RX11 291 yX11_total, Cond.instanceMethod yX11_total, Cond.selects RX11 yX11_total yX11_total, Cond.code yX11_total cX11_total 8 none, Cond.methodLink RX11 288 yX11_sumUp, Cond.instanceMethod yX11_sumUp, Cond.selects RX11 yX11_sumUp yX11_sumUp, Cond.code yX11_sumUp cX11_sumUp 6 none, Cond.methodLink RX11 282 yX11_whole, Cond.instanceMethod yX11_whole, Cond.selects RX11 yX11_whole yX11_whole, Cond.code yX11_whole cX11_whole 4 none, Cond.methodLink RX11 285 yX11_plus, Cond.static yX11_plus, Cond.code yX11_plus cX11_plus 6 none, Cond.methodLink RL 92 yX10_shareWord, Cond.instanceMethod yX10_shareWord, Cond.selects RX10 yX10_shareWord yX10_shareWord, Cond.code yX10_shareWord cX10_shareWord 5 (some .long)]
def wsL_law_r39 : List Cond := [Cond.constantLong RX10 195 (-2), Cond.methodLink RL 96 yX11_shareWord, Cond.instanceMethod yX11_shareWord, Cond.selects RX11 yX11_shareWord yX11_shareWord, Cond.code yX11_shareWord cX11_shareWord 6 (some .long), Cond.methodLink RL 97 yX10_test, Cond.instanceMethod yX10_test, Cond.selects RX10 yX10_test yX10_test, Cond.code yX10_test cX10_test 6 (some .long), Cond.methodLink RX10 200 yX9_count, Cond.instanceMethod yX9_count, Cond.selects RX9 yX9_count yX9_count, Cond.code yX9_count cX9_count 7 none, Cond.fieldLink RX9 23 "StructureSearch$Sheet" "rows" "I", Cond.methodLink RX9 29 yX8_valueIn, Cond.methodLink RX9 33 yX9_cell, Cond.instanceMethod yX9_cell, Cond.selects RX9 yX9_cell yX9_cell, Cond.code yX9_cell cX9_cell 4 (some .int), Cond.methodLink RX10 203 yX9_waysNotAbove, Cond.instanceMethod yX9_waysNotAbove, Cond.selects RX9 yX9_waysNotAbove yX9_waysNotAbove, Cond.code yX9_waysNotAbove cX9_waysNotAbove 7 (some .long), Cond.methodLink RX9 40 yX9_deals]
def wsL_law_r40 : List Cond := [Cond.static yX9_deals, Cond.code yX9_deals cX9_deals 3 (some .long), Cond.fieldLink RX9 51 "StructureSearch$Tables" "FACTORIALS" "[J", Cond.methodLink RX9 55 yX9_factorial, Cond.static yX9_factorial, Cond.code yX9_factorial cX9_factorial 1 (some .long), Cond.methodLink RX9 44 yX9_first, Cond.instanceMethod yX9_first, Cond.selects RX9 yX9_first yX9_first, Cond.code yX9_first cX9_first 2 (some .int), Cond.methodLink RX9 47 yX9_waysWith, Cond.instanceMethod yX9_waysWith, Cond.selects RX9 yX9_waysWith yX9_waysWith, Cond.code yX9_waysWith cX9_waysWith 17 (some .long), Cond.methodLink RX9 36 yX9_second, Cond.instanceMethod yX9_second, Cond.selects RX9 yX9_second yX9_second, Cond.code yX9_second cX9_second 2 (some .int), Cond.methodLink RX10 207 yX9_allWays, Cond.instanceMethod yX9_allWays, Cond.selects RX9 yX9_allWays yX9_allWays, Cond.code yX9_allWays cX9_allWays 1 (some .long), Cond.methodLink RL 101 yX11_test, Cond.instanceMethod yX11_test]
def wsL_law_r41 : List Cond := [Cond.selects RX11 yX11_test yX11_test, Cond.code yX11_test cX11_test 18 (some .long), Cond.methodLink RX11 304 yX11_ways, Cond.static yX11_ways, Cond.code yX11_ways cX11_ways 3 (some .long), Cond.methodLink RX11 301 yX11_choose, Cond.static yX11_choose, Cond.code yX11_choose cX11_choose 5 (some .long), Cond.methodLink RX11 308 yX11_lesser, Cond.static yX11_lesser, Cond.code yX11_lesser cX11_lesser 2 (some .int)]
def wsL_law : List Cond := (wsL_law_r1 ++ (wsL_law_r2 ++ (wsL_law_r3 ++ (wsL_law_r4 ++ (wsL_law_r5 ++ (wsL_law_r6 ++ (wsL_law_r7 ++ (wsL_law_r8 ++ (wsL_law_r9 ++ (wsL_law_r10 ++ (wsL_law_r11 ++ (wsL_law_r12 ++ (wsL_law_r13 ++ (wsL_law_r14 ++ (wsL_law_r15 ++ (wsL_law_r16 ++ (wsL_law_r17 ++ (wsL_law_r18 ++ (wsL_law_r19 ++ (wsL_law_r20 ++ (wsL_law_r21 ++ (wsL_law_r22 ++ (wsL_law_r23 ++ (wsL_law_r24 ++ (wsL_law_r25 ++ (wsL_law_r26 ++ (wsL_law_r27 ++ (wsL_law_r28 ++ (wsL_law_r29 ++ (wsL_law_r30 ++ (wsL_law_r31 ++ (wsL_law_r32 ++ (wsL_law_r33 ++ (wsL_law_r34 ++ (wsL_law_r35 ++ (wsL_law_r36 ++ (wsL_law_r37 ++ (wsL_law_r38 ++ (wsL_law_r39 ++ (wsL_law_r40 ++ wsL_law_r41)))))))))))))))))))))))))))))))))))))))) ++ wsX100 ++ wsX110 ++ wsX80 ++ wsX50 ++ wsX20 ++ wsX60 ++ wsX90 ++ wsX30 ++ wsX10 ++ wsX70 ++ wsX40 ++ ([] : List Cond)
abbrev vwCl : List vw_C := [(RX1, TX1, 2), (RX2, TX2, 8), (RX3, TX3, 3), (RX4, TX4, 4), (RX5, TX5, 2), (RX6, TX6, 3), (RX7, TX7, 12), (RX8, TX8, 6), (RX9, TX9, 4), (RX10, TX10, 6), (RX11, TX11, 39)]
end
section
theorem dX11_init_0 : decode cX11_init 0 = .ok (.aload_n 0, 1) := by decide +kernel
theorem dX11_init_1 : decode cX11_init 1 = .ok (.invokespecial 1, 3) := by decide +kernel
theorem dX11_init_4 : decode cX11_init 4 = .ok (.aload_n 0, 1) := by decide +kernel
theorem dX11_init_5 : decode cX11_init 5 = .ok (.iconst 5, 1) := by decide +kernel
theorem dX11_init_6 : decode cX11_init 6 = .ok (.newarray .int, 2) := by decide +kernel
theorem dX11_init_8 : decode cX11_init 8 = .ok (.putfield 7, 3) := by decide +kernel
theorem dX11_init_11 : decode cX11_init 11 = .ok (.aload_n 0, 1) := by decide +kernel
theorem dX11_init_12 : decode cX11_init 12 = .ok (.bipush 80, 2) := by decide +kernel
theorem dX11_init_14 : decode cX11_init 14 = .ok (.newarray .int, 2) := by decide +kernel
theorem dX11_init_16 : decode cX11_init 16 = .ok (.putfield 13, 3) := by decide +kernel
theorem dX11_init_19 : decode cX11_init 19 = .ok (.aload_n 0, 1) := by decide +kernel
theorem dX11_init_20 : decode cX11_init 20 = .ok (.iconst 1, 1) := by decide +kernel
theorem dX11_init_21 : decode cX11_init 21 = .ok (.putfield 16, 3) := by decide +kernel
theorem dX11_init_24 : decode cX11_init 24 = .ok (.aload_n 0, 1) := by decide +kernel
theorem dX11_init_25 : decode cX11_init 25 = .ok (.iconst 4, 1) := by decide +kernel
theorem dX11_init_26 : decode cX11_init 26 = .ok (.putfield 20, 3) := by decide +kernel
theorem dX11_init_29 : decode cX11_init 29 = .ok (.aload_n 0, 1) := by decide +kernel
theorem dX11_init_30 : decode cX11_init 30 = .ok (.sipush 320, 3) := by decide +kernel
theorem dX11_init_33 : decode cX11_init 33 = .ok (.newarray .int, 2) := by decide +kernel
theorem dX11_init_35 : decode cX11_init 35 = .ok (.putfield 23, 3) := by decide +kernel
theorem dX11_init_38 : decode cX11_init 38 = .ok (.aload_n 0, 1) := by decide +kernel
theorem dX11_init_39 : decode cX11_init 39 = .ok (.sipush 320, 3) := by decide +kernel
theorem dX11_init_42 : decode cX11_init 42 = .ok (.newarray .int, 2) := by decide +kernel
theorem dX11_init_44 : decode cX11_init 44 = .ok (.putfield 26, 3) := by decide +kernel
theorem dX11_init_47 : decode cX11_init 47 = .ok (.aload_n 0, 1) := by decide +kernel
theorem dX11_init_48 : decode cX11_init 48 = .ok (.sipush 320, 3) := by decide +kernel
theorem dX11_init_51 : decode cX11_init 51 = .ok (.newarray .int, 2) := by decide +kernel
theorem dX11_init_53 : decode cX11_init 53 = .ok (.putfield 29, 3) := by decide +kernel
theorem dX11_init_56 : decode cX11_init 56 = .ok (.aload_n 0, 1) := by decide +kernel
theorem dX11_init_57 : decode cX11_init 57 = .ok (.sipush 320, 3) := by decide +kernel
theorem dX11_init_60 : decode cX11_init 60 = .ok (.newarray .int, 2) := by decide +kernel
theorem dX11_init_62 : decode cX11_init 62 = .ok (.putfield 32, 3) := by decide +kernel
theorem dX11_init_65 : decode cX11_init 65 = .ok (.aload_n 0, 1) := by decide +kernel
theorem dX11_init_66 : decode cX11_init 66 = .ok (.sipush 320, 3) := by decide +kernel
theorem dX11_init_69 : decode cX11_init 69 = .ok (.newarray .int, 2) := by decide +kernel
theorem dX11_init_71 : decode cX11_init 71 = .ok (.putfield 35, 3) := by decide +kernel
theorem dX11_init_74 : decode cX11_init 74 = .ok (.aload_n 0, 1) := by decide +kernel
theorem dX11_init_75 : decode cX11_init 75 = .ok (.sipush 160, 3) := by decide +kernel
theorem dX11_init_78 : decode cX11_init 78 = .ok (.newarray .boolean, 2) := by decide +kernel
theorem dX11_init_80 : decode cX11_init 80 = .ok (.putfield 38, 3) := by decide +kernel
theorem dX11_init_83 : decode cX11_init 83 = .ok (.aload_n 0, 1) := by decide +kernel
theorem dX11_init_84 : decode cX11_init 84 = .ok (.sipush 1280, 3) := by decide +kernel
theorem dX11_init_87 : decode cX11_init 87 = .ok (.newarray .int, 2) := by decide +kernel
theorem dX11_init_89 : decode cX11_init 89 = .ok (.putfield 42, 3) := by decide +kernel
theorem dX11_init_92 : decode cX11_init 92 = .ok (.aload_n 0, 1) := by decide +kernel
theorem dX11_init_93 : decode cX11_init 93 = .ok (.sipush 1280, 3) := by decide +kernel
theorem dX11_init_96 : decode cX11_init 96 = .ok (.newarray .int, 2) := by decide +kernel
theorem dX11_init_98 : decode cX11_init 98 = .ok (.putfield 45, 3) := by decide +kernel
theorem dX11_init_101 : decode cX11_init 101 = .ok (.aload_n 0, 1) := by decide +kernel
theorem dX11_init_102 : decode cX11_init 102 = .ok (.sipush 320, 3) := by decide +kernel
theorem dX11_init_105 : decode cX11_init 105 = .ok (.newarray .int, 2) := by decide +kernel
theorem dX11_init_107 : decode cX11_init 107 = .ok (.putfield 48, 3) := by decide +kernel
theorem dX11_init_110 : decode cX11_init 110 = .ok (.aload_n 0, 1) := by decide +kernel
theorem dX11_init_111 : decode cX11_init 111 = .ok (.sipush 320, 3) := by decide +kernel
theorem dX11_init_114 : decode cX11_init 114 = .ok (.newarray .int, 2) := by decide +kernel
theorem dX11_init_116 : decode cX11_init 116 = .ok (.putfield 51, 3) := by decide +kernel
theorem dX11_init_119 : decode cX11_init 119 = .ok (.aload_n 0, 1) := by decide +kernel
theorem dX11_init_120 : decode cX11_init 120 = .ok (.sipush 320, 3) := by decide +kernel
theorem dX11_init_123 : decode cX11_init 123 = .ok (.newarray .int, 2) := by decide +kernel
theorem dX11_init_125 : decode cX11_init 125 = .ok (.putfield 54, 3) := by decide +kernel
theorem dX11_init_128 : decode cX11_init 128 = .ok (.aload_n 0, 1) := by decide +kernel
theorem dX11_init_129 : decode cX11_init 129 = .ok (.sipush 320, 3) := by decide +kernel
theorem dX11_init_132 : decode cX11_init 132 = .ok (.newarray .int, 2) := by decide +kernel
theorem dX11_init_134 : decode cX11_init 134 = .ok (.putfield 57, 3) := by decide +kernel
theorem dX11_init_137 : decode cX11_init 137 = .ok (.aload_n 0, 1) := by decide +kernel
theorem dX11_init_138 : decode cX11_init 138 = .ok (.sipush 320, 3) := by decide +kernel
theorem dX11_init_141 : decode cX11_init 141 = .ok (.newarray .int, 2) := by decide +kernel
theorem dX11_init_143 : decode cX11_init 143 = .ok (.putfield 60, 3) := by decide +kernel
theorem dX11_init_146 : decode cX11_init 146 = .ok (.aload_n 0, 1) := by decide +kernel
theorem dX11_init_147 : decode cX11_init 147 = .ok (.sipush 320, 3) := by decide +kernel
theorem dX11_init_150 : decode cX11_init 150 = .ok (.newarray .int, 2) := by decide +kernel
theorem dX11_init_152 : decode cX11_init 152 = .ok (.putfield 63, 3) := by decide +kernel
theorem dX11_init_155 : decode cX11_init 155 = .ok (.aload_n 0, 1) := by decide +kernel
theorem dX11_init_156 : decode cX11_init 156 = .ok (.sipush 320, 3) := by decide +kernel
theorem dX11_init_159 : decode cX11_init 159 = .ok (.newarray .int, 2) := by decide +kernel
theorem dX11_init_161 : decode cX11_init 161 = .ok (.putfield 66, 3) := by decide +kernel
theorem dX11_init_164 : decode cX11_init 164 = .ok (.aload_n 0, 1) := by decide +kernel
theorem dX11_init_165 : decode cX11_init 165 = .ok (.sipush 320, 3) := by decide +kernel
theorem dX11_init_168 : decode cX11_init 168 = .ok (.newarray .int, 2) := by decide +kernel
theorem dX11_init_170 : decode cX11_init 170 = .ok (.putfield 69, 3) := by decide +kernel
theorem dX11_init_173 : decode cX11_init 173 = .ok (.aload_n 0, 1) := by decide +kernel
theorem dX11_init_174 : decode cX11_init 174 = .ok (.sipush 320, 3) := by decide +kernel
theorem dX11_init_177 : decode cX11_init 177 = .ok (.newarray .int, 2) := by decide +kernel
theorem dX11_init_179 : decode cX11_init 179 = .ok (.putfield 72, 3) := by decide +kernel
theorem dX11_init_182 : decode cX11_init 182 = .ok (.aload_n 0, 1) := by decide +kernel
theorem dX11_init_183 : decode cX11_init 183 = .ok (.sipush 320, 3) := by decide +kernel
theorem dX11_init_186 : decode cX11_init 186 = .ok (.newarray .int, 2) := by decide +kernel
theorem dX11_init_188 : decode cX11_init 188 = .ok (.putfield 75, 3) := by decide +kernel
theorem dX11_init_191 : decode cX11_init 191 = .ok (.aload_n 0, 1) := by decide +kernel
theorem dX11_init_192 : decode cX11_init 192 = .ok (.iconst (-1), 1) := by decide +kernel
theorem dX11_init_193 : decode cX11_init 193 = .ok (.putfield 78, 3) := by decide +kernel
theorem dX11_init_196 : decode cX11_init 196 = .ok (.aload_n 0, 1) := by decide +kernel
theorem dX11_init_197 : decode cX11_init 197 = .ok (.iconst (-1), 1) := by decide +kernel
theorem dX11_init_198 : decode cX11_init 198 = .ok (.putfield 81, 3) := by decide +kernel
theorem dX11_init_201 : decode cX11_init 201 = .ok (.aload_n 0, 1) := by decide +kernel
theorem dX11_init_202 : decode cX11_init 202 = .ok (.bipush 32, 2) := by decide +kernel
theorem dX11_init_204 : decode cX11_init 204 = .ok (.newarray .int, 2) := by decide +kernel
theorem dX11_init_206 : decode cX11_init 206 = .ok (.putfield 84, 3) := by decide +kernel
theorem dX11_init_209 : decode cX11_init 209 = .ok (.aload_n 0, 1) := by decide +kernel
theorem dX11_init_210 : decode cX11_init 210 = .ok (.bipush 10, 2) := by decide +kernel
theorem dX11_init_212 : decode cX11_init 212 = .ok (.newarray .int, 2) := by decide +kernel
theorem dX11_init_214 : decode cX11_init 214 = .ok (.putfield 87, 3) := by decide +kernel
theorem dX11_init_217 : decode cX11_init 217 = .ok (.aload_n 0, 1) := by decide +kernel
theorem dX11_init_218 : decode cX11_init 218 = .ok (.bipush 10, 2) := by decide +kernel
theorem dX11_init_220 : decode cX11_init 220 = .ok (.newarray .int, 2) := by decide +kernel
theorem dX11_init_222 : decode cX11_init 222 = .ok (.putfield 90, 3) := by decide +kernel
theorem dX11_init_225 : decode cX11_init 225 = .ok (.aload_n 0, 1) := by decide +kernel
theorem dX11_init_226 : decode cX11_init 226 = .ok (.sipush 5120, 3) := by decide +kernel
theorem dX11_init_229 : decode cX11_init 229 = .ok (.newarray .int, 2) := by decide +kernel
theorem dX11_init_231 : decode cX11_init 231 = .ok (.putfield 93, 3) := by decide +kernel
theorem dX11_init_234 : decode cX11_init 234 = .ok (.aload_n 0, 1) := by decide +kernel
theorem dX11_init_235 : decode cX11_init 235 = .ok (.sipush 5120, 3) := by decide +kernel
theorem dX11_init_238 : decode cX11_init 238 = .ok (.newarray .int, 2) := by decide +kernel
theorem dX11_init_240 : decode cX11_init 240 = .ok (.putfield 96, 3) := by decide +kernel
theorem dX11_init_243 : decode cX11_init 243 = .ok (.aload_n 0, 1) := by decide +kernel
theorem dX11_init_244 : decode cX11_init 244 = .ok (.sipush 5120, 3) := by decide +kernel
theorem dX11_init_247 : decode cX11_init 247 = .ok (.newarray .int, 2) := by decide +kernel
theorem dX11_init_249 : decode cX11_init 249 = .ok (.putfield 99, 3) := by decide +kernel
theorem dX11_init_252 : decode cX11_init 252 = .ok (.aload_n 0, 1) := by decide +kernel
theorem dX11_init_253 : decode cX11_init 253 = .ok (.sipush 320, 3) := by decide +kernel
theorem dX11_init_256 : decode cX11_init 256 = .ok (.newarray .int, 2) := by decide +kernel
theorem dX11_init_258 : decode cX11_init 258 = .ok (.putfield 102, 3) := by decide +kernel
theorem dX11_init_261 : decode cX11_init 261 = .ok (.aload_n 0, 1) := by decide +kernel
theorem dX11_init_262 : decode cX11_init 262 = .ok (.sipush 320, 3) := by decide +kernel
theorem dX11_init_265 : decode cX11_init 265 = .ok (.newarray .int, 2) := by decide +kernel
theorem dX11_init_267 : decode cX11_init 267 = .ok (.putfield 105, 3) := by decide +kernel
theorem dX11_init_270 : decode cX11_init 270 = .ok (.aload_n 0, 1) := by decide +kernel
theorem dX11_init_271 : decode cX11_init 271 = .ok (.sipush 320, 3) := by decide +kernel
theorem dX11_init_274 : decode cX11_init 274 = .ok (.newarray .int, 2) := by decide +kernel
theorem dX11_init_276 : decode cX11_init 276 = .ok (.putfield 108, 3) := by decide +kernel
theorem dX11_init_279 : decode cX11_init 279 = .ok (.aload_n 0, 1) := by decide +kernel
theorem dX11_init_280 : decode cX11_init 280 = .ok (.sipush 320, 3) := by decide +kernel
theorem dX11_init_283 : decode cX11_init 283 = .ok (.newarray .int, 2) := by decide +kernel
theorem dX11_init_285 : decode cX11_init 285 = .ok (.putfield 111, 3) := by decide +kernel
theorem dX11_init_288 : decode cX11_init 288 = .ok (.aload_n 0, 1) := by decide +kernel
theorem dX11_init_289 : decode cX11_init 289 = .ok (.iconst 3, 1) := by decide +kernel
theorem dX11_init_290 : decode cX11_init 290 = .ok (.newarray .int, 2) := by decide +kernel
theorem dX11_init_292 : decode cX11_init 292 = .ok (.putfield 114, 3) := by decide +kernel
theorem dX11_init_295 : decode cX11_init 295 = .ok (.aload_n 0, 1) := by decide +kernel
theorem dX11_init_296 : decode cX11_init 296 = .ok (.iconst 3, 1) := by decide +kernel
theorem dX11_init_297 : decode cX11_init 297 = .ok (.newarray .int, 2) := by decide +kernel
theorem dX11_init_299 : decode cX11_init 299 = .ok (.putfield 117, 3) := by decide +kernel
theorem dX11_init_302 : decode cX11_init 302 = .ok (.aload_n 0, 1) := by decide +kernel
theorem dX11_init_303 : decode cX11_init 303 = .ok (.bipush 9, 2) := by decide +kernel
theorem dX11_init_305 : decode cX11_init 305 = .ok (.newarray .int, 2) := by decide +kernel
theorem dX11_init_307 : decode cX11_init 307 = .ok (.putfield 120, 3) := by decide +kernel
theorem dX11_init_310 : decode cX11_init 310 = .ok (.return_, 1) := by decide +kernel
theorem dX11_put_0 : decode cX11_put 0 = .ok (.aload_n 0, 1) := by decide +kernel
theorem dX11_put_1 : decode cX11_put 1 = .ok (.iconst 0, 1) := by decide +kernel
theorem dX11_put_2 : decode cX11_put 2 = .ok (.iload_n 1, 1) := by decide +kernel
theorem dX11_put_3 : decode cX11_put 3 = .ok (.ifCond .ne 7, 3) := by decide +kernel
theorem dX11_put_6 : decode cX11_put 6 = .ok (.iconst 0, 1) := by decide +kernel
theorem dX11_put_7 : decode cX11_put 7 = .ok (.goto 4, 3) := by decide +kernel
theorem dX11_put_10 : decode cX11_put 10 = .ok (.iconst 1, 1) := by decide +kernel
theorem dX11_put_11 : decode cX11_put 11 = .ok (.iastore, 1) := by decide +kernel
theorem dX11_put_12 : decode cX11_put 12 = .ok (.aload_n 0, 1) := by decide +kernel
theorem dX11_put_13 : decode cX11_put 13 = .ok (.iconst 1, 1) := by decide +kernel
theorem dX11_put_14 : decode cX11_put 14 = .ok (.iload_n 1, 1) := by decide +kernel
theorem dX11_put_15 : decode cX11_put 15 = .ok (.iastore, 1) := by decide +kernel
theorem dX11_put_16 : decode cX11_put 16 = .ok (.return_, 1) := by decide +kernel
theorem dX11_copy_0 : decode cX11_copy 0 = .ok (.iconst 0, 1) := by decide +kernel
theorem dX11_copy_1 : decode cX11_copy 1 = .ok (.istore_n 2, 1) := by decide +kernel
theorem dX11_copy_2 : decode cX11_copy 2 = .ok (.iload_n 2, 1) := by decide +kernel
theorem dX11_copy_3 : decode cX11_copy 3 = .ok (.aload_n 0, 1) := by decide +kernel
theorem dX11_copy_4 : decode cX11_copy 4 = .ok (.iconst 0, 1) := by decide +kernel
theorem dX11_copy_5 : decode cX11_copy 5 = .ok (.iaload, 1) := by decide +kernel
theorem dX11_copy_6 : decode cX11_copy 6 = .ok (.if_icmp .gt 15, 3) := by decide +kernel
theorem dX11_copy_9 : decode cX11_copy 9 = .ok (.aload_n 1, 1) := by decide +kernel
theorem dX11_copy_10 : decode cX11_copy 10 = .ok (.iload_n 2, 1) := by decide +kernel
theorem dX11_copy_11 : decode cX11_copy 11 = .ok (.aload_n 0, 1) := by decide +kernel
theorem dX11_copy_12 : decode cX11_copy 12 = .ok (.iload_n 2, 1) := by decide +kernel
theorem dX11_copy_13 : decode cX11_copy 13 = .ok (.iaload, 1) := by decide +kernel
theorem dX11_copy_14 : decode cX11_copy 14 = .ok (.iastore, 1) := by decide +kernel
theorem dX11_copy_15 : decode cX11_copy 15 = .ok (.iinc 2 1, 3) := by decide +kernel
theorem dX11_copy_18 : decode cX11_copy 18 = .ok (.goto (-16), 3) := by decide +kernel
theorem dX11_copy_21 : decode cX11_copy 21 = .ok (.return_, 1) := by decide +kernel
theorem dX11_compareTo_0 : decode cX11_compareTo 0 = .ok (.aload_n 0, 1) := by decide +kernel
theorem dX11_compareTo_1 : decode cX11_compareTo 1 = .ok (.iconst 0, 1) := by decide +kernel
theorem dX11_compareTo_2 : decode cX11_compareTo 2 = .ok (.iaload, 1) := by decide +kernel
theorem dX11_compareTo_3 : decode cX11_compareTo 3 = .ok (.aload_n 1, 1) := by decide +kernel
theorem dX11_compareTo_4 : decode cX11_compareTo 4 = .ok (.iconst 0, 1) := by decide +kernel
theorem dX11_compareTo_5 : decode cX11_compareTo 5 = .ok (.iaload, 1) := by decide +kernel
theorem dX11_compareTo_6 : decode cX11_compareTo 6 = .ok (.isub, 1) := by decide +kernel
theorem dX11_compareTo_7 : decode cX11_compareTo 7 = .ok (.istore_n 2, 1) := by decide +kernel
theorem dX11_compareTo_8 : decode cX11_compareTo 8 = .ok (.aload_n 0, 1) := by decide +kernel
theorem dX11_compareTo_9 : decode cX11_compareTo 9 = .ok (.iconst 0, 1) := by decide +kernel
theorem dX11_compareTo_10 : decode cX11_compareTo 10 = .ok (.iaload, 1) := by decide +kernel
theorem dX11_compareTo_11 : decode cX11_compareTo 11 = .ok (.istore_n 3, 1) := by decide +kernel
theorem dX11_compareTo_12 : decode cX11_compareTo 12 = .ok (.iload_n 3, 1) := by decide +kernel
theorem dX11_compareTo_13 : decode cX11_compareTo 13 = .ok (.ifCond .le 56, 3) := by decide +kernel
theorem dX11_compareTo_16 : decode cX11_compareTo 16 = .ok (.iload_n 2, 1) := by decide +kernel
theorem dX11_compareTo_17 : decode cX11_compareTo 17 = .ok (.ifCond .ne 52, 3) := by decide +kernel
theorem dX11_compareTo_20 : decode cX11_compareTo 20 = .ok (.aload_n 0, 1) := by decide +kernel
theorem dX11_compareTo_21 : decode cX11_compareTo 21 = .ok (.iload_n 3, 1) := by decide +kernel
theorem dX11_compareTo_22 : decode cX11_compareTo 22 = .ok (.iaload, 1) := by decide +kernel
theorem dX11_compareTo_23 : decode cX11_compareTo 23 = .ok (.i2l, 1) := by decide +kernel
theorem dX11_compareTo_24 : decode cX11_compareTo 24 = .ok (.ldc2_w 123, 3) := by decide +kernel
theorem dX11_compareTo_27 : decode cX11_compareTo 27 = .ok (.land, 1) := by decide +kernel
theorem dX11_compareTo_28 : decode cX11_compareTo 28 = .ok (.aload_n 1, 1) := by decide +kernel
theorem dX11_compareTo_29 : decode cX11_compareTo 29 = .ok (.iload_n 3, 1) := by decide +kernel
theorem dX11_compareTo_30 : decode cX11_compareTo 30 = .ok (.iaload, 1) := by decide +kernel
theorem dX11_compareTo_31 : decode cX11_compareTo 31 = .ok (.i2l, 1) := by decide +kernel
theorem dX11_compareTo_32 : decode cX11_compareTo 32 = .ok (.ldc2_w 123, 3) := by decide +kernel
theorem dX11_compareTo_35 : decode cX11_compareTo 35 = .ok (.land, 1) := by decide +kernel
theorem dX11_compareTo_36 : decode cX11_compareTo 36 = .ok (.lsub, 1) := by decide +kernel
theorem dX11_compareTo_37 : decode cX11_compareTo 37 = .ok (.lstore 4, 2) := by decide +kernel
theorem dX11_compareTo_39 : decode cX11_compareTo 39 = .ok (.lload 4, 2) := by decide +kernel
theorem dX11_compareTo_41 : decode cX11_compareTo 41 = .ok (.lconst 0, 1) := by decide +kernel
theorem dX11_compareTo_42 : decode cX11_compareTo 42 = .ok (.lcmp, 1) := by decide +kernel
theorem dX11_compareTo_43 : decode cX11_compareTo 43 = .ok (.ifCond .ge 7, 3) := by decide +kernel
theorem dX11_compareTo_46 : decode cX11_compareTo 46 = .ok (.iconst (-1), 1) := by decide +kernel
theorem dX11_compareTo_47 : decode cX11_compareTo 47 = .ok (.goto 15, 3) := by decide +kernel
theorem dX11_compareTo_50 : decode cX11_compareTo 50 = .ok (.lload 4, 2) := by decide +kernel
theorem dX11_compareTo_52 : decode cX11_compareTo 52 = .ok (.lconst 0, 1) := by decide +kernel
theorem dX11_compareTo_53 : decode cX11_compareTo 53 = .ok (.lcmp, 1) := by decide +kernel
theorem dX11_compareTo_54 : decode cX11_compareTo 54 = .ok (.ifCond .ne 7, 3) := by decide +kernel
theorem dX11_compareTo_57 : decode cX11_compareTo 57 = .ok (.iconst 0, 1) := by decide +kernel
theorem dX11_compareTo_58 : decode cX11_compareTo 58 = .ok (.goto 4, 3) := by decide +kernel
theorem dX11_compareTo_61 : decode cX11_compareTo 61 = .ok (.iconst 1, 1) := by decide +kernel
theorem dX11_compareTo_62 : decode cX11_compareTo 62 = .ok (.istore_n 2, 1) := by decide +kernel
theorem dX11_compareTo_63 : decode cX11_compareTo 63 = .ok (.iinc 3 (-1), 3) := by decide +kernel
theorem dX11_compareTo_66 : decode cX11_compareTo 66 = .ok (.goto (-54), 3) := by decide +kernel
theorem dX11_compareTo_69 : decode cX11_compareTo 69 = .ok (.iload_n 2, 1) := by decide +kernel
theorem dX11_compareTo_70 : decode cX11_compareTo 70 = .ok (.ireturn, 1) := by decide +kernel
theorem dX11_trim_0 : decode cX11_trim 0 = .ok (.iload_n 1, 1) := by decide +kernel
theorem dX11_trim_1 : decode cX11_trim 1 = .ok (.istore_n 2, 1) := by decide +kernel
theorem dX11_trim_2 : decode cX11_trim 2 = .ok (.iload_n 2, 1) := by decide +kernel
theorem dX11_trim_3 : decode cX11_trim 3 = .ok (.ifCond .le 15, 3) := by decide +kernel
theorem dX11_trim_6 : decode cX11_trim 6 = .ok (.aload_n 0, 1) := by decide +kernel
theorem dX11_trim_7 : decode cX11_trim 7 = .ok (.iload_n 2, 1) := by decide +kernel
theorem dX11_trim_8 : decode cX11_trim 8 = .ok (.iaload, 1) := by decide +kernel
theorem dX11_trim_9 : decode cX11_trim 9 = .ok (.ifCond .ne 9, 3) := by decide +kernel
theorem dX11_trim_12 : decode cX11_trim 12 = .ok (.iinc 2 (-1), 3) := by decide +kernel
theorem dX11_trim_15 : decode cX11_trim 15 = .ok (.goto (-13), 3) := by decide +kernel
theorem dX11_trim_18 : decode cX11_trim 18 = .ok (.aload_n 0, 1) := by decide +kernel
theorem dX11_trim_19 : decode cX11_trim 19 = .ok (.iconst 0, 1) := by decide +kernel
theorem dX11_trim_20 : decode cX11_trim 20 = .ok (.iload_n 2, 1) := by decide +kernel
theorem dX11_trim_21 : decode cX11_trim 21 = .ok (.iastore, 1) := by decide +kernel
theorem dX11_trim_22 : decode cX11_trim 22 = .ok (.return_, 1) := by decide +kernel
set_option maxRecDepth 20000 in
theorem ggX11_times_X11_trim : GoodIn wsX11_times wsX11_trim := goodIn_r _ [5] (by decide +kernel) (by decide +kernel)
set_option maxRecDepth 20000 in
theorem gX11_times_X11_trim : GoodIn wsX11_times (va_wsS RX11 125 yX11_trim wsX11_trim) := goodIn_app (goodIn_of _ (by decide +kernel)) ggX11_times_X11_trim
theorem dX11_times_0 : decode cX11_times 0 = .ok (.aload_n 0, 1) := by decide +kernel
theorem dX11_times_1 : decode cX11_times 1 = .ok (.iconst 0, 1) := by decide +kernel
theorem dX11_times_2 : decode cX11_times 2 = .ok (.iaload, 1) := by decide +kernel
theorem dX11_times_3 : decode cX11_times 3 = .ok (.aload_n 1, 1) := by decide +kernel
theorem dX11_times_4 : decode cX11_times 4 = .ok (.iconst 0, 1) := by decide +kernel
theorem dX11_times_5 : decode cX11_times 5 = .ok (.iaload, 1) := by decide +kernel
theorem dX11_times_6 : decode cX11_times 6 = .ok (.iadd, 1) := by decide +kernel
theorem dX11_times_7 : decode cX11_times 7 = .ok (.istore_n 3, 1) := by decide +kernel
theorem dX11_times_8 : decode cX11_times 8 = .ok (.iconst 1, 1) := by decide +kernel
theorem dX11_times_9 : decode cX11_times 9 = .ok (.istore 4, 2) := by decide +kernel
theorem dX11_times_11 : decode cX11_times 11 = .ok (.iload 4, 2) := by decide +kernel
theorem dX11_times_13 : decode cX11_times 13 = .ok (.iload_n 3, 1) := by decide +kernel
theorem dX11_times_14 : decode cX11_times 14 = .ok (.if_icmp .gt 14, 3) := by decide +kernel
theorem dX11_times_17 : decode cX11_times 17 = .ok (.aload_n 2, 1) := by decide +kernel
theorem dX11_times_18 : decode cX11_times 18 = .ok (.iload 4, 2) := by decide +kernel
theorem dX11_times_20 : decode cX11_times 20 = .ok (.iconst 0, 1) := by decide +kernel
theorem dX11_times_21 : decode cX11_times 21 = .ok (.iastore, 1) := by decide +kernel
theorem dX11_times_22 : decode cX11_times 22 = .ok (.iinc 4 1, 3) := by decide +kernel
theorem dX11_times_25 : decode cX11_times 25 = .ok (.goto (-14), 3) := by decide +kernel
theorem dX11_times_28 : decode cX11_times 28 = .ok (.iconst 1, 1) := by decide +kernel
theorem dX11_times_29 : decode cX11_times 29 = .ok (.istore 4, 2) := by decide +kernel
theorem dX11_times_31 : decode cX11_times 31 = .ok (.iload 4, 2) := by decide +kernel
theorem dX11_times_33 : decode cX11_times 33 = .ok (.aload_n 0, 1) := by decide +kernel
theorem dX11_times_34 : decode cX11_times 34 = .ok (.iconst 0, 1) := by decide +kernel
theorem dX11_times_35 : decode cX11_times 35 = .ok (.iaload, 1) := by decide +kernel
theorem dX11_times_36 : decode cX11_times 36 = .ok (.if_icmp .gt 98, 3) := by decide +kernel
theorem dX11_times_39 : decode cX11_times 39 = .ok (.lconst 0, 1) := by decide +kernel
theorem dX11_times_40 : decode cX11_times 40 = .ok (.lstore 5, 2) := by decide +kernel
theorem dX11_times_42 : decode cX11_times 42 = .ok (.iconst 1, 1) := by decide +kernel
theorem dX11_times_43 : decode cX11_times 43 = .ok (.istore 7, 2) := by decide +kernel
theorem dX11_times_45 : decode cX11_times 45 = .ok (.iload 7, 2) := by decide +kernel
theorem dX11_times_47 : decode cX11_times 47 = .ok (.aload_n 1, 1) := by decide +kernel
theorem dX11_times_48 : decode cX11_times 48 = .ok (.iconst 0, 1) := by decide +kernel
theorem dX11_times_49 : decode cX11_times 49 = .ok (.iaload, 1) := by decide +kernel
theorem dX11_times_50 : decode cX11_times 50 = .ok (.if_icmp .gt 67, 3) := by decide +kernel
theorem dX11_times_53 : decode cX11_times 53 = .ok (.aload_n 0, 1) := by decide +kernel
theorem dX11_times_54 : decode cX11_times 54 = .ok (.iload 4, 2) := by decide +kernel
theorem dX11_times_56 : decode cX11_times 56 = .ok (.iaload, 1) := by decide +kernel
theorem dX11_times_57 : decode cX11_times 57 = .ok (.i2l, 1) := by decide +kernel
theorem dX11_times_58 : decode cX11_times 58 = .ok (.ldc2_w 123, 3) := by decide +kernel
theorem dX11_times_61 : decode cX11_times 61 = .ok (.land, 1) := by decide +kernel
theorem dX11_times_62 : decode cX11_times 62 = .ok (.aload_n 1, 1) := by decide +kernel
theorem dX11_times_63 : decode cX11_times 63 = .ok (.iload 7, 2) := by decide +kernel
theorem dX11_times_65 : decode cX11_times 65 = .ok (.iaload, 1) := by decide +kernel
theorem dX11_times_66 : decode cX11_times 66 = .ok (.i2l, 1) := by decide +kernel
theorem dX11_times_67 : decode cX11_times 67 = .ok (.ldc2_w 123, 3) := by decide +kernel
theorem dX11_times_70 : decode cX11_times 70 = .ok (.land, 1) := by decide +kernel
theorem dX11_times_71 : decode cX11_times 71 = .ok (.lmul, 1) := by decide +kernel
theorem dX11_times_72 : decode cX11_times 72 = .ok (.aload_n 2, 1) := by decide +kernel
theorem dX11_times_73 : decode cX11_times 73 = .ok (.iload 4, 2) := by decide +kernel
theorem dX11_times_75 : decode cX11_times 75 = .ok (.iload 7, 2) := by decide +kernel
theorem dX11_times_77 : decode cX11_times 77 = .ok (.iadd, 1) := by decide +kernel
theorem dX11_times_78 : decode cX11_times 78 = .ok (.iconst 1, 1) := by decide +kernel
theorem dX11_times_79 : decode cX11_times 79 = .ok (.isub, 1) := by decide +kernel
theorem dX11_times_80 : decode cX11_times 80 = .ok (.iaload, 1) := by decide +kernel
theorem dX11_times_81 : decode cX11_times 81 = .ok (.i2l, 1) := by decide +kernel
theorem dX11_times_82 : decode cX11_times 82 = .ok (.ldc2_w 123, 3) := by decide +kernel
theorem dX11_times_85 : decode cX11_times 85 = .ok (.land, 1) := by decide +kernel
theorem dX11_times_86 : decode cX11_times 86 = .ok (.ladd, 1) := by decide +kernel
theorem dX11_times_87 : decode cX11_times 87 = .ok (.lload 5, 2) := by decide +kernel
theorem dX11_times_89 : decode cX11_times 89 = .ok (.ladd, 1) := by decide +kernel
theorem dX11_times_90 : decode cX11_times 90 = .ok (.lstore 8, 2) := by decide +kernel
theorem dX11_times_92 : decode cX11_times 92 = .ok (.aload_n 2, 1) := by decide +kernel
theorem dX11_times_93 : decode cX11_times 93 = .ok (.iload 4, 2) := by decide +kernel
theorem dX11_times_95 : decode cX11_times 95 = .ok (.iload 7, 2) := by decide +kernel
theorem dX11_times_97 : decode cX11_times 97 = .ok (.iadd, 1) := by decide +kernel
theorem dX11_times_98 : decode cX11_times 98 = .ok (.iconst 1, 1) := by decide +kernel
theorem dX11_times_99 : decode cX11_times 99 = .ok (.isub, 1) := by decide +kernel
theorem dX11_times_100 : decode cX11_times 100 = .ok (.lload 8, 2) := by decide +kernel
theorem dX11_times_102 : decode cX11_times 102 = .ok (.l2i, 1) := by decide +kernel
theorem dX11_times_103 : decode cX11_times 103 = .ok (.iastore, 1) := by decide +kernel
theorem dX11_times_104 : decode cX11_times 104 = .ok (.lload 8, 2) := by decide +kernel
theorem dX11_times_106 : decode cX11_times 106 = .ok (.bipush 32, 2) := by decide +kernel
theorem dX11_times_108 : decode cX11_times 108 = .ok (.lushr, 1) := by decide +kernel
theorem dX11_times_109 : decode cX11_times 109 = .ok (.lstore 5, 2) := by decide +kernel
theorem dX11_times_111 : decode cX11_times 111 = .ok (.iinc 7 1, 3) := by decide +kernel
theorem dX11_times_114 : decode cX11_times 114 = .ok (.goto (-69), 3) := by decide +kernel
theorem dX11_times_117 : decode cX11_times 117 = .ok (.aload_n 2, 1) := by decide +kernel
theorem dX11_times_118 : decode cX11_times 118 = .ok (.iload 4, 2) := by decide +kernel
theorem dX11_times_120 : decode cX11_times 120 = .ok (.aload_n 1, 1) := by decide +kernel
theorem dX11_times_121 : decode cX11_times 121 = .ok (.iconst 0, 1) := by decide +kernel
theorem dX11_times_122 : decode cX11_times 122 = .ok (.iaload, 1) := by decide +kernel
theorem dX11_times_123 : decode cX11_times 123 = .ok (.iadd, 1) := by decide +kernel
theorem dX11_times_124 : decode cX11_times 124 = .ok (.lload 5, 2) := by decide +kernel
theorem dX11_times_126 : decode cX11_times 126 = .ok (.l2i, 1) := by decide +kernel
theorem dX11_times_127 : decode cX11_times 127 = .ok (.iastore, 1) := by decide +kernel
theorem dX11_times_128 : decode cX11_times 128 = .ok (.iinc 4 1, 3) := by decide +kernel
theorem dX11_times_131 : decode cX11_times 131 = .ok (.goto (-100), 3) := by decide +kernel
theorem dX11_times_134 : decode cX11_times 134 = .ok (.aload_n 2, 1) := by decide +kernel
theorem dX11_times_135 : decode cX11_times 135 = .ok (.iload_n 3, 1) := by decide +kernel
theorem dX11_times_136 : decode cX11_times 136 = .ok (.invokestatic 125, 3) := by decide +kernel
theorem dX11_times_139 : decode cX11_times 139 = .ok (.return_, 1) := by decide +kernel
set_option maxRecDepth 20000 in
theorem ggX11_plus_X11_trim : GoodIn wsX11_plus wsX11_trim := goodIn_r _ [5] (by decide +kernel) (by decide +kernel)
set_option maxRecDepth 20000 in
theorem gX11_plus_X11_trim : GoodIn wsX11_plus (va_wsS RX11 125 yX11_trim wsX11_trim) := goodIn_app (goodIn_of _ (by decide +kernel)) ggX11_plus_X11_trim
theorem dX11_plus_0 : decode cX11_plus 0 = .ok (.aload_n 0, 1) := by decide +kernel
theorem dX11_plus_1 : decode cX11_plus 1 = .ok (.iconst 0, 1) := by decide +kernel
theorem dX11_plus_2 : decode cX11_plus 2 = .ok (.iaload, 1) := by decide +kernel
theorem dX11_plus_3 : decode cX11_plus 3 = .ok (.aload_n 1, 1) := by decide +kernel
theorem dX11_plus_4 : decode cX11_plus 4 = .ok (.iconst 0, 1) := by decide +kernel
theorem dX11_plus_5 : decode cX11_plus 5 = .ok (.iaload, 1) := by decide +kernel
theorem dX11_plus_6 : decode cX11_plus 6 = .ok (.if_icmp .le 9, 3) := by decide +kernel
theorem dX11_plus_9 : decode cX11_plus 9 = .ok (.aload_n 0, 1) := by decide +kernel
theorem dX11_plus_10 : decode cX11_plus 10 = .ok (.iconst 0, 1) := by decide +kernel
theorem dX11_plus_11 : decode cX11_plus 11 = .ok (.iaload, 1) := by decide +kernel
theorem dX11_plus_12 : decode cX11_plus 12 = .ok (.goto 6, 3) := by decide +kernel
theorem dX11_plus_15 : decode cX11_plus 15 = .ok (.aload_n 1, 1) := by decide +kernel
theorem dX11_plus_16 : decode cX11_plus 16 = .ok (.iconst 0, 1) := by decide +kernel
theorem dX11_plus_17 : decode cX11_plus 17 = .ok (.iaload, 1) := by decide +kernel
theorem dX11_plus_18 : decode cX11_plus 18 = .ok (.istore_n 2, 1) := by decide +kernel
theorem dX11_plus_19 : decode cX11_plus 19 = .ok (.lconst 0, 1) := by decide +kernel
theorem dX11_plus_20 : decode cX11_plus 20 = .ok (.lstore_n 3, 1) := by decide +kernel
theorem dX11_plus_21 : decode cX11_plus 21 = .ok (.iconst 1, 1) := by decide +kernel
theorem dX11_plus_22 : decode cX11_plus 22 = .ok (.istore 5, 2) := by decide +kernel
theorem dX11_plus_24 : decode cX11_plus 24 = .ok (.iload 5, 2) := by decide +kernel
theorem dX11_plus_26 : decode cX11_plus 26 = .ok (.iload_n 2, 1) := by decide +kernel
theorem dX11_plus_27 : decode cX11_plus 27 = .ok (.if_icmp .gt 66, 3) := by decide +kernel
theorem dX11_plus_30 : decode cX11_plus 30 = .ok (.lload_n 3, 1) := by decide +kernel
theorem dX11_plus_31 : decode cX11_plus 31 = .ok (.iload 5, 2) := by decide +kernel
theorem dX11_plus_33 : decode cX11_plus 33 = .ok (.aload_n 0, 1) := by decide +kernel
theorem dX11_plus_34 : decode cX11_plus 34 = .ok (.iconst 0, 1) := by decide +kernel
theorem dX11_plus_35 : decode cX11_plus 35 = .ok (.iaload, 1) := by decide +kernel
theorem dX11_plus_36 : decode cX11_plus 36 = .ok (.if_icmp .gt 15, 3) := by decide +kernel
theorem dX11_plus_39 : decode cX11_plus 39 = .ok (.aload_n 0, 1) := by decide +kernel
theorem dX11_plus_40 : decode cX11_plus 40 = .ok (.iload 5, 2) := by decide +kernel
theorem dX11_plus_42 : decode cX11_plus 42 = .ok (.iaload, 1) := by decide +kernel
theorem dX11_plus_43 : decode cX11_plus 43 = .ok (.i2l, 1) := by decide +kernel
theorem dX11_plus_44 : decode cX11_plus 44 = .ok (.ldc2_w 123, 3) := by decide +kernel
theorem dX11_plus_47 : decode cX11_plus 47 = .ok (.land, 1) := by decide +kernel
theorem dX11_plus_48 : decode cX11_plus 48 = .ok (.goto 4, 3) := by decide +kernel
theorem dX11_plus_51 : decode cX11_plus 51 = .ok (.lconst 0, 1) := by decide +kernel
theorem dX11_plus_52 : decode cX11_plus 52 = .ok (.iload 5, 2) := by decide +kernel
theorem dX11_plus_54 : decode cX11_plus 54 = .ok (.aload_n 1, 1) := by decide +kernel
theorem dX11_plus_55 : decode cX11_plus 55 = .ok (.iconst 0, 1) := by decide +kernel
theorem dX11_plus_56 : decode cX11_plus 56 = .ok (.iaload, 1) := by decide +kernel
theorem dX11_plus_57 : decode cX11_plus 57 = .ok (.if_icmp .gt 15, 3) := by decide +kernel
theorem dX11_plus_60 : decode cX11_plus 60 = .ok (.aload_n 1, 1) := by decide +kernel
theorem dX11_plus_61 : decode cX11_plus 61 = .ok (.iload 5, 2) := by decide +kernel
theorem dX11_plus_63 : decode cX11_plus 63 = .ok (.iaload, 1) := by decide +kernel
theorem dX11_plus_64 : decode cX11_plus 64 = .ok (.i2l, 1) := by decide +kernel
theorem dX11_plus_65 : decode cX11_plus 65 = .ok (.ldc2_w 123, 3) := by decide +kernel
theorem dX11_plus_68 : decode cX11_plus 68 = .ok (.land, 1) := by decide +kernel
theorem dX11_plus_69 : decode cX11_plus 69 = .ok (.goto 4, 3) := by decide +kernel
theorem dX11_plus_72 : decode cX11_plus 72 = .ok (.lconst 0, 1) := by decide +kernel
theorem dX11_plus_73 : decode cX11_plus 73 = .ok (.ladd, 1) := by decide +kernel
theorem dX11_plus_74 : decode cX11_plus 74 = .ok (.ladd, 1) := by decide +kernel
theorem dX11_plus_75 : decode cX11_plus 75 = .ok (.lstore_n 3, 1) := by decide +kernel
theorem dX11_plus_76 : decode cX11_plus 76 = .ok (.aload_n 0, 1) := by decide +kernel
theorem dX11_plus_77 : decode cX11_plus 77 = .ok (.iload 5, 2) := by decide +kernel
theorem dX11_plus_79 : decode cX11_plus 79 = .ok (.lload_n 3, 1) := by decide +kernel
theorem dX11_plus_80 : decode cX11_plus 80 = .ok (.l2i, 1) := by decide +kernel
theorem dX11_plus_81 : decode cX11_plus 81 = .ok (.iastore, 1) := by decide +kernel
theorem dX11_plus_82 : decode cX11_plus 82 = .ok (.lload_n 3, 1) := by decide +kernel
theorem dX11_plus_83 : decode cX11_plus 83 = .ok (.bipush 32, 2) := by decide +kernel
theorem dX11_plus_85 : decode cX11_plus 85 = .ok (.lushr, 1) := by decide +kernel
theorem dX11_plus_86 : decode cX11_plus 86 = .ok (.lstore_n 3, 1) := by decide +kernel
theorem dX11_plus_87 : decode cX11_plus 87 = .ok (.iinc 5 1, 3) := by decide +kernel
theorem dX11_plus_90 : decode cX11_plus 90 = .ok (.goto (-66), 3) := by decide +kernel
theorem dX11_plus_93 : decode cX11_plus 93 = .ok (.aload_n 0, 1) := by decide +kernel
theorem dX11_plus_94 : decode cX11_plus 94 = .ok (.iload_n 2, 1) := by decide +kernel
theorem dX11_plus_95 : decode cX11_plus 95 = .ok (.iconst 1, 1) := by decide +kernel
theorem dX11_plus_96 : decode cX11_plus 96 = .ok (.iadd, 1) := by decide +kernel
theorem dX11_plus_97 : decode cX11_plus 97 = .ok (.lload_n 3, 1) := by decide +kernel
theorem dX11_plus_98 : decode cX11_plus 98 = .ok (.l2i, 1) := by decide +kernel
theorem dX11_plus_99 : decode cX11_plus 99 = .ok (.iastore, 1) := by decide +kernel
theorem dX11_plus_100 : decode cX11_plus 100 = .ok (.aload_n 0, 1) := by decide +kernel
theorem dX11_plus_101 : decode cX11_plus 101 = .ok (.iload_n 2, 1) := by decide +kernel
theorem dX11_plus_102 : decode cX11_plus 102 = .ok (.iconst 1, 1) := by decide +kernel
theorem dX11_plus_103 : decode cX11_plus 103 = .ok (.iadd, 1) := by decide +kernel
theorem dX11_plus_104 : decode cX11_plus 104 = .ok (.invokestatic 125, 3) := by decide +kernel
theorem dX11_plus_107 : decode cX11_plus 107 = .ok (.return_, 1) := by decide +kernel
set_option maxRecDepth 20000 in
theorem ggX11_less_X11_trim : GoodIn wsX11_less wsX11_trim := goodIn_r _ [5] (by decide +kernel) (by decide +kernel)
set_option maxRecDepth 20000 in
theorem gX11_less_X11_trim : GoodIn wsX11_less (va_wsS RX11 125 yX11_trim wsX11_trim) := goodIn_app (goodIn_of _ (by decide +kernel)) ggX11_less_X11_trim
theorem dX11_less_0 : decode cX11_less 0 = .ok (.lconst 0, 1) := by decide +kernel
theorem dX11_less_1 : decode cX11_less 1 = .ok (.lstore_n 2, 1) := by decide +kernel
theorem dX11_less_2 : decode cX11_less 2 = .ok (.iconst 1, 1) := by decide +kernel
theorem dX11_less_3 : decode cX11_less 3 = .ok (.istore 4, 2) := by decide +kernel
theorem dX11_less_5 : decode cX11_less 5 = .ok (.iload 4, 2) := by decide +kernel
theorem dX11_less_7 : decode cX11_less 7 = .ok (.aload_n 0, 1) := by decide +kernel
theorem dX11_less_8 : decode cX11_less 8 = .ok (.iconst 0, 1) := by decide +kernel
theorem dX11_less_9 : decode cX11_less 9 = .ok (.iaload, 1) := by decide +kernel
theorem dX11_less_10 : decode cX11_less 10 = .ok (.if_icmp .gt 64, 3) := by decide +kernel
theorem dX11_less_13 : decode cX11_less 13 = .ok (.aload_n 0, 1) := by decide +kernel
theorem dX11_less_14 : decode cX11_less 14 = .ok (.iload 4, 2) := by decide +kernel
theorem dX11_less_16 : decode cX11_less 16 = .ok (.iaload, 1) := by decide +kernel
theorem dX11_less_17 : decode cX11_less 17 = .ok (.i2l, 1) := by decide +kernel
theorem dX11_less_18 : decode cX11_less 18 = .ok (.ldc2_w 123, 3) := by decide +kernel
theorem dX11_less_21 : decode cX11_less 21 = .ok (.land, 1) := by decide +kernel
theorem dX11_less_22 : decode cX11_less 22 = .ok (.iload 4, 2) := by decide +kernel
theorem dX11_less_24 : decode cX11_less 24 = .ok (.aload_n 1, 1) := by decide +kernel
theorem dX11_less_25 : decode cX11_less 25 = .ok (.iconst 0, 1) := by decide +kernel
theorem dX11_less_26 : decode cX11_less 26 = .ok (.iaload, 1) := by decide +kernel
theorem dX11_less_27 : decode cX11_less 27 = .ok (.if_icmp .gt 15, 3) := by decide +kernel
theorem dX11_less_30 : decode cX11_less 30 = .ok (.aload_n 1, 1) := by decide +kernel
theorem dX11_less_31 : decode cX11_less 31 = .ok (.iload 4, 2) := by decide +kernel
theorem dX11_less_33 : decode cX11_less 33 = .ok (.iaload, 1) := by decide +kernel
theorem dX11_less_34 : decode cX11_less 34 = .ok (.i2l, 1) := by decide +kernel
theorem dX11_less_35 : decode cX11_less 35 = .ok (.ldc2_w 123, 3) := by decide +kernel
theorem dX11_less_38 : decode cX11_less 38 = .ok (.land, 1) := by decide +kernel
theorem dX11_less_39 : decode cX11_less 39 = .ok (.goto 4, 3) := by decide +kernel
theorem dX11_less_42 : decode cX11_less 42 = .ok (.lconst 0, 1) := by decide +kernel
theorem dX11_less_43 : decode cX11_less 43 = .ok (.lsub, 1) := by decide +kernel
theorem dX11_less_44 : decode cX11_less 44 = .ok (.lload_n 2, 1) := by decide +kernel
theorem dX11_less_45 : decode cX11_less 45 = .ok (.lsub, 1) := by decide +kernel
theorem dX11_less_46 : decode cX11_less 46 = .ok (.lstore 5, 2) := by decide +kernel
theorem dX11_less_48 : decode cX11_less 48 = .ok (.aload_n 0, 1) := by decide +kernel
theorem dX11_less_49 : decode cX11_less 49 = .ok (.iload 4, 2) := by decide +kernel
theorem dX11_less_51 : decode cX11_less 51 = .ok (.lload 5, 2) := by decide +kernel
theorem dX11_less_53 : decode cX11_less 53 = .ok (.l2i, 1) := by decide +kernel
theorem dX11_less_54 : decode cX11_less 54 = .ok (.iastore, 1) := by decide +kernel
theorem dX11_less_55 : decode cX11_less 55 = .ok (.lload 5, 2) := by decide +kernel
theorem dX11_less_57 : decode cX11_less 57 = .ok (.lconst 0, 1) := by decide +kernel
theorem dX11_less_58 : decode cX11_less 58 = .ok (.lcmp, 1) := by decide +kernel
theorem dX11_less_59 : decode cX11_less 59 = .ok (.ifCond .ge 7, 3) := by decide +kernel
theorem dX11_less_62 : decode cX11_less 62 = .ok (.lconst 1, 1) := by decide +kernel
theorem dX11_less_63 : decode cX11_less 63 = .ok (.goto 4, 3) := by decide +kernel
theorem dX11_less_66 : decode cX11_less 66 = .ok (.lconst 0, 1) := by decide +kernel
theorem dX11_less_67 : decode cX11_less 67 = .ok (.lstore_n 2, 1) := by decide +kernel
theorem dX11_less_68 : decode cX11_less 68 = .ok (.iinc 4 1, 3) := by decide +kernel
theorem dX11_less_71 : decode cX11_less 71 = .ok (.goto (-66), 3) := by decide +kernel
theorem dX11_less_74 : decode cX11_less 74 = .ok (.aload_n 0, 1) := by decide +kernel
theorem dX11_less_75 : decode cX11_less 75 = .ok (.aload_n 0, 1) := by decide +kernel
theorem dX11_less_76 : decode cX11_less 76 = .ok (.iconst 0, 1) := by decide +kernel
theorem dX11_less_77 : decode cX11_less 77 = .ok (.iaload, 1) := by decide +kernel
theorem dX11_less_78 : decode cX11_less 78 = .ok (.invokestatic 125, 3) := by decide +kernel
theorem dX11_less_81 : decode cX11_less 81 = .ok (.return_, 1) := by decide +kernel
set_option maxRecDepth 20000 in
theorem ggX11_halve_X11_trim : GoodIn wsX11_halve wsX11_trim := goodIn_r _ [4] (by decide +kernel) (by decide +kernel)
set_option maxRecDepth 20000 in
theorem gX11_halve_X11_trim : GoodIn wsX11_halve (va_wsS RX11 125 yX11_trim wsX11_trim) := goodIn_app (goodIn_of _ (by decide +kernel)) ggX11_halve_X11_trim
theorem dX11_halve_0 : decode cX11_halve 0 = .ok (.iconst 1, 1) := by decide +kernel
theorem dX11_halve_1 : decode cX11_halve 1 = .ok (.istore_n 1, 1) := by decide +kernel
theorem dX11_halve_2 : decode cX11_halve 2 = .ok (.iload_n 1, 1) := by decide +kernel
theorem dX11_halve_3 : decode cX11_halve 3 = .ok (.aload_n 0, 1) := by decide +kernel
theorem dX11_halve_4 : decode cX11_halve 4 = .ok (.iconst 0, 1) := by decide +kernel
theorem dX11_halve_5 : decode cX11_halve 5 = .ok (.iaload, 1) := by decide +kernel
theorem dX11_halve_6 : decode cX11_halve 6 = .ok (.if_icmp .gt 37, 3) := by decide +kernel
theorem dX11_halve_9 : decode cX11_halve 9 = .ok (.aload_n 0, 1) := by decide +kernel
theorem dX11_halve_10 : decode cX11_halve 10 = .ok (.iload_n 1, 1) := by decide +kernel
theorem dX11_halve_11 : decode cX11_halve 11 = .ok (.aload_n 0, 1) := by decide +kernel
theorem dX11_halve_12 : decode cX11_halve 12 = .ok (.iload_n 1, 1) := by decide +kernel
theorem dX11_halve_13 : decode cX11_halve 13 = .ok (.iaload, 1) := by decide +kernel
theorem dX11_halve_14 : decode cX11_halve 14 = .ok (.iconst 1, 1) := by decide +kernel
theorem dX11_halve_15 : decode cX11_halve 15 = .ok (.iushr, 1) := by decide +kernel
theorem dX11_halve_16 : decode cX11_halve 16 = .ok (.iload_n 1, 1) := by decide +kernel
theorem dX11_halve_17 : decode cX11_halve 17 = .ok (.aload_n 0, 1) := by decide +kernel
theorem dX11_halve_18 : decode cX11_halve 18 = .ok (.iconst 0, 1) := by decide +kernel
theorem dX11_halve_19 : decode cX11_halve 19 = .ok (.iaload, 1) := by decide +kernel
theorem dX11_halve_20 : decode cX11_halve 20 = .ok (.if_icmp .ge 14, 3) := by decide +kernel
theorem dX11_halve_23 : decode cX11_halve 23 = .ok (.aload_n 0, 1) := by decide +kernel
theorem dX11_halve_24 : decode cX11_halve 24 = .ok (.iload_n 1, 1) := by decide +kernel
theorem dX11_halve_25 : decode cX11_halve 25 = .ok (.iconst 1, 1) := by decide +kernel
theorem dX11_halve_26 : decode cX11_halve 26 = .ok (.iadd, 1) := by decide +kernel
theorem dX11_halve_27 : decode cX11_halve 27 = .ok (.iaload, 1) := by decide +kernel
theorem dX11_halve_28 : decode cX11_halve 28 = .ok (.bipush 31, 2) := by decide +kernel
theorem dX11_halve_30 : decode cX11_halve 30 = .ok (.ishl, 1) := by decide +kernel
theorem dX11_halve_31 : decode cX11_halve 31 = .ok (.goto 4, 3) := by decide +kernel
theorem dX11_halve_34 : decode cX11_halve 34 = .ok (.iconst 0, 1) := by decide +kernel
theorem dX11_halve_35 : decode cX11_halve 35 = .ok (.ior, 1) := by decide +kernel
theorem dX11_halve_36 : decode cX11_halve 36 = .ok (.iastore, 1) := by decide +kernel
theorem dX11_halve_37 : decode cX11_halve 37 = .ok (.iinc 1 1, 3) := by decide +kernel
theorem dX11_halve_40 : decode cX11_halve 40 = .ok (.goto (-38), 3) := by decide +kernel
theorem dX11_halve_43 : decode cX11_halve 43 = .ok (.aload_n 0, 1) := by decide +kernel
theorem dX11_halve_44 : decode cX11_halve 44 = .ok (.aload_n 0, 1) := by decide +kernel
theorem dX11_halve_45 : decode cX11_halve 45 = .ok (.iconst 0, 1) := by decide +kernel
theorem dX11_halve_46 : decode cX11_halve 46 = .ok (.iaload, 1) := by decide +kernel
theorem dX11_halve_47 : decode cX11_halve 47 = .ok (.invokestatic 125, 3) := by decide +kernel
theorem dX11_halve_50 : decode cX11_halve 50 = .ok (.return_, 1) := by decide +kernel
set_option maxRecDepth 20000 in
theorem ggX11_twice_X11_trim : GoodIn wsX11_twice wsX11_trim := goodIn_r _ [4] (by decide +kernel) (by decide +kernel)
set_option maxRecDepth 20000 in
theorem gX11_twice_X11_trim : GoodIn wsX11_twice (va_wsS RX11 125 yX11_trim wsX11_trim) := goodIn_app (goodIn_of _ (by decide +kernel)) ggX11_twice_X11_trim
theorem dX11_twice_0 : decode cX11_twice 0 = .ok (.iload_n 1, 1) := by decide +kernel
theorem dX11_twice_1 : decode cX11_twice 1 = .ok (.istore_n 2, 1) := by decide +kernel
theorem dX11_twice_2 : decode cX11_twice 2 = .ok (.iconst 1, 1) := by decide +kernel
theorem dX11_twice_3 : decode cX11_twice 3 = .ok (.istore_n 3, 1) := by decide +kernel
theorem dX11_twice_4 : decode cX11_twice 4 = .ok (.iload_n 3, 1) := by decide +kernel
theorem dX11_twice_5 : decode cX11_twice 5 = .ok (.aload_n 0, 1) := by decide +kernel
theorem dX11_twice_6 : decode cX11_twice 6 = .ok (.iconst 0, 1) := by decide +kernel
theorem dX11_twice_7 : decode cX11_twice 7 = .ok (.iaload, 1) := by decide +kernel
theorem dX11_twice_8 : decode cX11_twice 8 = .ok (.if_icmp .gt 30, 3) := by decide +kernel
theorem dX11_twice_11 : decode cX11_twice 11 = .ok (.aload_n 0, 1) := by decide +kernel
theorem dX11_twice_12 : decode cX11_twice 12 = .ok (.iload_n 3, 1) := by decide +kernel
theorem dX11_twice_13 : decode cX11_twice 13 = .ok (.iaload, 1) := by decide +kernel
theorem dX11_twice_14 : decode cX11_twice 14 = .ok (.bipush 31, 2) := by decide +kernel
theorem dX11_twice_16 : decode cX11_twice 16 = .ok (.iushr, 1) := by decide +kernel
theorem dX11_twice_17 : decode cX11_twice 17 = .ok (.istore 4, 2) := by decide +kernel
theorem dX11_twice_19 : decode cX11_twice 19 = .ok (.aload_n 0, 1) := by decide +kernel
theorem dX11_twice_20 : decode cX11_twice 20 = .ok (.iload_n 3, 1) := by decide +kernel
theorem dX11_twice_21 : decode cX11_twice 21 = .ok (.aload_n 0, 1) := by decide +kernel
theorem dX11_twice_22 : decode cX11_twice 22 = .ok (.iload_n 3, 1) := by decide +kernel
theorem dX11_twice_23 : decode cX11_twice 23 = .ok (.iaload, 1) := by decide +kernel
theorem dX11_twice_24 : decode cX11_twice 24 = .ok (.iconst 1, 1) := by decide +kernel
theorem dX11_twice_25 : decode cX11_twice 25 = .ok (.ishl, 1) := by decide +kernel
theorem dX11_twice_26 : decode cX11_twice 26 = .ok (.iload_n 2, 1) := by decide +kernel
theorem dX11_twice_27 : decode cX11_twice 27 = .ok (.ior, 1) := by decide +kernel
theorem dX11_twice_28 : decode cX11_twice 28 = .ok (.iastore, 1) := by decide +kernel
theorem dX11_twice_29 : decode cX11_twice 29 = .ok (.iload 4, 2) := by decide +kernel
theorem dX11_twice_31 : decode cX11_twice 31 = .ok (.istore_n 2, 1) := by decide +kernel
theorem dX11_twice_32 : decode cX11_twice 32 = .ok (.iinc 3 1, 3) := by decide +kernel
theorem dX11_twice_35 : decode cX11_twice 35 = .ok (.goto (-31), 3) := by decide +kernel
theorem dX11_twice_38 : decode cX11_twice 38 = .ok (.aload_n 0, 1) := by decide +kernel
theorem dX11_twice_39 : decode cX11_twice 39 = .ok (.aload_n 0, 1) := by decide +kernel
theorem dX11_twice_40 : decode cX11_twice 40 = .ok (.iconst 0, 1) := by decide +kernel
theorem dX11_twice_41 : decode cX11_twice 41 = .ok (.iaload, 1) := by decide +kernel
theorem dX11_twice_42 : decode cX11_twice 42 = .ok (.iconst 1, 1) := by decide +kernel
theorem dX11_twice_43 : decode cX11_twice 43 = .ok (.iadd, 1) := by decide +kernel
theorem dX11_twice_44 : decode cX11_twice 44 = .ok (.iload_n 2, 1) := by decide +kernel
theorem dX11_twice_45 : decode cX11_twice 45 = .ok (.iastore, 1) := by decide +kernel
theorem dX11_twice_46 : decode cX11_twice 46 = .ok (.aload_n 0, 1) := by decide +kernel
theorem dX11_twice_47 : decode cX11_twice 47 = .ok (.aload_n 0, 1) := by decide +kernel
theorem dX11_twice_48 : decode cX11_twice 48 = .ok (.iconst 0, 1) := by decide +kernel
theorem dX11_twice_49 : decode cX11_twice 49 = .ok (.iaload, 1) := by decide +kernel
theorem dX11_twice_50 : decode cX11_twice 50 = .ok (.iconst 1, 1) := by decide +kernel
theorem dX11_twice_51 : decode cX11_twice 51 = .ok (.iadd, 1) := by decide +kernel
theorem dX11_twice_52 : decode cX11_twice 52 = .ok (.invokestatic 125, 3) := by decide +kernel
theorem dX11_twice_55 : decode cX11_twice 55 = .ok (.return_, 1) := by decide +kernel
theorem dX11_isEven_0 : decode cX11_isEven 0 = .ok (.aload_n 0, 1) := by decide +kernel
theorem dX11_isEven_1 : decode cX11_isEven 1 = .ok (.iconst 1, 1) := by decide +kernel
theorem dX11_isEven_2 : decode cX11_isEven 2 = .ok (.iaload, 1) := by decide +kernel
theorem dX11_isEven_3 : decode cX11_isEven 3 = .ok (.iconst 1, 1) := by decide +kernel
theorem dX11_isEven_4 : decode cX11_isEven 4 = .ok (.iand, 1) := by decide +kernel
theorem dX11_isEven_5 : decode cX11_isEven 5 = .ok (.ifCond .ne 7, 3) := by decide +kernel
theorem dX11_isEven_8 : decode cX11_isEven 8 = .ok (.iconst 1, 1) := by decide +kernel
theorem dX11_isEven_9 : decode cX11_isEven 9 = .ok (.goto 4, 3) := by decide +kernel
theorem dX11_isEven_12 : decode cX11_isEven 12 = .ok (.iconst 0, 1) := by decide +kernel
theorem dX11_isEven_13 : decode cX11_isEven 13 = .ok (.ireturn, 1) := by decide +kernel
set_option maxRecDepth 20000 in
theorem ggX11_common_X11_copy : GoodIn wsX11_common wsX11_copy := goodIn_r _ [7] (by decide +kernel) (by decide +kernel)
set_option maxRecDepth 20000 in
theorem gX11_common_X11_copy : GoodIn wsX11_common (va_wsS RX11 129 yX11_copy wsX11_copy) := goodIn_app (goodIn_of _ (by decide +kernel)) ggX11_common_X11_copy
set_option maxRecDepth 20000 in
theorem ggX11_common_X11_isEven : GoodIn wsX11_common wsX11_isEven := goodIn_r _ [10] (by decide +kernel) (by decide +kernel)
set_option maxRecDepth 20000 in
theorem gX11_common_X11_isEven : GoodIn wsX11_common (va_wsS RX11 133 yX11_isEven wsX11_isEven) := goodIn_app (goodIn_of _ (by decide +kernel)) ggX11_common_X11_isEven
set_option maxRecDepth 20000 in
theorem ggX11_common_X11_halve : GoodIn wsX11_common wsX11_halve := goodIn_r _ [13, 14, 15, 6, 16] (by decide +kernel) (by decide +kernel)
set_option maxRecDepth 20000 in
theorem gX11_common_X11_halve : GoodIn wsX11_common (va_wsS RX11 137 yX11_halve wsX11_halve) := goodIn_app (goodIn_of _ (by decide +kernel)) ggX11_common_X11_halve
set_option maxRecDepth 20000 in
theorem ggX11_common_X11_compareTo : GoodIn wsX11_common wsX11_compareTo := goodIn_r _ [19, 20] (by decide +kernel) (by decide +kernel)
set_option maxRecDepth 20000 in
theorem gX11_common_X11_compareTo : GoodIn wsX11_common (va_wsS RX11 141 yX11_compareTo wsX11_compareTo) := goodIn_app (goodIn_of _ (by decide +kernel)) ggX11_common_X11_compareTo
set_option maxRecDepth 20000 in
theorem ggX11_common_X11_less : GoodIn wsX11_common wsX11_less := goodIn_r _ [23, 20, 14, 15, 6, 16] (by decide +kernel) (by decide +kernel)
set_option maxRecDepth 20000 in
theorem gX11_common_X11_less : GoodIn wsX11_common (va_wsS RX11 145 yX11_less wsX11_less) := goodIn_app (goodIn_of _ (by decide +kernel)) ggX11_common_X11_less
set_option maxRecDepth 20000 in
theorem ggX11_common_X11_twice : GoodIn wsX11_common wsX11_twice := goodIn_r _ [26, 14, 15, 6, 16] (by decide +kernel) (by decide +kernel)
set_option maxRecDepth 20000 in
theorem gX11_common_X11_twice : GoodIn wsX11_common (va_wsS RX11 148 yX11_twice wsX11_twice) := goodIn_app (goodIn_of _ (by decide +kernel)) ggX11_common_X11_twice
theorem dX11_common_0 : decode cX11_common 0 = .ok (.aload_n 1, 1) := by decide +kernel
theorem dX11_common_1 : decode cX11_common 1 = .ok (.aload_n 0, 1) := by decide +kernel
theorem dX11_common_2 : decode cX11_common 2 = .ok (.getfield 23, 3) := by decide +kernel
theorem dX11_common_5 : decode cX11_common 5 = .ok (.invokestatic 129, 3) := by decide +kernel
theorem dX11_common_8 : decode cX11_common 8 = .ok (.aload_n 2, 1) := by decide +kernel
theorem dX11_common_9 : decode cX11_common 9 = .ok (.aload_n 0, 1) := by decide +kernel
theorem dX11_common_10 : decode cX11_common 10 = .ok (.getfield 26, 3) := by decide +kernel
theorem dX11_common_13 : decode cX11_common 13 = .ok (.invokestatic 129, 3) := by decide +kernel
theorem dX11_common_16 : decode cX11_common 16 = .ok (.iconst 0, 1) := by decide +kernel
theorem dX11_common_17 : decode cX11_common 17 = .ok (.istore_n 3, 1) := by decide +kernel
theorem dX11_common_18 : decode cX11_common 18 = .ok (.aload_n 0, 1) := by decide +kernel
theorem dX11_common_19 : decode cX11_common 19 = .ok (.getfield 23, 3) := by decide +kernel
theorem dX11_common_22 : decode cX11_common 22 = .ok (.invokestatic 133, 3) := by decide +kernel
theorem dX11_common_25 : decode cX11_common 25 = .ok (.ifCond .eq 33, 3) := by decide +kernel
theorem dX11_common_28 : decode cX11_common 28 = .ok (.aload_n 0, 1) := by decide +kernel
theorem dX11_common_29 : decode cX11_common 29 = .ok (.getfield 26, 3) := by decide +kernel
theorem dX11_common_32 : decode cX11_common 32 = .ok (.invokestatic 133, 3) := by decide +kernel
theorem dX11_common_35 : decode cX11_common 35 = .ok (.ifCond .eq 23, 3) := by decide +kernel
theorem dX11_common_38 : decode cX11_common 38 = .ok (.aload_n 0, 1) := by decide +kernel
theorem dX11_common_39 : decode cX11_common 39 = .ok (.getfield 23, 3) := by decide +kernel
theorem dX11_common_42 : decode cX11_common 42 = .ok (.invokestatic 137, 3) := by decide +kernel
theorem dX11_common_45 : decode cX11_common 45 = .ok (.aload_n 0, 1) := by decide +kernel
theorem dX11_common_46 : decode cX11_common 46 = .ok (.getfield 26, 3) := by decide +kernel
theorem dX11_common_49 : decode cX11_common 49 = .ok (.invokestatic 137, 3) := by decide +kernel
theorem dX11_common_52 : decode cX11_common 52 = .ok (.iinc 3 1, 3) := by decide +kernel
theorem dX11_common_55 : decode cX11_common 55 = .ok (.goto (-37), 3) := by decide +kernel
theorem dX11_common_58 : decode cX11_common 58 = .ok (.aload_n 0, 1) := by decide +kernel
theorem dX11_common_59 : decode cX11_common 59 = .ok (.getfield 26, 3) := by decide +kernel
theorem dX11_common_62 : decode cX11_common 62 = .ok (.iconst 0, 1) := by decide +kernel
theorem dX11_common_63 : decode cX11_common 63 = .ok (.iaload, 1) := by decide +kernel
theorem dX11_common_64 : decode cX11_common 64 = .ok (.ifCond .le 104, 3) := by decide +kernel
theorem dX11_common_67 : decode cX11_common 67 = .ok (.aload_n 0, 1) := by decide +kernel
theorem dX11_common_68 : decode cX11_common 68 = .ok (.getfield 23, 3) := by decide +kernel
theorem dX11_common_71 : decode cX11_common 71 = .ok (.invokestatic 133, 3) := by decide +kernel
theorem dX11_common_74 : decode cX11_common 74 = .ok (.ifCond .eq 13, 3) := by decide +kernel
theorem dX11_common_77 : decode cX11_common 77 = .ok (.aload_n 0, 1) := by decide +kernel
theorem dX11_common_78 : decode cX11_common 78 = .ok (.getfield 23, 3) := by decide +kernel
theorem dX11_common_81 : decode cX11_common 81 = .ok (.invokestatic 137, 3) := by decide +kernel
theorem dX11_common_84 : decode cX11_common 84 = .ok (.goto (-17), 3) := by decide +kernel
theorem dX11_common_87 : decode cX11_common 87 = .ok (.aload_n 0, 1) := by decide +kernel
theorem dX11_common_88 : decode cX11_common 88 = .ok (.getfield 26, 3) := by decide +kernel
theorem dX11_common_91 : decode cX11_common 91 = .ok (.invokestatic 133, 3) := by decide +kernel
theorem dX11_common_94 : decode cX11_common 94 = .ok (.ifCond .eq 13, 3) := by decide +kernel
theorem dX11_common_97 : decode cX11_common 97 = .ok (.aload_n 0, 1) := by decide +kernel
theorem dX11_common_98 : decode cX11_common 98 = .ok (.getfield 26, 3) := by decide +kernel
theorem dX11_common_101 : decode cX11_common 101 = .ok (.invokestatic 137, 3) := by decide +kernel
theorem dX11_common_104 : decode cX11_common 104 = .ok (.goto (-17), 3) := by decide +kernel
theorem dX11_common_107 : decode cX11_common 107 = .ok (.aload_n 0, 1) := by decide +kernel
theorem dX11_common_108 : decode cX11_common 108 = .ok (.getfield 23, 3) := by decide +kernel
theorem dX11_common_111 : decode cX11_common 111 = .ok (.aload_n 0, 1) := by decide +kernel
theorem dX11_common_112 : decode cX11_common 112 = .ok (.getfield 26, 3) := by decide +kernel
theorem dX11_common_115 : decode cX11_common 115 = .ok (.invokestatic 141, 3) := by decide +kernel
theorem dX11_common_118 : decode cX11_common 118 = .ok (.ifCond .le 36, 3) := by decide +kernel
theorem dX11_common_121 : decode cX11_common 121 = .ok (.aload_n 0, 1) := by decide +kernel
theorem dX11_common_122 : decode cX11_common 122 = .ok (.getfield 23, 3) := by decide +kernel
theorem dX11_common_125 : decode cX11_common 125 = .ok (.aload_n 0, 1) := by decide +kernel
theorem dX11_common_126 : decode cX11_common 126 = .ok (.getfield 29, 3) := by decide +kernel
theorem dX11_common_129 : decode cX11_common 129 = .ok (.invokestatic 129, 3) := by decide +kernel
theorem dX11_common_132 : decode cX11_common 132 = .ok (.aload_n 0, 1) := by decide +kernel
theorem dX11_common_133 : decode cX11_common 133 = .ok (.getfield 26, 3) := by decide +kernel
theorem dX11_common_136 : decode cX11_common 136 = .ok (.aload_n 0, 1) := by decide +kernel
theorem dX11_common_137 : decode cX11_common 137 = .ok (.getfield 23, 3) := by decide +kernel
theorem dX11_common_140 : decode cX11_common 140 = .ok (.invokestatic 129, 3) := by decide +kernel
theorem dX11_common_143 : decode cX11_common 143 = .ok (.aload_n 0, 1) := by decide +kernel
theorem dX11_common_144 : decode cX11_common 144 = .ok (.getfield 29, 3) := by decide +kernel
theorem dX11_common_147 : decode cX11_common 147 = .ok (.aload_n 0, 1) := by decide +kernel
theorem dX11_common_148 : decode cX11_common 148 = .ok (.getfield 26, 3) := by decide +kernel
theorem dX11_common_151 : decode cX11_common 151 = .ok (.invokestatic 129, 3) := by decide +kernel
theorem dX11_common_154 : decode cX11_common 154 = .ok (.aload_n 0, 1) := by decide +kernel
theorem dX11_common_155 : decode cX11_common 155 = .ok (.getfield 26, 3) := by decide +kernel
theorem dX11_common_158 : decode cX11_common 158 = .ok (.aload_n 0, 1) := by decide +kernel
theorem dX11_common_159 : decode cX11_common 159 = .ok (.getfield 23, 3) := by decide +kernel
theorem dX11_common_162 : decode cX11_common 162 = .ok (.invokestatic 145, 3) := by decide +kernel
theorem dX11_common_165 : decode cX11_common 165 = .ok (.goto (-107), 3) := by decide +kernel
theorem dX11_common_168 : decode cX11_common 168 = .ok (.iconst 0, 1) := by decide +kernel
theorem dX11_common_169 : decode cX11_common 169 = .ok (.istore 4, 2) := by decide +kernel
theorem dX11_common_171 : decode cX11_common 171 = .ok (.iload 4, 2) := by decide +kernel
theorem dX11_common_173 : decode cX11_common 173 = .ok (.iload_n 3, 1) := by decide +kernel
theorem dX11_common_174 : decode cX11_common 174 = .ok (.if_icmp .ge 17, 3) := by decide +kernel
theorem dX11_common_177 : decode cX11_common 177 = .ok (.aload_n 0, 1) := by decide +kernel
theorem dX11_common_178 : decode cX11_common 178 = .ok (.getfield 23, 3) := by decide +kernel
theorem dX11_common_181 : decode cX11_common 181 = .ok (.iconst 0, 1) := by decide +kernel
theorem dX11_common_182 : decode cX11_common 182 = .ok (.invokestatic 148, 3) := by decide +kernel
theorem dX11_common_185 : decode cX11_common 185 = .ok (.iinc 4 1, 3) := by decide +kernel
theorem dX11_common_188 : decode cX11_common 188 = .ok (.goto (-17), 3) := by decide +kernel
theorem dX11_common_191 : decode cX11_common 191 = .ok (.return_, 1) := by decide +kernel
set_option maxRecDepth 20000 in
theorem ggX11_divide_X11_twice : GoodIn wsX11_divide wsX11_twice := goodIn_r _ [6, 7, 8, 5, 9] (by decide +kernel) (by decide +kernel)
set_option maxRecDepth 20000 in
theorem gX11_divide_X11_twice : GoodIn wsX11_divide (va_wsS RX11 148 yX11_twice wsX11_twice) := goodIn_app (goodIn_of _ (by decide +kernel)) ggX11_divide_X11_twice
set_option maxRecDepth 20000 in
theorem ggX11_divide_X11_compareTo : GoodIn wsX11_divide wsX11_compareTo := goodIn_r _ [12, 13] (by decide +kernel) (by decide +kernel)
set_option maxRecDepth 20000 in
theorem gX11_divide_X11_compareTo : GoodIn wsX11_divide (va_wsS RX11 141 yX11_compareTo wsX11_compareTo) := goodIn_app (goodIn_of _ (by decide +kernel)) ggX11_divide_X11_compareTo
set_option maxRecDepth 20000 in
theorem ggX11_divide_X11_less : GoodIn wsX11_divide wsX11_less := goodIn_r _ [16, 13, 7, 8, 5, 9] (by decide +kernel) (by decide +kernel)
set_option maxRecDepth 20000 in
theorem gX11_divide_X11_less : GoodIn wsX11_divide (va_wsS RX11 145 yX11_less wsX11_less) := goodIn_app (goodIn_of _ (by decide +kernel)) ggX11_divide_X11_less
set_option maxRecDepth 20000 in
theorem ggX11_divide_X11_trim : GoodIn wsX11_divide wsX11_trim := goodIn_r _ [9] (by decide +kernel) (by decide +kernel)
set_option maxRecDepth 20000 in
theorem gX11_divide_X11_trim : GoodIn wsX11_divide (va_wsS RX11 125 yX11_trim wsX11_trim) := goodIn_app (goodIn_of _ (by decide +kernel)) ggX11_divide_X11_trim
theorem dX11_divide_0 : decode cX11_divide 0 = .ok (.aload_n 0, 1) := by decide +kernel
theorem dX11_divide_1 : decode cX11_divide 1 = .ok (.getfield 29, 3) := by decide +kernel
theorem dX11_divide_4 : decode cX11_divide 4 = .ok (.iconst 0, 1) := by decide +kernel
theorem dX11_divide_5 : decode cX11_divide 5 = .ok (.iconst 0, 1) := by decide +kernel
theorem dX11_divide_6 : decode cX11_divide 6 = .ok (.iastore, 1) := by decide +kernel
theorem dX11_divide_7 : decode cX11_divide 7 = .ok (.aload_n 1, 1) := by decide +kernel
theorem dX11_divide_8 : decode cX11_divide 8 = .ok (.iconst 0, 1) := by decide +kernel
theorem dX11_divide_9 : decode cX11_divide 9 = .ok (.iaload, 1) := by decide +kernel
theorem dX11_divide_10 : decode cX11_divide 10 = .ok (.istore_n 2, 1) := by decide +kernel
theorem dX11_divide_11 : decode cX11_divide 11 = .ok (.iload_n 2, 1) := by decide +kernel
theorem dX11_divide_12 : decode cX11_divide 12 = .ok (.istore_n 3, 1) := by decide +kernel
theorem dX11_divide_13 : decode cX11_divide 13 = .ok (.iload_n 3, 1) := by decide +kernel
theorem dX11_divide_14 : decode cX11_divide 14 = .ok (.ifCond .le 85, 3) := by decide +kernel
theorem dX11_divide_17 : decode cX11_divide 17 = .ok (.aload_n 1, 1) := by decide +kernel
theorem dX11_divide_18 : decode cX11_divide 18 = .ok (.iload_n 3, 1) := by decide +kernel
theorem dX11_divide_19 : decode cX11_divide 19 = .ok (.iaload, 1) := by decide +kernel
theorem dX11_divide_20 : decode cX11_divide 20 = .ok (.istore 4, 2) := by decide +kernel
theorem dX11_divide_22 : decode cX11_divide 22 = .ok (.iconst 0, 1) := by decide +kernel
theorem dX11_divide_23 : decode cX11_divide 23 = .ok (.istore 5, 2) := by decide +kernel
theorem dX11_divide_25 : decode cX11_divide 25 = .ok (.bipush 31, 2) := by decide +kernel
theorem dX11_divide_27 : decode cX11_divide 27 = .ok (.istore 6, 2) := by decide +kernel
theorem dX11_divide_29 : decode cX11_divide 29 = .ok (.iload 6, 2) := by decide +kernel
theorem dX11_divide_31 : decode cX11_divide 31 = .ok (.ifCond .lt 57, 3) := by decide +kernel
theorem dX11_divide_34 : decode cX11_divide 34 = .ok (.aload_n 0, 1) := by decide +kernel
theorem dX11_divide_35 : decode cX11_divide 35 = .ok (.getfield 29, 3) := by decide +kernel
theorem dX11_divide_38 : decode cX11_divide 38 = .ok (.iload 4, 2) := by decide +kernel
theorem dX11_divide_40 : decode cX11_divide 40 = .ok (.iload 6, 2) := by decide +kernel
theorem dX11_divide_42 : decode cX11_divide 42 = .ok (.iushr, 1) := by decide +kernel
theorem dX11_divide_43 : decode cX11_divide 43 = .ok (.iconst 1, 1) := by decide +kernel
theorem dX11_divide_44 : decode cX11_divide 44 = .ok (.iand, 1) := by decide +kernel
theorem dX11_divide_45 : decode cX11_divide 45 = .ok (.invokestatic 148, 3) := by decide +kernel
theorem dX11_divide_48 : decode cX11_divide 48 = .ok (.aload_n 0, 1) := by decide +kernel
theorem dX11_divide_49 : decode cX11_divide 49 = .ok (.getfield 29, 3) := by decide +kernel
theorem dX11_divide_52 : decode cX11_divide 52 = .ok (.aload_n 0, 1) := by decide +kernel
theorem dX11_divide_53 : decode cX11_divide 53 = .ok (.getfield 23, 3) := by decide +kernel
theorem dX11_divide_56 : decode cX11_divide 56 = .ok (.invokestatic 141, 3) := by decide +kernel
theorem dX11_divide_59 : decode cX11_divide 59 = .ok (.ifCond .lt 23, 3) := by decide +kernel
theorem dX11_divide_62 : decode cX11_divide 62 = .ok (.aload_n 0, 1) := by decide +kernel
theorem dX11_divide_63 : decode cX11_divide 63 = .ok (.getfield 29, 3) := by decide +kernel
theorem dX11_divide_66 : decode cX11_divide 66 = .ok (.aload_n 0, 1) := by decide +kernel
theorem dX11_divide_67 : decode cX11_divide 67 = .ok (.getfield 23, 3) := by decide +kernel
theorem dX11_divide_70 : decode cX11_divide 70 = .ok (.invokestatic 145, 3) := by decide +kernel
theorem dX11_divide_73 : decode cX11_divide 73 = .ok (.iload 5, 2) := by decide +kernel
theorem dX11_divide_75 : decode cX11_divide 75 = .ok (.iconst 1, 1) := by decide +kernel
theorem dX11_divide_76 : decode cX11_divide 76 = .ok (.iload 6, 2) := by decide +kernel
theorem dX11_divide_78 : decode cX11_divide 78 = .ok (.ishl, 1) := by decide +kernel
theorem dX11_divide_79 : decode cX11_divide 79 = .ok (.ior, 1) := by decide +kernel
theorem dX11_divide_80 : decode cX11_divide 80 = .ok (.istore 5, 2) := by decide +kernel
theorem dX11_divide_82 : decode cX11_divide 82 = .ok (.iinc 6 (-1), 3) := by decide +kernel
theorem dX11_divide_85 : decode cX11_divide 85 = .ok (.goto (-56), 3) := by decide +kernel
theorem dX11_divide_88 : decode cX11_divide 88 = .ok (.aload_n 1, 1) := by decide +kernel
theorem dX11_divide_89 : decode cX11_divide 89 = .ok (.iload_n 3, 1) := by decide +kernel
theorem dX11_divide_90 : decode cX11_divide 90 = .ok (.iload 5, 2) := by decide +kernel
theorem dX11_divide_92 : decode cX11_divide 92 = .ok (.iastore, 1) := by decide +kernel
theorem dX11_divide_93 : decode cX11_divide 93 = .ok (.iinc 3 (-1), 3) := by decide +kernel
theorem dX11_divide_96 : decode cX11_divide 96 = .ok (.goto (-83), 3) := by decide +kernel
theorem dX11_divide_99 : decode cX11_divide 99 = .ok (.aload_n 1, 1) := by decide +kernel
theorem dX11_divide_100 : decode cX11_divide 100 = .ok (.iload_n 2, 1) := by decide +kernel
theorem dX11_divide_101 : decode cX11_divide 101 = .ok (.invokestatic 125, 3) := by decide +kernel
theorem dX11_divide_104 : decode cX11_divide 104 = .ok (.return_, 1) := by decide +kernel
set_option maxRecDepth 20000 in
theorem ggX11_least_X11_put : GoodIn wsX11_least wsX11_put := goodIn_r _ [6] (by decide +kernel) (by decide +kernel)
set_option maxRecDepth 20000 in
theorem gX11_least_X11_put : GoodIn wsX11_least (va_wsS RX11 151 yX11_put wsX11_put) := goodIn_app (goodIn_of _ (by decide +kernel)) ggX11_least_X11_put
set_option maxRecDepth 20000 in
theorem ggX11_least_X11_common : GoodIn wsX11_least wsX11_common := goodIn_r _ [10, 11, 12, 13, 14, 15, 5, 16, 17, 18, 19, 20, 21, 22, 23, 24, 25, 26, 27, 28, 29, 30, 31, 32, 33, 34, 35, 40, 41, 42, 43, 44, 45, 46, 47, 48, 49, 50, 51, 52, 53, 54, 55, 56, 57, 58, 59, 60, 61, 62, 63, 64, 65, 66, 67, 68, 69, 70, 71, 72, 73, 74, 75, 76, 77, 78] (by decide +kernel) (by decide +kernel)
set_option maxRecDepth 20000 in
theorem gX11_least_X11_common : GoodIn wsX11_least (wsV RX11 154 RX11 yX11_common wsX11_common) := goodIn_app (goodIn_of _ (by decide +kernel)) ggX11_least_X11_common
set_option maxRecDepth 20000 in
theorem ggX11_least_X11_divide : GoodIn wsX11_least wsX11_divide := goodIn_r _ [39, 13, 11, 33, 34, 5, 35, 23, 24, 25, 26, 27, 28, 29, 30, 31, 32, 40, 41, 42, 43, 44, 45, 46, 47, 48, 49, 50, 51, 52, 53, 54, 55, 56, 57, 58, 59, 60, 61, 62, 63, 64, 65, 66, 67, 68, 69, 70, 71, 72, 73, 74, 75, 76, 77, 78] (by decide +kernel) (by decide +kernel)
set_option maxRecDepth 20000 in
theorem gX11_least_X11_divide : GoodIn wsX11_least (wsV RX11 157 RX11 yX11_divide wsX11_divide) := goodIn_app (goodIn_of _ (by decide +kernel)) ggX11_least_X11_divide
theorem dX11_least_0 : decode cX11_least 0 = .ok (.aload_n 0, 1) := by decide +kernel
theorem dX11_least_1 : decode cX11_least 1 = .ok (.getfield 32, 3) := by decide +kernel
theorem dX11_least_4 : decode cX11_least 4 = .ok (.iconst 0, 1) := by decide +kernel
theorem dX11_least_5 : decode cX11_least 5 = .ok (.iaload, 1) := by decide +kernel
theorem dX11_least_6 : decode cX11_least 6 = .ok (.ifCond .ne 12, 3) := by decide +kernel
theorem dX11_least_9 : decode cX11_least 9 = .ok (.aload_n 0, 1) := by decide +kernel
theorem dX11_least_10 : decode cX11_least 10 = .ok (.getfield 35, 3) := by decide +kernel
theorem dX11_least_13 : decode cX11_least 13 = .ok (.iconst 1, 1) := by decide +kernel
theorem dX11_least_14 : decode cX11_least 14 = .ok (.invokestatic 151, 3) := by decide +kernel
theorem dX11_least_17 : decode cX11_least 17 = .ok (.return_, 1) := by decide +kernel
theorem dX11_least_18 : decode cX11_least 18 = .ok (.aload_n 0, 1) := by decide +kernel
theorem dX11_least_19 : decode cX11_least 19 = .ok (.aload_n 0, 1) := by decide +kernel
theorem dX11_least_20 : decode cX11_least 20 = .ok (.getfield 32, 3) := by decide +kernel
theorem dX11_least_23 : decode cX11_least 23 = .ok (.aload_n 0, 1) := by decide +kernel
theorem dX11_least_24 : decode cX11_least 24 = .ok (.getfield 35, 3) := by decide +kernel
theorem dX11_least_27 : decode cX11_least 27 = .ok (.invokevirtual 154, 3) := by decide +kernel
theorem dX11_least_30 : decode cX11_least 30 = .ok (.aload_n 0, 1) := by decide +kernel
theorem dX11_least_31 : decode cX11_least 31 = .ok (.aload_n 0, 1) := by decide +kernel
theorem dX11_least_32 : decode cX11_least 32 = .ok (.getfield 32, 3) := by decide +kernel
theorem dX11_least_35 : decode cX11_least 35 = .ok (.invokevirtual 157, 3) := by decide +kernel
theorem dX11_least_38 : decode cX11_least 38 = .ok (.aload_n 0, 1) := by decide +kernel
theorem dX11_least_39 : decode cX11_least 39 = .ok (.aload_n 0, 1) := by decide +kernel
theorem dX11_least_40 : decode cX11_least 40 = .ok (.getfield 35, 3) := by decide +kernel
theorem dX11_least_43 : decode cX11_least 43 = .ok (.invokevirtual 157, 3) := by decide +kernel
theorem dX11_least_46 : decode cX11_least 46 = .ok (.return_, 1) := by decide +kernel
theorem dX11_grow_0 : decode cX11_grow 0 = .ok (.lconst 0, 1) := by decide +kernel
theorem dX11_grow_1 : decode cX11_grow 1 = .ok (.lstore_n 3, 1) := by decide +kernel
theorem dX11_grow_2 : decode cX11_grow 2 = .ok (.aload_n 0, 1) := by decide +kernel
theorem dX11_grow_3 : decode cX11_grow 3 = .ok (.iload_n 1, 1) := by decide +kernel
theorem dX11_grow_4 : decode cX11_grow 4 = .ok (.iaload, 1) := by decide +kernel
theorem dX11_grow_5 : decode cX11_grow 5 = .ok (.istore 5, 2) := by decide +kernel
theorem dX11_grow_7 : decode cX11_grow 7 = .ok (.iconst 1, 1) := by decide +kernel
theorem dX11_grow_8 : decode cX11_grow 8 = .ok (.istore 6, 2) := by decide +kernel
theorem dX11_grow_10 : decode cX11_grow 10 = .ok (.iload 6, 2) := by decide +kernel
theorem dX11_grow_12 : decode cX11_grow 12 = .ok (.iload 5, 2) := by decide +kernel
theorem dX11_grow_14 : decode cX11_grow 14 = .ok (.if_icmp .gt 39, 3) := by decide +kernel
theorem dX11_grow_17 : decode cX11_grow 17 = .ok (.lload_n 3, 1) := by decide +kernel
theorem dX11_grow_18 : decode cX11_grow 18 = .ok (.aload_n 0, 1) := by decide +kernel
theorem dX11_grow_19 : decode cX11_grow 19 = .ok (.iload_n 1, 1) := by decide +kernel
theorem dX11_grow_20 : decode cX11_grow 20 = .ok (.iload 6, 2) := by decide +kernel
theorem dX11_grow_22 : decode cX11_grow 22 = .ok (.iadd, 1) := by decide +kernel
theorem dX11_grow_23 : decode cX11_grow 23 = .ok (.iaload, 1) := by decide +kernel
theorem dX11_grow_24 : decode cX11_grow 24 = .ok (.i2l, 1) := by decide +kernel
theorem dX11_grow_25 : decode cX11_grow 25 = .ok (.ldc2_w 123, 3) := by decide +kernel
theorem dX11_grow_28 : decode cX11_grow 28 = .ok (.land, 1) := by decide +kernel
theorem dX11_grow_29 : decode cX11_grow 29 = .ok (.iload_n 2, 1) := by decide +kernel
theorem dX11_grow_30 : decode cX11_grow 30 = .ok (.i2l, 1) := by decide +kernel
theorem dX11_grow_31 : decode cX11_grow 31 = .ok (.lmul, 1) := by decide +kernel
theorem dX11_grow_32 : decode cX11_grow 32 = .ok (.ladd, 1) := by decide +kernel
theorem dX11_grow_33 : decode cX11_grow 33 = .ok (.lstore_n 3, 1) := by decide +kernel
theorem dX11_grow_34 : decode cX11_grow 34 = .ok (.aload_n 0, 1) := by decide +kernel
theorem dX11_grow_35 : decode cX11_grow 35 = .ok (.iload_n 1, 1) := by decide +kernel
theorem dX11_grow_36 : decode cX11_grow 36 = .ok (.iload 6, 2) := by decide +kernel
theorem dX11_grow_38 : decode cX11_grow 38 = .ok (.iadd, 1) := by decide +kernel
theorem dX11_grow_39 : decode cX11_grow 39 = .ok (.lload_n 3, 1) := by decide +kernel
theorem dX11_grow_40 : decode cX11_grow 40 = .ok (.l2i, 1) := by decide +kernel
theorem dX11_grow_41 : decode cX11_grow 41 = .ok (.iastore, 1) := by decide +kernel
theorem dX11_grow_42 : decode cX11_grow 42 = .ok (.lload_n 3, 1) := by decide +kernel
theorem dX11_grow_43 : decode cX11_grow 43 = .ok (.bipush 32, 2) := by decide +kernel
theorem dX11_grow_45 : decode cX11_grow 45 = .ok (.lushr, 1) := by decide +kernel
theorem dX11_grow_46 : decode cX11_grow 46 = .ok (.lstore_n 3, 1) := by decide +kernel
theorem dX11_grow_47 : decode cX11_grow 47 = .ok (.iinc 6 1, 3) := by decide +kernel
theorem dX11_grow_50 : decode cX11_grow 50 = .ok (.goto (-40), 3) := by decide +kernel
theorem dX11_grow_53 : decode cX11_grow 53 = .ok (.lload_n 3, 1) := by decide +kernel
theorem dX11_grow_54 : decode cX11_grow 54 = .ok (.lconst 0, 1) := by decide +kernel
theorem dX11_grow_55 : decode cX11_grow 55 = .ok (.lcmp, 1) := by decide +kernel
theorem dX11_grow_56 : decode cX11_grow 56 = .ok (.ifCond .eq 20, 3) := by decide +kernel
theorem dX11_grow_59 : decode cX11_grow 59 = .ok (.aload_n 0, 1) := by decide +kernel
theorem dX11_grow_60 : decode cX11_grow 60 = .ok (.iload_n 1, 1) := by decide +kernel
theorem dX11_grow_61 : decode cX11_grow 61 = .ok (.iload 5, 2) := by decide +kernel
theorem dX11_grow_63 : decode cX11_grow 63 = .ok (.iconst 1, 1) := by decide +kernel
theorem dX11_grow_64 : decode cX11_grow 64 = .ok (.iadd, 1) := by decide +kernel
theorem dX11_grow_65 : decode cX11_grow 65 = .ok (.iastore, 1) := by decide +kernel
theorem dX11_grow_66 : decode cX11_grow 66 = .ok (.aload_n 0, 1) := by decide +kernel
theorem dX11_grow_67 : decode cX11_grow 67 = .ok (.iload_n 1, 1) := by decide +kernel
theorem dX11_grow_68 : decode cX11_grow 68 = .ok (.iload 5, 2) := by decide +kernel
theorem dX11_grow_70 : decode cX11_grow 70 = .ok (.iadd, 1) := by decide +kernel
theorem dX11_grow_71 : decode cX11_grow 71 = .ok (.iconst 1, 1) := by decide +kernel
theorem dX11_grow_72 : decode cX11_grow 72 = .ok (.iadd, 1) := by decide +kernel
theorem dX11_grow_73 : decode cX11_grow 73 = .ok (.lload_n 3, 1) := by decide +kernel
theorem dX11_grow_74 : decode cX11_grow 74 = .ok (.l2i, 1) := by decide +kernel
theorem dX11_grow_75 : decode cX11_grow 75 = .ok (.iastore, 1) := by decide +kernel
theorem dX11_grow_76 : decode cX11_grow 76 = .ok (.return_, 1) := by decide +kernel
theorem dX11_place_0 : decode cX11_place 0 = .ok (.bipush 32, 2) := by decide +kernel
theorem dX11_place_2 : decode cX11_place 2 = .ok (.iload_n 0, 1) := by decide +kernel
theorem dX11_place_3 : decode cX11_place 3 = .ok (.imul, 1) := by decide +kernel
theorem dX11_place_4 : decode cX11_place 4 = .ok (.iload_n 1, 1) := by decide +kernel
theorem dX11_place_5 : decode cX11_place 5 = .ok (.iadd, 1) := by decide +kernel
theorem dX11_place_6 : decode cX11_place 6 = .ok (.bipush 8, 2) := by decide +kernel
theorem dX11_place_8 : decode cX11_place 8 = .ok (.imul, 1) := by decide +kernel
theorem dX11_place_9 : decode cX11_place 9 = .ok (.ireturn, 1) := by decide +kernel
theorem dX11_agree_0 : decode cX11_agree 0 = .ok (.iconst 1, 1) := by decide +kernel
theorem dX11_agree_1 : decode cX11_agree 1 = .ok (.istore 4, 2) := by decide +kernel
theorem dX11_agree_3 : decode cX11_agree 3 = .ok (.iconst 0, 1) := by decide +kernel
theorem dX11_agree_4 : decode cX11_agree 4 = .ok (.istore 5, 2) := by decide +kernel
theorem dX11_agree_6 : decode cX11_agree 6 = .ok (.iload 5, 2) := by decide +kernel
theorem dX11_agree_8 : decode cX11_agree 8 = .ok (.aload_n 0, 1) := by decide +kernel
theorem dX11_agree_9 : decode cX11_agree 9 = .ok (.getfield 160, 3) := by decide +kernel
theorem dX11_agree_12 : decode cX11_agree 12 = .ok (.if_icmp .ge 55, 3) := by decide +kernel
theorem dX11_agree_15 : decode cX11_agree 15 = .ok (.iload 4, 2) := by decide +kernel
theorem dX11_agree_17 : decode cX11_agree 17 = .ok (.ifCond .eq 41, 3) := by decide +kernel
theorem dX11_agree_20 : decode cX11_agree 20 = .ok (.iload_n 3, 1) := by decide +kernel
theorem dX11_agree_21 : decode cX11_agree 21 = .ok (.iload 5, 2) := by decide +kernel
theorem dX11_agree_23 : decode cX11_agree 23 = .ok (.ishr, 1) := by decide +kernel
theorem dX11_agree_24 : decode cX11_agree 24 = .ok (.iconst 1, 1) := by decide +kernel
theorem dX11_agree_25 : decode cX11_agree 25 = .ok (.iand, 1) := by decide +kernel
theorem dX11_agree_26 : decode cX11_agree 26 = .ok (.ifCond .eq 28, 3) := by decide +kernel
theorem dX11_agree_29 : decode cX11_agree 29 = .ok (.aload_n 0, 1) := by decide +kernel
theorem dX11_agree_30 : decode cX11_agree 30 = .ok (.getfield 13, 3) := by decide +kernel
theorem dX11_agree_33 : decode cX11_agree 33 = .ok (.iconst 5, 1) := by decide +kernel
theorem dX11_agree_34 : decode cX11_agree 34 = .ok (.iload_n 1, 1) := by decide +kernel
theorem dX11_agree_35 : decode cX11_agree 35 = .ok (.imul, 1) := by decide +kernel
theorem dX11_agree_36 : decode cX11_agree 36 = .ok (.iload 5, 2) := by decide +kernel
theorem dX11_agree_38 : decode cX11_agree 38 = .ok (.iadd, 1) := by decide +kernel
theorem dX11_agree_39 : decode cX11_agree 39 = .ok (.iaload, 1) := by decide +kernel
theorem dX11_agree_40 : decode cX11_agree 40 = .ok (.aload_n 0, 1) := by decide +kernel
theorem dX11_agree_41 : decode cX11_agree 41 = .ok (.getfield 13, 3) := by decide +kernel
theorem dX11_agree_44 : decode cX11_agree 44 = .ok (.iconst 5, 1) := by decide +kernel
theorem dX11_agree_45 : decode cX11_agree 45 = .ok (.iload_n 2, 1) := by decide +kernel
theorem dX11_agree_46 : decode cX11_agree 46 = .ok (.imul, 1) := by decide +kernel
theorem dX11_agree_47 : decode cX11_agree 47 = .ok (.iload 5, 2) := by decide +kernel
theorem dX11_agree_49 : decode cX11_agree 49 = .ok (.iadd, 1) := by decide +kernel
theorem dX11_agree_50 : decode cX11_agree 50 = .ok (.iaload, 1) := by decide +kernel
theorem dX11_agree_51 : decode cX11_agree 51 = .ok (.if_icmp .ne 7, 3) := by decide +kernel
theorem dX11_agree_54 : decode cX11_agree 54 = .ok (.iconst 1, 1) := by decide +kernel
theorem dX11_agree_55 : decode cX11_agree 55 = .ok (.goto 4, 3) := by decide +kernel
theorem dX11_agree_58 : decode cX11_agree 58 = .ok (.iconst 0, 1) := by decide +kernel
theorem dX11_agree_59 : decode cX11_agree 59 = .ok (.istore 4, 2) := by decide +kernel
theorem dX11_agree_61 : decode cX11_agree 61 = .ok (.iinc 5 1, 3) := by decide +kernel
theorem dX11_agree_64 : decode cX11_agree 64 = .ok (.goto (-58), 3) := by decide +kernel
theorem dX11_agree_67 : decode cX11_agree 67 = .ok (.iload 4, 2) := by decide +kernel
theorem dX11_agree_69 : decode cX11_agree 69 = .ok (.ireturn, 1) := by decide +kernel
set_option maxRecDepth 20000 in
theorem ggX11_family_X11_place : GoodIn wsX11_family wsX11_place := goodIn_r _ [9] (by decide +kernel) (by decide +kernel)
set_option maxRecDepth 20000 in
theorem gX11_family_X11_place : GoodIn wsX11_family (va_wsS RX11 163 yX11_place wsX11_place) := goodIn_app (goodIn_of _ (by decide +kernel)) ggX11_family_X11_place
set_option maxRecDepth 20000 in
theorem ggX11_family_X11_work : GoodIn wsX11_family wsX11_work := goodIn_r _ [13, 2, 4, 14, 15, 16, 17, 18, 6, 7, 8, 9, 19, 20, 21, 22, 23, 24, 25, 26, 65, 66, 67, 68, 69, 70, 71, 72, 73, 74, 75, 76, 77, 78, 79, 80, 81, 82, 83, 84, 85, 86, 87, 88, 89, 90, 91, 92, 93, 94, 95, 96, 97, 98, 99, 100, 101, 102, 103] (by decide +kernel) (by decide +kernel)
set_option maxRecDepth 20000 in
theorem gX11_family_X11_work : GoodIn wsX11_family (wsV RX11 167 RX11 yX11_work wsX11_work) := goodIn_app (goodIn_of _ (by decide +kernel)) ggX11_family_X11_work
set_option maxRecDepth 20000 in
theorem ggX11_family_X11_load : GoodIn wsX11_family wsX11_load := goodIn_r _ [29] (by decide +kernel) (by decide +kernel)
set_option maxRecDepth 20000 in
theorem gX11_family_X11_load : GoodIn wsX11_family (va_wsS RX11 171 yX11_load wsX11_load) := goodIn_app (goodIn_of _ (by decide +kernel)) ggX11_family_X11_load
set_option maxRecDepth 20000 in
theorem ggX11_family_X11_common : GoodIn wsX11_family wsX11_common := goodIn_r _ [33, 34, 35, 36, 37, 38, 8, 39, 40, 41, 42, 43, 44, 45, 46, 47, 48, 49, 50, 51, 26, 52, 53, 54, 55, 56, 57, 65, 66, 67, 68, 69, 70, 71, 72, 73, 74, 75, 76, 77, 78, 79, 80, 81, 82, 83, 84, 85, 86, 87, 88, 89, 90, 91, 92, 93, 94, 95, 96, 97, 98, 99, 100, 101, 102, 103] (by decide +kernel) (by decide +kernel)
set_option maxRecDepth 20000 in
theorem gX11_family_X11_common : GoodIn wsX11_family (wsV RX11 154 RX11 yX11_common wsX11_common) := goodIn_app (goodIn_of _ (by decide +kernel)) ggX11_family_X11_common
set_option maxRecDepth 20000 in
theorem ggX11_family_X11_divide : GoodIn wsX11_family wsX11_divide := goodIn_r _ [61, 36, 34, 55, 56, 8, 57, 46, 47, 48, 49, 50, 51, 26, 52, 53, 54, 65, 66, 67, 68, 69, 70, 71, 72, 73, 74, 75, 76, 77, 78, 79, 80, 81, 82, 83, 84, 85, 86, 87, 88, 89, 90, 91, 92, 93, 94, 95, 96, 97, 98, 99, 100, 101, 102, 103] (by decide +kernel) (by decide +kernel)
set_option maxRecDepth 20000 in
theorem gX11_family_X11_divide : GoodIn wsX11_family (wsV RX11 157 RX11 yX11_divide wsX11_divide) := goodIn_app (goodIn_of _ (by decide +kernel)) ggX11_family_X11_divide
set_option maxRecDepth 20000 in
theorem ggX11_family_X11_store : GoodIn wsX11_family wsX11_store := goodIn_r _ [64] (by decide +kernel) (by decide +kernel)
set_option maxRecDepth 20000 in
theorem gX11_family_X11_store : GoodIn wsX11_family (va_wsS RX11 175 yX11_store wsX11_store) := goodIn_app (goodIn_of _ (by decide +kernel)) ggX11_family_X11_store
theorem dX11_family_0 : decode cX11_family 0 = .ok (.iload_n 1, 1) := by decide +kernel
theorem dX11_family_1 : decode cX11_family 1 = .ok (.iload_n 2, 1) := by decide +kernel
theorem dX11_family_2 : decode cX11_family 2 = .ok (.invokestatic 163, 3) := by decide +kernel
theorem dX11_family_5 : decode cX11_family 5 = .ok (.istore_n 3, 1) := by decide +kernel
theorem dX11_family_6 : decode cX11_family 6 = .ok (.aload_n 0, 1) := by decide +kernel
theorem dX11_family_7 : decode cX11_family 7 = .ok (.getfield 38, 3) := by decide +kernel
theorem dX11_family_10 : decode cX11_family 10 = .ok (.bipush 32, 2) := by decide +kernel
theorem dX11_family_12 : decode cX11_family 12 = .ok (.iload_n 1, 1) := by decide +kernel
theorem dX11_family_13 : decode cX11_family 13 = .ok (.imul, 1) := by decide +kernel
theorem dX11_family_14 : decode cX11_family 14 = .ok (.iload_n 2, 1) := by decide +kernel
theorem dX11_family_15 : decode cX11_family 15 = .ok (.iadd, 1) := by decide +kernel
theorem dX11_family_16 : decode cX11_family 16 = .ok (.baload, 1) := by decide +kernel
theorem dX11_family_17 : decode cX11_family 17 = .ok (.ifCond .ne 97, 3) := by decide +kernel
theorem dX11_family_20 : decode cX11_family 20 = .ok (.aload_n 0, 1) := by decide +kernel
theorem dX11_family_21 : decode cX11_family 21 = .ok (.iload_n 1, 1) := by decide +kernel
theorem dX11_family_22 : decode cX11_family 22 = .ok (.iload_n 2, 1) := by decide +kernel
theorem dX11_family_23 : decode cX11_family 23 = .ok (.invokevirtual 167, 3) := by decide +kernel
theorem dX11_family_26 : decode cX11_family 26 = .ok (.aload_n 0, 1) := by decide +kernel
theorem dX11_family_27 : decode cX11_family 27 = .ok (.getfield 42, 3) := by decide +kernel
theorem dX11_family_30 : decode cX11_family 30 = .ok (.iload_n 3, 1) := by decide +kernel
theorem dX11_family_31 : decode cX11_family 31 = .ok (.aload_n 0, 1) := by decide +kernel
theorem dX11_family_32 : decode cX11_family 32 = .ok (.getfield 48, 3) := by decide +kernel
theorem dX11_family_35 : decode cX11_family 35 = .ok (.invokestatic 171, 3) := by decide +kernel
theorem dX11_family_38 : decode cX11_family 38 = .ok (.aload_n 0, 1) := by decide +kernel
theorem dX11_family_39 : decode cX11_family 39 = .ok (.getfield 45, 3) := by decide +kernel
theorem dX11_family_42 : decode cX11_family 42 = .ok (.iload_n 3, 1) := by decide +kernel
theorem dX11_family_43 : decode cX11_family 43 = .ok (.aload_n 0, 1) := by decide +kernel
theorem dX11_family_44 : decode cX11_family 44 = .ok (.getfield 51, 3) := by decide +kernel
theorem dX11_family_47 : decode cX11_family 47 = .ok (.invokestatic 171, 3) := by decide +kernel
theorem dX11_family_50 : decode cX11_family 50 = .ok (.aload_n 0, 1) := by decide +kernel
theorem dX11_family_51 : decode cX11_family 51 = .ok (.aload_n 0, 1) := by decide +kernel
theorem dX11_family_52 : decode cX11_family 52 = .ok (.getfield 48, 3) := by decide +kernel
theorem dX11_family_55 : decode cX11_family 55 = .ok (.aload_n 0, 1) := by decide +kernel
theorem dX11_family_56 : decode cX11_family 56 = .ok (.getfield 51, 3) := by decide +kernel
theorem dX11_family_59 : decode cX11_family 59 = .ok (.invokevirtual 154, 3) := by decide +kernel
theorem dX11_family_62 : decode cX11_family 62 = .ok (.aload_n 0, 1) := by decide +kernel
theorem dX11_family_63 : decode cX11_family 63 = .ok (.aload_n 0, 1) := by decide +kernel
theorem dX11_family_64 : decode cX11_family 64 = .ok (.getfield 48, 3) := by decide +kernel
theorem dX11_family_67 : decode cX11_family 67 = .ok (.invokevirtual 157, 3) := by decide +kernel
theorem dX11_family_70 : decode cX11_family 70 = .ok (.aload_n 0, 1) := by decide +kernel
theorem dX11_family_71 : decode cX11_family 71 = .ok (.getfield 48, 3) := by decide +kernel
theorem dX11_family_74 : decode cX11_family 74 = .ok (.aload_n 0, 1) := by decide +kernel
theorem dX11_family_75 : decode cX11_family 75 = .ok (.getfield 42, 3) := by decide +kernel
theorem dX11_family_78 : decode cX11_family 78 = .ok (.iload_n 3, 1) := by decide +kernel
theorem dX11_family_79 : decode cX11_family 79 = .ok (.invokestatic 175, 3) := by decide +kernel
theorem dX11_family_82 : decode cX11_family 82 = .ok (.aload_n 0, 1) := by decide +kernel
theorem dX11_family_83 : decode cX11_family 83 = .ok (.aload_n 0, 1) := by decide +kernel
theorem dX11_family_84 : decode cX11_family 84 = .ok (.getfield 51, 3) := by decide +kernel
theorem dX11_family_87 : decode cX11_family 87 = .ok (.invokevirtual 157, 3) := by decide +kernel
theorem dX11_family_90 : decode cX11_family 90 = .ok (.aload_n 0, 1) := by decide +kernel
theorem dX11_family_91 : decode cX11_family 91 = .ok (.getfield 51, 3) := by decide +kernel
theorem dX11_family_94 : decode cX11_family 94 = .ok (.aload_n 0, 1) := by decide +kernel
theorem dX11_family_95 : decode cX11_family 95 = .ok (.getfield 45, 3) := by decide +kernel
theorem dX11_family_98 : decode cX11_family 98 = .ok (.iload_n 3, 1) := by decide +kernel
theorem dX11_family_99 : decode cX11_family 99 = .ok (.invokestatic 175, 3) := by decide +kernel
theorem dX11_family_102 : decode cX11_family 102 = .ok (.aload_n 0, 1) := by decide +kernel
theorem dX11_family_103 : decode cX11_family 103 = .ok (.getfield 38, 3) := by decide +kernel
theorem dX11_family_106 : decode cX11_family 106 = .ok (.bipush 32, 2) := by decide +kernel
theorem dX11_family_108 : decode cX11_family 108 = .ok (.iload_n 1, 1) := by decide +kernel
theorem dX11_family_109 : decode cX11_family 109 = .ok (.imul, 1) := by decide +kernel
theorem dX11_family_110 : decode cX11_family 110 = .ok (.iload_n 2, 1) := by decide +kernel
theorem dX11_family_111 : decode cX11_family 111 = .ok (.iadd, 1) := by decide +kernel
theorem dX11_family_112 : decode cX11_family 112 = .ok (.iconst 1, 1) := by decide +kernel
theorem dX11_family_113 : decode cX11_family 113 = .ok (.bastore, 1) := by decide +kernel
theorem dX11_family_114 : decode cX11_family 114 = .ok (.iload_n 3, 1) := by decide +kernel
theorem dX11_family_115 : decode cX11_family 115 = .ok (.ireturn, 1) := by decide +kernel
theorem dX11_store_0 : decode cX11_store 0 = .ok (.iconst 0, 1) := by decide +kernel
theorem dX11_store_1 : decode cX11_store 1 = .ok (.istore_n 3, 1) := by decide +kernel
theorem dX11_store_2 : decode cX11_store 2 = .ok (.iload_n 3, 1) := by decide +kernel
theorem dX11_store_3 : decode cX11_store 3 = .ok (.aload_n 0, 1) := by decide +kernel
theorem dX11_store_4 : decode cX11_store 4 = .ok (.iconst 0, 1) := by decide +kernel
theorem dX11_store_5 : decode cX11_store 5 = .ok (.iaload, 1) := by decide +kernel
theorem dX11_store_6 : decode cX11_store 6 = .ok (.if_icmp .gt 17, 3) := by decide +kernel
theorem dX11_store_9 : decode cX11_store 9 = .ok (.aload_n 1, 1) := by decide +kernel
theorem dX11_store_10 : decode cX11_store 10 = .ok (.iload_n 2, 1) := by decide +kernel
theorem dX11_store_11 : decode cX11_store 11 = .ok (.iload_n 3, 1) := by decide +kernel
theorem dX11_store_12 : decode cX11_store 12 = .ok (.iadd, 1) := by decide +kernel
theorem dX11_store_13 : decode cX11_store 13 = .ok (.aload_n 0, 1) := by decide +kernel
theorem dX11_store_14 : decode cX11_store 14 = .ok (.iload_n 3, 1) := by decide +kernel
theorem dX11_store_15 : decode cX11_store 15 = .ok (.iaload, 1) := by decide +kernel
theorem dX11_store_16 : decode cX11_store 16 = .ok (.iastore, 1) := by decide +kernel
theorem dX11_store_17 : decode cX11_store 17 = .ok (.iinc 3 1, 3) := by decide +kernel
theorem dX11_store_20 : decode cX11_store 20 = .ok (.goto (-18), 3) := by decide +kernel
theorem dX11_store_23 : decode cX11_store 23 = .ok (.return_, 1) := by decide +kernel
set_option maxRecDepth 20000 in
theorem ggX11_work_X11_place : GoodIn wsX11_work wsX11_place := goodIn_r _ [11] (by decide +kernel) (by decide +kernel)
set_option maxRecDepth 20000 in
theorem gX11_work_X11_place : GoodIn wsX11_work (va_wsS RX11 163 yX11_place wsX11_place) := goodIn_app (goodIn_of _ (by decide +kernel)) ggX11_work_X11_place
set_option maxRecDepth 20000 in
theorem ggX11_work_X11_agree : GoodIn wsX11_work wsX11_agree := goodIn_r _ [15, 4, 6, 20, 21, 22, 23, 24, 25, 26, 27, 28, 29, 30, 31, 32, 33, 34, 35, 36, 37, 38, 39, 40, 41, 42, 43, 44, 45, 46, 47, 48, 49, 50, 51, 52, 53, 54, 55, 56, 57, 58] (by decide +kernel) (by decide +kernel)
set_option maxRecDepth 20000 in
theorem gX11_work_X11_agree : GoodIn wsX11_work (wsV RX11 182 RX11 yX11_agree wsX11_agree) := goodIn_app (goodIn_of _ (by decide +kernel)) ggX11_work_X11_agree
set_option maxRecDepth 20000 in
theorem ggX11_work_X11_grow : GoodIn wsX11_work wsX11_grow := goodIn_r _ [18, 19] (by decide +kernel) (by decide +kernel)
set_option maxRecDepth 20000 in
theorem gX11_work_X11_grow : GoodIn wsX11_work (va_wsS RX11 186 yX11_grow wsX11_grow) := goodIn_app (goodIn_of _ (by decide +kernel)) ggX11_work_X11_grow
theorem dX11_work_0 : decode cX11_work 0 = .ok (.iload_n 1, 1) := by decide +kernel
theorem dX11_work_1 : decode cX11_work 1 = .ok (.iload_n 2, 1) := by decide +kernel
theorem dX11_work_2 : decode cX11_work 2 = .ok (.invokestatic 163, 3) := by decide +kernel
theorem dX11_work_5 : decode cX11_work 5 = .ok (.istore_n 3, 1) := by decide +kernel
theorem dX11_work_6 : decode cX11_work 6 = .ok (.aload_n 0, 1) := by decide +kernel
theorem dX11_work_7 : decode cX11_work 7 = .ok (.getfield 42, 3) := by decide +kernel
theorem dX11_work_10 : decode cX11_work 10 = .ok (.iload_n 3, 1) := by decide +kernel
theorem dX11_work_11 : decode cX11_work 11 = .ok (.iconst 1, 1) := by decide +kernel
theorem dX11_work_12 : decode cX11_work 12 = .ok (.iastore, 1) := by decide +kernel
theorem dX11_work_13 : decode cX11_work 13 = .ok (.aload_n 0, 1) := by decide +kernel
theorem dX11_work_14 : decode cX11_work 14 = .ok (.getfield 42, 3) := by decide +kernel
theorem dX11_work_17 : decode cX11_work 17 = .ok (.iload_n 3, 1) := by decide +kernel
theorem dX11_work_18 : decode cX11_work 18 = .ok (.iconst 1, 1) := by decide +kernel
theorem dX11_work_19 : decode cX11_work 19 = .ok (.iadd, 1) := by decide +kernel
theorem dX11_work_20 : decode cX11_work 20 = .ok (.iconst 1, 1) := by decide +kernel
theorem dX11_work_21 : decode cX11_work 21 = .ok (.iastore, 1) := by decide +kernel
theorem dX11_work_22 : decode cX11_work 22 = .ok (.aload_n 0, 1) := by decide +kernel
theorem dX11_work_23 : decode cX11_work 23 = .ok (.getfield 45, 3) := by decide +kernel
theorem dX11_work_26 : decode cX11_work 26 = .ok (.iload_n 3, 1) := by decide +kernel
theorem dX11_work_27 : decode cX11_work 27 = .ok (.iconst 1, 1) := by decide +kernel
theorem dX11_work_28 : decode cX11_work 28 = .ok (.iastore, 1) := by decide +kernel
theorem dX11_work_29 : decode cX11_work 29 = .ok (.aload_n 0, 1) := by decide +kernel
theorem dX11_work_30 : decode cX11_work 30 = .ok (.getfield 45, 3) := by decide +kernel
theorem dX11_work_33 : decode cX11_work 33 = .ok (.iload_n 3, 1) := by decide +kernel
theorem dX11_work_34 : decode cX11_work 34 = .ok (.iconst 1, 1) := by decide +kernel
theorem dX11_work_35 : decode cX11_work 35 = .ok (.iadd, 1) := by decide +kernel
theorem dX11_work_36 : decode cX11_work 36 = .ok (.iconst 1, 1) := by decide +kernel
theorem dX11_work_37 : decode cX11_work 37 = .ok (.iastore, 1) := by decide +kernel
theorem dX11_work_38 : decode cX11_work 38 = .ok (.aload_n 0, 1) := by decide +kernel
theorem dX11_work_39 : decode cX11_work 39 = .ok (.getfield 7, 3) := by decide +kernel
theorem dX11_work_42 : decode cX11_work 42 = .ok (.iload_n 1, 1) := by decide +kernel
theorem dX11_work_43 : decode cX11_work 43 = .ok (.iaload, 1) := by decide +kernel
theorem dX11_work_44 : decode cX11_work 44 = .ok (.istore 4, 2) := by decide +kernel
theorem dX11_work_46 : decode cX11_work 46 = .ok (.iconst 0, 1) := by decide +kernel
theorem dX11_work_47 : decode cX11_work 47 = .ok (.istore 5, 2) := by decide +kernel
theorem dX11_work_49 : decode cX11_work 49 = .ok (.iload 5, 2) := by decide +kernel
theorem dX11_work_51 : decode cX11_work 51 = .ok (.aload_n 0, 1) := by decide +kernel
theorem dX11_work_52 : decode cX11_work 52 = .ok (.getfield 160, 3) := by decide +kernel
theorem dX11_work_55 : decode cX11_work 55 = .ok (.if_icmp .ge 35, 3) := by decide +kernel
theorem dX11_work_58 : decode cX11_work 58 = .ok (.iload 4, 2) := by decide +kernel
theorem dX11_work_60 : decode cX11_work 60 = .ok (.iload_n 2, 1) := by decide +kernel
theorem dX11_work_61 : decode cX11_work 61 = .ok (.iload 5, 2) := by decide +kernel
theorem dX11_work_63 : decode cX11_work 63 = .ok (.ishr, 1) := by decide +kernel
theorem dX11_work_64 : decode cX11_work 64 = .ok (.iconst 1, 1) := by decide +kernel
theorem dX11_work_65 : decode cX11_work 65 = .ok (.iand, 1) := by decide +kernel
theorem dX11_work_66 : decode cX11_work 66 = .ok (.iconst 1, 1) := by decide +kernel
theorem dX11_work_67 : decode cX11_work 67 = .ok (.if_icmp .ne 13, 3) := by decide +kernel
theorem dX11_work_70 : decode cX11_work 70 = .ok (.aload_n 0, 1) := by decide +kernel
theorem dX11_work_71 : decode cX11_work 71 = .ok (.getfield 7, 3) := by decide +kernel
theorem dX11_work_74 : decode cX11_work 74 = .ok (.iload 5, 2) := by decide +kernel
theorem dX11_work_76 : decode cX11_work 76 = .ok (.iaload, 1) := by decide +kernel
theorem dX11_work_77 : decode cX11_work 77 = .ok (.goto 4, 3) := by decide +kernel
theorem dX11_work_80 : decode cX11_work 80 = .ok (.iconst 1, 1) := by decide +kernel
theorem dX11_work_81 : decode cX11_work 81 = .ok (.imul, 1) := by decide +kernel
theorem dX11_work_82 : decode cX11_work 82 = .ok (.istore 4, 2) := by decide +kernel
theorem dX11_work_84 : decode cX11_work 84 = .ok (.iinc 5 1, 3) := by decide +kernel
theorem dX11_work_87 : decode cX11_work 87 = .ok (.goto (-38), 3) := by decide +kernel
theorem dX11_work_90 : decode cX11_work 90 = .ok (.iconst 0, 1) := by decide +kernel
theorem dX11_work_91 : decode cX11_work 91 = .ok (.istore 5, 2) := by decide +kernel
theorem dX11_work_93 : decode cX11_work 93 = .ok (.iload 5, 2) := by decide +kernel
theorem dX11_work_95 : decode cX11_work 95 = .ok (.aload_n 0, 1) := by decide +kernel
theorem dX11_work_96 : decode cX11_work 96 = .ok (.getfield 179, 3) := by decide +kernel
theorem dX11_work_99 : decode cX11_work 99 = .ok (.if_icmp .ge 124, 3) := by decide +kernel
theorem dX11_work_102 : decode cX11_work 102 = .ok (.iconst 0, 1) := by decide +kernel
theorem dX11_work_103 : decode cX11_work 103 = .ok (.istore 6, 2) := by decide +kernel
theorem dX11_work_105 : decode cX11_work 105 = .ok (.iconst 0, 1) := by decide +kernel
theorem dX11_work_106 : decode cX11_work 106 = .ok (.istore 7, 2) := by decide +kernel
theorem dX11_work_108 : decode cX11_work 108 = .ok (.iconst 0, 1) := by decide +kernel
theorem dX11_work_109 : decode cX11_work 109 = .ok (.istore 8, 2) := by decide +kernel
theorem dX11_work_111 : decode cX11_work 111 = .ok (.iload 8, 2) := by decide +kernel
theorem dX11_work_113 : decode cX11_work 113 = .ok (.iload 5, 2) := by decide +kernel
theorem dX11_work_115 : decode cX11_work 115 = .ok (.if_icmp .ge 59, 3) := by decide +kernel
theorem dX11_work_118 : decode cX11_work 118 = .ok (.aload_n 0, 1) := by decide +kernel
theorem dX11_work_119 : decode cX11_work 119 = .ok (.iload 5, 2) := by decide +kernel
theorem dX11_work_121 : decode cX11_work 121 = .ok (.iload 8, 2) := by decide +kernel
theorem dX11_work_123 : decode cX11_work 123 = .ok (.iload_n 2, 1) := by decide +kernel
theorem dX11_work_124 : decode cX11_work 124 = .ok (.invokevirtual 182, 3) := by decide +kernel
theorem dX11_work_127 : decode cX11_work 127 = .ok (.ifCond .eq 41, 3) := by decide +kernel
theorem dX11_work_130 : decode cX11_work 130 = .ok (.iinc 6 1, 3) := by decide +kernel
theorem dX11_work_133 : decode cX11_work 133 = .ok (.iload 7, 2) := by decide +kernel
theorem dX11_work_135 : decode cX11_work 135 = .ok (.aload_n 0, 1) := by decide +kernel
theorem dX11_work_136 : decode cX11_work 136 = .ok (.getfield 13, 3) := by decide +kernel
theorem dX11_work_139 : decode cX11_work 139 = .ok (.iconst 5, 1) := by decide +kernel
theorem dX11_work_140 : decode cX11_work 140 = .ok (.iload 5, 2) := by decide +kernel
theorem dX11_work_142 : decode cX11_work 142 = .ok (.imul, 1) := by decide +kernel
theorem dX11_work_143 : decode cX11_work 143 = .ok (.iload_n 1, 1) := by decide +kernel
theorem dX11_work_144 : decode cX11_work 144 = .ok (.iadd, 1) := by decide +kernel
theorem dX11_work_145 : decode cX11_work 145 = .ok (.iaload, 1) := by decide +kernel
theorem dX11_work_146 : decode cX11_work 146 = .ok (.aload_n 0, 1) := by decide +kernel
theorem dX11_work_147 : decode cX11_work 147 = .ok (.getfield 13, 3) := by decide +kernel
theorem dX11_work_150 : decode cX11_work 150 = .ok (.iconst 5, 1) := by decide +kernel
theorem dX11_work_151 : decode cX11_work 151 = .ok (.iload 8, 2) := by decide +kernel
theorem dX11_work_153 : decode cX11_work 153 = .ok (.imul, 1) := by decide +kernel
theorem dX11_work_154 : decode cX11_work 154 = .ok (.iload_n 1, 1) := by decide +kernel
theorem dX11_work_155 : decode cX11_work 155 = .ok (.iadd, 1) := by decide +kernel
theorem dX11_work_156 : decode cX11_work 156 = .ok (.iaload, 1) := by decide +kernel
theorem dX11_work_157 : decode cX11_work 157 = .ok (.if_icmp .ne 7, 3) := by decide +kernel
theorem dX11_work_160 : decode cX11_work 160 = .ok (.iconst 1, 1) := by decide +kernel
theorem dX11_work_161 : decode cX11_work 161 = .ok (.goto 4, 3) := by decide +kernel
theorem dX11_work_164 : decode cX11_work 164 = .ok (.iconst 0, 1) := by decide +kernel
theorem dX11_work_165 : decode cX11_work 165 = .ok (.iadd, 1) := by decide +kernel
theorem dX11_work_166 : decode cX11_work 166 = .ok (.istore 7, 2) := by decide +kernel
theorem dX11_work_168 : decode cX11_work 168 = .ok (.iinc 8 1, 3) := by decide +kernel
theorem dX11_work_171 : decode cX11_work 171 = .ok (.goto (-60), 3) := by decide +kernel
theorem dX11_work_174 : decode cX11_work 174 = .ok (.aload_n 0, 1) := by decide +kernel
theorem dX11_work_175 : decode cX11_work 175 = .ok (.getfield 42, 3) := by decide +kernel
theorem dX11_work_178 : decode cX11_work 178 = .ok (.iload_n 3, 1) := by decide +kernel
theorem dX11_work_179 : decode cX11_work 179 = .ok (.aload_n 0, 1) := by decide +kernel
theorem dX11_work_180 : decode cX11_work 180 = .ok (.getfield 16, 3) := by decide +kernel
theorem dX11_work_183 : decode cX11_work 183 = .ok (.iload 7, 2) := by decide +kernel
theorem dX11_work_185 : decode cX11_work 185 = .ok (.iload 4, 2) := by decide +kernel
theorem dX11_work_187 : decode cX11_work 187 = .ok (.imul, 1) := by decide +kernel
theorem dX11_work_188 : decode cX11_work 188 = .ok (.iadd, 1) := by decide +kernel
theorem dX11_work_189 : decode cX11_work 189 = .ok (.invokestatic 186, 3) := by decide +kernel
theorem dX11_work_192 : decode cX11_work 192 = .ok (.aload_n 0, 1) := by decide +kernel
theorem dX11_work_193 : decode cX11_work 193 = .ok (.getfield 45, 3) := by decide +kernel
theorem dX11_work_196 : decode cX11_work 196 = .ok (.iload_n 3, 1) := by decide +kernel
theorem dX11_work_197 : decode cX11_work 197 = .ok (.aload_n 0, 1) := by decide +kernel
theorem dX11_work_198 : decode cX11_work 198 = .ok (.getfield 7, 3) := by decide +kernel
theorem dX11_work_201 : decode cX11_work 201 = .ok (.iload_n 1, 1) := by decide +kernel
theorem dX11_work_202 : decode cX11_work 202 = .ok (.iaload, 1) := by decide +kernel
theorem dX11_work_203 : decode cX11_work 203 = .ok (.aload_n 0, 1) := by decide +kernel
theorem dX11_work_204 : decode cX11_work 204 = .ok (.getfield 16, 3) := by decide +kernel
theorem dX11_work_207 : decode cX11_work 207 = .ok (.imul, 1) := by decide +kernel
theorem dX11_work_208 : decode cX11_work 208 = .ok (.iload 6, 2) := by decide +kernel
theorem dX11_work_210 : decode cX11_work 210 = .ok (.iload 4, 2) := by decide +kernel
theorem dX11_work_212 : decode cX11_work 212 = .ok (.imul, 1) := by decide +kernel
theorem dX11_work_213 : decode cX11_work 213 = .ok (.iadd, 1) := by decide +kernel
theorem dX11_work_214 : decode cX11_work 214 = .ok (.invokestatic 186, 3) := by decide +kernel
theorem dX11_work_217 : decode cX11_work 217 = .ok (.iinc 5 1, 3) := by decide +kernel
theorem dX11_work_220 : decode cX11_work 220 = .ok (.goto (-127), 3) := by decide +kernel
theorem dX11_work_223 : decode cX11_work 223 = .ok (.return_, 1) := by decide +kernel
theorem dX11_load_0 : decode cX11_load 0 = .ok (.iconst 0, 1) := by decide +kernel
theorem dX11_load_1 : decode cX11_load 1 = .ok (.istore_n 3, 1) := by decide +kernel
theorem dX11_load_2 : decode cX11_load 2 = .ok (.iload_n 3, 1) := by decide +kernel
theorem dX11_load_3 : decode cX11_load 3 = .ok (.aload_n 0, 1) := by decide +kernel
theorem dX11_load_4 : decode cX11_load 4 = .ok (.iload_n 1, 1) := by decide +kernel
theorem dX11_load_5 : decode cX11_load 5 = .ok (.iaload, 1) := by decide +kernel
theorem dX11_load_6 : decode cX11_load 6 = .ok (.if_icmp .gt 17, 3) := by decide +kernel
theorem dX11_load_9 : decode cX11_load 9 = .ok (.aload_n 2, 1) := by decide +kernel
theorem dX11_load_10 : decode cX11_load 10 = .ok (.iload_n 3, 1) := by decide +kernel
theorem dX11_load_11 : decode cX11_load 11 = .ok (.aload_n 0, 1) := by decide +kernel
theorem dX11_load_12 : decode cX11_load 12 = .ok (.iload_n 1, 1) := by decide +kernel
theorem dX11_load_13 : decode cX11_load 13 = .ok (.iload_n 3, 1) := by decide +kernel
theorem dX11_load_14 : decode cX11_load 14 = .ok (.iadd, 1) := by decide +kernel
theorem dX11_load_15 : decode cX11_load 15 = .ok (.iaload, 1) := by decide +kernel
theorem dX11_load_16 : decode cX11_load 16 = .ok (.iastore, 1) := by decide +kernel
theorem dX11_load_17 : decode cX11_load 17 = .ok (.iinc 3 1, 3) := by decide +kernel
theorem dX11_load_20 : decode cX11_load 20 = .ok (.goto (-18), 3) := by decide +kernel
theorem dX11_load_23 : decode cX11_load 23 = .ok (.return_, 1) := by decide +kernel
set_option maxRecDepth 20000 in
theorem ggX11_multiply_X11_load : GoodIn wsX11_multiply wsX11_load := goodIn_r _ [6] (by decide +kernel) (by decide +kernel)
set_option maxRecDepth 20000 in
theorem gX11_multiply_X11_load : GoodIn wsX11_multiply (va_wsS RX11 171 yX11_load wsX11_load) := goodIn_app (goodIn_of _ (by decide +kernel)) ggX11_multiply_X11_load
set_option maxRecDepth 20000 in
theorem ggX11_multiply_X11_times : GoodIn wsX11_multiply wsX11_times := goodIn_r _ [9, 10, 11, 12, 5, 13] (by decide +kernel) (by decide +kernel)
set_option maxRecDepth 20000 in
theorem gX11_multiply_X11_times : GoodIn wsX11_multiply (va_wsS RX11 190 yX11_times wsX11_times) := goodIn_app (goodIn_of _ (by decide +kernel)) ggX11_multiply_X11_times
set_option maxRecDepth 20000 in
theorem ggX11_multiply_X11_copy : GoodIn wsX11_multiply wsX11_copy := goodIn_r _ [16] (by decide +kernel) (by decide +kernel)
set_option maxRecDepth 20000 in
theorem gX11_multiply_X11_copy : GoodIn wsX11_multiply (va_wsS RX11 129 yX11_copy wsX11_copy) := goodIn_app (goodIn_of _ (by decide +kernel)) ggX11_multiply_X11_copy
theorem dX11_multiply_0 : decode cX11_multiply 0 = .ok (.aload_n 2, 1) := by decide +kernel
theorem dX11_multiply_1 : decode cX11_multiply 1 = .ok (.iload_n 3, 1) := by decide +kernel
theorem dX11_multiply_2 : decode cX11_multiply 2 = .ok (.aload_n 0, 1) := by decide +kernel
theorem dX11_multiply_3 : decode cX11_multiply 3 = .ok (.getfield 54, 3) := by decide +kernel
theorem dX11_multiply_6 : decode cX11_multiply 6 = .ok (.invokestatic 171, 3) := by decide +kernel
theorem dX11_multiply_9 : decode cX11_multiply 9 = .ok (.aload_n 1, 1) := by decide +kernel
theorem dX11_multiply_10 : decode cX11_multiply 10 = .ok (.aload_n 0, 1) := by decide +kernel
theorem dX11_multiply_11 : decode cX11_multiply 11 = .ok (.getfield 54, 3) := by decide +kernel
theorem dX11_multiply_14 : decode cX11_multiply 14 = .ok (.aload_n 0, 1) := by decide +kernel
theorem dX11_multiply_15 : decode cX11_multiply 15 = .ok (.getfield 57, 3) := by decide +kernel
theorem dX11_multiply_18 : decode cX11_multiply 18 = .ok (.invokestatic 190, 3) := by decide +kernel
theorem dX11_multiply_21 : decode cX11_multiply 21 = .ok (.aload_n 0, 1) := by decide +kernel
theorem dX11_multiply_22 : decode cX11_multiply 22 = .ok (.getfield 57, 3) := by decide +kernel
theorem dX11_multiply_25 : decode cX11_multiply 25 = .ok (.aload_n 1, 1) := by decide +kernel
theorem dX11_multiply_26 : decode cX11_multiply 26 = .ok (.invokestatic 129, 3) := by decide +kernel
theorem dX11_multiply_29 : decode cX11_multiply 29 = .ok (.return_, 1) := by decide +kernel
theorem dX11_bits_0 : decode cX11_bits 0 = .ok (.iconst 0, 1) := by decide +kernel
theorem dX11_bits_1 : decode cX11_bits 1 = .ok (.istore_n 1, 1) := by decide +kernel
theorem dX11_bits_2 : decode cX11_bits 2 = .ok (.iconst 0, 1) := by decide +kernel
theorem dX11_bits_3 : decode cX11_bits 3 = .ok (.istore_n 2, 1) := by decide +kernel
theorem dX11_bits_4 : decode cX11_bits 4 = .ok (.iload_n 2, 1) := by decide +kernel
theorem dX11_bits_5 : decode cX11_bits 5 = .ok (.iconst 5, 1) := by decide +kernel
theorem dX11_bits_6 : decode cX11_bits 6 = .ok (.if_icmp .ge 17, 3) := by decide +kernel
theorem dX11_bits_9 : decode cX11_bits 9 = .ok (.iload_n 1, 1) := by decide +kernel
theorem dX11_bits_10 : decode cX11_bits 10 = .ok (.iload_n 0, 1) := by decide +kernel
theorem dX11_bits_11 : decode cX11_bits 11 = .ok (.iload_n 2, 1) := by decide +kernel
theorem dX11_bits_12 : decode cX11_bits 12 = .ok (.ishr, 1) := by decide +kernel
theorem dX11_bits_13 : decode cX11_bits 13 = .ok (.iconst 1, 1) := by decide +kernel
theorem dX11_bits_14 : decode cX11_bits 14 = .ok (.iand, 1) := by decide +kernel
theorem dX11_bits_15 : decode cX11_bits 15 = .ok (.iadd, 1) := by decide +kernel
theorem dX11_bits_16 : decode cX11_bits 16 = .ok (.istore_n 1, 1) := by decide +kernel
theorem dX11_bits_17 : decode cX11_bits 17 = .ok (.iinc 2 1, 3) := by decide +kernel
theorem dX11_bits_20 : decode cX11_bits 20 = .ok (.goto (-16), 3) := by decide +kernel
theorem dX11_bits_23 : decode cX11_bits 23 = .ok (.iload_n 1, 1) := by decide +kernel
theorem dX11_bits_24 : decode cX11_bits 24 = .ok (.ireturn, 1) := by decide +kernel
theorem dX11_parentsOf_0 : decode cX11_parentsOf 0 = .ok (.iconst 0, 1) := by decide +kernel
theorem dX11_parentsOf_1 : decode cX11_parentsOf 1 = .ok (.istore_n 2, 1) := by decide +kernel
theorem dX11_parentsOf_2 : decode cX11_parentsOf 2 = .ok (.iconst 0, 1) := by decide +kernel
theorem dX11_parentsOf_3 : decode cX11_parentsOf 3 = .ok (.istore_n 3, 1) := by decide +kernel
theorem dX11_parentsOf_4 : decode cX11_parentsOf 4 = .ok (.iload_n 3, 1) := by decide +kernel
theorem dX11_parentsOf_5 : decode cX11_parentsOf 5 = .ok (.iconst 5, 1) := by decide +kernel
theorem dX11_parentsOf_6 : decode cX11_parentsOf 6 = .ok (.if_icmp .ge 23, 3) := by decide +kernel
theorem dX11_parentsOf_9 : decode cX11_parentsOf 9 = .ok (.iload_n 2, 1) := by decide +kernel
theorem dX11_parentsOf_10 : decode cX11_parentsOf 10 = .ok (.iload_n 0, 1) := by decide +kernel
theorem dX11_parentsOf_11 : decode cX11_parentsOf 11 = .ok (.iconst 5, 1) := by decide +kernel
theorem dX11_parentsOf_12 : decode cX11_parentsOf 12 = .ok (.iload_n 3, 1) := by decide +kernel
theorem dX11_parentsOf_13 : decode cX11_parentsOf 13 = .ok (.imul, 1) := by decide +kernel
theorem dX11_parentsOf_14 : decode cX11_parentsOf 14 = .ok (.iload_n 1, 1) := by decide +kernel
theorem dX11_parentsOf_15 : decode cX11_parentsOf 15 = .ok (.iadd, 1) := by decide +kernel
theorem dX11_parentsOf_16 : decode cX11_parentsOf 16 = .ok (.ishr, 1) := by decide +kernel
theorem dX11_parentsOf_17 : decode cX11_parentsOf 17 = .ok (.iconst 1, 1) := by decide +kernel
theorem dX11_parentsOf_18 : decode cX11_parentsOf 18 = .ok (.iand, 1) := by decide +kernel
theorem dX11_parentsOf_19 : decode cX11_parentsOf 19 = .ok (.iload_n 3, 1) := by decide +kernel
theorem dX11_parentsOf_20 : decode cX11_parentsOf 20 = .ok (.ishl, 1) := by decide +kernel
theorem dX11_parentsOf_21 : decode cX11_parentsOf 21 = .ok (.ior, 1) := by decide +kernel
theorem dX11_parentsOf_22 : decode cX11_parentsOf 22 = .ok (.istore_n 2, 1) := by decide +kernel
theorem dX11_parentsOf_23 : decode cX11_parentsOf 23 = .ok (.iinc 3 1, 3) := by decide +kernel
theorem dX11_parentsOf_26 : decode cX11_parentsOf 26 = .ok (.goto (-22), 3) := by decide +kernel
theorem dX11_parentsOf_29 : decode cX11_parentsOf 29 = .ok (.iload_n 2, 1) := by decide +kernel
theorem dX11_parentsOf_30 : decode cX11_parentsOf 30 = .ok (.ireturn, 1) := by decide +kernel
set_option maxRecDepth 20000 in
theorem ggX11_fit_X11_put : GoodIn wsX11_fit wsX11_put := goodIn_r _ [7] (by decide +kernel) (by decide +kernel)
set_option maxRecDepth 20000 in
theorem gX11_fit_X11_put : GoodIn wsX11_fit (va_wsS RX11 151 yX11_put wsX11_put) := goodIn_app (goodIn_of _ (by decide +kernel)) ggX11_fit_X11_put
set_option maxRecDepth 20000 in
theorem ggX11_fit_X11_parentsOf : GoodIn wsX11_fit wsX11_parentsOf := goodIn_r _ [10] (by decide +kernel) (by decide +kernel)
set_option maxRecDepth 20000 in
theorem gX11_fit_X11_parentsOf : GoodIn wsX11_fit (va_wsS RX11 194 yX11_parentsOf wsX11_parentsOf) := goodIn_app (goodIn_of _ (by decide +kernel)) ggX11_fit_X11_parentsOf
set_option maxRecDepth 20000 in
theorem ggX11_fit_X11_family : GoodIn wsX11_fit wsX11_family := goodIn_r _ [14, 15, 2, 16, 3, 17, 18, 19, 6, 20, 21, 22, 23, 24, 25, 1, 26, 27, 28, 29, 30, 31, 32, 33, 34, 35, 36, 37, 38, 39, 40, 41, 42, 43, 44, 45, 46, 47, 48, 49, 50, 51, 52, 53, 54, 55, 56, 57, 58, 59, 60, 61, 62, 63, 64, 65, 66, 67, 68, 69, 70, 71, 72, 73, 74, 84, 85, 86, 87, 88, 89, 90, 91, 92, 93, 94, 95, 96, 97, 98, 99, 100, 101, 102, 103, 104, 105, 106, 107, 108, 109, 110, 111, 112, 113, 114, 115, 116, 117, 118, 119, 120, 121, 122] (by decide +kernel) (by decide +kernel)
set_option maxRecDepth 20000 in
theorem gX11_fit_X11_family : GoodIn wsX11_fit (wsV RX11 197 RX11 yX11_family wsX11_family) := goodIn_app (goodIn_of _ (by decide +kernel)) ggX11_fit_X11_family
set_option maxRecDepth 20000 in
theorem ggX11_fit_X11_multiply : GoodIn wsX11_fit wsX11_multiply := goodIn_r _ [78, 79, 80, 37, 38, 6, 39, 81, 82, 83, 36, 56, 57, 58, 47, 48, 49, 84, 85, 86, 87, 88, 89, 90, 91, 92, 93, 94, 95, 96, 97, 98, 99, 100, 101, 102, 103, 104, 105, 106, 107, 108, 109, 110, 111, 112, 113, 114, 115, 116, 117, 118, 119, 120, 121, 122] (by decide +kernel) (by decide +kernel)
set_option maxRecDepth 20000 in
theorem gX11_fit_X11_multiply : GoodIn wsX11_fit (wsV RX11 200 RX11 yX11_multiply wsX11_multiply) := goodIn_app (goodIn_of _ (by decide +kernel)) ggX11_fit_X11_multiply
theorem dX11_fit_0 : decode cX11_fit 0 = .ok (.aload_n 2, 1) := by decide +kernel
theorem dX11_fit_1 : decode cX11_fit 1 = .ok (.iconst 1, 1) := by decide +kernel
theorem dX11_fit_2 : decode cX11_fit 2 = .ok (.invokestatic 151, 3) := by decide +kernel
end
section
/-! contexts: a walk's fixed things in one tuple; V: the walk stands at pc with world ws, locals lv, stack st -/
abbrev GG : Type := va_G × ClassId × ClassId × ClassId × ClassId × ClassId
abbrev gI (G : GG) : ClassId := G.2.1
abbrev gJ (G : GG) : ClassId := G.2.2.1
abbrev gZ (G : GG) : ClassId := G.2.2.2.1
abbrev gB (G : GG) : ClassId := G.2.2.2.2.1
abbrev gF (G : GG) : ClassId := G.2.2.2.2.2
def gT (G : GG) : List (ClassId × FieldType) := [(gI G, .int), (gJ G, .long), (gZ G, .boolean), (gB G, .object "StructureSearch$Big"), (gF G, .object "StructureSearch$Fraction")]
def primeAt (j : Nat) : Nat := [2, 3, 5, 7, 11, 13, 17, 19, 23, 29, 31, 37, 41, 43, 47, 53, 59].getD j 0
def factAt (j : Nat) : Nat := [1, 1, 2, 6, 24, 120, 720, 5040, 40320, 362880, 3628800, 39916800, 479001600, 6227020800, 87178291200, 1307674368000, 20922789888000].getD j 0
/-- the two constant arrays of the class -/
def gS (A : Nat → Prop) (U : State) (H : Heap) : Prop := ∃ t1 t2 : Nat, va_Z "StructureSearch$Powers" "SMALL_PRIMES" "[I" (.ref t1) A U H ∧ va_T .int t1 17 (fun j => .int (nI (primeAt j))) A U H ∧ va_Z "StructureSearch$Tables" "FACTORIALS" "[J" (.ref t2) A U H ∧ va_T .long t2 17 (fun j => .long (lN (factAt j))) A U H
theorem gS.moved {A : Nat → Prop} {u U : State} {H : Heap} (hvm : u.vm.Alike U.vm) (h : gS A u H) : gS A U H := by
  obtain ⟨t1, t2, h1, h2, h3, h4⟩ := h
  exact ⟨t1, t2, h1.moved hvm, h2.moved hvm, h3.moved hvm, h4.moved hvm⟩
theorem gS.kept {A : Nat → Prop} {U : State} {H H1 : Heap} (h : gS A U H) (hq : ∀ a : Nat, a < H.size → ¬ A a → H1[a]? = H[a]?) : gS A U H1 := by
  obtain ⟨t1, t2, h1, ⟨c2, a1, a2, a3, a4, a5, a6, a7⟩, h3, ⟨c4, b1, b2, b3, b4, b5, b6, b7⟩⟩ := h
  exact ⟨t1, t2, h1.kept hq, ⟨c2, by rw [hq t1 (Array.getElem?_eq_some_iff.mp a1).1 a7]; exact a1, a2, a3, a4, a5, a6, a7⟩, h3.kept hq, ⟨c4, by rw [hq t2 (Array.getElem?_eq_some_iff.mp b1).1 b7]; exact b1, b2, b3, b4, b5, b6, b7⟩⟩
theorem gS.narrow {A B : Nat → Prop} {U : State} {H : Heap} (h : gS A U H) (hAB : ∀ q, B q → A q) : gS B U H := by
  obtain ⟨t1, t2, h1, ⟨c2, a1, a2, a3, a4, a5, a6, a7⟩, h3, ⟨c4, b1, b2, b3, b4, b5, b6, b7⟩⟩ := h
  exact ⟨t1, t2, h1.narrow hAB, ⟨c2, a1, a2, a3, a4, a5, a6, fun z => a7 (hAB _ z)⟩, h3.narrow hAB, ⟨c4, b1, b2, b3, b4, b5, b6, fun z => b7 (hAB _ z)⟩⟩
abbrev Cx : Type := Program × Launch × Env × Room × State × MethodId × Array Value × List Frame × Method × Code × (State → Prop) × (Nat → Prop) × GG
abbrev kp (K : Cx) : Program := K.1
abbrev kl (K : Cx) : Launch := K.2.1
abbrev ke (K : Cx) : Env := K.2.2.1
abbrev kR (K : Cx) : Room := K.2.2.2.1
abbrev ks (K : Cx) : State := K.2.2.2.2.1
abbrev km (K : Cx) : MethodId := K.2.2.2.2.2.1
abbrev ka (K : Cx) : Array Value := K.2.2.2.2.2.2.1
abbrev kb (K : Cx) : List Frame := K.2.2.2.2.2.2.2.1
abbrev kM (K : Cx) : Method := K.2.2.2.2.2.2.2.2.1
abbrev kc (K : Cx) : Code := K.2.2.2.2.2.2.2.2.2.1
abbrev kQ (K : Cx) : State → Prop := K.2.2.2.2.2.2.2.2.2.2.1
abbrev kA (K : Cx) : Nat → Prop := K.2.2.2.2.2.2.2.2.2.2.2.1
abbrev kG (K : Cx) : GG := K.2.2.2.2.2.2.2.2.2.2.2.2
abbrev LV : Type := List (Nat × Value)
def V (K : Cx) (nL : Nat) (ws : va_W) (ce sl : Nat) (pc : Nat) (lv : LV) (st : List Value) : Prop :=
  ∀ (H : Heap) (locs : List Loc) (ls : Array Slot), va_P (kG K).1 vwCl ws H → va_D (kA K) ws → va_S (kA K) (ks K).heap H locs → lv_has ls nL lv →
    W (kp K) (kl K) (ke K) (kR K) (ks K) (km K) (ka K) (kb K) (kM K) (kc K) H locs ce sl (kQ K) (F0 (km K) pc ls st)
/-- what is known of a context: machine, code, words, classes, constant arrays, room -/
def Ok (K : Cx) (cc : ByteArray) (nL : Nat) (own : String) (Ts : List Cond) (R : Room) : Prop :=
  (kp K).tables.exec = Jvm.exec ∧ (kc K).code = cc ∧ (kc K).maxLocals = nL ∧ (ks K).vm.findClass own = some (km K).cls ∧ (∀ w ∈ Ts, w.before (ka K) (ks K) = true) ∧
  va_K (kG K).1 vwCl (gT (kG K)) (ks K) ∧ (∀ q, (ks K).heap.size ≤ q → kA K q) ∧ gS (kA K) (ks K) (ks K).heap ∧ kR K = R
def lg (lv : LV) (i : Nat) : Option Value := match lv with
  | [] => none
  | (j, v) :: r => match Nat.beq j i with
    | true => some v
    | false => lg r i
theorem lg_mem {lv : LV} {i : Nat} {v : Value} (h : lg lv i = some v) : (i, v) ∈ lv := by
  induction lv with
  | nil => cases h
  | cons a r ih =>
    obtain ⟨j, u⟩ := a
    unfold lg at h
    cases hb : Nat.beq j i with
    | true =>
      rw [hb] at h
      cases h
      have : j = i := Nat.eq_of_beq_eq_true hb
      subst this
      exact List.mem_cons_self
    | false =>
      rw [hb] at h
      exact List.mem_cons_of_mem _ (ih h)
theorem lg_at {ls : Array Slot} {nL : Nat} {lv : LV} (h : lv_has ls nL lv) {i : Nat} {v : Value} (hk : lg lv i = some v) : ls[i]? = some (.val v) := h.2.2 (i, v) (lg_mem hk)
section VR
variable {K : Cx} {cc : ByteArray} {nL : Nat} {own : String} {Ts : List Cond} {R : Room} {ws : va_W} {ce sl pc : Nat} {lv : LV} {st : List Value}
theorem Ok.G (hk : Ok K cc nL own Ts R) : va_K (kG K).1 vwCl (gT (kG K)) (ks K) := hk.2.2.2.2.2.1
theorem Ok.ts (hk : Ok K cc nL own Ts R) : ∀ w ∈ Ts, w.before (ka K) (ks K) = true := hk.2.2.2.2.1
theorem Ok.sta (hk : Ok K cc nL own Ts R) : gS (kA K) (ks K) (ks K).heap := hk.2.2.2.2.2.2.2.1
theorem Ok.room (hk : Ok K cc nL own Ts R) : kR K = R := hk.2.2.2.2.2.2.2.2
theorem Ok.A (hk : Ok K cc nL own Ts R) : ∀ q, (ks K).heap.size ≤ q → kA K q := hk.2.2.2.2.2.2.1
/-- fewer locals are listed, or in another order -/
theorem v_loc {lv' : LV} (ks0 : List Nat) (h : lv_pick lv ks0 = lv') (k : V K nL ws ce sl pc lv' st) : V K nL ws ce sl pc lv st :=
  fun H locs ls hP hD hS hl => k H locs ls hP hD hS (lv_sub hl ks0 h)
theorem v_widen {ce' sl' : Nat} (h1 : ce ≤ ce') (h2 : sl ≤ sl') (k : V K nL ws ce' sl' pc lv st) : V K nL ws ce sl pc lv st :=
  fun H locs ls hP hD hS hl => W.widen h1 h2 (k H locs ls hP hD hS hl)
/-- the world told otherwise -/
theorem v_ws {ws' : va_W} (e : ws = ws') (k : V K nL ws' ce sl pc lv st) : V K nL ws ce sl pc lv st := e ▸ k
theorem v_topi {x y : Int32} (e : x = y) (k : V K nL ws ce sl pc lv (.int y :: st)) : V K nL ws ce sl pc lv (.int x :: st) := e ▸ k
theorem v_topl {x y : Int64} (e : x = y) (k : V K nL ws ce sl pc lv (.long y :: st)) : V K nL ws ce sl pc lv (.long x :: st) := e ▸ k
theorem v_iconst {n : Int} {v : Int32} (hk : Ok K cc nL own Ts R) (hdg : decode cc pc = .ok (.iconst n, 1)) (hv : Int32.ofInt n = v) (k : V K nL ws ce sl (pc + 1) lv (.int v :: st)) : V K nL ws ce sl pc lv st :=
  fun H locs ls hP hD hS hl => lv_iconst hk.1 hk.2.1 hdg hv (k H locs ls hP hD hS hl)
theorem v_bipush {n : Int} {v : Int32} (hk : Ok K cc nL own Ts R) (hdg : decode cc pc = .ok (.bipush n, 2)) (hv : (Int8.ofInt n).toInt32 = v) (k : V K nL ws ce sl (pc + 2) lv (.int v :: st)) : V K nL ws ce sl pc lv st :=
  fun H locs ls hP hD hS hl => lv_bipush hk.1 hk.2.1 hdg hv (k H locs ls hP hD hS hl)
theorem v_sipush {n : Int} {v : Int32} (hk : Ok K cc nL own Ts R) (hdg : decode cc pc = .ok (.sipush n, 3)) (hv : (Int16.ofInt n).toInt32 = v) (k : V K nL ws ce sl (pc + 3) lv (.int v :: st)) : V K nL ws ce sl pc lv st :=
  fun H locs ls hP hD hS hl => lv_sipush hk.1 hk.2.1 hdg hv (k H locs ls hP hD hS hl)
theorem v_lconst {n : Fin 2} {v : Int64} (hk : Ok K cc nL own Ts R) (hdg : decode cc pc = .ok (.lconst n, 1)) (hv : Int64.ofNat (n : Nat) = v) (k : V K nL ws ce sl (pc + 1) lv (.long v :: st)) : V K nL ws ce sl pc lv st :=
  fun H locs ls hP hD hS hl => lv_lconst hk.1 hk.2.1 hdg hv (k H locs ls hP hD hS hl)
theorem v_ldc {index : Nat} {v : Int32} (hk : Ok K cc nL own Ts R) (hdg : decode cc pc = .ok (.ldc index, 2)) (hc : Cond.constant own index v ∈ Ts) (k : V K nL ws ce sl (pc + 2) lv (.int v :: st)) : V K nL ws ce sl pc lv st :=
  fun H locs ls hP hD hS hl => lv_ldc hk.1 hk.2.1 hk.2.2.2.1 (hk.ts _ hc) hdg (k H locs ls hP hD hS hl)
theorem v_ldcw {index : Nat} {v : Int32} (hk : Ok K cc nL own Ts R) (hdg : decode cc pc = .ok (.ldc_w index, 3)) (hc : Cond.constant own index v ∈ Ts) (k : V K nL ws ce sl (pc + 3) lv (.int v :: st)) : V K nL ws ce sl pc lv st :=
  fun H locs ls hP hD hS hl => lv_ldcw hk.1 hk.2.1 hk.2.2.2.1 (hk.ts _ hc) hdg (k H locs ls hP hD hS hl)
theorem v_ldc2 {index : Nat} {v : Int64} (hk : Ok K cc nL own Ts R) (hdg : decode cc pc = .ok (.ldc2_w index, 3)) (hc : Cond.constantLong own index v ∈ Ts) (k : V K nL ws ce sl (pc + 3) lv (.long v :: st)) : V K nL ws ce sl pc lv st :=
  fun H locs ls hP hD hS hl => lv_ldc2 hk.1 hk.2.1 hk.2.2.2.1 (hk.ts _ hc) hdg (k H locs ls hP hD hS hl)
theorem v_iload_n {i : Fin 4} {x : Int32} (hk : Ok K cc nL own Ts R) (hdg : decode cc pc = .ok (.iload_n i, 1)) (hl0 : lg lv i.val = some (.int x)) (k : V K nL ws ce sl (pc + 1) lv (.int x :: st)) : V K nL ws ce sl pc lv st :=
  fun H locs ls hP hD hS hl => lv_iload_n hk.1 hk.2.1 hdg rfl (lg_at hl hl0) (k H locs ls hP hD hS hl)
theorem v_iload {i : Nat} {x : Int32} (hk : Ok K cc nL own Ts R) (hdg : decode cc pc = .ok (.iload i, 2)) (hl0 : lg lv i = some (.int x)) (k : V K nL ws ce sl (pc + 2) lv (.int x :: st)) : V K nL ws ce sl pc lv st :=
  fun H locs ls hP hD hS hl => lv_iload hk.1 hk.2.1 hdg (lg_at hl hl0) (k H locs ls hP hD hS hl)
theorem v_lload_n {i : Fin 4} {x : Int64} (hk : Ok K cc nL own Ts R) (hdg : decode cc pc = .ok (.lload_n i, 1)) (hl0 : lg lv i.val = some (.long x)) (k : V K nL ws ce sl (pc + 1) lv (.long x :: st)) : V K nL ws ce sl pc lv st :=
  fun H locs ls hP hD hS hl => lv_lload_n hk.1 hk.2.1 hdg rfl (lg_at hl hl0) (k H locs ls hP hD hS hl)
theorem v_lload {i : Nat} {x : Int64} (hk : Ok K cc nL own Ts R) (hdg : decode cc pc = .ok (.lload i, 2)) (hl0 : lg lv i = some (.long x)) (k : V K nL ws ce sl (pc + 2) lv (.long x :: st)) : V K nL ws ce sl pc lv st :=
  fun H locs ls hP hD hS hl => lv_lload hk.1 hk.2.1 hdg (lg_at hl hl0) (k H locs ls hP hD hS hl)
theorem v_aload_n {i : Fin 4} {x : Nat} (hk : Ok K cc nL own Ts R) (hdg : decode cc pc = .ok (.aload_n i, 1)) (hl0 : lg lv i.val = some (.ref x)) (k : V K nL ws ce sl (pc + 1) lv (.ref x :: st)) : V K nL ws ce sl pc lv st :=
  fun H locs ls hP hD hS hl => lv_aload_n hk.1 hk.2.1 hdg rfl (lg_at hl hl0) (k H locs ls hP hD hS hl)
theorem v_aload {i : Nat} {x : Nat} (hk : Ok K cc nL own Ts R) (hdg : decode cc pc = .ok (.aload i, 2)) (hl0 : lg lv i = some (.ref x)) (k : V K nL ws ce sl (pc + 2) lv (.ref x :: st)) : V K nL ws ce sl pc lv st :=
  fun H locs ls hP hD hS hl => lv_aload hk.1 hk.2.1 hdg (lg_at hl hl0) (k H locs ls hP hD hS hl)
theorem v_aload_nN {i : Fin 4} (hk : Ok K cc nL own Ts R) (hdg : decode cc pc = .ok (.aload_n i, 1)) (hl0 : lg lv i.val = some .null) (k : V K nL ws ce sl (pc + 1) lv (.null :: st)) : V K nL ws ce sl pc lv st :=
  fun H locs ls hP hD hS hl => lv_aload_nN hk.1 hk.2.1 hdg rfl (lg_at hl hl0) (k H locs ls hP hD hS hl)
theorem v_istore_n {j : Fin 4} {i : Nat} {x : Int32} {lv' : LV} (hk : Ok K cc nL own Ts R) (hdg : decode cc pc = .ok (.istore_n j, 1)) (hi : j.val = i) (hn : i < nL) (ks0 : List Nat) (hl0 : lv_pick ((i, Value.int x) :: lv.filter (fun q => !(q.1 == i) && !(q.1 + 1 == i && q.2.category == 2))) ks0 = lv') (k : V K nL ws ce sl (pc + 1) lv' st) : V K nL ws ce sl pc lv (.int x :: st) :=
  fun H locs ls hP hD hS hl => lv_istore_n hk.1 hk.2.1 hdg hi hl hn rfl (fun ls' hl' => k H locs ls' hP hD hS (lv_sub hl' ks0 hl0))
theorem v_istore {i : Nat} {x : Int32} {lv' : LV} (hk : Ok K cc nL own Ts R) (hdg : decode cc pc = .ok (.istore i, 2)) (hn : i < nL) (ks0 : List Nat) (hl0 : lv_pick ((i, Value.int x) :: lv.filter (fun q => !(q.1 == i) && !(q.1 + 1 == i && q.2.category == 2))) ks0 = lv') (k : V K nL ws ce sl (pc + 2) lv' st) : V K nL ws ce sl pc lv (.int x :: st) :=
  fun H locs ls hP hD hS hl => lv_istore hk.1 hk.2.1 hdg hl hn rfl (fun ls' hl' => k H locs ls' hP hD hS (lv_sub hl' ks0 hl0))
theorem v_lstore_n {j : Fin 4} {i : Nat} {x : Int64} {lv' : LV} (hk : Ok K cc nL own Ts R) (hdg : decode cc pc = .ok (.lstore_n j, 1)) (hi : j.val = i) (hn : i + 1 < nL) (ks0 : List Nat) (hl0 : lv_pick ((i, Value.long x) :: lv.filter (fun q => !(q.1 == i) && (!(q.1 == i + 1) && !(q.1 + 1 == i && q.2.category == 2)))) ks0 = lv') (k : V K nL ws ce sl (pc + 1) lv' st) : V K nL ws ce sl pc lv (.long x :: st) :=
  fun H locs ls hP hD hS hl => lv_lstore_n hk.1 hk.2.1 hdg hi hl hn rfl (fun ls' hl' => k H locs ls' hP hD hS (lv_sub hl' ks0 hl0))
theorem v_lstore {i : Nat} {x : Int64} {lv' : LV} (hk : Ok K cc nL own Ts R) (hdg : decode cc pc = .ok (.lstore i, 2)) (hn : i + 1 < nL) (ks0 : List Nat) (hl0 : lv_pick ((i, Value.long x) :: lv.filter (fun q => !(q.1 == i) && (!(q.1 == i + 1) && !(q.1 + 1 == i && q.2.category == 2)))) ks0 = lv') (k : V K nL ws ce sl (pc + 2) lv' st) : V K nL ws ce sl pc lv (.long x :: st) :=
  fun H locs ls hP hD hS hl => lv_lstore hk.1 hk.2.1 hdg hl hn rfl (fun ls' hl' => k H locs ls' hP hD hS (lv_sub hl' ks0 hl0))
theorem v_astore_n {j : Fin 4} {i : Nat} {x : Nat} {lv' : LV} (hk : Ok K cc nL own Ts R) (hdg : decode cc pc = .ok (.astore_n j, 1)) (hi : j.val = i) (hn : i < nL) (ks0 : List Nat) (hl0 : lv_pick ((i, Value.ref x) :: lv.filter (fun q => !(q.1 == i) && !(q.1 + 1 == i && q.2.category == 2))) ks0 = lv') (k : V K nL ws ce sl (pc + 1) lv' st) : V K nL ws ce sl pc lv (.ref x :: st) :=
  fun H locs ls hP hD hS hl => lv_astore_n hk.1 hk.2.1 hdg hi hl hn rfl (fun ls' hl' => k H locs ls' hP hD hS (lv_sub hl' ks0 hl0))
theorem v_astore {i : Nat} {x : Nat} {lv' : LV} (hk : Ok K cc nL own Ts R) (hdg : decode cc pc = .ok (.astore i, 2)) (hn : i < nL) (ks0 : List Nat) (hl0 : lv_pick ((i, Value.ref x) :: lv.filter (fun q => !(q.1 == i) && !(q.1 + 1 == i && q.2.category == 2))) ks0 = lv') (k : V K nL ws ce sl (pc + 2) lv' st) : V K nL ws ce sl pc lv (.ref x :: st) :=
  fun H locs ls hP hD hS hl => lv_astore hk.1 hk.2.1 hdg hl hn rfl (fun ls' hl' => k H locs ls' hP hD hS (lv_sub hl' ks0 hl0))
theorem v_iinc {i : Nat} {n : Int} {x v : Int32} {lv' : LV} (hk : Ok K cc nL own Ts R) (hdg : decode cc pc = .ok (.iinc i n, 3)) (hg : lg lv i = some (.int x)) (hv : x + Int32.ofInt n = v) (hn : i < nL) (ks0 : List Nat) (hl0 : lv_pick ((i, Value.int v) :: lv.filter (fun q => !(q.1 == i) && !(q.1 + 1 == i && q.2.category == 2))) ks0 = lv') (k : V K nL ws ce sl (pc + 3) lv' st) : V K nL ws ce sl pc lv st := by
  intro H locs ls hP hD hS hl
  obtain ⟨j, hj⟩ := List.getElem?_of_mem (lg_mem hg)
  exact lv_iinc (k := j) hk.1 hk.2.1 hdg hl hj hv hn rfl (fun ls' hl' => k H locs ls' hP hD hS (lv_sub hl' ks0 hl0))
theorem v_iadd {x y : Int32} (hk : Ok K cc nL own Ts R) (hdg : decode cc pc = .ok (.iadd, 1)) (k : V K nL ws ce sl (pc + 1) lv (.int (x + y) :: st)) : V K nL ws ce sl pc lv (.int y :: .int x :: st) :=
  fun H locs ls hP hD hS hl => lv_iadd hk.1 hk.2.1 hdg (k H locs ls hP hD hS hl)
theorem v_isub {x y : Int32} (hk : Ok K cc nL own Ts R) (hdg : decode cc pc = .ok (.isub, 1)) (k : V K nL ws ce sl (pc + 1) lv (.int (x - y) :: st)) : V K nL ws ce sl pc lv (.int y :: .int x :: st) :=
  fun H locs ls hP hD hS hl => lv_isub hk.1 hk.2.1 hdg (k H locs ls hP hD hS hl)
theorem v_imul {x y : Int32} (hk : Ok K cc nL own Ts R) (hdg : decode cc pc = .ok (.imul, 1)) (k : V K nL ws ce sl (pc + 1) lv (.int (x * y) :: st)) : V K nL ws ce sl pc lv (.int y :: .int x :: st) :=
  fun H locs ls hP hD hS hl => lv_imul hk.1 hk.2.1 hdg (k H locs ls hP hD hS hl)
theorem v_iand {x y : Int32} (hk : Ok K cc nL own Ts R) (hdg : decode cc pc = .ok (.iand, 1)) (k : V K nL ws ce sl (pc + 1) lv (.int (x &&& y) :: st)) : V K nL ws ce sl pc lv (.int y :: .int x :: st) :=
  fun H locs ls hP hD hS hl => lv_iand hk.1 hk.2.1 hdg (k H locs ls hP hD hS hl)
theorem v_ior {x y : Int32} (hk : Ok K cc nL own Ts R) (hdg : decode cc pc = .ok (.ior, 1)) (k : V K nL ws ce sl (pc + 1) lv (.int (x ||| y) :: st)) : V K nL ws ce sl pc lv (.int y :: .int x :: st) :=
  fun H locs ls hP hD hS hl => lv_ior hk.1 hk.2.1 hdg (k H locs ls hP hD hS hl)
theorem v_ixor {x y : Int32} (hk : Ok K cc nL own Ts R) (hdg : decode cc pc = .ok (.ixor, 1)) (k : V K nL ws ce sl (pc + 1) lv (.int (x ^^^ y) :: st)) : V K nL ws ce sl pc lv (.int y :: .int x :: st) :=
  fun H locs ls hP hD hS hl => lv_ixor hk.1 hk.2.1 hdg (k H locs ls hP hD hS hl)
theorem v_ishl {x y : Int32} (hk : Ok K cc nL own Ts R) (hdg : decode cc pc = .ok (.ishl, 1)) (k : V K nL ws ce sl (pc + 1) lv (.int (x <<< (y &&& 31)) :: st)) : V K nL ws ce sl pc lv (.int y :: .int x :: st) :=
  fun H locs ls hP hD hS hl => lv_ishl hk.1 hk.2.1 hdg (k H locs ls hP hD hS hl)
theorem v_ishr {x y : Int32} (hk : Ok K cc nL own Ts R) (hdg : decode cc pc = .ok (.ishr, 1)) (k : V K nL ws ce sl (pc + 1) lv (.int (x >>> (y &&& 31)) :: st)) : V K nL ws ce sl pc lv (.int y :: .int x :: st) :=
  fun H locs ls hP hD hS hl => lv_ishr hk.1 hk.2.1 hdg (k H locs ls hP hD hS hl)
theorem v_idiv {x y : Int32} (hk : Ok K cc nL own Ts R) (hdg : decode cc pc = .ok (.idiv, 1)) (hne : ¬ y = 0) (k : V K nL ws ce sl (pc + 1) lv (.int (x / y) :: st)) : V K nL ws ce sl pc lv (.int y :: .int x :: st) :=
  fun H locs ls hP hD hS hl => lv_idiv hk.1 hk.2.1 hdg hne (k H locs ls hP hD hS hl)
theorem v_irem {x y : Int32} (hk : Ok K cc nL own Ts R) (hdg : decode cc pc = .ok (.irem, 1)) (hne : ¬ y = 0) (k : V K nL ws ce sl (pc + 1) lv (.int (x - x / y * y) :: st)) : V K nL ws ce sl pc lv (.int y :: .int x :: st) :=
  fun H locs ls hP hD hS hl => lv_irem hk.1 hk.2.1 hdg hne (k H locs ls hP hD hS hl)
theorem v_ladd {x y : Int64} (hk : Ok K cc nL own Ts R) (hdg : decode cc pc = .ok (.ladd, 1)) (k : V K nL ws ce sl (pc + 1) lv (.long (x + y) :: st)) : V K nL ws ce sl pc lv (.long y :: .long x :: st) :=
  fun H locs ls hP hD hS hl => lv_ladd hk.1 hk.2.1 hdg (k H locs ls hP hD hS hl)
theorem v_lsub {x y : Int64} (hk : Ok K cc nL own Ts R) (hdg : decode cc pc = .ok (.lsub, 1)) (k : V K nL ws ce sl (pc + 1) lv (.long (x - y) :: st)) : V K nL ws ce sl pc lv (.long y :: .long x :: st) :=
  fun H locs ls hP hD hS hl => lv_lsub hk.1 hk.2.1 hdg (k H locs ls hP hD hS hl)
theorem v_lmul {x y : Int64} (hk : Ok K cc nL own Ts R) (hdg : decode cc pc = .ok (.lmul, 1)) (k : V K nL ws ce sl (pc + 1) lv (.long (x * y) :: st)) : V K nL ws ce sl pc lv (.long y :: .long x :: st) :=
  fun H locs ls hP hD hS hl => lv_lmul hk.1 hk.2.1 hdg (k H locs ls hP hD hS hl)
theorem v_land {x y : Int64} (hk : Ok K cc nL own Ts R) (hdg : decode cc pc = .ok (.land, 1)) (k : V K nL ws ce sl (pc + 1) lv (.long (x &&& y) :: st)) : V K nL ws ce sl pc lv (.long y :: .long x :: st) :=
  fun H locs ls hP hD hS hl => lv_land hk.1 hk.2.1 hdg (k H locs ls hP hD hS hl)
theorem v_lor {x y : Int64} (hk : Ok K cc nL own Ts R) (hdg : decode cc pc = .ok (.lor, 1)) (k : V K nL ws ce sl (pc + 1) lv (.long (x ||| y) :: st)) : V K nL ws ce sl pc lv (.long y :: .long x :: st) :=
  fun H locs ls hP hD hS hl => lv_lor hk.1 hk.2.1 hdg (k H locs ls hP hD hS hl)
theorem v_ldiv {x y : Int64} (hk : Ok K cc nL own Ts R) (hdg : decode cc pc = .ok (.ldiv, 1)) (hne : ¬ y = 0) (k : V K nL ws ce sl (pc + 1) lv (.long (x / y) :: st)) : V K nL ws ce sl pc lv (.long y :: .long x :: st) :=
  fun H locs ls hP hD hS hl => lv_ldiv hk.1 hk.2.1 hdg hne (k H locs ls hP hD hS hl)
theorem v_iushr {x y : Int32} (hk : Ok K cc nL own Ts R) (hdg : decode cc pc = .ok (.iushr, 1)) (k : V K nL ws ce sl (pc + 1) lv (.int (x.toUInt32 >>> (y.toUInt32 &&& Int32.toUInt32 31)).toInt32 :: st)) : V K nL ws ce sl pc lv (.int y :: .int x :: st) :=
  fun H locs ls hP hD hS hl => lv_iushr hk.1 hk.2.1 hdg rfl (k H locs ls hP hD hS hl)
theorem v_lushr {x : Int64} {y : Int32} (hk : Ok K cc nL own Ts R) (hdg : decode cc pc = .ok (.lushr, 1)) (k : V K nL ws ce sl (pc + 1) lv (.long (x.toUInt64 >>> (y.toInt64.toUInt64 &&& Int64.toUInt64 63)).toInt64 :: st)) : V K nL ws ce sl pc lv (.int y :: .long x :: st) :=
  fun H locs ls hP hD hS hl => lv_lushr hk.1 hk.2.1 hdg rfl (k H locs ls hP hD hS hl)
theorem v_lshl {x : Int64} {y : Int32} (hk : Ok K cc nL own Ts R) (hdg : decode cc pc = .ok (.lshl, 1)) (k : V K nL ws ce sl (pc + 1) lv (.long (x <<< (y.toInt64 &&& 63)) :: st)) : V K nL ws ce sl pc lv (.int y :: .long x :: st) :=
  fun H locs ls hP hD hS hl => lv_lshl hk.1 hk.2.1 hdg rfl (k H locs ls hP hD hS hl)
theorem v_i2l {x : Int32} (hk : Ok K cc nL own Ts R) (hdg : decode cc pc = .ok (.i2l, 1)) (k : V K nL ws ce sl (pc + 1) lv (.long x.toInt64 :: st)) : V K nL ws ce sl pc lv (.int x :: st) :=
  fun H locs ls hP hD hS hl => lv_i2l hk.1 hk.2.1 hdg rfl (k H locs ls hP hD hS hl)
theorem v_l2i {x : Int64} (hk : Ok K cc nL own Ts R) (hdg : decode cc pc = .ok (.l2i, 1)) (k : V K nL ws ce sl (pc + 1) lv (.int x.toInt32 :: st)) : V K nL ws ce sl pc lv (.long x :: st) :=
  fun H locs ls hP hD hS hl => lv_l2i hk.1 hk.2.1 hdg rfl (k H locs ls hP hD hS hl)
theorem v_lcmp {x y : Int64} (hk : Ok K cc nL own Ts R) (hdg : decode cc pc = .ok (.lcmp, 1)) (k : V K nL ws ce sl (pc + 1) lv (.int (lg_cmp x y) :: st)) : V K nL ws ce sl pc lv (.long y :: .long x :: st) :=
  fun H locs ls hP hD hS hl => W.lcmp hk.1 hk.2.1 hdg (k H locs ls hP hD hS hl)
theorem v_dup {va : Value} (hk : Ok K cc nL own Ts R) (hdg : decode cc pc = .ok (.dup, 1)) (hva : va.category = 1) (k : V K nL ws ce sl (pc + 1) lv (va :: va :: st)) : V K nL ws ce sl pc lv (va :: st) :=
  fun H locs ls hP hD hS hl => lv_dup hk.1 hk.2.1 hdg hva (k H locs ls hP hD hS hl)
theorem v_dup2 {va vb : Value} (hk : Ok K cc nL own Ts R) (hdg : decode cc pc = .ok (.dup2, 1)) (hva : va.category = 1) (hvb : vb.category = 1) (k : V K nL ws ce sl (pc + 1) lv (va :: vb :: va :: vb :: st)) : V K nL ws ce sl pc lv (va :: vb :: st) :=
  fun H locs ls hP hD hS hl => lv_dup2_11 hk.1 hk.2.1 hdg hva hvb (k H locs ls hP hD hS hl)
theorem v_null (hk : Ok K cc nL own Ts R) (hdg : decode cc pc = .ok (.aconst_null, 1)) (k : V K nL ws ce sl (pc + 1) lv (.null :: st)) : V K nL ws ce sl pc lv st :=
  fun H locs ls hP hD hS hl => lv_null hk.1 hk.2.1 hdg (k H locs ls hP hD hS hl)
theorem v_goto {off : Int} {tgt : Nat} (hk : Ok K cc nL own Ts R) (hdg : decode cc pc = .ok (.goto off, 3)) (ht : (pc : Int) + off = (tgt : Int)) (k : V K nL ws ce sl tgt lv st) : V K nL ws ce sl pc lv st :=
  fun H locs ls hP hD hS hl => lv_goto hk.1 hk.2.1 hdg ht (k H locs ls hP hD hS hl)
theorem v_ifnull {x : Nat} {off : Int} (hk : Ok K cc nL own Ts R) (hdg : decode cc pc = .ok (.ifnull off, 3)) (k : V K nL ws ce sl (pc + 3) lv st) : V K nL ws ce sl pc lv (.ref x :: st) :=
  fun H locs ls hP hD hS hl => lv_ifnull hk.1 hk.2.1 hdg (k H locs ls hP hD hS hl)
theorem v_ifnullN {off : Int} {tgt : Nat} (hk : Ok K cc nL own Ts R) (hdg : decode cc pc = .ok (.ifnull off, 3)) (ht : (pc : Int) + off = (tgt : Int)) (k : V K nL ws ce sl tgt lv st) : V K nL ws ce sl pc lv (.null :: st) :=
  fun H locs ls hP hD hS hl => lv_ifnullN hk.1 hk.2.1 hdg ht (k H locs ls hP hD hS hl)
theorem v_ifnonnull {x : Nat} {off : Int} {tgt : Nat} (hk : Ok K cc nL own Ts R) (hdg : decode cc pc = .ok (.ifnonnull off, 3)) (ht : (pc : Int) + off = (tgt : Int)) (k : V K nL ws ce sl tgt lv st) : V K nL ws ce sl pc lv (.ref x :: st) :=
  fun H locs ls hP hD hS hl => lv_ifnonnull hk.1 hk.2.1 hdg ht (k H locs ls hP hD hS hl)
theorem v_ifnonnullN {off : Int} (hk : Ok K cc nL own Ts R) (hdg : decode cc pc = .ok (.ifnonnull off, 3)) (k : V K nL ws ce sl (pc + 3) lv st) : V K nL ws ce sl pc lv (.null :: st) :=
  fun H locs ls hP hD hS hl => lv_ifnonnullN hk.1 hk.2.1 hdg (k H locs ls hP hD hS hl)
theorem v_if_eq {x : Int32} {off : Int} {tgt : Nat} (hk : Ok K cc nL own Ts R) (hdg : decode cc pc = .ok (.ifCond .eq off, 3)) (ht : (pc : Int) + off = (tgt : Int)) (kt : x = 0 → V K nL ws ce sl tgt lv st) (kf : ¬ (x = 0) → V K nL ws ce sl (pc + 3) lv st) : V K nL ws ce sl pc lv (.int x :: st) :=
  fun H locs ls hP hD hS hl => lv_if_eq hk.1 hk.2.1 hdg ht (fun h => kt h H locs ls hP hD hS hl) (fun h => kf h H locs ls hP hD hS hl)
theorem v_icmp_eq {x y : Int32} {off : Int} {tgt : Nat} (hk : Ok K cc nL own Ts R) (hdg : decode cc pc = .ok (.if_icmp .eq off, 3)) (ht : (pc : Int) + off = (tgt : Int)) (kt : x = y → V K nL ws ce sl tgt lv st) (kf : ¬ (x = y) → V K nL ws ce sl (pc + 3) lv st) : V K nL ws ce sl pc lv (.int y :: .int x :: st) :=
  fun H locs ls hP hD hS hl => lv_icmp_eq hk.1 hk.2.1 hdg ht (fun h => kt h H locs ls hP hD hS hl) (fun h => kf h H locs ls hP hD hS hl)
theorem v_if_ne {x : Int32} {off : Int} {tgt : Nat} (hk : Ok K cc nL own Ts R) (hdg : decode cc pc = .ok (.ifCond .ne off, 3)) (ht : (pc : Int) + off = (tgt : Int)) (kt : ¬ x = 0 → V K nL ws ce sl tgt lv st) (kf : x = 0 → V K nL ws ce sl (pc + 3) lv st) : V K nL ws ce sl pc lv (.int x :: st) :=
  fun H locs ls hP hD hS hl => lv_if_ne hk.1 hk.2.1 hdg ht (fun h => kt h H locs ls hP hD hS hl) (fun h => kf h H locs ls hP hD hS hl)
theorem v_icmp_ne {x y : Int32} {off : Int} {tgt : Nat} (hk : Ok K cc nL own Ts R) (hdg : decode cc pc = .ok (.if_icmp .ne off, 3)) (ht : (pc : Int) + off = (tgt : Int)) (kt : ¬ x = y → V K nL ws ce sl tgt lv st) (kf : x = y → V K nL ws ce sl (pc + 3) lv st) : V K nL ws ce sl pc lv (.int y :: .int x :: st) :=
  fun H locs ls hP hD hS hl => lv_icmp_ne hk.1 hk.2.1 hdg ht (fun h => kt h H locs ls hP hD hS hl) (fun h => kf h H locs ls hP hD hS hl)
theorem v_if_lt {x : Int32} {off : Int} {tgt : Nat} (hk : Ok K cc nL own Ts R) (hdg : decode cc pc = .ok (.ifCond .lt off, 3)) (ht : (pc : Int) + off = (tgt : Int)) (kt : x < 0 → V K nL ws ce sl tgt lv st) (kf : ¬ (x < 0) → V K nL ws ce sl (pc + 3) lv st) : V K nL ws ce sl pc lv (.int x :: st) :=
  fun H locs ls hP hD hS hl => lv_if_lt hk.1 hk.2.1 hdg ht (fun h => kt h H locs ls hP hD hS hl) (fun h => kf h H locs ls hP hD hS hl)
theorem v_icmp_lt {x y : Int32} {off : Int} {tgt : Nat} (hk : Ok K cc nL own Ts R) (hdg : decode cc pc = .ok (.if_icmp .lt off, 3)) (ht : (pc : Int) + off = (tgt : Int)) (kt : x < y → V K nL ws ce sl tgt lv st) (kf : ¬ (x < y) → V K nL ws ce sl (pc + 3) lv st) : V K nL ws ce sl pc lv (.int y :: .int x :: st) :=
  fun H locs ls hP hD hS hl => lv_icmp_lt hk.1 hk.2.1 hdg ht (fun h => kt h H locs ls hP hD hS hl) (fun h => kf h H locs ls hP hD hS hl)
theorem v_if_ge {x : Int32} {off : Int} {tgt : Nat} (hk : Ok K cc nL own Ts R) (hdg : decode cc pc = .ok (.ifCond .ge off, 3)) (ht : (pc : Int) + off = (tgt : Int)) (kt : 0 ≤ x → V K nL ws ce sl tgt lv st) (kf : ¬ (0 ≤ x) → V K nL ws ce sl (pc + 3) lv st) : V K nL ws ce sl pc lv (.int x :: st) :=
  fun H locs ls hP hD hS hl => lv_if_ge hk.1 hk.2.1 hdg ht (fun h => kt h H locs ls hP hD hS hl) (fun h => kf h H locs ls hP hD hS hl)
theorem v_icmp_ge {x y : Int32} {off : Int} {tgt : Nat} (hk : Ok K cc nL own Ts R) (hdg : decode cc pc = .ok (.if_icmp .ge off, 3)) (ht : (pc : Int) + off = (tgt : Int)) (kt : y ≤ x → V K nL ws ce sl tgt lv st) (kf : ¬ (y ≤ x) → V K nL ws ce sl (pc + 3) lv st) : V K nL ws ce sl pc lv (.int y :: .int x :: st) :=
  fun H locs ls hP hD hS hl => lv_icmp_ge hk.1 hk.2.1 hdg ht (fun h => kt h H locs ls hP hD hS hl) (fun h => kf h H locs ls hP hD hS hl)
theorem v_if_gt {x : Int32} {off : Int} {tgt : Nat} (hk : Ok K cc nL own Ts R) (hdg : decode cc pc = .ok (.ifCond .gt off, 3)) (ht : (pc : Int) + off = (tgt : Int)) (kt : 0 < x → V K nL ws ce sl tgt lv st) (kf : ¬ (0 < x) → V K nL ws ce sl (pc + 3) lv st) : V K nL ws ce sl pc lv (.int x :: st) :=
  fun H locs ls hP hD hS hl => lv_if_gt hk.1 hk.2.1 hdg ht (fun h => kt h H locs ls hP hD hS hl) (fun h => kf h H locs ls hP hD hS hl)
theorem v_icmp_gt {x y : Int32} {off : Int} {tgt : Nat} (hk : Ok K cc nL own Ts R) (hdg : decode cc pc = .ok (.if_icmp .gt off, 3)) (ht : (pc : Int) + off = (tgt : Int)) (kt : y < x → V K nL ws ce sl tgt lv st) (kf : ¬ (y < x) → V K nL ws ce sl (pc + 3) lv st) : V K nL ws ce sl pc lv (.int y :: .int x :: st) :=
  fun H locs ls hP hD hS hl => lv_icmp_gt hk.1 hk.2.1 hdg ht (fun h => kt h H locs ls hP hD hS hl) (fun h => kf h H locs ls hP hD hS hl)
theorem v_if_le {x : Int32} {off : Int} {tgt : Nat} (hk : Ok K cc nL own Ts R) (hdg : decode cc pc = .ok (.ifCond .le off, 3)) (ht : (pc : Int) + off = (tgt : Int)) (kt : x ≤ 0 → V K nL ws ce sl tgt lv st) (kf : ¬ (x ≤ 0) → V K nL ws ce sl (pc + 3) lv st) : V K nL ws ce sl pc lv (.int x :: st) :=
  fun H locs ls hP hD hS hl => lv_if_le hk.1 hk.2.1 hdg ht (fun h => kt h H locs ls hP hD hS hl) (fun h => kf h H locs ls hP hD hS hl)
theorem v_icmp_le {x y : Int32} {off : Int} {tgt : Nat} (hk : Ok K cc nL own Ts R) (hdg : decode cc pc = .ok (.if_icmp .le off, 3)) (ht : (pc : Int) + off = (tgt : Int)) (kt : x ≤ y → V K nL ws ce sl tgt lv st) (kf : ¬ (x ≤ y) → V K nL ws ce sl (pc + 3) lv st) : V K nL ws ce sl pc lv (.int y :: .int x :: st) :=
  fun H locs ls hP hD hS hl => lv_icmp_le hk.1 hk.2.1 hdg ht (fun h => kt h H locs ls hP hD hS hl) (fun h => kf h H locs ls hP hD hS hl)
theorem v_get {C ref : String} {T : u_T} {N ci index a : Nat} {fs : List Value} {v : Value} (hk : Ok K cc nL own Ts R) (hdg : decode cc pc = .ok (.getfield index, 3)) (hin : ∀ w ∈ u_ws C T N, w ∈ Ts) (q0 : Nat) (he : ws[q0]? = some (a, .inr (ci, fs))) (hc : vwCl[ci]? = some (C, T, N)) (j : Nat) (hj : j < N) (hlink : Cond.fieldLink own index ref (T j).2.1 (T j).2.2.1 ∈ Ts) (hs : ref = (T j).1) (hv : fs[j]? = some v) (k : V K nL ws ce sl (pc + 3) lv (v :: st)) : V K nL ws ce sl pc lv (.ref a :: st) :=
  fun H locs ls hP hD hS hl => va_get hk.1 hk.2.1 hk.ts hin hk.2.2.2.1 hk.G hP q0 he hc j hj (hk.ts _ hlink) (fun _ h => by rw [hs]; exact h) hv hdg (k H locs ls hP hD hS hl)
theorem v_put {C ref : String} {T : u_T} {N ci index a : Nat} {fs : List Value} {v : Value} {ws' : va_W} (hk : Ok K cc nL own Ts R) (hdg : decode cc pc = .ok (.putfield index, 3)) (hin : ∀ w ∈ u_ws C T N, w ∈ Ts) (ty0 : Nat → FieldType) (hty : ∀ k, k < N → parseFieldDescriptor (T k).2.2.1 = some (ty0 k)) (hnm : ∀ a, a < N → ∀ b, b < N → a ≠ b → (T a).2.1 ≠ (T b).2.1) (q0 : Nat) (he : ws[q0]? = some (a, .inr (ci, fs))) (hc : vwCl[ci]? = some (C, T, N)) (j : Nat) (hj : j < N) (hlink : Cond.fieldLink own index ref (T j).2.1 (T j).2.2.1 ∈ Ts) (hs : ref = (T j).1) (hfin : (T j).2.2.2 = false) {ty : FieldType} (hd : parseFieldDescriptor (T j).2.2.1 = some ty) (hn : narrow ty v = v) (hfit : fits ty v = true) (hl0 : j < fs.length) (hw : ws.set q0 (a, .inr (ci, fs.set j v)) = ws') (k : V K nL ws' ce sl (pc + 3) lv st) : V K nL ws ce sl pc lv (v :: .ref a :: st) := by
  subst hw
  exact fun H locs ls hP hD hS hl => va_put hk.1 hk.2.1 hk.ts hin ty0 hty hnm hk.2.2.2.1 hk.G hP hD hS q0 he hc j hj (hk.ts _ hlink) (fun _ h => by rw [hs]; exact h) hfin hd hn hfit hl0 hdg (fun H1 locs1 hP1 hD1 hS1 => k H1 locs1 ls hP1 hD1 hS1 hl)
theorem v_putF {C ref : String} {T : u_T} {N ci index a : Nat} {fs : List Value} {v : Value} {ws' : va_W} (hk : Ok K cc nL own Ts R) (hdg : decode cc pc = .ok (.putfield index, 3)) (hin : ∀ w ∈ u_ws C T N, w ∈ Ts) (ty0 : Nat → FieldType) (hty : ∀ k, k < N → parseFieldDescriptor (T k).2.2.1 = some (ty0 k)) (hnm : ∀ a, a < N → ∀ b, b < N → a ≠ b → (T a).2.1 ≠ (T b).2.1) (q0 : Nat) (he : ws[q0]? = some (a, .inr (ci, fs))) (hc : vwCl[ci]? = some (C, T, N)) (j : Nat) (hj : j < N) (hlink : Cond.fieldLink own index ref (T j).2.1 (T j).2.2.1 ∈ Ts) (hs : ref = (T j).1) (hfin : (T j).2.2.2 = true) (hi : (kM K).name = "<init>") (hoC : (T j).1 = own) {ty : FieldType} (hd : parseFieldDescriptor (T j).2.2.1 = some ty) (hn : narrow ty v = v) (hfit : fits ty v = true) (hl0 : j < fs.length) (hw : ws.set q0 (a, .inr (ci, fs.set j v)) = ws') (k : V K nL ws' ce sl (pc + 3) lv st) : V K nL ws ce sl pc lv (v :: .ref a :: st) := by
  subst hw
  exact fun H locs ls hP hD hS hl => va_putF hk.1 hk.2.1 hk.ts hin ty0 hty hnm hk.2.2.2.1 hk.G hP hD hS q0 he hc j hj (hk.ts _ hlink) (fun _ h => by rw [hs]; exact h) hfin hi hoC hd hn hfit hl0 hdg (fun H1 locs1 hP1 hD1 hS1 => k H1 locs1 ls hP1 hD1 hS1 hl)
theorem v_iald {a n j : Nat} {f : Nat → Int32} {i : Int32} (hk : Ok K cc nL own Ts R) (hdg : decode cc pc = .ok (.iaload, 1)) (q0 : Nat) (ha : ws[q0]? = some (a, .inl (gI (kG K), n, .inl f))) (hi : i = nI j) (hj : j < n) (hn : n < 2 ^ 31) (k : V K nL ws ce sl (pc + 1) lv (.int (f j) :: st)) : V K nL ws ce sl pc lv (.int i :: .ref a :: st) := by
  subst hi
  intro H locs ls hP hD hS hl
  have e : (nI j).toNatClampNeg = j := nI_clamp (Nat.lt_trans hj hn)
  refine va_iald hk.1 hk.2.1 hk.G hP q0 0 ha rfl (vp_in_nI hj hn) hdg ?_
  rw [e]
  exact k H locs ls hP hD hS hl
theorem v_ialdV {a n : Nat} {f : Nat → Int32} {i : Int32} (hk : Ok K cc nL own Ts R) (hdg : decode cc pc = .ok (.iaload, 1)) (q0 : Nat) (ha : ws[q0]? = some (a, .inl (gI (kG K), n, .inl f))) (hi : vp_in i n) (k : V K nL ws ce sl (pc + 1) lv (.int (f i.toNatClampNeg) :: st)) : V K nL ws ce sl pc lv (.int i :: .ref a :: st) :=
  fun H locs ls hP hD hS hl => va_iald hk.1 hk.2.1 hk.G hP q0 0 ha rfl hi hdg (k H locs ls hP hD hS hl)
theorem v_iastV {a n : Nat} {f : Nat → Int32} {i : Int32} {x : Int32} {ws' : va_W} (hk : Ok K cc nL own Ts R) (hdg : decode cc pc = .ok (.iastore, 1)) (q0 : Nat) (ha : ws[q0]? = some (a, .inl (gI (kG K), n, .inl f))) (hi : vp_in i n) (hw : ws.set q0 (a, .inl (gI (kG K), n, .inl (upd f i.toNatClampNeg x))) = ws') (k : V K nL ws' ce sl (pc + 1) lv st) : V K nL ws ce sl pc lv (.int x :: .int i :: .ref a :: st) := by
  subst hw
  intro H locs ls hP hD hS hl
  exact va_iast hk.1 hk.2.1 hk.G hP hD hS q0 0 ha rfl hi hdg (fun H1 locs1 hP1 hD1 hS1 => k H1 locs1 ls hP1 hD1 hS1 hl)
theorem v_iast {a n j : Nat} {f : Nat → Int32} {i : Int32} {x : Int32} {ws' : va_W} (hk : Ok K cc nL own Ts R) (hdg : decode cc pc = .ok (.iastore, 1)) (q0 : Nat) (ha : ws[q0]? = some (a, .inl (gI (kG K), n, .inl f))) (hi : i = nI j) (hj : j < n) (hn : n < 2 ^ 31) (hw : ws.set q0 (a, .inl (gI (kG K), n, .inl (upd f j x))) = ws') (k : V K nL ws' ce sl (pc + 1) lv st) : V K nL ws ce sl pc lv (.int x :: .int i :: .ref a :: st) := by
  subst hi
  subst hw
  intro H locs ls hP hD hS hl
  have e : (nI j).toNatClampNeg = j := nI_clamp (Nat.lt_trans hj hn)
  refine va_iast hk.1 hk.2.1 hk.G hP hD hS q0 0 ha rfl (vp_in_nI hj hn) hdg ?_
  rw [e]
  exact fun H1 locs1 hP1 hD1 hS1 => k H1 locs1 ls hP1 hD1 hS1 hl
theorem v_lald {a n j : Nat} {f : Nat → Int64} {i : Int32} (hk : Ok K cc nL own Ts R) (hdg : decode cc pc = .ok (.laload, 1)) (q0 : Nat) (ha : ws[q0]? = some (a, .inl (gJ (kG K), n, .inr (.inl f)))) (hi : i = nI j) (hj : j < n) (hn : n < 2 ^ 31) (k : V K nL ws ce sl (pc + 1) lv (.long (f j) :: st)) : V K nL ws ce sl pc lv (.int i :: .ref a :: st) := by
  subst hi
  intro H locs ls hP hD hS hl
  have e : (nI j).toNatClampNeg = j := nI_clamp (Nat.lt_trans hj hn)
  refine va_lald hk.1 hk.2.1 hk.G hP q0 1 ha rfl (vp_in_nI hj hn) hdg ?_
  rw [e]
  exact k H locs ls hP hD hS hl
theorem v_laldV {a n : Nat} {f : Nat → Int64} {i : Int32} (hk : Ok K cc nL own Ts R) (hdg : decode cc pc = .ok (.laload, 1)) (q0 : Nat) (ha : ws[q0]? = some (a, .inl (gJ (kG K), n, .inr (.inl f)))) (hi : vp_in i n) (k : V K nL ws ce sl (pc + 1) lv (.long (f i.toNatClampNeg) :: st)) : V K nL ws ce sl pc lv (.int i :: .ref a :: st) :=
  fun H locs ls hP hD hS hl => va_lald hk.1 hk.2.1 hk.G hP q0 1 ha rfl hi hdg (k H locs ls hP hD hS hl)
theorem v_lastV {a n : Nat} {f : Nat → Int64} {i : Int32} {x : Int64} {ws' : va_W} (hk : Ok K cc nL own Ts R) (hdg : decode cc pc = .ok (.lastore, 1)) (q0 : Nat) (ha : ws[q0]? = some (a, .inl (gJ (kG K), n, .inr (.inl f)))) (hi : vp_in i n) (hw : ws.set q0 (a, .inl (gJ (kG K), n, .inr (.inl (vp_updL f i.toNatClampNeg x)))) = ws') (k : V K nL ws' ce sl (pc + 1) lv st) : V K nL ws ce sl pc lv (.long x :: .int i :: .ref a :: st) := by
  subst hw
  intro H locs ls hP hD hS hl
  exact va_last hk.1 hk.2.1 hk.G hP hD hS q0 1 ha rfl hi hdg (fun H1 locs1 hP1 hD1 hS1 => k H1 locs1 ls hP1 hD1 hS1 hl)
theorem v_last {a n j : Nat} {f : Nat → Int64} {i : Int32} {x : Int64} {ws' : va_W} (hk : Ok K cc nL own Ts R) (hdg : decode cc pc = .ok (.lastore, 1)) (q0 : Nat) (ha : ws[q0]? = some (a, .inl (gJ (kG K), n, .inr (.inl f)))) (hi : i = nI j) (hj : j < n) (hn : n < 2 ^ 31) (hw : ws.set q0 (a, .inl (gJ (kG K), n, .inr (.inl (vp_updL f j x)))) = ws') (k : V K nL ws' ce sl (pc + 1) lv st) : V K nL ws ce sl pc lv (.long x :: .int i :: .ref a :: st) := by
  subst hi
  subst hw
  intro H locs ls hP hD hS hl
  have e : (nI j).toNatClampNeg = j := nI_clamp (Nat.lt_trans hj hn)
  refine va_last hk.1 hk.2.1 hk.G hP hD hS q0 1 ha rfl (vp_in_nI hj hn) hdg ?_
  rw [e]
  exact fun H1 locs1 hP1 hD1 hS1 => k H1 locs1 ls hP1 hD1 hS1 hl
theorem v_zald {a n j : Nat} {f : Nat → Int32} {i : Int32} (hk : Ok K cc nL own Ts R) (hdg : decode cc pc = .ok (.baload, 1)) (q0 : Nat) (ha : ws[q0]? = some (a, .inl (gZ (kG K), n, .inl f))) (hi : i = nI j) (hj : j < n) (hn : n < 2 ^ 31) (k : V K nL ws ce sl (pc + 1) lv (.int (f j) :: st)) : V K nL ws ce sl pc lv (.int i :: .ref a :: st) := by
  subst hi
  intro H locs ls hP hD hS hl
  have e : (nI j).toNatClampNeg = j := nI_clamp (Nat.lt_trans hj hn)
  refine va_zald hk.1 hk.2.1 hk.G hP q0 2 ha rfl (vp_in_nI hj hn) hdg ?_
  rw [e]
  exact k H locs ls hP hD hS hl
theorem v_zaldV {a n : Nat} {f : Nat → Int32} {i : Int32} (hk : Ok K cc nL own Ts R) (hdg : decode cc pc = .ok (.baload, 1)) (q0 : Nat) (ha : ws[q0]? = some (a, .inl (gZ (kG K), n, .inl f))) (hi : vp_in i n) (k : V K nL ws ce sl (pc + 1) lv (.int (f i.toNatClampNeg) :: st)) : V K nL ws ce sl pc lv (.int i :: .ref a :: st) :=
  fun H locs ls hP hD hS hl => va_zald hk.1 hk.2.1 hk.G hP q0 2 ha rfl hi hdg (k H locs ls hP hD hS hl)
theorem v_alenI {a : Nat} {x : vp_A} {v : Int32} (hk : Ok K cc nL own Ts R) (hdg : decode cc pc = .ok (.arraylength, 1)) (q0 : Nat) (ha : ws[q0]? = some (a, .inl (gI (kG K), x))) (hv : nI x.1 = v) (k : V K nL ws ce sl (pc + 1) lv (.int v :: st)) : V K nL ws ce sl pc lv (.ref a :: st) :=
  fun H locs ls hP hD hS hl => va_alen hk.1 hk.2.1 hk.G hP q0 0 ha rfl hv hdg (k H locs ls hP hD hS hl)
theorem v_alenJ {a : Nat} {x : vp_A} {v : Int32} (hk : Ok K cc nL own Ts R) (hdg : decode cc pc = .ok (.arraylength, 1)) (q0 : Nat) (ha : ws[q0]? = some (a, .inl (gJ (kG K), x))) (hv : nI x.1 = v) (k : V K nL ws ce sl (pc + 1) lv (.int v :: st)) : V K nL ws ce sl pc lv (.ref a :: st) :=
  fun H locs ls hP hD hS hl => va_alen hk.1 hk.2.1 hk.G hP q0 1 ha rfl hv hdg (k H locs ls hP hD hS hl)
theorem v_alenB {a : Nat} {x : vp_A} {v : Int32} (hk : Ok K cc nL own Ts R) (hdg : decode cc pc = .ok (.arraylength, 1)) (q0 : Nat) (ha : ws[q0]? = some (a, .inl (gB (kG K), x))) (hv : nI x.1 = v) (k : V K nL ws ce sl (pc + 1) lv (.int v :: st)) : V K nL ws ce sl pc lv (.ref a :: st) :=
  fun H locs ls hP hD hS hl => va_alen hk.1 hk.2.1 hk.G hP q0 3 ha rfl hv hdg (k H locs ls hP hD hS hl)
theorem v_alenF {a : Nat} {x : vp_A} {v : Int32} (hk : Ok K cc nL own Ts R) (hdg : decode cc pc = .ok (.arraylength, 1)) (q0 : Nat) (ha : ws[q0]? = some (a, .inl (gF (kG K), x))) (hv : nI x.1 = v) (k : V K nL ws ce sl (pc + 1) lv (.int v :: st)) : V K nL ws ce sl pc lv (.ref a :: st) :=
  fun H locs ls hP hD hS hl => va_alen hk.1 hk.2.1 hk.G hP q0 4 ha rfl hv hdg (k H locs ls hP hD hS hl)
/-- Math.max, Math.min of ints -/
theorem v_mmax {index : Nat} {x y : Int32} (hk : Ok K cc nL own Ts R) (hdg : decode cc pc = .ok (.invokestatic index, 3)) (h1 : Cond.methodLink own index Lib.Math.max.name ∈ Ts) (h2 : Cond.static Lib.Math.max.name ∈ Ts) (h3 : Cond.initialized "java/lang/Math" ∈ Ts) (h4 : Cond.code Lib.Math.max.name Lib.Math.max.code 2 (some .int) ∈ Ts) (hf : 1 ≤ R.frames) (hlo : (st.map fun v => v.category).sum + 13 ≤ R.locals) (hc : ce ≤ R.cells) (hs : sl ≤ R.slots) (k : V K nL ws ce sl (pc + 3) lv (.int (if x < y then y else x) :: st)) : V K nL ws ce sl pc lv (.int y :: .int x :: st) := by
  intro H locs ls hP hD hS hl
  exact va_mmax hk.1 hk.2.1 (hk.2.2.1.trans hl.1.symm) hk.2.2.2.1 (hk.ts _ h1) (hk.ts _ h2) (hk.ts _ h3) (hk.ts _ h4) (by rw [hk.room]; exact hf) (by rw [hk.room]; exact hlo) (by rw [hk.room]; exact hc) (by rw [hk.room]; exact hs) hdg (k H locs ls hP hD hS hl)
theorem v_mmin {index : Nat} {x y : Int32} (hk : Ok K cc nL own Ts R) (hdg : decode cc pc = .ok (.invokestatic index, 3)) (h1 : Cond.methodLink own index Lib.Math.min.name ∈ Ts) (h2 : Cond.static Lib.Math.min.name ∈ Ts) (h3 : Cond.initialized "java/lang/Math" ∈ Ts) (h4 : Cond.code Lib.Math.min.name Lib.Math.min.code 2 (some .int) ∈ Ts) (hf : 1 ≤ R.frames) (hlo : (st.map fun v => v.category).sum + 13 ≤ R.locals) (hc : ce ≤ R.cells) (hs : sl ≤ R.slots) (k : V K nL ws ce sl (pc + 3) lv (.int (if y < x then y else x) :: st)) : V K nL ws ce sl pc lv (.int y :: .int x :: st) := by
  intro H locs ls hP hD hS hl
  exact va_mmin hk.1 hk.2.1 (hk.2.2.1.trans hl.1.symm) hk.2.2.2.1 (hk.ts _ h1) (hk.ts _ h2) (hk.ts _ h3) (hk.ts _ h4) (by rw [hk.room]; exact hf) (by rw [hk.room]; exact hlo) (by rw [hk.room]; exact hc) (by rw [hk.room]; exact hs) hdg (k H locs ls hP hD hS hl)
/-- Object's constructor -/
theorem v_objInit {index a : Nat} (hk : Ok K cc nL own Ts R) (hdg : decode cc pc = .ok (.invokespecial index, 3)) (h1 : Cond.methodLink own index Lib.objectInit ∈ Ts) (h2 : Cond.instanceMethod Lib.objectInit ∈ Ts) (h3 : Cond.code Lib.objectInit ⟨#[0xb1]⟩ 1 none ∈ Ts) (hf : 1 ≤ R.frames) (hlo : 2 * 0 + (st.map fun v => v.category).sum + 12 ≤ R.locals) (k : V K nL ws ce sl (pc + 3) lv st) : V K nL ws ce sl pc lv (.ref a :: st) := by
  intro H locs ls hP hD hS hl
  exact W.objInit hk.1 hk.2.1 hk.2.2.2.1 (hk.ts _ h1) (hk.ts _ h2) (hk.ts _ h3) rfl (hl.1.trans hk.2.2.1.symm) rfl hdg (by rw [hk.room]; exact hf) (by rw [hk.room]; exact hlo) (k H locs ls hP hD hS hl)
/-- making an object; its cell stands last -/
theorem v_new {C : String} {T : u_T} {N ci index : Nat} {fs : List Value} (hk : Ok K cc nL own Ts R) (hdg : decode cc pc = .ok (.new index, 3)) (hin : ∀ w ∈ u_ws C T N, w ∈ Ts) (ty : Nat → FieldType) (hty : ∀ k, k < N → parseFieldDescriptor (T k).2.2.1 = some (ty k)) (h1 : Cond.classLink own index C ∈ Ts) (h2 : Cond.instantiable C N ∈ Ts) (h3 : Cond.initialized C ∈ Ts) (hc : vwCl[ci]? = some (C, T, N)) (hfs : ∀ j, j < N → defaultValue (ty j) = vp_V fs j) (hcells : ce + 1 ≤ R.cells) (hslots : sl + N ≤ R.slots) (k : ∀ q : Nat, V K nL (ws ++ [(q, .inr (ci, fs))]) (ce + 1) (sl + N) (pc + 3) lv (.ref q :: st)) : V K nL ws ce sl pc lv st := by
  intro H locs ls hP hD hS hl
  exact va_new hk.1 hk.2.1 hk.ts hin ty hty hk.2.2.2.1 (hk.ts _ h1) (hk.ts _ h2) (hk.ts _ h3) hk.G hP hD hS hk.A hc hfs (by rw [hk.room]; exact hcells) (by rw [hk.room]; exact hslots) hdg (fun q H1 hP1 hD1 hS1 => k q H1 locs ls hP1 hD1 hS1 hl)
theorem v_newI {n : Int32} {N : Nat} (hk : Ok K cc nL own Ts R) (hdg : decode cc pc = .ok (.newarray .int, 2)) (ha : Cond.arrayClass .int ∈ Ts) (hn : n = nI N) (hN : N < 2 ^ 20) (hcells : ce + 1 ≤ R.cells) (hslots : sl + N ≤ R.slots) (k : ∀ q : Nat, V K nL (ws ++ [(q, .inl (gI (kG K), N, .inl (fun _ => 0)))]) (ce + 1) (sl + N) (pc + 2) lv (.ref q :: st)) : V K nL ws ce sl pc lv (.int n :: st) := by
  subst hn
  intro H locs ls hP hD hS hl
  refine va_newa (atype := .int) (a0 := (N, .inl (fun _ => 0))) (ty := .int) hk.1 hk.2.1 (hk.ts _ ha) rfl hk.G hP hD hS hk.A (fun cA => rfl) (nI_pos (by omega)) (nI_clamp (by omega)) (by show N * 4 ≤ _; omega) (by rw [hk.room]; exact hcells) (by rw [hk.room]; exact hslots) hdg (fun q cA H1 hK1 hP1 hD1 hS1 => ?_)
  have e1 := (hK1.2 5 _ rfl).2
  have e2 := (hk.G.2 0 _ rfl).2
  have e : cA = gI (kG K) := Option.some.inj (e1.symm.trans e2)
  subst e
  exact k q H1 locs ls hP1 hD1 hS1 hl
theorem v_newJ {n : Int32} {N : Nat} (hk : Ok K cc nL own Ts R) (hdg : decode cc pc = .ok (.newarray .long, 2)) (ha : Cond.arrayClass .long ∈ Ts) (hn : n = nI N) (hN : N < 2 ^ 20) (hcells : ce + 1 ≤ R.cells) (hslots : sl + N ≤ R.slots) (k : ∀ q : Nat, V K nL (ws ++ [(q, .inl (gJ (kG K), N, .inr (.inl (fun _ => 0))))]) (ce + 1) (sl + N) (pc + 2) lv (.ref q :: st)) : V K nL ws ce sl pc lv (.int n :: st) := by
  subst hn
  intro H locs ls hP hD hS hl
  refine va_newa (atype := .long) (a0 := (N, .inr (.inl (fun _ => 0)))) (ty := .long) hk.1 hk.2.1 (hk.ts _ ha) rfl hk.G hP hD hS hk.A (fun cA => rfl) (nI_pos (by omega)) (nI_clamp (by omega)) (by show N * 8 ≤ _; omega) (by rw [hk.room]; exact hcells) (by rw [hk.room]; exact hslots) hdg (fun q cA H1 hK1 hP1 hD1 hS1 => ?_)
  have e1 := (hK1.2 5 _ rfl).2
  have e2 := (hk.G.2 1 _ rfl).2
  have e : cA = gJ (kG K) := Option.some.inj (e1.symm.trans e2)
  subst e
  exact k q H1 locs ls hP1 hD1 hS1 hl
end VR
/-- a contract over its own cells w: arguments av, answer and cells behind it by 'post', at most mc cells of ms slots made -/
def cPc (G : GG) (av : List Value) (w : va_W) (sz : Nat) : Array Value → State → Prop := va_Pc av (fun U => U.heap.size = sz ∧ va_P G.1 vwCl w U.heap ∧ va_K G.1 vwCl (gT G) U ∧ va_D (fun _ => True) w ∧ gS (va_A w sz) U U.heap)
def cQc (G : GG) (w : va_W) (sz : Nat) (post : Option Value → va_W → Prop) : Array Value → State → Outcome → State → Prop := fun _ st oc t => ∃ (v : Option Value) (w' : va_W), oc = .returned v ∧ post v w' ∧ va_P G.1 vwCl w' t.heap ∧ va_D (va_A w sz) w' ∧ va_F (va_A w sz) st t
def Ctr (l : Launch) (G : GG) (y : MethodName) (wsy : List Cond) (rm : Room) (av : List Value) (w : va_W) (post : Option Value → va_W → Prop) : Prop := ∀ sz : Nat, Met l y wsy rm (cPc G av w sz) (cQc G w sz post) rm.cells rm.slots (va_A w sz)
theorem cPc_blind {G : GG} {av : List Value} {w : va_W} {sz : Nat} : FrameBlind (cPc G av w sz) := by
  intro a U g mk q
  obtain ⟨q0, q1, qP, qK, qD, qS⟩ := q
  exact ⟨q0, q1, qP, va_K.moved (u := U) (U := U.calling g mk a) (Vm.Alike.refl U.vm) qK, qD, gS.moved (u := U) (U := U.calling g mk a) (Vm.Alike.refl U.vm) qS⟩
def RetOk (ret : Option FieldType) (cc : ByteArray) (pc : Nat) (v : Option Value) : Prop := match ret, v with
  | none, none => decode cc pc = .ok (.return_, 1)
  | some .int, some (.int _) => decode cc pc = .ok (.ireturn, 1)
  | some .boolean, some (.int x) => decode cc pc = .ok (.ireturn, 1) ∧ narrow .boolean (.int x) = .int x
  | some .long, some (.long _) => decode cc pc = .ok (.lreturn, 1)
  | some (.object _), some (.ref _) => decode cc pc = .ok (.areturn, 1)
  | _, _ => False
/-- how a walk ends -/
def Rt (K : Cx) (cc : ByteArray) (nL : Nat) (ret : Option FieldType) (R : Room) (post : Option Value → va_W → Prop) : Prop :=
  ∀ (v : Option Value) (w' : va_W) (ce sl pc : Nat) (lv : LV), post v w' → ce ≤ R.cells → sl ≤ R.slots → RetOk ret cc pc v → V K nL w' ce sl pc lv v.toList
theorem ctr_entry {l : Launch} {G : GG} {y : MethodName} {wsy ws' : List Cond} {rm : Room} {av : List Value} {w : va_W} {post : Option Value → va_W → Prop} {cc : ByteArray} {maxL : Nat} {ret : Option FieldType} (hy : plainName y.cls = true) (hw : wsy = Cond.code y cc maxL ret :: ws') (hlen : (lg_sl av).length ≤ maxL)
    (body : ∀ K : Cx, kl K = l → kG K = G → Ok K cc maxL y.cls wsy rm → (kM K).name = y.name → Rt K cc maxL ret rm post → V K maxL w 0 0 0 (lv_args 0 av) []) : Ctr l G y wsy rm av w post := by
  intro sz
  refine Met.ofW (cc := cc) (maxL := maxL) (ret := ret) hy hw ?_
  intro p e s m args below meth c s₁ B hml hv
  obtain ⟨rfl, hsz, hP, hK, hD0, hG⟩ := hv
  subst hsz
  have hD := hD0.self (sz := s.heap.size)
  have hl := lv_entry av (n := maxL) hlen
  have hlocks := B.notSynchronized
  have hr := B.returns
  rw [lg_entry_eq]
  refine body (p, l, e, rm, s, m, av.toArray, below, meth, c, MQ below (cQc G w s.heap.size post) av.toArray s rm.cells rm.slots (va_A w s.heap.size), va_A w s.heap.size, G) rfl rfl ⟨B.exec, B.bytes, hml, findClass_of_methodNamed B.named, atoms_spec (ws := wsy) B.pre, hK, fun q h => Or.inr h, hG, rfl⟩ (name_of_methodNamed B.named B.method).1 ?_ s.heap [] _ hP hD va_S.rf hl
  intro v w' ce sl pc lv hpost hce hsl hret H locs ls hP' hD' hS' hl'
  refine W.widen hce hsl ?_
  have hq : ∀ t : State, t.heap = H → s.WarmedH t.vm → cQc G w s.heap.size post av.toArray s (.returned v) t := fun t ht _ => ⟨v, w', rfl, hpost, by rw [ht]; exact hP', hD', hS'.F ht⟩
  match ret, v, hret, hr, hq with
  | none, none, hret, hr, hq => exact W.vret B.exec B.bytes hr hq hS'.2.2 hret hlocks
  | some .int, some (.int x), hret, hr, hq => exact W.iret B.exec B.bytes hr hq hS'.2.2 hret hlocks
  | some .boolean, some (.int x), hret, hr, hq => exact W.zret B.exec B.bytes hr hret.2 hq hS'.2.2 hret.1 hlocks
  | some .long, some (.long x), hret, hr, hq => exact W.lret B.exec B.bytes hr hq hS'.2.2 hret hlocks
  | some (.object n), some (.ref a), hret, hr, hq => exact W.aret B.exec B.bytes hr (Or.inl ⟨n, rfl⟩) (Or.inr ⟨a, rfl⟩) hq hS'.2.2 hret hlocks
section VC
variable {K : Cx} {cc : ByteArray} {nL : Nat} {own : String} {Ts : List Cond} {R : Room} {ws : va_W} {ce sl pc : Nat} {lv : LV} {st : List Value}
theorem v_run {y : MethodName} {rm : Room} {av : List Value} {wc wr : va_W} {post : Option Value → va_W → Prop} {stk : List Value} {a : Array Value} (hk : Ok K cc nL own Ts R) (isC isR : List Nat) (hC : isC.map (fun i => ws[i]?) = wc.map some) (hR : isR.map (fun i => ws[i]?) = wr.map some) (hn : va_nd isR = true) (hdis : ∀ i ∈ isR, i ∉ isC)
    (hrun : ∀ (H : Heap) (locs : List Loc) (ls : Array Slot), va_P (kG K).1 vwCl ws H → va_P (kG K).1 vwCl wc H → (∀ q, va_A wc H.size q → kA K q) → va_S (kA K) (ks K).heap H locs → lv_has ls nL lv → (∀ U : State, U.heap = H → (ks K).WarmedH U.vm → cPc (kG K) av wc H.size av.toArray U) → va_Run (kp K) (kl K) (ke K) (kR K) (ks K) (km K) (ka K) (kb K) (kM K) (kc K) H locs ce sl rm.cells rm.slots (F0 (km K) pc ls stk) st (cQc (kG K) wc H.size post a) (va_A wc H.size))
    (hnC : va_nd isC = true) (kk : ∀ (v : Option Value) (w' : va_W), post v w' → V K nL (wr ++ w') (ce + rm.cells) (sl + rm.slots) (pc + 3) lv (v.toList ++ st)) : V K nL ws ce sl pc lv stk := by
  intro H locs ls hP hD hS hl
  have hPc : va_P (kG K).1 vwCl wc H := by
    refine hP.sub isC ?_
    have : isC.filterMap (fun i => ws[i]?) = (isC.map (fun i => ws[i]?)).filterMap id := by rw [List.filterMap_map]; rfl
    rw [this, hC, List.filterMap_map]
    show wc.filterMap some = wc
    exact List.filterMap_some
  have hDc := hD.sub isC hnC hC
  have hFc := va_free (wc := wc) hD hS hk.A isC hC
  have hpre : ∀ U : State, U.heap = H → (ks K).WarmedH U.vm → cPc (kG K) av wc H.size av.toArray U := by
    intro U hU hW
    refine ⟨rfl, by rw [hU], by rw [hU]; exact hPc, va_K.moved hW.alike hk.G, hDc.weaken (fun _ _ _ _ => trivial), ?_⟩
    rw [hU]
    exact ((hk.sta.kept (fun a h1 h2 => hS.2.1 a h1 h2)).narrow hFc).moved hW.alike
  intro T hT X
  obtain ⟨v, st₀, t, T', L, h0, X', hL, e1, e2, ⟨v', w', hv, hp, hP1, hD1, hz, hk1⟩, stp⟩ := hrun H locs ls hP hPc hFc hS hl hpre T hT X
  cases hv
  rw [h0] at hz hk1
  have hk2 : ∀ q : Nat, q < H.size → ¬ va_A wc H.size q → T'.heap[q]? = H[q]? := fun q h1 h2 => by rw [e1]; exact hk1 q h1 h2
  obtain ⟨hPj, hDj⟩ := va_join (wr := wr) (w1 := w') hP hD isC isR hC hR hn hdis hk2 hFc (by rw [e1]; exact hP1) hD1
  obtain ⟨t2, a1, b1⟩ := kk v w' hp T'.heap (locs ++ L) ls hPj hDj ⟨Nat.le_trans hS.1 (by rw [e1]; exact hz), fun q h1 h2 => by rw [hk2 q (Nat.lt_of_lt_of_le h1 hS.1) (fun z => h2 (hFc q z))]; exact hS.2.1 q h1 h2, fun q hq => by
      rcases List.mem_append.mp hq with h | h
      · exact hS.2.2 q h
      · exact hFc _ (hL q h)⟩ hl T' rfl X'
  exact ⟨t2, stp t2 a1, b1⟩
theorem v_callS {y : MethodName} {wsy ws' : List Cond} {bytes : ByteArray} {maxL : Nat} {ret : Option FieldType} {rm : Room} {av : List Value} {wc wr : va_W} {post : Option Value → va_W → Prop} {stk : List Value} {index n : Nat} (hk : Ok K cc nL own Ts R) (hdg : decode cc pc = .ok (.invokestatic index, 3)) (hM : Ctr (kl K) (kG K) y wsy rm av wc post) (hG : GoodIn Ts (va_wsS own index y wsy)) (hw : wsy = Cond.code y bytes maxL ret :: ws')
    (hd : y.cls ≠ "java/lang/invoke/MethodHandle" ∧ y.cls ≠ "java/lang/invoke/VarHandle" ∧ (parseMethodDescriptor y.desc).map (fun d => d.parameters.length) = some n) (hfr : rm.frames + 1 ≤ R.frames ∧ 8 + (maxL + 11) + rm.locals ≤ R.locals) (hroom : ce + rm.cells ≤ R.cells ∧ sl + rm.slots ≤ R.slots) (hn : av.length = n) (hst : stk = av.reverse ++ st) (hst8 : (st.map fun v => v.category).sum ≤ 8)
    (isC isR : List Nat) (hC : isC.map (fun i => ws[i]?) = wc.map some) (hR : isR.map (fun i => ws[i]?) = wr.map some) (hnC : va_nd isC = true) (hnR : va_nd isR = true) (hdis : ∀ i ∈ isR, i ∉ isC)
    (kk : ∀ (v : Option Value) (w' : va_W), post v w' → V K nL (wr ++ w') (ce + rm.cells) (sl + rm.slots) (pc + 3) lv (v.toList ++ st)) : V K nL ws ce sl pc lv stk := by
  refine v_run (y := y) (rm := rm) (av := av) (a := av.toArray) hk isC isR hC hR hnR hdis ?_ hnC kk
  intro H locs ls hP hPc hFc hS hl hpre
  exact va_runS (As := av) (rest := st) (Ts := Ts) ⟨hk.1, hk.2.1, hk.2.2.1, hk.2.2.2.1, hk.ts⟩ (hM H.size) (va_cwS n hk.ts hG hw rfl rfl hd (by rw [hk.room]; exact hfr)) ⟨cPc_blind, hpre⟩ rfl hn hl.1 hst (lv_room hst8) hdg (by rw [hk.room]; exact hroom)
theorem v_callV {y : MethodName} {wsy ws' : List Cond} {bytes : ByteArray} {maxL : Nat} {ret : Option FieldType} {rm : Room} {av As : List Value} {wc wr : va_W} {post : Option Value → va_W → Prop} {stk : List Value} {index n b : Nat} {C : String} {T : u_T} {N ci : Nat} {fs : List Value} (hk : Ok K cc nL own Ts R) (hdg : decode cc pc = .ok (.invokevirtual index, 3)) (hM : Ctr (kl K) (kG K) y wsy rm av wc post) (hav : av = .ref b :: As) (hG : GoodIn Ts (wsV own index C y wsy)) (hw : wsy = Cond.code y bytes maxL ret :: ws')
    (hd : y.cls = C ∧ y.cls ≠ "java/lang/invoke/MethodHandle" ∧ y.cls ≠ "java/lang/invoke/VarHandle" ∧ (parseMethodDescriptor y.desc).map (fun d => d.parameters.length) = some n) (hfr : rm.frames + 1 ≤ R.frames ∧ 8 + (maxL + 11) + rm.locals ≤ R.locals) (hroom : ce + rm.cells ≤ R.cells ∧ sl + rm.slots ≤ R.slots) (hn : As.length = n) (hst : stk = As.reverse ++ .ref b :: st) (hst8 : (st.map fun v => v.category).sum ≤ 8)
    (q0 : Nat) (hq0 : ws[q0]? = some (b, .inr (ci, fs))) (hc : vwCl[ci]? = some (C, T, N))
    (isC isR : List Nat) (hC : isC.map (fun i => ws[i]?) = wc.map some) (hR : isR.map (fun i => ws[i]?) = wr.map some) (hnC : va_nd isC = true) (hnR : va_nd isR = true) (hdis : ∀ i ∈ isR, i ∉ isC)
    (kk : ∀ (v : Option Value) (w' : va_W), post v w' → V K nL (wr ++ w') (ce + rm.cells) (sl + rm.slots) (pc + 3) lv (v.toList ++ st)) : V K nL ws ce sl pc lv stk := by
  subst hav
  refine v_run (y := y) (rm := rm) (av := .ref b :: As) (a := (Value.ref b :: As).toArray) hk isC isR hC hR hnR hdis ?_ hnC kk
  intro H locs ls hP hPc hFc hS hl hpre
  exact va_runV (As := As) (rest := st) (Ts := Ts) ⟨hk.1, hk.2.1, hk.2.2.1, hk.2.2.2.1, hk.ts⟩ (hM H.size) (cwV n hk.ts hG hw rfl rfl hd (by rw [hk.room]; exact hfr)) ⟨cPc_blind, va_recv hk.G hP hc hq0, hpre⟩ rfl hn hl.1 hst (lv_room hst8) hdg (by rw [hk.room]; exact hroom)
theorem v_callI {y : MethodName} {wsy ws' : List Cond} {bytes : ByteArray} {maxL : Nat} {rm : Room} {av As : List Value} {wc wr : va_W} {post : Option Value → va_W → Prop} {stk : List Value} {index n b : Nat} (hk : Ok K cc nL own Ts R) (hdg : decode cc pc = .ok (.invokespecial index, 3)) (hM : Ctr (kl K) (kG K) y wsy rm av wc post) (hav : av = .ref b :: As) (hG : GoodIn Ts wsy) (hw : wsy = Cond.code y bytes maxL none :: ws') (h1 : Cond.initialized y.cls ∈ Ts) (h2 : Cond.methodLink own index y ∈ Ts) (h3 : Cond.instanceMethod y ∈ Ts) (hy : y.name = "<init>")
    (hd : y.cls ≠ "java/lang/invoke/MethodHandle" ∧ y.cls ≠ "java/lang/invoke/VarHandle" ∧ (parseMethodDescriptor y.desc).map (fun d => d.parameters.length) = some n) (hfr : rm.frames + 1 ≤ R.frames ∧ 8 + (maxL + 11) + rm.locals ≤ R.locals) (hroom : ce + rm.cells ≤ R.cells ∧ sl + rm.slots ≤ R.slots) (hn : As.length = n) (hst : stk = As.reverse ++ .ref b :: st) (hst8 : (st.map fun v => v.category).sum ≤ 8)
    (isC isR : List Nat) (hC : isC.map (fun i => ws[i]?) = wc.map some) (hR : isR.map (fun i => ws[i]?) = wr.map some) (hnC : va_nd isC = true) (hnR : va_nd isR = true) (hdis : ∀ i ∈ isR, i ∉ isC)
    (kk : ∀ (v : Option Value) (w' : va_W), post v w' → V K nL (wr ++ w') (ce + rm.cells) (sl + rm.slots) (pc + 3) lv (v.toList ++ st)) : V K nL ws ce sl pc lv stk := by
  subst hav
  refine v_run (y := y) (rm := rm) (av := .ref b :: As) (a := (Value.ref b :: As).toArray) hk isC isR hC hR hnR hdis ?_ hnC kk
  intro H locs ls hP hPc hFc hS hl hpre
  exact va_runI (As := As) (rest := st) (Ts := Ts) ⟨hk.1, hk.2.1, hk.2.2.1, hk.2.2.2.1, hk.ts⟩ (hM H.size) (cwI n hk.ts hG hw rfl rfl (hk.ts _ h1) (hk.ts _ h2) (hk.ts _ h3) hy hd (by rw [hk.room]; exact hfr)) ⟨cPc_blind, hpre⟩ rfl hn hl.1 hst (lv_room hst8) hdg (by rw [hk.room]; exact hroom)
end VC
/-- the world's cells in another order -/
theorem v_perm {K : Cx} {nL : Nat} {ws ws' : va_W} {ce sl pc : Nat} {lv : LV} {st : List Value} (is : List Nat) (h1 : is.filterMap (fun i => ws[i]?) = ws') (h2 : is.map (fun i => ws[i]?) = ws'.map some) (hn : va_nd is = true) (k : V K nL ws' ce sl pc lv st) : V K nL ws ce sl pc lv st :=
  fun H locs ls hP hD hS hl => k H locs ls (hP.sub is h1) (hD.sub is hn h2) hS hl
/-! mirrors: a method as a function; none where the machine would throw -/
def lpk {α β : Type} (f : α → Option β) (r : Option (α ⊕ β)) : Option β := match r with
  | none => none
  | some (.inl a) => f a
  | some (.inr b) => some b
def lp {α β : Type} (body : α → Option (α ⊕ β)) : Nat → α → Option β
  | 0, _ => none
  | n + 1, a => lpk (lp body n) (body a)
def FU : Nat := 4000000
def lt {α β : Type} (a : α) (f : α → β) : β := f a
def ix (i : Int32) (n : Nat) : Bool := decide (0 ≤ i.toInt ∧ i.toInt < (n : Int))
theorem ix_in {i : Int32} {n : Nat} (h : ix i n = true) : vp_in i n := vp_in_iff.mpr (of_decide_eq_true h)
theorem ix_of {i : Int32} {n : Nat} (h : vp_in i n) : ix i n = true := decide_eq_true (vp_in_iff.mp h)
theorem ix_nI {j n : Nat} (h : j < n) (hn : n < 2 ^ 31) : ix (nI j) n = true := ix_of (vp_in_nI h hn)
section MR
variable {α β γ : Type} {g : Option α → Option β} {r : β}
theorem it_t {c : Prop} [Decidable c] {a b : Option α} (h : g (if c then a else b) = some r) (hc : c) : g a = some r := by rw [if_pos hc] at h; exact h
theorem it_f {c : Prop} [Decidable c] {a b : Option α} (h : g (if c then a else b) = some r) (hc : ¬ c) : g b = some r := by rw [if_neg hc] at h; exact h
theorem ok_e {c : Prop} [Decidable c] {a : Option α} (hg : g none = none) (h : g (if c then a else none) = some r) : c ∧ g a = some r := by
  by_cases hc : c
  · rw [if_pos hc] at h; exact ⟨hc, h⟩
  · rw [if_neg hc, hg] at h; cases h
theorem nz_e {c : Prop} [Decidable c] {a : Option α} (hg : g none = none) (h : g (if c then none else a) = some r) : ¬ c ∧ g a = some r := by
  by_cases hc : c
  · rw [if_pos hc, hg] at h; cases h
  · rw [if_neg hc] at h; exact ⟨hc, h⟩
theorem bd_e {o : Option γ} {f : γ → Option α} (hg : g none = none) (h : g (o.bind f) = some r) : ∃ x, o = some x ∧ g (f x) = some r := by
  cases o with
  | none => rw [Option.bind_none, hg] at h; cases h
  | some x => exact ⟨x, rfl, h⟩
theorem lt_e {a : γ} {f : γ → Option α} (h : g (lt a f) = some r) : ∃ x, x = a ∧ g (f x) = some r := ⟨a, rfl, h⟩
end MR
def RoomGe (R rm : Room) : Prop := rm.frames ≤ R.frames ∧ rm.cells ≤ R.cells ∧ rm.slots ≤ R.slots ∧ rm.locals ≤ R.locals
theorem RoomGe.rf {R : Room} : RoomGe R R := ⟨Nat.le_refl _, Nat.le_refl _, Nat.le_refl _, Nat.le_refl _⟩
theorem frok {R rm : Room} {a b : Nat} (h : RoomGe R rm) (h1 : a ≤ rm.frames) (h2 : b ≤ rm.locals) : a ≤ R.frames ∧ b ≤ R.locals := ⟨Nat.le_trans h1 h.1, Nat.le_trans h2 h.2.2.2⟩
theorem roomk {R rm : Room} {a b : Nat} (h : RoomGe R rm) (h1 : a ≤ rm.cells) (h2 : b ≤ rm.slots) : a ≤ R.cells ∧ b ≤ R.slots := ⟨Nat.le_trans h1 h.2.1, Nat.le_trans h2 h.2.2.1⟩
def bz (x : Int32) : Bool := decide (x = 0 ∨ x = 1)
theorem nar_z (x : Int32) (h : x = 0 ∨ x = 1) : narrow .boolean (.int x) = .int x := by rcases h with rfl | rfl <;> rfl
theorem fit_z (x : Int32) (h : x = 0 ∨ x = 1) : fits .boolean (.int x) = true := by rcases h with rfl | rfl <;> rfl
end
section
abbrev rm_X11_put : Room := { frames := 0, cells := 0, slots := 0, locals := 0 }
def m_X11_put (nx : Nat) (fx : Nat → Int32) (v : Int32) : Option ((Nat → Int32)) := lt (if v = 0 then 0 else 1 : Int32) (fun z_1 : Int32 => if ix (0 : Int32) nx = true then lt ((upd fx (0 : Int32).toNatClampNeg z_1) : Nat → Int32) (fun fx_2 : Nat → Int32 => if ix (1 : Int32) nx = true then lt ((upd fx_2 (1 : Int32).toNatClampNeg v) : Nat → Int32) (fun fx_3 : Nat → Int32 => some fx_3) else none) else none)
set_option maxHeartbeats 4000000 in
set_option maxRecDepth 100000 in
theorem c_X11_put (l : Launch) (G : GG) (adx : Nat) (nx : Nat) (fx : Nat → Int32) (v : Int32) (r : (Nat → Int32)) (h : m_X11_put nx fx v = some r) : Ctr l G yX11_put wsX11_put rm_X11_put [.ref adx, .int v] [(adx, .inl (gI G, nx, .inl fx))] (fun v w => v = none ∧ w = [(adx, .inl (gI G, nx, .inl r))]) := by
  refine ctr_entry (cc := cX11_put) (maxL := 2) (ret := none) (by decide) rfl (Nat.le_of_ble_eq_true rfl) ?_
  intro K hl9 hG9 hk hn9 hrt
  subst hl9
  subst hG9
  have hR9 : RoomGe rm_X11_put rm_X11_put := RoomGe.rf
  show V K 2 [(adx, .inl (gI (kG K), nx, .inl fx))] 0 0 0 [(0, .ref adx), (1, .int v)] []
  replace h : id (m_X11_put nx fx v) = some r := h
  unfold m_X11_put at h
  refine v_aload_n hk dX11_put_0 rfl ?_
  refine v_iconst (v := 0) hk dX11_put_1 (by decide) ?_
  refine v_iload_n hk dX11_put_2 rfl ?_
  obtain ⟨z_1, ez_1, h⟩ := lt_e (g := id) h
  have Jz_1 : V K 2 [(adx, .inl (gI (kG K), nx, .inl fx))] 0 0 11 [(0, .ref adx), (1, .int v)] (.int z_1 :: [.int 0, .ref adx]) := by
    obtain ⟨hi, h⟩ := ok_e (g := id) rfl h
    obtain ⟨fx_2, efx_2, h⟩ := lt_e (g := id) h
    refine v_iastV hk dX11_put_11 0 rfl (ix_in hi) (ws' := [(adx, .inl (gI (kG K), nx, .inl fx_2))]) (by rw [efx_2]; rfl) ?_
    refine v_aload_n hk dX11_put_12 rfl ?_
    refine v_iconst (v := 1) hk dX11_put_13 (by decide) ?_
    refine v_iload_n hk dX11_put_14 rfl ?_
    obtain ⟨hi, h⟩ := ok_e (g := id) rfl h
    obtain ⟨fx_3, efx_3, h⟩ := lt_e (g := id) h
    refine v_iastV hk dX11_put_15 0 rfl (ix_in hi) (ws' := [(adx, .inl (gI (kG K), nx, .inl fx_3))]) (by rw [efx_3]; rfl) ?_
    replace h : some fx_3 = some r := h
    replace h := Option.some.inj h
    subst h
    refine hrt (none) _ _ _ _ _ (⟨rfl, rfl⟩) (Nat.zero_le _) (Nat.zero_le _) (dX11_put_16)
  refine v_if_ne (tgt := 10) hk dX11_put_3 (by decide) (fun hc => ?_) (fun hc => ?_)
  · rw [if_neg hc] at ez_1
    subst ez_1
    refine v_iconst (v := 1) hk dX11_put_10 (by decide) ?_
    exact Jz_1
  · rw [if_pos hc] at ez_1
    subst ez_1
    refine v_iconst (v := 0) hk dX11_put_6 (by decide) ?_
    refine v_goto (tgt := 11) hk dX11_put_7 (by decide) ?_
    exact Jz_1
abbrev rm_X11_copy : Room := { frames := 0, cells := 0, slots := 0, locals := 0 }
def b_X11_copy_2 (nx : Nat) (fx : Nat → Int32) (ny : Nat) : (Int32 × (Nat → Int32)) → Option ((Int32 × (Nat → Int32)) ⊕ ((Int32 × (Nat → Int32))))
  | (i2_1, fy_2) => if ix (0 : Int32) nx = true then if (fx (0 : Int32).toNatClampNeg) < i2_1 then some (.inr (i2_1, fy_2)) else if ix i2_1 nx = true then if ix i2_1 ny = true then lt ((upd fy_2 i2_1.toNatClampNeg (fx i2_1.toNatClampNeg)) : Nat → Int32) (fun fy_3 : Nat → Int32 => lt (i2_1 + 1 : Int32) (fun x2_4 : Int32 => some (.inl (x2_4, fy_3)))) else none else none else none
theorem eb_X11_copy_2 (nx : Nat) (fx : Nat → Int32) (ny : Nat) (i2_1 : Int32) (fy_2 : Nat → Int32) : b_X11_copy_2 nx fx ny (i2_1, fy_2) = if ix (0 : Int32) nx = true then if (fx (0 : Int32).toNatClampNeg) < i2_1 then some (.inr (i2_1, fy_2)) else if ix i2_1 nx = true then if ix i2_1 ny = true then lt ((upd fy_2 i2_1.toNatClampNeg (fx i2_1.toNatClampNeg)) : Nat → Int32) (fun fy_3 : Nat → Int32 => lt (i2_1 + 1 : Int32) (fun x2_4 : Int32 => some (.inl (x2_4, fy_3)))) else none else none else none := rfl
set_option maxHeartbeats 4000000 in
set_option maxRecDepth 100000 in
theorem L_X11_copy_2 {K : Cx} {R9 : Room} (hk : Ok K cX11_copy 3 RX11 wsX11_copy R9) (hR9 : RoomGe R9 rm_X11_copy) (adx : Nat) (ady : Nat) (nx : Nat) (fx : Nat → Int32) (ny : Nat) (b9 : (Int32 × (Nat → Int32))) (kk0 : ∀ q9 : (Int32 × (Nat → Int32)), b9 = q9 → V K 3 [(adx, .inl (gI (kG K), nx, .inl fx)), (ady, .inl (gI (kG K), ny, .inl q9.2))] 0 0 21 [(0, .ref adx), (1, .ref ady), (2, .int q9.1)] []) : ∀ (nn : Nat) (i2_1 : Int32) (fy_2 : Nat → Int32), lp (b_X11_copy_2 nx fx ny) nn (i2_1, fy_2) = some b9 → V K 3 [(adx, .inl (gI (kG K), nx, .inl fx)), (ady, .inl (gI (kG K), ny, .inl fy_2))] 0 0 2 [(0, .ref adx), (1, .ref ady), (2, .int i2_1)] [] := by
  intro nn
  induction nn with
  | zero => intro i2_1 fy_2 h; exact absurd h (by simp [lp])
  | succ nn ih =>
    intro i2_1 fy_2 h
    replace h : lpk (lp (b_X11_copy_2 nx fx ny) nn) (b_X11_copy_2 nx fx ny (i2_1, fy_2)) = some b9 := h
    rw [eb_X11_copy_2] at h
    refine v_iload_n hk dX11_copy_2 rfl ?_
    refine v_aload_n hk dX11_copy_3 rfl ?_
    refine v_iconst (v := 0) hk dX11_copy_4 (by decide) ?_
    obtain ⟨hi, h⟩ := ok_e (g := (lpk (lp (b_X11_copy_2 nx fx ny) nn))) rfl h
    refine v_ialdV hk dX11_copy_5 0 rfl (ix_in hi) ?_
    refine v_icmp_gt (tgt := 21) hk dX11_copy_6 (by decide) (fun hc => ?_) (fun hc => ?_)
    · replace h := it_t (g := (lpk (lp (b_X11_copy_2 nx fx ny) nn))) h hc
      replace h : some (i2_1, fy_2) = some b9 := h
      replace h := Option.some.inj h
      subst h
      exact kk0 _ rfl
    · replace h := it_f (g := (lpk (lp (b_X11_copy_2 nx fx ny) nn))) h hc
      refine v_aload_n hk dX11_copy_9 rfl ?_
      refine v_iload_n hk dX11_copy_10 rfl ?_
      refine v_aload_n hk dX11_copy_11 rfl ?_
      refine v_iload_n hk dX11_copy_12 rfl ?_
      obtain ⟨hi, h⟩ := ok_e (g := (lpk (lp (b_X11_copy_2 nx fx ny) nn))) rfl h
      refine v_ialdV hk dX11_copy_13 0 rfl (ix_in hi) ?_
      obtain ⟨hi, h⟩ := ok_e (g := (lpk (lp (b_X11_copy_2 nx fx ny) nn))) rfl h
      obtain ⟨fy_3, efy_3, h⟩ := lt_e (g := (lpk (lp (b_X11_copy_2 nx fx ny) nn))) h
      refine v_iastV hk dX11_copy_14 1 rfl (ix_in hi) (ws' := [(adx, .inl (gI (kG K), nx, .inl fx)), (ady, .inl (gI (kG K), ny, .inl fy_3))]) (by rw [efy_3]; rfl) ?_
      obtain ⟨x2_4, ex2_4, h⟩ := lt_e (g := (lpk (lp (b_X11_copy_2 nx fx ny) nn))) h
      refine v_iinc (v := x2_4) hk dX11_copy_15 rfl (by rw [ex2_4]; rfl) (by decide) [1, 2, 0] (lv' := [(0, .ref adx), (1, .ref ady), (2, .int x2_4)]) rfl ?_
      refine v_goto (tgt := 2) hk dX11_copy_18 (by decide) ?_
      exact ih x2_4 fy_3 h
def m_X11_copy (nx : Nat) (fx : Nat → Int32) (ny : Nat) (fy : Nat → Int32) : Option ((Nat → Int32)) := (lp (b_X11_copy_2 nx fx ny) FU (0, fy)).bind (fun q_5 : Int32 × (Nat → Int32) => some q_5.2)
set_option maxHeartbeats 4000000 in
set_option maxRecDepth 100000 in
theorem c_X11_copy (l : Launch) (G : GG) (adx : Nat) (ady : Nat) (nx : Nat) (fx : Nat → Int32) (ny : Nat) (fy : Nat → Int32) (r : (Nat → Int32)) (h : m_X11_copy nx fx ny fy = some r) : Ctr l G yX11_copy wsX11_copy rm_X11_copy [.ref adx, .ref ady] [(adx, .inl (gI G, nx, .inl fx)), (ady, .inl (gI G, ny, .inl fy))] (fun v w => v = none ∧ w = [(adx, .inl (gI G, nx, .inl fx)), (ady, .inl (gI G, ny, .inl r))]) := by
  refine ctr_entry (cc := cX11_copy) (maxL := 3) (ret := none) (by decide) rfl (Nat.le_of_ble_eq_true rfl) ?_
  intro K hl9 hG9 hk hn9 hrt
  subst hl9
  subst hG9
  have hR9 : RoomGe rm_X11_copy rm_X11_copy := RoomGe.rf
  show V K 3 [(adx, .inl (gI (kG K), nx, .inl fx)), (ady, .inl (gI (kG K), ny, .inl fy))] 0 0 0 [(0, .ref adx), (1, .ref ady)] []
  replace h : id (m_X11_copy nx fx ny fy) = some r := h
  unfold m_X11_copy at h
  refine v_iconst (v := 0) hk dX11_copy_0 (by decide) ?_
  refine v_istore_n hk dX11_copy_1 rfl (by decide) [1, 2, 0] (lv' := [(0, .ref adx), (1, .ref ady), (2, .int 0)]) rfl ?_
  obtain ⟨b_6, eb_6, h⟩ := bd_e (g := id) rfl h
  refine L_X11_copy_2 hk hR9 adx ady nx fx ny b_6 (fun q_5 eq_5 => ?_) FU 0 fy eb_6
  · replace eq_5 := eq_5.symm
    subst eq_5
    replace h : some q_5.2 = some r := h
    replace h := Option.some.inj h
    subst h
    refine hrt (none) _ _ _ _ _ (⟨rfl, rfl⟩) (Nat.zero_le _) (Nat.zero_le _) (dX11_copy_21)
abbrev rm_X11_compareTo : Room := { frames := 0, cells := 0, slots := 0, locals := 0 }
def b_X11_compareTo_12 (nx : Nat) (fx : Nat → Int32) (ny : Nat) (fy : Nat → Int32) : (Int32 × Int32) → Option ((Int32 × Int32) ⊕ ((Int32 × Int32)))
  | (i2_3, i3_4) => if i3_4 ≤ 0 then some (.inr (i2_3, i3_4)) else if i2_3 = 0 then if ix i3_4 nx = true then if ix i3_4 ny = true then lt ((((fx i3_4.toNatClampNeg).toInt64) &&& 4294967295) - (((fy i3_4.toNatClampNeg).toInt64) &&& 4294967295) : Int64) (fun x4_5 : Int64 => if 0 ≤ (lg_cmp x4_5 0) then lt (if (lg_cmp x4_5 0) = 0 then 0 else 1 : Int32) (fun z_6 : Int32 => lt (i3_4 + (-1) : Int32) (fun x3_7 : Int32 => some (.inl (z_6, x3_7)))) else lt (i3_4 + (-1) : Int32) (fun x3_8 : Int32 => some (.inl ((-1), x3_8)))) else none else none else some (.inr (i2_3, i3_4))
theorem eb_X11_compareTo_12 (nx : Nat) (fx : Nat → Int32) (ny : Nat) (fy : Nat → Int32) (i2_3 : Int32) (i3_4 : Int32) : b_X11_compareTo_12 nx fx ny fy (i2_3, i3_4) = if i3_4 ≤ 0 then some (.inr (i2_3, i3_4)) else if i2_3 = 0 then if ix i3_4 nx = true then if ix i3_4 ny = true then lt ((((fx i3_4.toNatClampNeg).toInt64) &&& 4294967295) - (((fy i3_4.toNatClampNeg).toInt64) &&& 4294967295) : Int64) (fun x4_5 : Int64 => if 0 ≤ (lg_cmp x4_5 0) then lt (if (lg_cmp x4_5 0) = 0 then 0 else 1 : Int32) (fun z_6 : Int32 => lt (i3_4 + (-1) : Int32) (fun x3_7 : Int32 => some (.inl (z_6, x3_7)))) else lt (i3_4 + (-1) : Int32) (fun x3_8 : Int32 => some (.inl ((-1), x3_8)))) else none else none else some (.inr (i2_3, i3_4)) := rfl
set_option maxHeartbeats 4000000 in
set_option maxRecDepth 100000 in
theorem L_X11_compareTo_12 {K : Cx} {R9 : Room} (hk : Ok K cX11_compareTo 6 RX11 wsX11_compareTo R9) (hR9 : RoomGe R9 rm_X11_compareTo) (adx : Nat) (ady : Nat) (nx : Nat) (fx : Nat → Int32) (ny : Nat) (fy : Nat → Int32) (b9 : (Int32 × Int32)) (kk0 : ∀ q9 : (Int32 × Int32), b9 = q9 → V K 6 [(adx, .inl (gI (kG K), nx, .inl fx)), (ady, .inl (gI (kG K), ny, .inl fy))] 0 0 69 [(0, .ref adx), (1, .ref ady), (2, .int q9.1), (3, .int q9.2)] []) : ∀ (nn : Nat) (i2_3 : Int32) (i3_4 : Int32), lp (b_X11_compareTo_12 nx fx ny fy) nn (i2_3, i3_4) = some b9 → V K 6 [(adx, .inl (gI (kG K), nx, .inl fx)), (ady, .inl (gI (kG K), ny, .inl fy))] 0 0 12 [(0, .ref adx), (1, .ref ady), (2, .int i2_3), (3, .int i3_4)] [] := by
  intro nn
  induction nn with
  | zero => intro i2_3 i3_4 h; exact absurd h (by simp [lp])
  | succ nn ih =>
    intro i2_3 i3_4 h
    replace h : lpk (lp (b_X11_compareTo_12 nx fx ny fy) nn) (b_X11_compareTo_12 nx fx ny fy (i2_3, i3_4)) = some b9 := h
    rw [eb_X11_compareTo_12] at h
    refine v_iload_n hk dX11_compareTo_12 rfl ?_
    refine v_if_le (tgt := 69) hk dX11_compareTo_13 (by decide) (fun hc => ?_) (fun hc => ?_)
    · replace h := it_t (g := (lpk (lp (b_X11_compareTo_12 nx fx ny fy) nn))) h hc
      replace h : some (i2_3, i3_4) = some b9 := h
      replace h := Option.some.inj h
      subst h
      exact kk0 _ rfl
    · replace h := it_f (g := (lpk (lp (b_X11_compareTo_12 nx fx ny fy) nn))) h hc
      refine v_iload_n hk dX11_compareTo_16 rfl ?_
      refine v_if_ne (tgt := 69) hk dX11_compareTo_17 (by decide) (fun hc => ?_) (fun hc => ?_)
      · replace h := it_f (g := (lpk (lp (b_X11_compareTo_12 nx fx ny fy) nn))) h hc
        replace h : some (i2_3, i3_4) = some b9 := h
        replace h := Option.some.inj h
        subst h
        exact kk0 _ rfl
      · replace h := it_t (g := (lpk (lp (b_X11_compareTo_12 nx fx ny fy) nn))) h hc
        refine v_aload_n hk dX11_compareTo_20 rfl ?_
        refine v_iload_n hk dX11_compareTo_21 rfl ?_
        obtain ⟨hi, h⟩ := ok_e (g := (lpk (lp (b_X11_compareTo_12 nx fx ny fy) nn))) rfl h
        refine v_ialdV hk dX11_compareTo_22 0 rfl (ix_in hi) ?_
        refine v_i2l hk dX11_compareTo_23 ?_
        refine v_ldc2 (v := 4294967295) hk dX11_compareTo_24 (by decide +kernel) ?_
        refine v_land hk dX11_compareTo_27 ?_
        refine v_aload_n hk dX11_compareTo_28 rfl ?_
        refine v_iload_n hk dX11_compareTo_29 rfl ?_
        obtain ⟨hi, h⟩ := ok_e (g := (lpk (lp (b_X11_compareTo_12 nx fx ny fy) nn))) rfl h
        refine v_ialdV hk dX11_compareTo_30 1 rfl (ix_in hi) ?_
        refine v_i2l hk dX11_compareTo_31 ?_
        refine v_ldc2 (v := 4294967295) hk dX11_compareTo_32 (by decide +kernel) ?_
        refine v_land hk dX11_compareTo_35 ?_
        refine v_lsub hk dX11_compareTo_36 ?_
        obtain ⟨x4_5, ex4_5, h⟩ := lt_e (g := (lpk (lp (b_X11_compareTo_12 nx fx ny fy) nn))) h
        refine v_topl ex4_5.symm ?_
        refine v_lstore hk dX11_compareTo_37 (by decide) [1, 2, 3, 4, 0] (lv' := [(0, .ref adx), (1, .ref ady), (2, .int i2_3), (3, .int i3_4), (4, .long x4_5)]) rfl ?_
        refine v_lload hk dX11_compareTo_39 rfl ?_
        refine v_lconst (v := 0) hk dX11_compareTo_41 (by decide) ?_
        refine v_lcmp hk dX11_compareTo_42 ?_
        refine v_if_ge (tgt := 50) hk dX11_compareTo_43 (by decide) (fun hc => ?_) (fun hc => ?_)
        · replace h := it_t (g := (lpk (lp (b_X11_compareTo_12 nx fx ny fy) nn))) h hc
          refine v_lload hk dX11_compareTo_50 rfl ?_
          refine v_lconst (v := 0) hk dX11_compareTo_52 (by decide) ?_
          refine v_lcmp hk dX11_compareTo_53 ?_
          obtain ⟨z_6, ez_6, h⟩ := lt_e (g := (lpk (lp (b_X11_compareTo_12 nx fx ny fy) nn))) h
          have Jz_6 : V K 6 [(adx, .inl (gI (kG K), nx, .inl fx)), (ady, .inl (gI (kG K), ny, .inl fy))] 0 0 62 [(0, .ref adx), (1, .ref ady), (2, .int i2_3), (3, .int i3_4), (4, .long x4_5)] (.int z_6 :: []) := by
            refine v_istore_n hk dX11_compareTo_62 rfl (by decide) [1, 2, 0, 3, 4] (lv' := [(0, .ref adx), (1, .ref ady), (2, .int z_6), (3, .int i3_4), (4, .long x4_5)]) rfl ?_
            obtain ⟨x3_7, ex3_7, h⟩ := lt_e (g := (lpk (lp (b_X11_compareTo_12 nx fx ny fy) nn))) h
            refine v_iinc (v := x3_7) hk dX11_compareTo_63 rfl (by rw [ex3_7]; rfl) (by decide) [1, 2, 3, 0, 4] (lv' := [(0, .ref adx), (1, .ref ady), (2, .int z_6), (3, .int x3_7), (4, .long x4_5)]) rfl ?_
            refine v_goto (tgt := 12) hk dX11_compareTo_66 (by decide) ?_
            refine v_loc [0, 1, 2, 3] (lv' := [(0, .ref adx), (1, .ref ady), (2, .int z_6), (3, .int x3_7)]) rfl ?_
            exact ih z_6 x3_7 h
          refine v_if_ne (tgt := 61) hk dX11_compareTo_54 (by decide) (fun hc => ?_) (fun hc => ?_)
          · rw [if_neg hc] at ez_6
            subst ez_6
            refine v_iconst (v := 1) hk dX11_compareTo_61 (by decide) ?_
            exact Jz_6
          · rw [if_pos hc] at ez_6
            subst ez_6
            refine v_iconst (v := 0) hk dX11_compareTo_57 (by decide) ?_
            refine v_goto (tgt := 62) hk dX11_compareTo_58 (by decide) ?_
            exact Jz_6
        · replace h := it_f (g := (lpk (lp (b_X11_compareTo_12 nx fx ny fy) nn))) h hc
          refine v_iconst (v := (-1)) hk dX11_compareTo_46 (by decide) ?_
          refine v_goto (tgt := 62) hk dX11_compareTo_47 (by decide) ?_
          refine v_istore_n hk dX11_compareTo_62 rfl (by decide) [1, 2, 0, 3, 4] (lv' := [(0, .ref adx), (1, .ref ady), (2, .int (-1)), (3, .int i3_4), (4, .long x4_5)]) rfl ?_
          obtain ⟨x3_8, ex3_8, h⟩ := lt_e (g := (lpk (lp (b_X11_compareTo_12 nx fx ny fy) nn))) h
          refine v_iinc (v := x3_8) hk dX11_compareTo_63 rfl (by rw [ex3_8]; rfl) (by decide) [1, 2, 3, 0, 4] (lv' := [(0, .ref adx), (1, .ref ady), (2, .int (-1)), (3, .int x3_8), (4, .long x4_5)]) rfl ?_
          refine v_goto (tgt := 12) hk dX11_compareTo_66 (by decide) ?_
          refine v_loc [0, 1, 2, 3] (lv' := [(0, .ref adx), (1, .ref ady), (2, .int (-1)), (3, .int x3_8)]) rfl ?_
          exact ih (-1) x3_8 h
def m_X11_compareTo (nx : Nat) (fx : Nat → Int32) (ny : Nat) (fy : Nat → Int32) : Option Int32 := if ix (0 : Int32) nx = true then if ix (0 : Int32) ny = true then lt ((fx (0 : Int32).toNatClampNeg) - (fy (0 : Int32).toNatClampNeg) : Int32) (fun x2_1 : Int32 => if ix (0 : Int32) nx = true then lt (fx (0 : Int32).toNatClampNeg : Int32) (fun x3_2 : Int32 => (lp (b_X11_compareTo_12 nx fx ny fy) FU (x2_1, x3_2)).bind (fun q_9 : Int32 × Int32 => some q_9.1)) else none) else none else none
set_option maxHeartbeats 4000000 in
set_option maxRecDepth 100000 in
theorem c_X11_compareTo (l : Launch) (G : GG) (adx : Nat) (ady : Nat) (nx : Nat) (fx : Nat → Int32) (ny : Nat) (fy : Nat → Int32) (r : Int32) (h : m_X11_compareTo nx fx ny fy = some r) : Ctr l G yX11_compareTo wsX11_compareTo rm_X11_compareTo [.ref adx, .ref ady] [(adx, .inl (gI G, nx, .inl fx)), (ady, .inl (gI G, ny, .inl fy))] (fun v w => v = some (.int r) ∧ w = [(adx, .inl (gI G, nx, .inl fx)), (ady, .inl (gI G, ny, .inl fy))]) := by
  refine ctr_entry (cc := cX11_compareTo) (maxL := 6) (ret := some .int) (by decide) rfl (Nat.le_of_ble_eq_true rfl) ?_
  intro K hl9 hG9 hk hn9 hrt
  subst hl9
  subst hG9
  have hR9 : RoomGe rm_X11_compareTo rm_X11_compareTo := RoomGe.rf
  show V K 6 [(adx, .inl (gI (kG K), nx, .inl fx)), (ady, .inl (gI (kG K), ny, .inl fy))] 0 0 0 [(0, .ref adx), (1, .ref ady)] []
  replace h : id (m_X11_compareTo nx fx ny fy) = some r := h
  unfold m_X11_compareTo at h
  refine v_aload_n hk dX11_compareTo_0 rfl ?_
  refine v_iconst (v := 0) hk dX11_compareTo_1 (by decide) ?_
  obtain ⟨hi, h⟩ := ok_e (g := id) rfl h
  refine v_ialdV hk dX11_compareTo_2 0 rfl (ix_in hi) ?_
  refine v_aload_n hk dX11_compareTo_3 rfl ?_
  refine v_iconst (v := 0) hk dX11_compareTo_4 (by decide) ?_
  obtain ⟨hi, h⟩ := ok_e (g := id) rfl h
  refine v_ialdV hk dX11_compareTo_5 1 rfl (ix_in hi) ?_
  refine v_isub hk dX11_compareTo_6 ?_
  obtain ⟨x2_1, ex2_1, h⟩ := lt_e (g := id) h
  refine v_topi ex2_1.symm ?_
  refine v_istore_n hk dX11_compareTo_7 rfl (by decide) [1, 2, 0] (lv' := [(0, .ref adx), (1, .ref ady), (2, .int x2_1)]) rfl ?_
  refine v_aload_n hk dX11_compareTo_8 rfl ?_
  refine v_iconst (v := 0) hk dX11_compareTo_9 (by decide) ?_
  obtain ⟨hi, h⟩ := ok_e (g := id) rfl h
  refine v_ialdV hk dX11_compareTo_10 0 rfl (ix_in hi) ?_
  obtain ⟨x3_2, ex3_2, h⟩ := lt_e (g := id) h
  refine v_topi ex3_2.symm ?_
  refine v_istore_n hk dX11_compareTo_11 rfl (by decide) [1, 2, 3, 0] (lv' := [(0, .ref adx), (1, .ref ady), (2, .int x2_1), (3, .int x3_2)]) rfl ?_
  obtain ⟨b_10, eb_10, h⟩ := bd_e (g := id) rfl h
  refine L_X11_compareTo_12 hk hR9 adx ady nx fx ny fy b_10 (fun q_9 eq_9 => ?_) FU x2_1 x3_2 eb_10
  · replace eq_9 := eq_9.symm
    subst eq_9
    refine v_iload_n hk dX11_compareTo_69 rfl ?_
    replace h : some q_9.1 = some r := h
    replace h := Option.some.inj h
    subst h
    refine hrt (some (.int q_9.1)) _ _ _ _ _ (⟨rfl, rfl⟩) (Nat.zero_le _) (Nat.zero_le _) (dX11_compareTo_70)
abbrev rm_X11_trim : Room := { frames := 0, cells := 0, slots := 0, locals := 0 }
def b_X11_trim_2 (nx : Nat) (fx : Nat → Int32) : (Int32) → Option ((Int32) ⊕ Int32)
  | i2_1 => if i2_1 ≤ 0 then some (.inr i2_1) else if ix i2_1 nx = true then if (fx i2_1.toNatClampNeg) = 0 then lt (i2_1 + (-1) : Int32) (fun x2_2 : Int32 => some (.inl x2_2)) else some (.inr i2_1) else none
theorem eb_X11_trim_2 (nx : Nat) (fx : Nat → Int32) (i2_1 : Int32) : b_X11_trim_2 nx fx i2_1 = if i2_1 ≤ 0 then some (.inr i2_1) else if ix i2_1 nx = true then if (fx i2_1.toNatClampNeg) = 0 then lt (i2_1 + (-1) : Int32) (fun x2_2 : Int32 => some (.inl x2_2)) else some (.inr i2_1) else none := rfl
set_option maxHeartbeats 4000000 in
set_option maxRecDepth 100000 in
theorem L_X11_trim_2 {K : Cx} {R9 : Room} (hk : Ok K cX11_trim 3 RX11 wsX11_trim R9) (hR9 : RoomGe R9 rm_X11_trim) (adx : Nat) (nx : Nat) (fx : Nat → Int32) (n : Int32) (b9 : Int32) (kk0 : ∀ q9 : Int32, b9 = q9 → V K 3 [(adx, .inl (gI (kG K), nx, .inl fx))] 0 0 18 [(0, .ref adx), (1, .int n), (2, .int q9)] []) : ∀ (nn : Nat) (i2_1 : Int32), lp (b_X11_trim_2 nx fx) nn i2_1 = some b9 → V K 3 [(adx, .inl (gI (kG K), nx, .inl fx))] 0 0 2 [(0, .ref adx), (1, .int n), (2, .int i2_1)] [] := by
  intro nn
  induction nn with
  | zero => intro i2_1 h; exact absurd h (by simp [lp])
  | succ nn ih =>
    intro i2_1 h
    replace h : lpk (lp (b_X11_trim_2 nx fx) nn) (b_X11_trim_2 nx fx i2_1) = some b9 := h
    rw [eb_X11_trim_2] at h
    refine v_iload_n hk dX11_trim_2 rfl ?_
    refine v_if_le (tgt := 18) hk dX11_trim_3 (by decide) (fun hc => ?_) (fun hc => ?_)
    · replace h := it_t (g := (lpk (lp (b_X11_trim_2 nx fx) nn))) h hc
      replace h : some i2_1 = some b9 := h
      replace h := Option.some.inj h
      subst h
      exact kk0 _ rfl
    · replace h := it_f (g := (lpk (lp (b_X11_trim_2 nx fx) nn))) h hc
      refine v_aload_n hk dX11_trim_6 rfl ?_
      refine v_iload_n hk dX11_trim_7 rfl ?_
      obtain ⟨hi, h⟩ := ok_e (g := (lpk (lp (b_X11_trim_2 nx fx) nn))) rfl h
      refine v_ialdV hk dX11_trim_8 0 rfl (ix_in hi) ?_
      refine v_if_ne (tgt := 18) hk dX11_trim_9 (by decide) (fun hc => ?_) (fun hc => ?_)
      · replace h := it_f (g := (lpk (lp (b_X11_trim_2 nx fx) nn))) h hc
        replace h : some i2_1 = some b9 := h
        replace h := Option.some.inj h
        subst h
        exact kk0 _ rfl
      · replace h := it_t (g := (lpk (lp (b_X11_trim_2 nx fx) nn))) h hc
        obtain ⟨x2_2, ex2_2, h⟩ := lt_e (g := (lpk (lp (b_X11_trim_2 nx fx) nn))) h
        refine v_iinc (v := x2_2) hk dX11_trim_12 rfl (by rw [ex2_2]; rfl) (by decide) [1, 2, 0] (lv' := [(0, .ref adx), (1, .int n), (2, .int x2_2)]) rfl ?_
        refine v_goto (tgt := 2) hk dX11_trim_15 (by decide) ?_
        exact ih x2_2 h
def m_X11_trim (nx : Nat) (fx : Nat → Int32) (n : Int32) : Option ((Nat → Int32)) := (lp (b_X11_trim_2 nx fx) FU n).bind (fun q_3 : Int32 => if ix (0 : Int32) nx = true then lt ((upd fx (0 : Int32).toNatClampNeg q_3) : Nat → Int32) (fun fx_4 : Nat → Int32 => some fx_4) else none)
set_option maxHeartbeats 4000000 in
set_option maxRecDepth 100000 in
theorem c_X11_trim (l : Launch) (G : GG) (adx : Nat) (nx : Nat) (fx : Nat → Int32) (n : Int32) (r : (Nat → Int32)) (h : m_X11_trim nx fx n = some r) : Ctr l G yX11_trim wsX11_trim rm_X11_trim [.ref adx, .int n] [(adx, .inl (gI G, nx, .inl fx))] (fun v w => v = none ∧ w = [(adx, .inl (gI G, nx, .inl r))]) := by
  refine ctr_entry (cc := cX11_trim) (maxL := 3) (ret := none) (by decide) rfl (Nat.le_of_ble_eq_true rfl) ?_
  intro K hl9 hG9 hk hn9 hrt
  subst hl9
  subst hG9
  have hR9 : RoomGe rm_X11_trim rm_X11_trim := RoomGe.rf
  show V K 3 [(adx, .inl (gI (kG K), nx, .inl fx))] 0 0 0 [(0, .ref adx), (1, .int n)] []
  replace h : id (m_X11_trim nx fx n) = some r := h
  unfold m_X11_trim at h
  refine v_iload_n hk dX11_trim_0 rfl ?_
  refine v_istore_n hk dX11_trim_1 rfl (by decide) [1, 2, 0] (lv' := [(0, .ref adx), (1, .int n), (2, .int n)]) rfl ?_
  obtain ⟨b_5, eb_5, h⟩ := bd_e (g := id) rfl h
  refine L_X11_trim_2 hk hR9 adx nx fx n b_5 (fun q_3 eq_3 => ?_) FU n eb_5
  · replace eq_3 := eq_3.symm
    subst eq_3
    refine v_aload_n hk dX11_trim_18 rfl ?_
    refine v_iconst (v := 0) hk dX11_trim_19 (by decide) ?_
    refine v_iload_n hk dX11_trim_20 rfl ?_
    obtain ⟨hi, h⟩ := ok_e (g := id) rfl h
    obtain ⟨fx_4, efx_4, h⟩ := lt_e (g := id) h
    refine v_iastV hk dX11_trim_21 0 rfl (ix_in hi) (ws' := [(adx, .inl (gI (kG K), nx, .inl fx_4))]) (by rw [efx_4]; rfl) ?_
    replace h : some fx_4 = some r := h
    replace h := Option.some.inj h
    subst h
    refine hrt (none) _ _ _ _ _ (⟨rfl, rfl⟩) (Nat.zero_le _) (Nat.zero_le _) (dX11_trim_22)
abbrev rm_X11_times : Room := { frames := 1, cells := 0, slots := 0, locals := 22 }
def b_X11_times_11 (nt : Nat) (x3_1 : Int32) : (Int32 × (Nat → Int32)) → Option ((Int32 × (Nat → Int32)) ⊕ ((Int32 × (Nat → Int32))))
  | (i4_2, ft_3) => if x3_1 < i4_2 then some (.inr (i4_2, ft_3)) else if ix i4_2 nt = true then lt ((upd ft_3 i4_2.toNatClampNeg 0) : Nat → Int32) (fun ft_4 : Nat → Int32 => lt (i4_2 + 1 : Int32) (fun x4_5 : Int32 => some (.inl (x4_5, ft_4)))) else none
theorem eb_X11_times_11 (nt : Nat) (x3_1 : Int32) (i4_2 : Int32) (ft_3 : Nat → Int32) : b_X11_times_11 nt x3_1 (i4_2, ft_3) = if x3_1 < i4_2 then some (.inr (i4_2, ft_3)) else if ix i4_2 nt = true then lt ((upd ft_3 i4_2.toNatClampNeg 0) : Nat → Int32) (fun ft_4 : Nat → Int32 => lt (i4_2 + 1 : Int32) (fun x4_5 : Int32 => some (.inl (x4_5, ft_4)))) else none := rfl
set_option maxHeartbeats 4000000 in
set_option maxRecDepth 100000 in
theorem L_X11_times_11 {K : Cx} {R9 : Room} (hk : Ok K cX11_times 10 RX11 wsX11_times R9) (hR9 : RoomGe R9 rm_X11_times) (adx : Nat) (ady : Nat) (adt : Nat) (nx : Nat) (fx : Nat → Int32) (ny : Nat) (fy : Nat → Int32) (nt : Nat) (x3_1 : Int32) (b9 : (Int32 × (Nat → Int32))) (kk0 : ∀ q9 : (Int32 × (Nat → Int32)), b9 = q9 → V K 10 [(adx, .inl (gI (kG K), nx, .inl fx)), (ady, .inl (gI (kG K), ny, .inl fy)), (adt, .inl (gI (kG K), nt, .inl q9.2))] 0 0 28 [(0, .ref adx), (1, .ref ady), (2, .ref adt), (3, .int x3_1), (4, .int q9.1)] []) : ∀ (nn : Nat) (i4_2 : Int32) (ft_3 : Nat → Int32), lp (b_X11_times_11 nt x3_1) nn (i4_2, ft_3) = some b9 → V K 10 [(adx, .inl (gI (kG K), nx, .inl fx)), (ady, .inl (gI (kG K), ny, .inl fy)), (adt, .inl (gI (kG K), nt, .inl ft_3))] 0 0 11 [(0, .ref adx), (1, .ref ady), (2, .ref adt), (3, .int x3_1), (4, .int i4_2)] [] := by
  intro nn
  induction nn with
  | zero => intro i4_2 ft_3 h; exact absurd h (by simp [lp])
  | succ nn ih =>
    intro i4_2 ft_3 h
    replace h : lpk (lp (b_X11_times_11 nt x3_1) nn) (b_X11_times_11 nt x3_1 (i4_2, ft_3)) = some b9 := h
    rw [eb_X11_times_11] at h
    refine v_iload hk dX11_times_11 rfl ?_
    refine v_iload_n hk dX11_times_13 rfl ?_
    refine v_icmp_gt (tgt := 28) hk dX11_times_14 (by decide) (fun hc => ?_) (fun hc => ?_)
    · replace h := it_t (g := (lpk (lp (b_X11_times_11 nt x3_1) nn))) h hc
      replace h : some (i4_2, ft_3) = some b9 := h
      replace h := Option.some.inj h
      subst h
      exact kk0 _ rfl
    · replace h := it_f (g := (lpk (lp (b_X11_times_11 nt x3_1) nn))) h hc
      refine v_aload_n hk dX11_times_17 rfl ?_
      refine v_iload hk dX11_times_18 rfl ?_
      refine v_iconst (v := 0) hk dX11_times_20 (by decide) ?_
      obtain ⟨hi, h⟩ := ok_e (g := (lpk (lp (b_X11_times_11 nt x3_1) nn))) rfl h
      obtain ⟨ft_4, eft_4, h⟩ := lt_e (g := (lpk (lp (b_X11_times_11 nt x3_1) nn))) h
      refine v_iastV hk dX11_times_21 2 rfl (ix_in hi) (ws' := [(adx, .inl (gI (kG K), nx, .inl fx)), (ady, .inl (gI (kG K), ny, .inl fy)), (adt, .inl (gI (kG K), nt, .inl ft_4))]) (by rw [eft_4]; rfl) ?_
      obtain ⟨x4_5, ex4_5, h⟩ := lt_e (g := (lpk (lp (b_X11_times_11 nt x3_1) nn))) h
      refine v_iinc (v := x4_5) hk dX11_times_22 rfl (by rw [ex4_5]; rfl) (by decide) [1, 2, 3, 4, 0] (lv' := [(0, .ref adx), (1, .ref ady), (2, .ref adt), (3, .int x3_1), (4, .int x4_5)]) rfl ?_
      refine v_goto (tgt := 11) hk dX11_times_25 (by decide) ?_
      exact ih x4_5 ft_4 h
def b_X11_times_45 (nx : Nat) (fx : Nat → Int32) (ny : Nat) (fy : Nat → Int32) (nt : Nat) (i4_7 : Int32) : (Int64 × Int32 × (Nat → Int32)) → Option ((Int64 × Int32 × (Nat → Int32)) ⊕ ((Int64 × Int32 × (Nat → Int32))))
  | (i5_9, i7_10, ft_11) => if ix (0 : Int32) ny = true then if (fy (0 : Int32).toNatClampNeg) < i7_10 then some (.inr (i5_9, i7_10, ft_11)) else if ix i4_7 nx = true then if ix i7_10 ny = true then if ix ((i4_7 + i7_10) - 1) nt = true then lt ((((((fx i4_7.toNatClampNeg).toInt64) &&& 4294967295) * (((fy i7_10.toNatClampNeg).toInt64) &&& 4294967295)) + (((ft_11 ((i4_7 + i7_10) - 1).toNatClampNeg).toInt64) &&& 4294967295)) + i5_9 : Int64) (fun x8_12 : Int64 => if ix ((i4_7 + i7_10) - 1) nt = true then lt ((upd ft_11 ((i4_7 + i7_10) - 1).toNatClampNeg x8_12.toInt32) : Nat → Int32) (fun ft_13 : Nat → Int32 => lt ((x8_12.toUInt64 >>> ((32 : Int32).toInt64.toUInt64 &&& Int64.toUInt64 63)).toInt64 : Int64) (fun x5_14 : Int64 => lt (i7_10 + 1 : Int32) (fun x7_15 : Int32 => some (.inl (x5_14, x7_15, ft_13))))) else none) else none else none else none else none
theorem eb_X11_times_45 (nx : Nat) (fx : Nat → Int32) (ny : Nat) (fy : Nat → Int32) (nt : Nat) (i4_7 : Int32) (i5_9 : Int64) (i7_10 : Int32) (ft_11 : Nat → Int32) : b_X11_times_45 nx fx ny fy nt i4_7 (i5_9, i7_10, ft_11) = if ix (0 : Int32) ny = true then if (fy (0 : Int32).toNatClampNeg) < i7_10 then some (.inr (i5_9, i7_10, ft_11)) else if ix i4_7 nx = true then if ix i7_10 ny = true then if ix ((i4_7 + i7_10) - 1) nt = true then lt ((((((fx i4_7.toNatClampNeg).toInt64) &&& 4294967295) * (((fy i7_10.toNatClampNeg).toInt64) &&& 4294967295)) + (((ft_11 ((i4_7 + i7_10) - 1).toNatClampNeg).toInt64) &&& 4294967295)) + i5_9 : Int64) (fun x8_12 : Int64 => if ix ((i4_7 + i7_10) - 1) nt = true then lt ((upd ft_11 ((i4_7 + i7_10) - 1).toNatClampNeg x8_12.toInt32) : Nat → Int32) (fun ft_13 : Nat → Int32 => lt ((x8_12.toUInt64 >>> ((32 : Int32).toInt64.toUInt64 &&& Int64.toUInt64 63)).toInt64 : Int64) (fun x5_14 : Int64 => lt (i7_10 + 1 : Int32) (fun x7_15 : Int32 => some (.inl (x5_14, x7_15, ft_13))))) else none) else none else none else none else none := rfl
set_option maxHeartbeats 4000000 in
set_option maxRecDepth 100000 in
theorem L_X11_times_45 {K : Cx} {R9 : Room} (hk : Ok K cX11_times 10 RX11 wsX11_times R9) (hR9 : RoomGe R9 rm_X11_times) (adx : Nat) (ady : Nat) (adt : Nat) (nx : Nat) (fx : Nat → Int32) (ny : Nat) (fy : Nat → Int32) (nt : Nat) (x3_1 : Int32) (i4_7 : Int32) (b9 : (Int64 × Int32 × (Nat → Int32))) (kk0 : ∀ q9 : (Int64 × Int32 × (Nat → Int32)), b9 = q9 → V K 10 [(adx, .inl (gI (kG K), nx, .inl fx)), (ady, .inl (gI (kG K), ny, .inl fy)), (adt, .inl (gI (kG K), nt, .inl q9.2.2))] 0 0 117 [(0, .ref adx), (1, .ref ady), (2, .ref adt), (3, .int x3_1), (4, .int i4_7), (5, .long q9.1), (7, .int q9.2.1)] []) : ∀ (nn : Nat) (i5_9 : Int64) (i7_10 : Int32) (ft_11 : Nat → Int32), lp (b_X11_times_45 nx fx ny fy nt i4_7) nn (i5_9, i7_10, ft_11) = some b9 → V K 10 [(adx, .inl (gI (kG K), nx, .inl fx)), (ady, .inl (gI (kG K), ny, .inl fy)), (adt, .inl (gI (kG K), nt, .inl ft_11))] 0 0 45 [(0, .ref adx), (1, .ref ady), (2, .ref adt), (3, .int x3_1), (4, .int i4_7), (5, .long i5_9), (7, .int i7_10)] [] := by
  intro nn
  induction nn with
  | zero => intro i5_9 i7_10 ft_11 h; exact absurd h (by simp [lp])
  | succ nn ih =>
    intro i5_9 i7_10 ft_11 h
    replace h : lpk (lp (b_X11_times_45 nx fx ny fy nt i4_7) nn) (b_X11_times_45 nx fx ny fy nt i4_7 (i5_9, i7_10, ft_11)) = some b9 := h
    rw [eb_X11_times_45] at h
    refine v_iload hk dX11_times_45 rfl ?_
    refine v_aload_n hk dX11_times_47 rfl ?_
    refine v_iconst (v := 0) hk dX11_times_48 (by decide) ?_
    obtain ⟨hi, h⟩ := ok_e (g := (lpk (lp (b_X11_times_45 nx fx ny fy nt i4_7) nn))) rfl h
    refine v_ialdV hk dX11_times_49 1 rfl (ix_in hi) ?_
    refine v_icmp_gt (tgt := 117) hk dX11_times_50 (by decide) (fun hc => ?_) (fun hc => ?_)
    · replace h := it_t (g := (lpk (lp (b_X11_times_45 nx fx ny fy nt i4_7) nn))) h hc
      replace h : some (i5_9, i7_10, ft_11) = some b9 := h
      replace h := Option.some.inj h
      subst h
      exact kk0 _ rfl
    · replace h := it_f (g := (lpk (lp (b_X11_times_45 nx fx ny fy nt i4_7) nn))) h hc
      refine v_aload_n hk dX11_times_53 rfl ?_
      refine v_iload hk dX11_times_54 rfl ?_
      obtain ⟨hi, h⟩ := ok_e (g := (lpk (lp (b_X11_times_45 nx fx ny fy nt i4_7) nn))) rfl h
      refine v_ialdV hk dX11_times_56 0 rfl (ix_in hi) ?_
      refine v_i2l hk dX11_times_57 ?_
      refine v_ldc2 (v := 4294967295) hk dX11_times_58 (by decide +kernel) ?_
      refine v_land hk dX11_times_61 ?_
      refine v_aload_n hk dX11_times_62 rfl ?_
      refine v_iload hk dX11_times_63 rfl ?_
      obtain ⟨hi, h⟩ := ok_e (g := (lpk (lp (b_X11_times_45 nx fx ny fy nt i4_7) nn))) rfl h
      refine v_ialdV hk dX11_times_65 1 rfl (ix_in hi) ?_
      refine v_i2l hk dX11_times_66 ?_
      refine v_ldc2 (v := 4294967295) hk dX11_times_67 (by decide +kernel) ?_
      refine v_land hk dX11_times_70 ?_
      refine v_lmul hk dX11_times_71 ?_
      refine v_aload_n hk dX11_times_72 rfl ?_
      refine v_iload hk dX11_times_73 rfl ?_
      refine v_iload hk dX11_times_75 rfl ?_
      refine v_iadd hk dX11_times_77 ?_
      refine v_iconst (v := 1) hk dX11_times_78 (by decide) ?_
      refine v_isub hk dX11_times_79 ?_
      obtain ⟨hi, h⟩ := ok_e (g := (lpk (lp (b_X11_times_45 nx fx ny fy nt i4_7) nn))) rfl h
      refine v_ialdV hk dX11_times_80 2 rfl (ix_in hi) ?_
      refine v_i2l hk dX11_times_81 ?_
      refine v_ldc2 (v := 4294967295) hk dX11_times_82 (by decide +kernel) ?_
      refine v_land hk dX11_times_85 ?_
      refine v_ladd hk dX11_times_86 ?_
      refine v_lload hk dX11_times_87 rfl ?_
      refine v_ladd hk dX11_times_89 ?_
      obtain ⟨x8_12, ex8_12, h⟩ := lt_e (g := (lpk (lp (b_X11_times_45 nx fx ny fy nt i4_7) nn))) h
      refine v_topl ex8_12.symm ?_
      refine v_lstore hk dX11_times_90 (by decide) [1, 2, 3, 4, 5, 6, 7, 0] (lv' := [(0, .ref adx), (1, .ref ady), (2, .ref adt), (3, .int x3_1), (4, .int i4_7), (5, .long i5_9), (7, .int i7_10), (8, .long x8_12)]) rfl ?_
      refine v_aload_n hk dX11_times_92 rfl ?_
      refine v_iload hk dX11_times_93 rfl ?_
      refine v_iload hk dX11_times_95 rfl ?_
      refine v_iadd hk dX11_times_97 ?_
      refine v_iconst (v := 1) hk dX11_times_98 (by decide) ?_
      refine v_isub hk dX11_times_99 ?_
      refine v_lload hk dX11_times_100 rfl ?_
      refine v_l2i hk dX11_times_102 ?_
      obtain ⟨hi, h⟩ := ok_e (g := (lpk (lp (b_X11_times_45 nx fx ny fy nt i4_7) nn))) rfl h
      obtain ⟨ft_13, eft_13, h⟩ := lt_e (g := (lpk (lp (b_X11_times_45 nx fx ny fy nt i4_7) nn))) h
      refine v_iastV hk dX11_times_103 2 rfl (ix_in hi) (ws' := [(adx, .inl (gI (kG K), nx, .inl fx)), (ady, .inl (gI (kG K), ny, .inl fy)), (adt, .inl (gI (kG K), nt, .inl ft_13))]) (by rw [eft_13]; rfl) ?_
      refine v_lload hk dX11_times_104 rfl ?_
      refine v_bipush (v := 32) hk dX11_times_106 (by decide) ?_
      refine v_lushr hk dX11_times_108 ?_
      obtain ⟨x5_14, ex5_14, h⟩ := lt_e (g := (lpk (lp (b_X11_times_45 nx fx ny fy nt i4_7) nn))) h
      refine v_topl ex5_14.symm ?_
      refine v_lstore hk dX11_times_109 (by decide) [1, 2, 3, 4, 5, 0, 6, 7] (lv' := [(0, .ref adx), (1, .ref ady), (2, .ref adt), (3, .int x3_1), (4, .int i4_7), (5, .long x5_14), (7, .int i7_10), (8, .long x8_12)]) rfl ?_
      obtain ⟨x7_15, ex7_15, h⟩ := lt_e (g := (lpk (lp (b_X11_times_45 nx fx ny fy nt i4_7) nn))) h
      refine v_iinc (v := x7_15) hk dX11_times_111 rfl (by rw [ex7_15]; rfl) (by decide) [1, 2, 3, 4, 5, 6, 0, 7] (lv' := [(0, .ref adx), (1, .ref ady), (2, .ref adt), (3, .int x3_1), (4, .int i4_7), (5, .long x5_14), (7, .int x7_15), (8, .long x8_12)]) rfl ?_
      refine v_goto (tgt := 45) hk dX11_times_114 (by decide) ?_
      refine v_loc [0, 1, 2, 3, 4, 5, 6] (lv' := [(0, .ref adx), (1, .ref ady), (2, .ref adt), (3, .int x3_1), (4, .int i4_7), (5, .long x5_14), (7, .int x7_15)]) rfl ?_
      exact ih x5_14 x7_15 ft_13 h
def b_X11_times_31 (nx : Nat) (fx : Nat → Int32) (ny : Nat) (fy : Nat → Int32) (nt : Nat) : (Int32 × (Nat → Int32)) → Option ((Int32 × (Nat → Int32)) ⊕ ((Int32 × (Nat → Int32))))
  | (i4_7, ft_8) => if ix (0 : Int32) nx = true then if (fx (0 : Int32).toNatClampNeg) < i4_7 then some (.inr (i4_7, ft_8)) else (lp (b_X11_times_45 nx fx ny fy nt i4_7) FU (0, 1, ft_8)).bind (fun q_16 : Int64 × Int32 × (Nat → Int32) => if ix (0 : Int32) ny = true then if ix (i4_7 + (fy (0 : Int32).toNatClampNeg)) nt = true then lt ((upd q_16.2.2 (i4_7 + (fy (0 : Int32).toNatClampNeg)).toNatClampNeg q_16.1.toInt32) : Nat → Int32) (fun ft_17 : Nat → Int32 => lt (i4_7 + 1 : Int32) (fun x4_18 : Int32 => some (.inl (x4_18, ft_17)))) else none else none) else none
theorem eb_X11_times_31 (nx : Nat) (fx : Nat → Int32) (ny : Nat) (fy : Nat → Int32) (nt : Nat) (i4_7 : Int32) (ft_8 : Nat → Int32) : b_X11_times_31 nx fx ny fy nt (i4_7, ft_8) = if ix (0 : Int32) nx = true then if (fx (0 : Int32).toNatClampNeg) < i4_7 then some (.inr (i4_7, ft_8)) else (lp (b_X11_times_45 nx fx ny fy nt i4_7) FU (0, 1, ft_8)).bind (fun q_16 : Int64 × Int32 × (Nat → Int32) => if ix (0 : Int32) ny = true then if ix (i4_7 + (fy (0 : Int32).toNatClampNeg)) nt = true then lt ((upd q_16.2.2 (i4_7 + (fy (0 : Int32).toNatClampNeg)).toNatClampNeg q_16.1.toInt32) : Nat → Int32) (fun ft_17 : Nat → Int32 => lt (i4_7 + 1 : Int32) (fun x4_18 : Int32 => some (.inl (x4_18, ft_17)))) else none else none) else none := rfl
set_option maxHeartbeats 4000000 in
set_option maxRecDepth 100000 in
theorem L_X11_times_31 {K : Cx} {R9 : Room} (hk : Ok K cX11_times 10 RX11 wsX11_times R9) (hR9 : RoomGe R9 rm_X11_times) (adx : Nat) (ady : Nat) (adt : Nat) (nx : Nat) (fx : Nat → Int32) (ny : Nat) (fy : Nat → Int32) (nt : Nat) (x3_1 : Int32) (b9 : (Int32 × (Nat → Int32))) (kk0 : ∀ q9 : (Int32 × (Nat → Int32)), b9 = q9 → V K 10 [(adx, .inl (gI (kG K), nx, .inl fx)), (ady, .inl (gI (kG K), ny, .inl fy)), (adt, .inl (gI (kG K), nt, .inl q9.2))] 0 0 134 [(0, .ref adx), (1, .ref ady), (2, .ref adt), (3, .int x3_1), (4, .int q9.1)] []) : ∀ (nn : Nat) (i4_7 : Int32) (ft_8 : Nat → Int32), lp (b_X11_times_31 nx fx ny fy nt) nn (i4_7, ft_8) = some b9 → V K 10 [(adx, .inl (gI (kG K), nx, .inl fx)), (ady, .inl (gI (kG K), ny, .inl fy)), (adt, .inl (gI (kG K), nt, .inl ft_8))] 0 0 31 [(0, .ref adx), (1, .ref ady), (2, .ref adt), (3, .int x3_1), (4, .int i4_7)] [] := by
  intro nn
  induction nn with
  | zero => intro i4_7 ft_8 h; exact absurd h (by simp [lp])
  | succ nn ih =>
    intro i4_7 ft_8 h
    replace h : lpk (lp (b_X11_times_31 nx fx ny fy nt) nn) (b_X11_times_31 nx fx ny fy nt (i4_7, ft_8)) = some b9 := h
    rw [eb_X11_times_31] at h
    refine v_iload hk dX11_times_31 rfl ?_
    refine v_aload_n hk dX11_times_33 rfl ?_
    refine v_iconst (v := 0) hk dX11_times_34 (by decide) ?_
    obtain ⟨hi, h⟩ := ok_e (g := (lpk (lp (b_X11_times_31 nx fx ny fy nt) nn))) rfl h
    refine v_ialdV hk dX11_times_35 0 rfl (ix_in hi) ?_
    refine v_icmp_gt (tgt := 134) hk dX11_times_36 (by decide) (fun hc => ?_) (fun hc => ?_)
    · replace h := it_t (g := (lpk (lp (b_X11_times_31 nx fx ny fy nt) nn))) h hc
      replace h : some (i4_7, ft_8) = some b9 := h
      replace h := Option.some.inj h
      subst h
      exact kk0 _ rfl
    · replace h := it_f (g := (lpk (lp (b_X11_times_31 nx fx ny fy nt) nn))) h hc
      refine v_lconst (v := 0) hk dX11_times_39 (by decide) ?_
      refine v_lstore hk dX11_times_40 (by decide) [1, 2, 3, 4, 5, 0] (lv' := [(0, .ref adx), (1, .ref ady), (2, .ref adt), (3, .int x3_1), (4, .int i4_7), (5, .long 0)]) rfl ?_
      refine v_iconst (v := 1) hk dX11_times_42 (by decide) ?_
      refine v_istore hk dX11_times_43 (by decide) [1, 2, 3, 4, 5, 6, 0] (lv' := [(0, .ref adx), (1, .ref ady), (2, .ref adt), (3, .int x3_1), (4, .int i4_7), (5, .long 0), (7, .int 1)]) rfl ?_
      obtain ⟨b_19, eb_19, h⟩ := bd_e (g := (lpk (lp (b_X11_times_31 nx fx ny fy nt) nn))) rfl h
      refine L_X11_times_45 hk hR9 adx ady adt nx fx ny fy nt x3_1 i4_7 b_19 (fun q_16 eq_16 => ?_) FU 0 1 ft_8 eb_19
      · replace eq_16 := eq_16.symm
        subst eq_16
        refine v_aload_n hk dX11_times_117 rfl ?_
        refine v_iload hk dX11_times_118 rfl ?_
        refine v_aload_n hk dX11_times_120 rfl ?_
        refine v_iconst (v := 0) hk dX11_times_121 (by decide) ?_
        obtain ⟨hi, h⟩ := ok_e (g := (lpk (lp (b_X11_times_31 nx fx ny fy nt) nn))) rfl h
        refine v_ialdV hk dX11_times_122 1 rfl (ix_in hi) ?_
        refine v_iadd hk dX11_times_123 ?_
        refine v_lload hk dX11_times_124 rfl ?_
        refine v_l2i hk dX11_times_126 ?_
        obtain ⟨hi, h⟩ := ok_e (g := (lpk (lp (b_X11_times_31 nx fx ny fy nt) nn))) rfl h
        obtain ⟨ft_17, eft_17, h⟩ := lt_e (g := (lpk (lp (b_X11_times_31 nx fx ny fy nt) nn))) h
        refine v_iastV hk dX11_times_127 2 rfl (ix_in hi) (ws' := [(adx, .inl (gI (kG K), nx, .inl fx)), (ady, .inl (gI (kG K), ny, .inl fy)), (adt, .inl (gI (kG K), nt, .inl ft_17))]) (by rw [eft_17]; rfl) ?_
        obtain ⟨x4_18, ex4_18, h⟩ := lt_e (g := (lpk (lp (b_X11_times_31 nx fx ny fy nt) nn))) h
        refine v_iinc (v := x4_18) hk dX11_times_128 rfl (by rw [ex4_18]; rfl) (by decide) [1, 2, 3, 4, 0, 5, 6] (lv' := [(0, .ref adx), (1, .ref ady), (2, .ref adt), (3, .int x3_1), (4, .int x4_18), (5, .long q_16.1), (7, .int q_16.2.1)]) rfl ?_
        refine v_goto (tgt := 31) hk dX11_times_131 (by decide) ?_
        refine v_loc [0, 1, 2, 3, 4] (lv' := [(0, .ref adx), (1, .ref ady), (2, .ref adt), (3, .int x3_1), (4, .int x4_18)]) rfl ?_
        exact ih x4_18 ft_17 h
def m_X11_times (nx : Nat) (fx : Nat → Int32) (ny : Nat) (fy : Nat → Int32) (nt : Nat) (ft : Nat → Int32) : Option ((Nat → Int32)) := if ix (0 : Int32) nx = true then if ix (0 : Int32) ny = true then lt ((fx (0 : Int32).toNatClampNeg) + (fy (0 : Int32).toNatClampNeg) : Int32) (fun x3_1 : Int32 => (lp (b_X11_times_11 nt x3_1) FU (1, ft)).bind (fun q_6 : Int32 × (Nat → Int32) => (lp (b_X11_times_31 nx fx ny fy nt) FU (1, q_6.2)).bind (fun q_20 : Int32 × (Nat → Int32) => (m_X11_trim nt q_20.2 x3_1).bind (fun r_21 : (Nat → Int32) => some r_21)))) else none else none
set_option maxHeartbeats 4000000 in
set_option maxRecDepth 100000 in
theorem c_X11_times (l : Launch) (G : GG) (adx : Nat) (ady : Nat) (adt : Nat) (nx : Nat) (fx : Nat → Int32) (ny : Nat) (fy : Nat → Int32) (nt : Nat) (ft : Nat → Int32) (r : (Nat → Int32)) (h : m_X11_times nx fx ny fy nt ft = some r) : Ctr l G yX11_times wsX11_times rm_X11_times [.ref adx, .ref ady, .ref adt] [(adx, .inl (gI G, nx, .inl fx)), (ady, .inl (gI G, ny, .inl fy)), (adt, .inl (gI G, nt, .inl ft))] (fun v w => v = none ∧ w = [(adx, .inl (gI G, nx, .inl fx)), (ady, .inl (gI G, ny, .inl fy)), (adt, .inl (gI G, nt, .inl r))]) := by
  refine ctr_entry (cc := cX11_times) (maxL := 10) (ret := none) (by decide) rfl (Nat.le_of_ble_eq_true rfl) ?_
  intro K hl9 hG9 hk hn9 hrt
  subst hl9
  subst hG9
  have hR9 : RoomGe rm_X11_times rm_X11_times := RoomGe.rf
  show V K 10 [(adx, .inl (gI (kG K), nx, .inl fx)), (ady, .inl (gI (kG K), ny, .inl fy)), (adt, .inl (gI (kG K), nt, .inl ft))] 0 0 0 [(0, .ref adx), (1, .ref ady), (2, .ref adt)] []
  replace h : id (m_X11_times nx fx ny fy nt ft) = some r := h
  unfold m_X11_times at h
  refine v_aload_n hk dX11_times_0 rfl ?_
  refine v_iconst (v := 0) hk dX11_times_1 (by decide) ?_
  obtain ⟨hi, h⟩ := ok_e (g := id) rfl h
  refine v_ialdV hk dX11_times_2 0 rfl (ix_in hi) ?_
  refine v_aload_n hk dX11_times_3 rfl ?_
  refine v_iconst (v := 0) hk dX11_times_4 (by decide) ?_
  obtain ⟨hi, h⟩ := ok_e (g := id) rfl h
  refine v_ialdV hk dX11_times_5 1 rfl (ix_in hi) ?_
  refine v_iadd hk dX11_times_6 ?_
  obtain ⟨x3_1, ex3_1, h⟩ := lt_e (g := id) h
  refine v_topi ex3_1.symm ?_
  refine v_istore_n hk dX11_times_7 rfl (by decide) [1, 2, 3, 0] (lv' := [(0, .ref adx), (1, .ref ady), (2, .ref adt), (3, .int x3_1)]) rfl ?_
  refine v_iconst (v := 1) hk dX11_times_8 (by decide) ?_
  refine v_istore hk dX11_times_9 (by decide) [1, 2, 3, 4, 0] (lv' := [(0, .ref adx), (1, .ref ady), (2, .ref adt), (3, .int x3_1), (4, .int 1)]) rfl ?_
  obtain ⟨b_23, eb_23, h⟩ := bd_e (g := id) rfl h
  refine L_X11_times_11 hk hR9 adx ady adt nx fx ny fy nt x3_1 b_23 (fun q_6 eq_6 => ?_) FU 1 ft eb_23
  · replace eq_6 := eq_6.symm
    subst eq_6
    refine v_iconst (v := 1) hk dX11_times_28 (by decide) ?_
    refine v_istore hk dX11_times_29 (by decide) [1, 2, 3, 4, 0] (lv' := [(0, .ref adx), (1, .ref ady), (2, .ref adt), (3, .int x3_1), (4, .int 1)]) rfl ?_
    obtain ⟨b_22, eb_22, h⟩ := bd_e (g := id) rfl h
    refine L_X11_times_31 hk hR9 adx ady adt nx fx ny fy nt x3_1 b_22 (fun q_20 eq_20 => ?_) FU 1 q_6.2 eb_22
    · replace eq_20 := eq_20.symm
      subst eq_20
      refine v_aload_n hk dX11_times_134 rfl ?_
      refine v_iload_n hk dX11_times_135 rfl ?_
      obtain ⟨r_21, er_21, h⟩ := bd_e (g := id) rfl h
      refine v_callS (n := 2) (st := []) hk dX11_times_136 (c_X11_trim (kl K) (kG K) adt nt q_20.2 x3_1 r_21 er_21) gX11_times_X11_trim rfl (by decide +kernel) (frok hR9 (Nat.le_of_ble_eq_true rfl) (Nat.le_of_ble_eq_true rfl)) (roomk hR9 (Nat.le_of_ble_eq_true rfl) (Nat.le_of_ble_eq_true rfl)) rfl rfl (by decide) [2] [0, 1] (wr := [(adx, .inl (gI (kG K), nx, .inl fx)), (ady, .inl (gI (kG K), ny, .inl fy))]) rfl rfl (by decide) (by decide) (by decide) ?_
      intro v9 w9 hp9
      obtain ⟨rfl, rfl⟩ := hp9
      show V K 10 [(adx, .inl (gI (kG K), nx, .inl fx)), (ady, .inl (gI (kG K), ny, .inl fy)), (adt, .inl (gI (kG K), nt, .inl r_21))] 0 0 139 [(0, .ref adx), (1, .ref ady), (2, .ref adt), (3, .int x3_1), (4, .int q_20.1)] []
      replace h : some r_21 = some r := h
      replace h := Option.some.inj h
      subst h
      refine hrt (none) _ _ _ _ _ (⟨rfl, rfl⟩) (Nat.zero_le _) (Nat.zero_le _) (dX11_times_139)
abbrev rm_X11_plus : Room := { frames := 1, cells := 0, slots := 0, locals := 22 }
def b_X11_plus_24 (nx : Nat) (ny : Nat) (fy : Nat → Int32) (x2_1 : Int32) : (Int64 × Int32 × (Nat → Int32)) → Option ((Int64 × Int32 × (Nat → Int32)) ⊕ ((Int64 × Int32 × (Nat → Int32))))
  | (i3_2, i5_3, fx_4) => if x2_1 < i5_3 then some (.inr (i3_2, i5_3, fx_4)) else if ix (0 : Int32) nx = true then if (fx_4 (0 : Int32).toNatClampNeg) < i5_3 then if ix (0 : Int32) ny = true then if (fy (0 : Int32).toNatClampNeg) < i5_3 then lt (i3_2 + (0 + 0) : Int64) (fun x3_5 : Int64 => if ix i5_3 nx = true then lt ((upd fx_4 i5_3.toNatClampNeg x3_5.toInt32) : Nat → Int32) (fun fx_6 : Nat → Int32 => lt ((x3_5.toUInt64 >>> ((32 : Int32).toInt64.toUInt64 &&& Int64.toUInt64 63)).toInt64 : Int64) (fun x3_7 : Int64 => lt (i5_3 + 1 : Int32) (fun x5_8 : Int32 => some (.inl (x3_7, x5_8, fx_6))))) else none) else if ix i5_3 ny = true then lt (i3_2 + (0 + (((fy i5_3.toNatClampNeg).toInt64) &&& 4294967295)) : Int64) (fun x3_9 : Int64 => if ix i5_3 nx = true then lt ((upd fx_4 i5_3.toNatClampNeg x3_9.toInt32) : Nat → Int32) (fun fx_10 : Nat → Int32 => lt ((x3_9.toUInt64 >>> ((32 : Int32).toInt64.toUInt64 &&& Int64.toUInt64 63)).toInt64 : Int64) (fun x3_11 : Int64 => lt (i5_3 + 1 : Int32) (fun x5_12 : Int32 => some (.inl (x3_11, x5_12, fx_10))))) else none) else none else none else if ix i5_3 nx = true then if ix (0 : Int32) ny = true then if (fy (0 : Int32).toNatClampNeg) < i5_3 then lt (i3_2 + ((((fx_4 i5_3.toNatClampNeg).toInt64) &&& 4294967295) + 0) : Int64) (fun x3_13 : Int64 => if ix i5_3 nx = true then lt ((upd fx_4 i5_3.toNatClampNeg x3_13.toInt32) : Nat → Int32) (fun fx_14 : Nat → Int32 => lt ((x3_13.toUInt64 >>> ((32 : Int32).toInt64.toUInt64 &&& Int64.toUInt64 63)).toInt64 : Int64) (fun x3_15 : Int64 => lt (i5_3 + 1 : Int32) (fun x5_16 : Int32 => some (.inl (x3_15, x5_16, fx_14))))) else none) else if ix i5_3 ny = true then lt (i3_2 + ((((fx_4 i5_3.toNatClampNeg).toInt64) &&& 4294967295) + (((fy i5_3.toNatClampNeg).toInt64) &&& 4294967295)) : Int64) (fun x3_17 : Int64 => if ix i5_3 nx = true then lt ((upd fx_4 i5_3.toNatClampNeg x3_17.toInt32) : Nat → Int32) (fun fx_18 : Nat → Int32 => lt ((x3_17.toUInt64 >>> ((32 : Int32).toInt64.toUInt64 &&& Int64.toUInt64 63)).toInt64 : Int64) (fun x3_19 : Int64 => lt (i5_3 + 1 : Int32) (fun x5_20 : Int32 => some (.inl (x3_19, x5_20, fx_18))))) else none) else none else none else none else none
theorem eb_X11_plus_24 (nx : Nat) (ny : Nat) (fy : Nat → Int32) (x2_1 : Int32) (i3_2 : Int64) (i5_3 : Int32) (fx_4 : Nat → Int32) : b_X11_plus_24 nx ny fy x2_1 (i3_2, i5_3, fx_4) = if x2_1 < i5_3 then some (.inr (i3_2, i5_3, fx_4)) else if ix (0 : Int32) nx = true then if (fx_4 (0 : Int32).toNatClampNeg) < i5_3 then if ix (0 : Int32) ny = true then if (fy (0 : Int32).toNatClampNeg) < i5_3 then lt (i3_2 + (0 + 0) : Int64) (fun x3_5 : Int64 => if ix i5_3 nx = true then lt ((upd fx_4 i5_3.toNatClampNeg x3_5.toInt32) : Nat → Int32) (fun fx_6 : Nat → Int32 => lt ((x3_5.toUInt64 >>> ((32 : Int32).toInt64.toUInt64 &&& Int64.toUInt64 63)).toInt64 : Int64) (fun x3_7 : Int64 => lt (i5_3 + 1 : Int32) (fun x5_8 : Int32 => some (.inl (x3_7, x5_8, fx_6))))) else none) else if ix i5_3 ny = true then lt (i3_2 + (0 + (((fy i5_3.toNatClampNeg).toInt64) &&& 4294967295)) : Int64) (fun x3_9 : Int64 => if ix i5_3 nx = true then lt ((upd fx_4 i5_3.toNatClampNeg x3_9.toInt32) : Nat → Int32) (fun fx_10 : Nat → Int32 => lt ((x3_9.toUInt64 >>> ((32 : Int32).toInt64.toUInt64 &&& Int64.toUInt64 63)).toInt64 : Int64) (fun x3_11 : Int64 => lt (i5_3 + 1 : Int32) (fun x5_12 : Int32 => some (.inl (x3_11, x5_12, fx_10))))) else none) else none else none else if ix i5_3 nx = true then if ix (0 : Int32) ny = true then if (fy (0 : Int32).toNatClampNeg) < i5_3 then lt (i3_2 + ((((fx_4 i5_3.toNatClampNeg).toInt64) &&& 4294967295) + 0) : Int64) (fun x3_13 : Int64 => if ix i5_3 nx = true then lt ((upd fx_4 i5_3.toNatClampNeg x3_13.toInt32) : Nat → Int32) (fun fx_14 : Nat → Int32 => lt ((x3_13.toUInt64 >>> ((32 : Int32).toInt64.toUInt64 &&& Int64.toUInt64 63)).toInt64 : Int64) (fun x3_15 : Int64 => lt (i5_3 + 1 : Int32) (fun x5_16 : Int32 => some (.inl (x3_15, x5_16, fx_14))))) else none) else if ix i5_3 ny = true then lt (i3_2 + ((((fx_4 i5_3.toNatClampNeg).toInt64) &&& 4294967295) + (((fy i5_3.toNatClampNeg).toInt64) &&& 4294967295)) : Int64) (fun x3_17 : Int64 => if ix i5_3 nx = true then lt ((upd fx_4 i5_3.toNatClampNeg x3_17.toInt32) : Nat → Int32) (fun fx_18 : Nat → Int32 => lt ((x3_17.toUInt64 >>> ((32 : Int32).toInt64.toUInt64 &&& Int64.toUInt64 63)).toInt64 : Int64) (fun x3_19 : Int64 => lt (i5_3 + 1 : Int32) (fun x5_20 : Int32 => some (.inl (x3_19, x5_20, fx_18))))) else none) else none else none else none else none := rfl
set_option maxHeartbeats 4000000 in
set_option maxRecDepth 100000 in
theorem L_X11_plus_24 {K : Cx} {R9 : Room} (hk : Ok K cX11_plus 6 RX11 wsX11_plus R9) (hR9 : RoomGe R9 rm_X11_plus) (adx : Nat) (ady : Nat) (nx : Nat) (ny : Nat) (fy : Nat → Int32) (x2_1 : Int32) (b9 : (Int64 × Int32 × (Nat → Int32))) (kk0 : ∀ q9 : (Int64 × Int32 × (Nat → Int32)), b9 = q9 → V K 6 [(adx, .inl (gI (kG K), nx, .inl q9.2.2)), (ady, .inl (gI (kG K), ny, .inl fy))] 0 0 93 [(0, .ref adx), (1, .ref ady), (2, .int x2_1), (3, .long q9.1), (5, .int q9.2.1)] []) : ∀ (nn : Nat) (i3_2 : Int64) (i5_3 : Int32) (fx_4 : Nat → Int32), lp (b_X11_plus_24 nx ny fy x2_1) nn (i3_2, i5_3, fx_4) = some b9 → V K 6 [(adx, .inl (gI (kG K), nx, .inl fx_4)), (ady, .inl (gI (kG K), ny, .inl fy))] 0 0 24 [(0, .ref adx), (1, .ref ady), (2, .int x2_1), (3, .long i3_2), (5, .int i5_3)] [] := by
  intro nn
  induction nn with
  | zero => intro i3_2 i5_3 fx_4 h; exact absurd h (by simp [lp])
  | succ nn ih =>
    intro i3_2 i5_3 fx_4 h
    replace h : lpk (lp (b_X11_plus_24 nx ny fy x2_1) nn) (b_X11_plus_24 nx ny fy x2_1 (i3_2, i5_3, fx_4)) = some b9 := h
    rw [eb_X11_plus_24] at h
    refine v_iload hk dX11_plus_24 rfl ?_
    refine v_iload_n hk dX11_plus_26 rfl ?_
    refine v_icmp_gt (tgt := 93) hk dX11_plus_27 (by decide) (fun hc => ?_) (fun hc => ?_)
    · replace h := it_t (g := (lpk (lp (b_X11_plus_24 nx ny fy x2_1) nn))) h hc
      replace h : some (i3_2, i5_3, fx_4) = some b9 := h
      replace h := Option.some.inj h
      subst h
      exact kk0 _ rfl
    · replace h := it_f (g := (lpk (lp (b_X11_plus_24 nx ny fy x2_1) nn))) h hc
      refine v_lload_n hk dX11_plus_30 rfl ?_
      refine v_iload hk dX11_plus_31 rfl ?_
      refine v_aload_n hk dX11_plus_33 rfl ?_
      refine v_iconst (v := 0) hk dX11_plus_34 (by decide) ?_
      obtain ⟨hi, h⟩ := ok_e (g := (lpk (lp (b_X11_plus_24 nx ny fy x2_1) nn))) rfl h
      refine v_ialdV hk dX11_plus_35 0 rfl (ix_in hi) ?_
      refine v_icmp_gt (tgt := 51) hk dX11_plus_36 (by decide) (fun hc => ?_) (fun hc => ?_)
      · replace h := it_t (g := (lpk (lp (b_X11_plus_24 nx ny fy x2_1) nn))) h hc
        refine v_lconst (v := 0) hk dX11_plus_51 (by decide) ?_
        refine v_iload hk dX11_plus_52 rfl ?_
        refine v_aload_n hk dX11_plus_54 rfl ?_
        refine v_iconst (v := 0) hk dX11_plus_55 (by decide) ?_
        obtain ⟨hi, h⟩ := ok_e (g := (lpk (lp (b_X11_plus_24 nx ny fy x2_1) nn))) rfl h
        refine v_ialdV hk dX11_plus_56 1 rfl (ix_in hi) ?_
        refine v_icmp_gt (tgt := 72) hk dX11_plus_57 (by decide) (fun hc => ?_) (fun hc => ?_)
        · replace h := it_t (g := (lpk (lp (b_X11_plus_24 nx ny fy x2_1) nn))) h hc
          refine v_lconst (v := 0) hk dX11_plus_72 (by decide) ?_
          refine v_ladd hk dX11_plus_73 ?_
          refine v_ladd hk dX11_plus_74 ?_
          obtain ⟨x3_5, ex3_5, h⟩ := lt_e (g := (lpk (lp (b_X11_plus_24 nx ny fy x2_1) nn))) h
          refine v_topl ex3_5.symm ?_
          refine v_lstore_n hk dX11_plus_75 rfl (by decide) [1, 2, 3, 0, 4] (lv' := [(0, .ref adx), (1, .ref ady), (2, .int x2_1), (3, .long x3_5), (5, .int i5_3)]) rfl ?_
          refine v_aload_n hk dX11_plus_76 rfl ?_
          refine v_iload hk dX11_plus_77 rfl ?_
          refine v_lload_n hk dX11_plus_79 rfl ?_
          refine v_l2i hk dX11_plus_80 ?_
          obtain ⟨hi, h⟩ := ok_e (g := (lpk (lp (b_X11_plus_24 nx ny fy x2_1) nn))) rfl h
          obtain ⟨fx_6, efx_6, h⟩ := lt_e (g := (lpk (lp (b_X11_plus_24 nx ny fy x2_1) nn))) h
          refine v_iastV hk dX11_plus_81 0 rfl (ix_in hi) (ws' := [(adx, .inl (gI (kG K), nx, .inl fx_6)), (ady, .inl (gI (kG K), ny, .inl fy))]) (by rw [efx_6]; rfl) ?_
          refine v_lload_n hk dX11_plus_82 rfl ?_
          refine v_bipush (v := 32) hk dX11_plus_83 (by decide) ?_
          refine v_lushr hk dX11_plus_85 ?_
          obtain ⟨x3_7, ex3_7, h⟩ := lt_e (g := (lpk (lp (b_X11_plus_24 nx ny fy x2_1) nn))) h
          refine v_topl ex3_7.symm ?_
          refine v_lstore_n hk dX11_plus_86 rfl (by decide) [1, 2, 3, 0, 4] (lv' := [(0, .ref adx), (1, .ref ady), (2, .int x2_1), (3, .long x3_7), (5, .int i5_3)]) rfl ?_
          obtain ⟨x5_8, ex5_8, h⟩ := lt_e (g := (lpk (lp (b_X11_plus_24 nx ny fy x2_1) nn))) h
          refine v_iinc (v := x5_8) hk dX11_plus_87 rfl (by rw [ex5_8]; rfl) (by decide) [1, 2, 3, 4, 0] (lv' := [(0, .ref adx), (1, .ref ady), (2, .int x2_1), (3, .long x3_7), (5, .int x5_8)]) rfl ?_
          refine v_goto (tgt := 24) hk dX11_plus_90 (by decide) ?_
          exact ih x3_7 x5_8 fx_6 h
        · replace h := it_f (g := (lpk (lp (b_X11_plus_24 nx ny fy x2_1) nn))) h hc
          refine v_aload_n hk dX11_plus_60 rfl ?_
          refine v_iload hk dX11_plus_61 rfl ?_
          obtain ⟨hi, h⟩ := ok_e (g := (lpk (lp (b_X11_plus_24 nx ny fy x2_1) nn))) rfl h
          refine v_ialdV hk dX11_plus_63 1 rfl (ix_in hi) ?_
          refine v_i2l hk dX11_plus_64 ?_
          refine v_ldc2 (v := 4294967295) hk dX11_plus_65 (by decide +kernel) ?_
          refine v_land hk dX11_plus_68 ?_
          refine v_goto (tgt := 73) hk dX11_plus_69 (by decide) ?_
          refine v_ladd hk dX11_plus_73 ?_
          refine v_ladd hk dX11_plus_74 ?_
          obtain ⟨x3_9, ex3_9, h⟩ := lt_e (g := (lpk (lp (b_X11_plus_24 nx ny fy x2_1) nn))) h
          refine v_topl ex3_9.symm ?_
          refine v_lstore_n hk dX11_plus_75 rfl (by decide) [1, 2, 3, 0, 4] (lv' := [(0, .ref adx), (1, .ref ady), (2, .int x2_1), (3, .long x3_9), (5, .int i5_3)]) rfl ?_
          refine v_aload_n hk dX11_plus_76 rfl ?_
          refine v_iload hk dX11_plus_77 rfl ?_
          refine v_lload_n hk dX11_plus_79 rfl ?_
          refine v_l2i hk dX11_plus_80 ?_
          obtain ⟨hi, h⟩ := ok_e (g := (lpk (lp (b_X11_plus_24 nx ny fy x2_1) nn))) rfl h
          obtain ⟨fx_10, efx_10, h⟩ := lt_e (g := (lpk (lp (b_X11_plus_24 nx ny fy x2_1) nn))) h
          refine v_iastV hk dX11_plus_81 0 rfl (ix_in hi) (ws' := [(adx, .inl (gI (kG K), nx, .inl fx_10)), (ady, .inl (gI (kG K), ny, .inl fy))]) (by rw [efx_10]; rfl) ?_
          refine v_lload_n hk dX11_plus_82 rfl ?_
          refine v_bipush (v := 32) hk dX11_plus_83 (by decide) ?_
          refine v_lushr hk dX11_plus_85 ?_
          obtain ⟨x3_11, ex3_11, h⟩ := lt_e (g := (lpk (lp (b_X11_plus_24 nx ny fy x2_1) nn))) h
          refine v_topl ex3_11.symm ?_
          refine v_lstore_n hk dX11_plus_86 rfl (by decide) [1, 2, 3, 0, 4] (lv' := [(0, .ref adx), (1, .ref ady), (2, .int x2_1), (3, .long x3_11), (5, .int i5_3)]) rfl ?_
          obtain ⟨x5_12, ex5_12, h⟩ := lt_e (g := (lpk (lp (b_X11_plus_24 nx ny fy x2_1) nn))) h
          refine v_iinc (v := x5_12) hk dX11_plus_87 rfl (by rw [ex5_12]; rfl) (by decide) [1, 2, 3, 4, 0] (lv' := [(0, .ref adx), (1, .ref ady), (2, .int x2_1), (3, .long x3_11), (5, .int x5_12)]) rfl ?_
          refine v_goto (tgt := 24) hk dX11_plus_90 (by decide) ?_
          exact ih x3_11 x5_12 fx_10 h
      · replace h := it_f (g := (lpk (lp (b_X11_plus_24 nx ny fy x2_1) nn))) h hc
        refine v_aload_n hk dX11_plus_39 rfl ?_
        refine v_iload hk dX11_plus_40 rfl ?_
        obtain ⟨hi, h⟩ := ok_e (g := (lpk (lp (b_X11_plus_24 nx ny fy x2_1) nn))) rfl h
        refine v_ialdV hk dX11_plus_42 0 rfl (ix_in hi) ?_
        refine v_i2l hk dX11_plus_43 ?_
        refine v_ldc2 (v := 4294967295) hk dX11_plus_44 (by decide +kernel) ?_
        refine v_land hk dX11_plus_47 ?_
        refine v_goto (tgt := 52) hk dX11_plus_48 (by decide) ?_
        refine v_iload hk dX11_plus_52 rfl ?_
        refine v_aload_n hk dX11_plus_54 rfl ?_
        refine v_iconst (v := 0) hk dX11_plus_55 (by decide) ?_
        obtain ⟨hi, h⟩ := ok_e (g := (lpk (lp (b_X11_plus_24 nx ny fy x2_1) nn))) rfl h
        refine v_ialdV hk dX11_plus_56 1 rfl (ix_in hi) ?_
        refine v_icmp_gt (tgt := 72) hk dX11_plus_57 (by decide) (fun hc => ?_) (fun hc => ?_)
        · replace h := it_t (g := (lpk (lp (b_X11_plus_24 nx ny fy x2_1) nn))) h hc
          refine v_lconst (v := 0) hk dX11_plus_72 (by decide) ?_
          refine v_ladd hk dX11_plus_73 ?_
          refine v_ladd hk dX11_plus_74 ?_
          obtain ⟨x3_13, ex3_13, h⟩ := lt_e (g := (lpk (lp (b_X11_plus_24 nx ny fy x2_1) nn))) h
          refine v_topl ex3_13.symm ?_
          refine v_lstore_n hk dX11_plus_75 rfl (by decide) [1, 2, 3, 0, 4] (lv' := [(0, .ref adx), (1, .ref ady), (2, .int x2_1), (3, .long x3_13), (5, .int i5_3)]) rfl ?_
          refine v_aload_n hk dX11_plus_76 rfl ?_
          refine v_iload hk dX11_plus_77 rfl ?_
          refine v_lload_n hk dX11_plus_79 rfl ?_
          refine v_l2i hk dX11_plus_80 ?_
          obtain ⟨hi, h⟩ := ok_e (g := (lpk (lp (b_X11_plus_24 nx ny fy x2_1) nn))) rfl h
          obtain ⟨fx_14, efx_14, h⟩ := lt_e (g := (lpk (lp (b_X11_plus_24 nx ny fy x2_1) nn))) h
          refine v_iastV hk dX11_plus_81 0 rfl (ix_in hi) (ws' := [(adx, .inl (gI (kG K), nx, .inl fx_14)), (ady, .inl (gI (kG K), ny, .inl fy))]) (by rw [efx_14]; rfl) ?_
          refine v_lload_n hk dX11_plus_82 rfl ?_
          refine v_bipush (v := 32) hk dX11_plus_83 (by decide) ?_
          refine v_lushr hk dX11_plus_85 ?_
          obtain ⟨x3_15, ex3_15, h⟩ := lt_e (g := (lpk (lp (b_X11_plus_24 nx ny fy x2_1) nn))) h
          refine v_topl ex3_15.symm ?_
          refine v_lstore_n hk dX11_plus_86 rfl (by decide) [1, 2, 3, 0, 4] (lv' := [(0, .ref adx), (1, .ref ady), (2, .int x2_1), (3, .long x3_15), (5, .int i5_3)]) rfl ?_
          obtain ⟨x5_16, ex5_16, h⟩ := lt_e (g := (lpk (lp (b_X11_plus_24 nx ny fy x2_1) nn))) h
          refine v_iinc (v := x5_16) hk dX11_plus_87 rfl (by rw [ex5_16]; rfl) (by decide) [1, 2, 3, 4, 0] (lv' := [(0, .ref adx), (1, .ref ady), (2, .int x2_1), (3, .long x3_15), (5, .int x5_16)]) rfl ?_
          refine v_goto (tgt := 24) hk dX11_plus_90 (by decide) ?_
          exact ih x3_15 x5_16 fx_14 h
        · replace h := it_f (g := (lpk (lp (b_X11_plus_24 nx ny fy x2_1) nn))) h hc
          refine v_aload_n hk dX11_plus_60 rfl ?_
          refine v_iload hk dX11_plus_61 rfl ?_
          obtain ⟨hi, h⟩ := ok_e (g := (lpk (lp (b_X11_plus_24 nx ny fy x2_1) nn))) rfl h
          refine v_ialdV hk dX11_plus_63 1 rfl (ix_in hi) ?_
          refine v_i2l hk dX11_plus_64 ?_
          refine v_ldc2 (v := 4294967295) hk dX11_plus_65 (by decide +kernel) ?_
          refine v_land hk dX11_plus_68 ?_
          refine v_goto (tgt := 73) hk dX11_plus_69 (by decide) ?_
          refine v_ladd hk dX11_plus_73 ?_
          refine v_ladd hk dX11_plus_74 ?_
          obtain ⟨x3_17, ex3_17, h⟩ := lt_e (g := (lpk (lp (b_X11_plus_24 nx ny fy x2_1) nn))) h
          refine v_topl ex3_17.symm ?_
          refine v_lstore_n hk dX11_plus_75 rfl (by decide) [1, 2, 3, 0, 4] (lv' := [(0, .ref adx), (1, .ref ady), (2, .int x2_1), (3, .long x3_17), (5, .int i5_3)]) rfl ?_
          refine v_aload_n hk dX11_plus_76 rfl ?_
          refine v_iload hk dX11_plus_77 rfl ?_
          refine v_lload_n hk dX11_plus_79 rfl ?_
          refine v_l2i hk dX11_plus_80 ?_
          obtain ⟨hi, h⟩ := ok_e (g := (lpk (lp (b_X11_plus_24 nx ny fy x2_1) nn))) rfl h
          obtain ⟨fx_18, efx_18, h⟩ := lt_e (g := (lpk (lp (b_X11_plus_24 nx ny fy x2_1) nn))) h
          refine v_iastV hk dX11_plus_81 0 rfl (ix_in hi) (ws' := [(adx, .inl (gI (kG K), nx, .inl fx_18)), (ady, .inl (gI (kG K), ny, .inl fy))]) (by rw [efx_18]; rfl) ?_
          refine v_lload_n hk dX11_plus_82 rfl ?_
          refine v_bipush (v := 32) hk dX11_plus_83 (by decide) ?_
          refine v_lushr hk dX11_plus_85 ?_
          obtain ⟨x3_19, ex3_19, h⟩ := lt_e (g := (lpk (lp (b_X11_plus_24 nx ny fy x2_1) nn))) h
          refine v_topl ex3_19.symm ?_
          refine v_lstore_n hk dX11_plus_86 rfl (by decide) [1, 2, 3, 0, 4] (lv' := [(0, .ref adx), (1, .ref ady), (2, .int x2_1), (3, .long x3_19), (5, .int i5_3)]) rfl ?_
          obtain ⟨x5_20, ex5_20, h⟩ := lt_e (g := (lpk (lp (b_X11_plus_24 nx ny fy x2_1) nn))) h
          refine v_iinc (v := x5_20) hk dX11_plus_87 rfl (by rw [ex5_20]; rfl) (by decide) [1, 2, 3, 4, 0] (lv' := [(0, .ref adx), (1, .ref ady), (2, .int x2_1), (3, .long x3_19), (5, .int x5_20)]) rfl ?_
          refine v_goto (tgt := 24) hk dX11_plus_90 (by decide) ?_
          exact ih x3_19 x5_20 fx_18 h
def b_X11_plus_24v1 (nx : Nat) (ny : Nat) (fy : Nat → Int32) (x2_25 : Int32) : (Int64 × Int32 × (Nat → Int32)) → Option ((Int64 × Int32 × (Nat → Int32)) ⊕ ((Int64 × Int32 × (Nat → Int32))))
  | (i3_26, i5_27, fx_28) => if x2_25 < i5_27 then some (.inr (i3_26, i5_27, fx_28)) else if ix (0 : Int32) nx = true then if (fx_28 (0 : Int32).toNatClampNeg) < i5_27 then if ix (0 : Int32) ny = true then if (fy (0 : Int32).toNatClampNeg) < i5_27 then lt (i3_26 + (0 + 0) : Int64) (fun x3_29 : Int64 => if ix i5_27 nx = true then lt ((upd fx_28 i5_27.toNatClampNeg x3_29.toInt32) : Nat → Int32) (fun fx_30 : Nat → Int32 => lt ((x3_29.toUInt64 >>> ((32 : Int32).toInt64.toUInt64 &&& Int64.toUInt64 63)).toInt64 : Int64) (fun x3_31 : Int64 => lt (i5_27 + 1 : Int32) (fun x5_32 : Int32 => some (.inl (x3_31, x5_32, fx_30))))) else none) else if ix i5_27 ny = true then lt (i3_26 + (0 + (((fy i5_27.toNatClampNeg).toInt64) &&& 4294967295)) : Int64) (fun x3_33 : Int64 => if ix i5_27 nx = true then lt ((upd fx_28 i5_27.toNatClampNeg x3_33.toInt32) : Nat → Int32) (fun fx_34 : Nat → Int32 => lt ((x3_33.toUInt64 >>> ((32 : Int32).toInt64.toUInt64 &&& Int64.toUInt64 63)).toInt64 : Int64) (fun x3_35 : Int64 => lt (i5_27 + 1 : Int32) (fun x5_36 : Int32 => some (.inl (x3_35, x5_36, fx_34))))) else none) else none else none else if ix i5_27 nx = true then if ix (0 : Int32) ny = true then if (fy (0 : Int32).toNatClampNeg) < i5_27 then lt (i3_26 + ((((fx_28 i5_27.toNatClampNeg).toInt64) &&& 4294967295) + 0) : Int64) (fun x3_37 : Int64 => if ix i5_27 nx = true then lt ((upd fx_28 i5_27.toNatClampNeg x3_37.toInt32) : Nat → Int32) (fun fx_38 : Nat → Int32 => lt ((x3_37.toUInt64 >>> ((32 : Int32).toInt64.toUInt64 &&& Int64.toUInt64 63)).toInt64 : Int64) (fun x3_39 : Int64 => lt (i5_27 + 1 : Int32) (fun x5_40 : Int32 => some (.inl (x3_39, x5_40, fx_38))))) else none) else if ix i5_27 ny = true then lt (i3_26 + ((((fx_28 i5_27.toNatClampNeg).toInt64) &&& 4294967295) + (((fy i5_27.toNatClampNeg).toInt64) &&& 4294967295)) : Int64) (fun x3_41 : Int64 => if ix i5_27 nx = true then lt ((upd fx_28 i5_27.toNatClampNeg x3_41.toInt32) : Nat → Int32) (fun fx_42 : Nat → Int32 => lt ((x3_41.toUInt64 >>> ((32 : Int32).toInt64.toUInt64 &&& Int64.toUInt64 63)).toInt64 : Int64) (fun x3_43 : Int64 => lt (i5_27 + 1 : Int32) (fun x5_44 : Int32 => some (.inl (x3_43, x5_44, fx_42))))) else none) else none else none else none else none
theorem eb_X11_plus_24v1 (nx : Nat) (ny : Nat) (fy : Nat → Int32) (x2_25 : Int32) (i3_26 : Int64) (i5_27 : Int32) (fx_28 : Nat → Int32) : b_X11_plus_24v1 nx ny fy x2_25 (i3_26, i5_27, fx_28) = if x2_25 < i5_27 then some (.inr (i3_26, i5_27, fx_28)) else if ix (0 : Int32) nx = true then if (fx_28 (0 : Int32).toNatClampNeg) < i5_27 then if ix (0 : Int32) ny = true then if (fy (0 : Int32).toNatClampNeg) < i5_27 then lt (i3_26 + (0 + 0) : Int64) (fun x3_29 : Int64 => if ix i5_27 nx = true then lt ((upd fx_28 i5_27.toNatClampNeg x3_29.toInt32) : Nat → Int32) (fun fx_30 : Nat → Int32 => lt ((x3_29.toUInt64 >>> ((32 : Int32).toInt64.toUInt64 &&& Int64.toUInt64 63)).toInt64 : Int64) (fun x3_31 : Int64 => lt (i5_27 + 1 : Int32) (fun x5_32 : Int32 => some (.inl (x3_31, x5_32, fx_30))))) else none) else if ix i5_27 ny = true then lt (i3_26 + (0 + (((fy i5_27.toNatClampNeg).toInt64) &&& 4294967295)) : Int64) (fun x3_33 : Int64 => if ix i5_27 nx = true then lt ((upd fx_28 i5_27.toNatClampNeg x3_33.toInt32) : Nat → Int32) (fun fx_34 : Nat → Int32 => lt ((x3_33.toUInt64 >>> ((32 : Int32).toInt64.toUInt64 &&& Int64.toUInt64 63)).toInt64 : Int64) (fun x3_35 : Int64 => lt (i5_27 + 1 : Int32) (fun x5_36 : Int32 => some (.inl (x3_35, x5_36, fx_34))))) else none) else none else none else if ix i5_27 nx = true then if ix (0 : Int32) ny = true then if (fy (0 : Int32).toNatClampNeg) < i5_27 then lt (i3_26 + ((((fx_28 i5_27.toNatClampNeg).toInt64) &&& 4294967295) + 0) : Int64) (fun x3_37 : Int64 => if ix i5_27 nx = true then lt ((upd fx_28 i5_27.toNatClampNeg x3_37.toInt32) : Nat → Int32) (fun fx_38 : Nat → Int32 => lt ((x3_37.toUInt64 >>> ((32 : Int32).toInt64.toUInt64 &&& Int64.toUInt64 63)).toInt64 : Int64) (fun x3_39 : Int64 => lt (i5_27 + 1 : Int32) (fun x5_40 : Int32 => some (.inl (x3_39, x5_40, fx_38))))) else none) else if ix i5_27 ny = true then lt (i3_26 + ((((fx_28 i5_27.toNatClampNeg).toInt64) &&& 4294967295) + (((fy i5_27.toNatClampNeg).toInt64) &&& 4294967295)) : Int64) (fun x3_41 : Int64 => if ix i5_27 nx = true then lt ((upd fx_28 i5_27.toNatClampNeg x3_41.toInt32) : Nat → Int32) (fun fx_42 : Nat → Int32 => lt ((x3_41.toUInt64 >>> ((32 : Int32).toInt64.toUInt64 &&& Int64.toUInt64 63)).toInt64 : Int64) (fun x3_43 : Int64 => lt (i5_27 + 1 : Int32) (fun x5_44 : Int32 => some (.inl (x3_43, x5_44, fx_42))))) else none) else none else none else none else none := rfl
set_option maxHeartbeats 4000000 in
set_option maxRecDepth 100000 in
theorem L_X11_plus_24v1 {K : Cx} {R9 : Room} (hk : Ok K cX11_plus 6 RX11 wsX11_plus R9) (hR9 : RoomGe R9 rm_X11_plus) (adx : Nat) (ady : Nat) (nx : Nat) (ny : Nat) (fy : Nat → Int32) (x2_25 : Int32) (b9 : (Int64 × Int32 × (Nat → Int32))) (kk0 : ∀ q9 : (Int64 × Int32 × (Nat → Int32)), b9 = q9 → V K 6 [(adx, .inl (gI (kG K), nx, .inl q9.2.2)), (ady, .inl (gI (kG K), ny, .inl fy))] 0 0 93 [(0, .ref adx), (1, .ref ady), (2, .int x2_25), (3, .long q9.1), (5, .int q9.2.1)] []) : ∀ (nn : Nat) (i3_26 : Int64) (i5_27 : Int32) (fx_28 : Nat → Int32), lp (b_X11_plus_24v1 nx ny fy x2_25) nn (i3_26, i5_27, fx_28) = some b9 → V K 6 [(adx, .inl (gI (kG K), nx, .inl fx_28)), (ady, .inl (gI (kG K), ny, .inl fy))] 0 0 24 [(0, .ref adx), (1, .ref ady), (2, .int x2_25), (3, .long i3_26), (5, .int i5_27)] [] := by
  intro nn
  induction nn with
  | zero => intro i3_26 i5_27 fx_28 h; exact absurd h (by simp [lp])
  | succ nn ih =>
    intro i3_26 i5_27 fx_28 h
    replace h : lpk (lp (b_X11_plus_24v1 nx ny fy x2_25) nn) (b_X11_plus_24v1 nx ny fy x2_25 (i3_26, i5_27, fx_28)) = some b9 := h
    rw [eb_X11_plus_24v1] at h
    refine v_iload hk dX11_plus_24 rfl ?_
    refine v_iload_n hk dX11_plus_26 rfl ?_
    refine v_icmp_gt (tgt := 93) hk dX11_plus_27 (by decide) (fun hc => ?_) (fun hc => ?_)
    · replace h := it_t (g := (lpk (lp (b_X11_plus_24v1 nx ny fy x2_25) nn))) h hc
      replace h : some (i3_26, i5_27, fx_28) = some b9 := h
      replace h := Option.some.inj h
      subst h
      exact kk0 _ rfl
    · replace h := it_f (g := (lpk (lp (b_X11_plus_24v1 nx ny fy x2_25) nn))) h hc
      refine v_lload_n hk dX11_plus_30 rfl ?_
      refine v_iload hk dX11_plus_31 rfl ?_
      refine v_aload_n hk dX11_plus_33 rfl ?_
      refine v_iconst (v := 0) hk dX11_plus_34 (by decide) ?_
      obtain ⟨hi, h⟩ := ok_e (g := (lpk (lp (b_X11_plus_24v1 nx ny fy x2_25) nn))) rfl h
      refine v_ialdV hk dX11_plus_35 0 rfl (ix_in hi) ?_
      refine v_icmp_gt (tgt := 51) hk dX11_plus_36 (by decide) (fun hc => ?_) (fun hc => ?_)
      · replace h := it_t (g := (lpk (lp (b_X11_plus_24v1 nx ny fy x2_25) nn))) h hc
        refine v_lconst (v := 0) hk dX11_plus_51 (by decide) ?_
        refine v_iload hk dX11_plus_52 rfl ?_
        refine v_aload_n hk dX11_plus_54 rfl ?_
        refine v_iconst (v := 0) hk dX11_plus_55 (by decide) ?_
        obtain ⟨hi, h⟩ := ok_e (g := (lpk (lp (b_X11_plus_24v1 nx ny fy x2_25) nn))) rfl h
        refine v_ialdV hk dX11_plus_56 1 rfl (ix_in hi) ?_
        refine v_icmp_gt (tgt := 72) hk dX11_plus_57 (by decide) (fun hc => ?_) (fun hc => ?_)
        · replace h := it_t (g := (lpk (lp (b_X11_plus_24v1 nx ny fy x2_25) nn))) h hc
          refine v_lconst (v := 0) hk dX11_plus_72 (by decide) ?_
          refine v_ladd hk dX11_plus_73 ?_
          refine v_ladd hk dX11_plus_74 ?_
          obtain ⟨x3_29, ex3_29, h⟩ := lt_e (g := (lpk (lp (b_X11_plus_24v1 nx ny fy x2_25) nn))) h
          refine v_topl ex3_29.symm ?_
          refine v_lstore_n hk dX11_plus_75 rfl (by decide) [1, 2, 3, 0, 4] (lv' := [(0, .ref adx), (1, .ref ady), (2, .int x2_25), (3, .long x3_29), (5, .int i5_27)]) rfl ?_
          refine v_aload_n hk dX11_plus_76 rfl ?_
          refine v_iload hk dX11_plus_77 rfl ?_
          refine v_lload_n hk dX11_plus_79 rfl ?_
          refine v_l2i hk dX11_plus_80 ?_
          obtain ⟨hi, h⟩ := ok_e (g := (lpk (lp (b_X11_plus_24v1 nx ny fy x2_25) nn))) rfl h
          obtain ⟨fx_30, efx_30, h⟩ := lt_e (g := (lpk (lp (b_X11_plus_24v1 nx ny fy x2_25) nn))) h
          refine v_iastV hk dX11_plus_81 0 rfl (ix_in hi) (ws' := [(adx, .inl (gI (kG K), nx, .inl fx_30)), (ady, .inl (gI (kG K), ny, .inl fy))]) (by rw [efx_30]; rfl) ?_
          refine v_lload_n hk dX11_plus_82 rfl ?_
          refine v_bipush (v := 32) hk dX11_plus_83 (by decide) ?_
          refine v_lushr hk dX11_plus_85 ?_
          obtain ⟨x3_31, ex3_31, h⟩ := lt_e (g := (lpk (lp (b_X11_plus_24v1 nx ny fy x2_25) nn))) h
          refine v_topl ex3_31.symm ?_
          refine v_lstore_n hk dX11_plus_86 rfl (by decide) [1, 2, 3, 0, 4] (lv' := [(0, .ref adx), (1, .ref ady), (2, .int x2_25), (3, .long x3_31), (5, .int i5_27)]) rfl ?_
          obtain ⟨x5_32, ex5_32, h⟩ := lt_e (g := (lpk (lp (b_X11_plus_24v1 nx ny fy x2_25) nn))) h
          refine v_iinc (v := x5_32) hk dX11_plus_87 rfl (by rw [ex5_32]; rfl) (by decide) [1, 2, 3, 4, 0] (lv' := [(0, .ref adx), (1, .ref ady), (2, .int x2_25), (3, .long x3_31), (5, .int x5_32)]) rfl ?_
          refine v_goto (tgt := 24) hk dX11_plus_90 (by decide) ?_
          exact ih x3_31 x5_32 fx_30 h
        · replace h := it_f (g := (lpk (lp (b_X11_plus_24v1 nx ny fy x2_25) nn))) h hc
          refine v_aload_n hk dX11_plus_60 rfl ?_
          refine v_iload hk dX11_plus_61 rfl ?_
          obtain ⟨hi, h⟩ := ok_e (g := (lpk (lp (b_X11_plus_24v1 nx ny fy x2_25) nn))) rfl h
          refine v_ialdV hk dX11_plus_63 1 rfl (ix_in hi) ?_
          refine v_i2l hk dX11_plus_64 ?_
          refine v_ldc2 (v := 4294967295) hk dX11_plus_65 (by decide +kernel) ?_
          refine v_land hk dX11_plus_68 ?_
          refine v_goto (tgt := 73) hk dX11_plus_69 (by decide) ?_
          refine v_ladd hk dX11_plus_73 ?_
          refine v_ladd hk dX11_plus_74 ?_
          obtain ⟨x3_33, ex3_33, h⟩ := lt_e (g := (lpk (lp (b_X11_plus_24v1 nx ny fy x2_25) nn))) h
          refine v_topl ex3_33.symm ?_
          refine v_lstore_n hk dX11_plus_75 rfl (by decide) [1, 2, 3, 0, 4] (lv' := [(0, .ref adx), (1, .ref ady), (2, .int x2_25), (3, .long x3_33), (5, .int i5_27)]) rfl ?_
          refine v_aload_n hk dX11_plus_76 rfl ?_
          refine v_iload hk dX11_plus_77 rfl ?_
          refine v_lload_n hk dX11_plus_79 rfl ?_
          refine v_l2i hk dX11_plus_80 ?_
          obtain ⟨hi, h⟩ := ok_e (g := (lpk (lp (b_X11_plus_24v1 nx ny fy x2_25) nn))) rfl h
          obtain ⟨fx_34, efx_34, h⟩ := lt_e (g := (lpk (lp (b_X11_plus_24v1 nx ny fy x2_25) nn))) h
          refine v_iastV hk dX11_plus_81 0 rfl (ix_in hi) (ws' := [(adx, .inl (gI (kG K), nx, .inl fx_34)), (ady, .inl (gI (kG K), ny, .inl fy))]) (by rw [efx_34]; rfl) ?_
          refine v_lload_n hk dX11_plus_82 rfl ?_
          refine v_bipush (v := 32) hk dX11_plus_83 (by decide) ?_
          refine v_lushr hk dX11_plus_85 ?_
          obtain ⟨x3_35, ex3_35, h⟩ := lt_e (g := (lpk (lp (b_X11_plus_24v1 nx ny fy x2_25) nn))) h
          refine v_topl ex3_35.symm ?_
          refine v_lstore_n hk dX11_plus_86 rfl (by decide) [1, 2, 3, 0, 4] (lv' := [(0, .ref adx), (1, .ref ady), (2, .int x2_25), (3, .long x3_35), (5, .int i5_27)]) rfl ?_
          obtain ⟨x5_36, ex5_36, h⟩ := lt_e (g := (lpk (lp (b_X11_plus_24v1 nx ny fy x2_25) nn))) h
          refine v_iinc (v := x5_36) hk dX11_plus_87 rfl (by rw [ex5_36]; rfl) (by decide) [1, 2, 3, 4, 0] (lv' := [(0, .ref adx), (1, .ref ady), (2, .int x2_25), (3, .long x3_35), (5, .int x5_36)]) rfl ?_
          refine v_goto (tgt := 24) hk dX11_plus_90 (by decide) ?_
          exact ih x3_35 x5_36 fx_34 h
      · replace h := it_f (g := (lpk (lp (b_X11_plus_24v1 nx ny fy x2_25) nn))) h hc
        refine v_aload_n hk dX11_plus_39 rfl ?_
        refine v_iload hk dX11_plus_40 rfl ?_
        obtain ⟨hi, h⟩ := ok_e (g := (lpk (lp (b_X11_plus_24v1 nx ny fy x2_25) nn))) rfl h
        refine v_ialdV hk dX11_plus_42 0 rfl (ix_in hi) ?_
        refine v_i2l hk dX11_plus_43 ?_
        refine v_ldc2 (v := 4294967295) hk dX11_plus_44 (by decide +kernel) ?_
        refine v_land hk dX11_plus_47 ?_
        refine v_goto (tgt := 52) hk dX11_plus_48 (by decide) ?_
        refine v_iload hk dX11_plus_52 rfl ?_
        refine v_aload_n hk dX11_plus_54 rfl ?_
        refine v_iconst (v := 0) hk dX11_plus_55 (by decide) ?_
        obtain ⟨hi, h⟩ := ok_e (g := (lpk (lp (b_X11_plus_24v1 nx ny fy x2_25) nn))) rfl h
        refine v_ialdV hk dX11_plus_56 1 rfl (ix_in hi) ?_
        refine v_icmp_gt (tgt := 72) hk dX11_plus_57 (by decide) (fun hc => ?_) (fun hc => ?_)
        · replace h := it_t (g := (lpk (lp (b_X11_plus_24v1 nx ny fy x2_25) nn))) h hc
          refine v_lconst (v := 0) hk dX11_plus_72 (by decide) ?_
          refine v_ladd hk dX11_plus_73 ?_
          refine v_ladd hk dX11_plus_74 ?_
          obtain ⟨x3_37, ex3_37, h⟩ := lt_e (g := (lpk (lp (b_X11_plus_24v1 nx ny fy x2_25) nn))) h
          refine v_topl ex3_37.symm ?_
          refine v_lstore_n hk dX11_plus_75 rfl (by decide) [1, 2, 3, 0, 4] (lv' := [(0, .ref adx), (1, .ref ady), (2, .int x2_25), (3, .long x3_37), (5, .int i5_27)]) rfl ?_
          refine v_aload_n hk dX11_plus_76 rfl ?_
          refine v_iload hk dX11_plus_77 rfl ?_
          refine v_lload_n hk dX11_plus_79 rfl ?_
          refine v_l2i hk dX11_plus_80 ?_
          obtain ⟨hi, h⟩ := ok_e (g := (lpk (lp (b_X11_plus_24v1 nx ny fy x2_25) nn))) rfl h
          obtain ⟨fx_38, efx_38, h⟩ := lt_e (g := (lpk (lp (b_X11_plus_24v1 nx ny fy x2_25) nn))) h
          refine v_iastV hk dX11_plus_81 0 rfl (ix_in hi) (ws' := [(adx, .inl (gI (kG K), nx, .inl fx_38)), (ady, .inl (gI (kG K), ny, .inl fy))]) (by rw [efx_38]; rfl) ?_
          refine v_lload_n hk dX11_plus_82 rfl ?_
          refine v_bipush (v := 32) hk dX11_plus_83 (by decide) ?_
          refine v_lushr hk dX11_plus_85 ?_
          obtain ⟨x3_39, ex3_39, h⟩ := lt_e (g := (lpk (lp (b_X11_plus_24v1 nx ny fy x2_25) nn))) h
          refine v_topl ex3_39.symm ?_
          refine v_lstore_n hk dX11_plus_86 rfl (by decide) [1, 2, 3, 0, 4] (lv' := [(0, .ref adx), (1, .ref ady), (2, .int x2_25), (3, .long x3_39), (5, .int i5_27)]) rfl ?_
          obtain ⟨x5_40, ex5_40, h⟩ := lt_e (g := (lpk (lp (b_X11_plus_24v1 nx ny fy x2_25) nn))) h
          refine v_iinc (v := x5_40) hk dX11_plus_87 rfl (by rw [ex5_40]; rfl) (by decide) [1, 2, 3, 4, 0] (lv' := [(0, .ref adx), (1, .ref ady), (2, .int x2_25), (3, .long x3_39), (5, .int x5_40)]) rfl ?_
          refine v_goto (tgt := 24) hk dX11_plus_90 (by decide) ?_
          exact ih x3_39 x5_40 fx_38 h
        · replace h := it_f (g := (lpk (lp (b_X11_plus_24v1 nx ny fy x2_25) nn))) h hc
          refine v_aload_n hk dX11_plus_60 rfl ?_
          refine v_iload hk dX11_plus_61 rfl ?_
          obtain ⟨hi, h⟩ := ok_e (g := (lpk (lp (b_X11_plus_24v1 nx ny fy x2_25) nn))) rfl h
          refine v_ialdV hk dX11_plus_63 1 rfl (ix_in hi) ?_
          refine v_i2l hk dX11_plus_64 ?_
          refine v_ldc2 (v := 4294967295) hk dX11_plus_65 (by decide +kernel) ?_
          refine v_land hk dX11_plus_68 ?_
          refine v_goto (tgt := 73) hk dX11_plus_69 (by decide) ?_
          refine v_ladd hk dX11_plus_73 ?_
          refine v_ladd hk dX11_plus_74 ?_
          obtain ⟨x3_41, ex3_41, h⟩ := lt_e (g := (lpk (lp (b_X11_plus_24v1 nx ny fy x2_25) nn))) h
          refine v_topl ex3_41.symm ?_
          refine v_lstore_n hk dX11_plus_75 rfl (by decide) [1, 2, 3, 0, 4] (lv' := [(0, .ref adx), (1, .ref ady), (2, .int x2_25), (3, .long x3_41), (5, .int i5_27)]) rfl ?_
          refine v_aload_n hk dX11_plus_76 rfl ?_
          refine v_iload hk dX11_plus_77 rfl ?_
          refine v_lload_n hk dX11_plus_79 rfl ?_
          refine v_l2i hk dX11_plus_80 ?_
          obtain ⟨hi, h⟩ := ok_e (g := (lpk (lp (b_X11_plus_24v1 nx ny fy x2_25) nn))) rfl h
          obtain ⟨fx_42, efx_42, h⟩ := lt_e (g := (lpk (lp (b_X11_plus_24v1 nx ny fy x2_25) nn))) h
          refine v_iastV hk dX11_plus_81 0 rfl (ix_in hi) (ws' := [(adx, .inl (gI (kG K), nx, .inl fx_42)), (ady, .inl (gI (kG K), ny, .inl fy))]) (by rw [efx_42]; rfl) ?_
          refine v_lload_n hk dX11_plus_82 rfl ?_
          refine v_bipush (v := 32) hk dX11_plus_83 (by decide) ?_
          refine v_lushr hk dX11_plus_85 ?_
          obtain ⟨x3_43, ex3_43, h⟩ := lt_e (g := (lpk (lp (b_X11_plus_24v1 nx ny fy x2_25) nn))) h
          refine v_topl ex3_43.symm ?_
          refine v_lstore_n hk dX11_plus_86 rfl (by decide) [1, 2, 3, 0, 4] (lv' := [(0, .ref adx), (1, .ref ady), (2, .int x2_25), (3, .long x3_43), (5, .int i5_27)]) rfl ?_
          obtain ⟨x5_44, ex5_44, h⟩ := lt_e (g := (lpk (lp (b_X11_plus_24v1 nx ny fy x2_25) nn))) h
          refine v_iinc (v := x5_44) hk dX11_plus_87 rfl (by rw [ex5_44]; rfl) (by decide) [1, 2, 3, 4, 0] (lv' := [(0, .ref adx), (1, .ref ady), (2, .int x2_25), (3, .long x3_43), (5, .int x5_44)]) rfl ?_
          refine v_goto (tgt := 24) hk dX11_plus_90 (by decide) ?_
          exact ih x3_43 x5_44 fx_42 h
def m_X11_plus (nx : Nat) (fx : Nat → Int32) (ny : Nat) (fy : Nat → Int32) : Option ((Nat → Int32)) := if ix (0 : Int32) nx = true then if ix (0 : Int32) ny = true then if (fx (0 : Int32).toNatClampNeg) ≤ (fy (0 : Int32).toNatClampNeg) then if ix (0 : Int32) ny = true then lt (fy (0 : Int32).toNatClampNeg : Int32) (fun x2_1 : Int32 => (lp (b_X11_plus_24 nx ny fy x2_1) FU (0, 1, fx)).bind (fun q_21 : Int64 × Int32 × (Nat → Int32) => if ix (x2_1 + 1) nx = true then lt ((upd q_21.2.2 (x2_1 + 1).toNatClampNeg q_21.1.toInt32) : Nat → Int32) (fun fx_22 : Nat → Int32 => (m_X11_trim nx fx_22 (x2_1 + 1)).bind (fun r_23 : (Nat → Int32) => some r_23)) else none)) else none else if ix (0 : Int32) nx = true then lt (fx (0 : Int32).toNatClampNeg : Int32) (fun x2_25 : Int32 => (lp (b_X11_plus_24v1 nx ny fy x2_25) FU (0, 1, fx)).bind (fun q_45 : Int64 × Int32 × (Nat → Int32) => if ix (x2_25 + 1) nx = true then lt ((upd q_45.2.2 (x2_25 + 1).toNatClampNeg q_45.1.toInt32) : Nat → Int32) (fun fx_46 : Nat → Int32 => (m_X11_trim nx fx_46 (x2_25 + 1)).bind (fun r_47 : (Nat → Int32) => some r_47)) else none)) else none else none else none
set_option maxHeartbeats 4000000 in
set_option maxRecDepth 100000 in
theorem c_X11_plus (l : Launch) (G : GG) (adx : Nat) (ady : Nat) (nx : Nat) (fx : Nat → Int32) (ny : Nat) (fy : Nat → Int32) (r : (Nat → Int32)) (h : m_X11_plus nx fx ny fy = some r) : Ctr l G yX11_plus wsX11_plus rm_X11_plus [.ref adx, .ref ady] [(adx, .inl (gI G, nx, .inl fx)), (ady, .inl (gI G, ny, .inl fy))] (fun v w => v = none ∧ w = [(adx, .inl (gI G, nx, .inl r)), (ady, .inl (gI G, ny, .inl fy))]) := by
  refine ctr_entry (cc := cX11_plus) (maxL := 6) (ret := none) (by decide) rfl (Nat.le_of_ble_eq_true rfl) ?_
  intro K hl9 hG9 hk hn9 hrt
  subst hl9
  subst hG9
  have hR9 : RoomGe rm_X11_plus rm_X11_plus := RoomGe.rf
  show V K 6 [(adx, .inl (gI (kG K), nx, .inl fx)), (ady, .inl (gI (kG K), ny, .inl fy))] 0 0 0 [(0, .ref adx), (1, .ref ady)] []
  replace h : id (m_X11_plus nx fx ny fy) = some r := h
  unfold m_X11_plus at h
  refine v_aload_n hk dX11_plus_0 rfl ?_
  refine v_iconst (v := 0) hk dX11_plus_1 (by decide) ?_
  obtain ⟨hi, h⟩ := ok_e (g := id) rfl h
  refine v_ialdV hk dX11_plus_2 0 rfl (ix_in hi) ?_
  refine v_aload_n hk dX11_plus_3 rfl ?_
  refine v_iconst (v := 0) hk dX11_plus_4 (by decide) ?_
  obtain ⟨hi, h⟩ := ok_e (g := id) rfl h
  refine v_ialdV hk dX11_plus_5 1 rfl (ix_in hi) ?_
  refine v_icmp_le (tgt := 15) hk dX11_plus_6 (by decide) (fun hc => ?_) (fun hc => ?_)
  · replace h := it_t (g := id) h hc
    refine v_aload_n hk dX11_plus_15 rfl ?_
    refine v_iconst (v := 0) hk dX11_plus_16 (by decide) ?_
    obtain ⟨hi, h⟩ := ok_e (g := id) rfl h
    refine v_ialdV hk dX11_plus_17 1 rfl (ix_in hi) ?_
    obtain ⟨x2_1, ex2_1, h⟩ := lt_e (g := id) h
    refine v_topi ex2_1.symm ?_
    refine v_istore_n hk dX11_plus_18 rfl (by decide) [1, 2, 0] (lv' := [(0, .ref adx), (1, .ref ady), (2, .int x2_1)]) rfl ?_
    refine v_lconst (v := 0) hk dX11_plus_19 (by decide) ?_
    refine v_lstore_n hk dX11_plus_20 rfl (by decide) [1, 2, 3, 0] (lv' := [(0, .ref adx), (1, .ref ady), (2, .int x2_1), (3, .long 0)]) rfl ?_
    refine v_iconst (v := 1) hk dX11_plus_21 (by decide) ?_
    refine v_istore hk dX11_plus_22 (by decide) [1, 2, 3, 4, 0] (lv' := [(0, .ref adx), (1, .ref ady), (2, .int x2_1), (3, .long 0), (5, .int 1)]) rfl ?_
    obtain ⟨b_24, eb_24, h⟩ := bd_e (g := id) rfl h
    refine L_X11_plus_24 hk hR9 adx ady nx ny fy x2_1 b_24 (fun q_21 eq_21 => ?_) FU 0 1 fx eb_24
    · replace eq_21 := eq_21.symm
      subst eq_21
      refine v_aload_n hk dX11_plus_93 rfl ?_
      refine v_iload_n hk dX11_plus_94 rfl ?_
      refine v_iconst (v := 1) hk dX11_plus_95 (by decide) ?_
      refine v_iadd hk dX11_plus_96 ?_
      refine v_lload_n hk dX11_plus_97 rfl ?_
      refine v_l2i hk dX11_plus_98 ?_
      obtain ⟨hi, h⟩ := ok_e (g := id) rfl h
      obtain ⟨fx_22, efx_22, h⟩ := lt_e (g := id) h
      refine v_iastV hk dX11_plus_99 0 rfl (ix_in hi) (ws' := [(adx, .inl (gI (kG K), nx, .inl fx_22)), (ady, .inl (gI (kG K), ny, .inl fy))]) (by rw [efx_22]; rfl) ?_
      refine v_aload_n hk dX11_plus_100 rfl ?_
      refine v_iload_n hk dX11_plus_101 rfl ?_
      refine v_iconst (v := 1) hk dX11_plus_102 (by decide) ?_
      refine v_iadd hk dX11_plus_103 ?_
      obtain ⟨r_23, er_23, h⟩ := bd_e (g := id) rfl h
      refine v_callS (n := 2) (st := []) hk dX11_plus_104 (c_X11_trim (kl K) (kG K) adx nx fx_22 (x2_1 + 1) r_23 er_23) gX11_plus_X11_trim rfl (by decide +kernel) (frok hR9 (Nat.le_of_ble_eq_true rfl) (Nat.le_of_ble_eq_true rfl)) (roomk hR9 (Nat.le_of_ble_eq_true rfl) (Nat.le_of_ble_eq_true rfl)) rfl rfl (by decide) [0] [1] (wr := [(ady, .inl (gI (kG K), ny, .inl fy))]) rfl rfl (by decide) (by decide) (by decide) ?_
      intro v9 w9 hp9
      obtain ⟨rfl, rfl⟩ := hp9
      show V K 6 [(ady, .inl (gI (kG K), ny, .inl fy)), (adx, .inl (gI (kG K), nx, .inl r_23))] 0 0 107 [(0, .ref adx), (1, .ref ady), (2, .int x2_1), (3, .long q_21.1), (5, .int q_21.2.1)] []
      replace h : some r_23 = some r := h
      replace h := Option.some.inj h
      subst h
      refine v_perm [1, 0] (ws' := [(adx, .inl (gI (kG K), nx, .inl r_23)), (ady, .inl (gI (kG K), ny, .inl fy))]) rfl rfl (by decide) ?_
      refine hrt (none) _ _ _ _ _ (⟨rfl, rfl⟩) (Nat.zero_le _) (Nat.zero_le _) (dX11_plus_107)
  · replace h := it_f (g := id) h hc
    refine v_aload_n hk dX11_plus_9 rfl ?_
    refine v_iconst (v := 0) hk dX11_plus_10 (by decide) ?_
    obtain ⟨hi, h⟩ := ok_e (g := id) rfl h
    refine v_ialdV hk dX11_plus_11 0 rfl (ix_in hi) ?_
    refine v_goto (tgt := 18) hk dX11_plus_12 (by decide) ?_
    obtain ⟨x2_25, ex2_25, h⟩ := lt_e (g := id) h
    refine v_topi ex2_25.symm ?_
    refine v_istore_n hk dX11_plus_18 rfl (by decide) [1, 2, 0] (lv' := [(0, .ref adx), (1, .ref ady), (2, .int x2_25)]) rfl ?_
    refine v_lconst (v := 0) hk dX11_plus_19 (by decide) ?_
    refine v_lstore_n hk dX11_plus_20 rfl (by decide) [1, 2, 3, 0] (lv' := [(0, .ref adx), (1, .ref ady), (2, .int x2_25), (3, .long 0)]) rfl ?_
    refine v_iconst (v := 1) hk dX11_plus_21 (by decide) ?_
    refine v_istore hk dX11_plus_22 (by decide) [1, 2, 3, 4, 0] (lv' := [(0, .ref adx), (1, .ref ady), (2, .int x2_25), (3, .long 0), (5, .int 1)]) rfl ?_
    obtain ⟨b_48, eb_48, h⟩ := bd_e (g := id) rfl h
    refine L_X11_plus_24v1 hk hR9 adx ady nx ny fy x2_25 b_48 (fun q_45 eq_45 => ?_) FU 0 1 fx eb_48
    · replace eq_45 := eq_45.symm
      subst eq_45
      refine v_aload_n hk dX11_plus_93 rfl ?_
      refine v_iload_n hk dX11_plus_94 rfl ?_
      refine v_iconst (v := 1) hk dX11_plus_95 (by decide) ?_
      refine v_iadd hk dX11_plus_96 ?_
      refine v_lload_n hk dX11_plus_97 rfl ?_
      refine v_l2i hk dX11_plus_98 ?_
      obtain ⟨hi, h⟩ := ok_e (g := id) rfl h
      obtain ⟨fx_46, efx_46, h⟩ := lt_e (g := id) h
      refine v_iastV hk dX11_plus_99 0 rfl (ix_in hi) (ws' := [(adx, .inl (gI (kG K), nx, .inl fx_46)), (ady, .inl (gI (kG K), ny, .inl fy))]) (by rw [efx_46]; rfl) ?_
      refine v_aload_n hk dX11_plus_100 rfl ?_
      refine v_iload_n hk dX11_plus_101 rfl ?_
      refine v_iconst (v := 1) hk dX11_plus_102 (by decide) ?_
      refine v_iadd hk dX11_plus_103 ?_
      obtain ⟨r_47, er_47, h⟩ := bd_e (g := id) rfl h
      refine v_callS (n := 2) (st := []) hk dX11_plus_104 (c_X11_trim (kl K) (kG K) adx nx fx_46 (x2_25 + 1) r_47 er_47) gX11_plus_X11_trim rfl (by decide +kernel) (frok hR9 (Nat.le_of_ble_eq_true rfl) (Nat.le_of_ble_eq_true rfl)) (roomk hR9 (Nat.le_of_ble_eq_true rfl) (Nat.le_of_ble_eq_true rfl)) rfl rfl (by decide) [0] [1] (wr := [(ady, .inl (gI (kG K), ny, .inl fy))]) rfl rfl (by decide) (by decide) (by decide) ?_
      intro v9 w9 hp9
      obtain ⟨rfl, rfl⟩ := hp9
      show V K 6 [(ady, .inl (gI (kG K), ny, .inl fy)), (adx, .inl (gI (kG K), nx, .inl r_47))] 0 0 107 [(0, .ref adx), (1, .ref ady), (2, .int x2_25), (3, .long q_45.1), (5, .int q_45.2.1)] []
      replace h : some r_47 = some r := h
      replace h := Option.some.inj h
      subst h
      refine v_perm [1, 0] (ws' := [(adx, .inl (gI (kG K), nx, .inl r_47)), (ady, .inl (gI (kG K), ny, .inl fy))]) rfl rfl (by decide) ?_
      refine hrt (none) _ _ _ _ _ (⟨rfl, rfl⟩) (Nat.zero_le _) (Nat.zero_le _) (dX11_plus_107)
abbrev rm_X11_less : Room := { frames := 1, cells := 0, slots := 0, locals := 22 }
def b_X11_less_5 (nx : Nat) (ny : Nat) (fy : Nat → Int32) : (Int64 × Int32 × (Nat → Int32)) → Option ((Int64 × Int32 × (Nat → Int32)) ⊕ ((Int64 × Int32 × (Nat → Int32))))
  | (i2_1, i4_2, fx_3) => if ix (0 : Int32) nx = true then if (fx_3 (0 : Int32).toNatClampNeg) < i4_2 then some (.inr (i2_1, i4_2, fx_3)) else if ix i4_2 nx = true then if ix (0 : Int32) ny = true then if (fy (0 : Int32).toNatClampNeg) < i4_2 then lt (((((fx_3 i4_2.toNatClampNeg).toInt64) &&& 4294967295) - 0) - i2_1 : Int64) (fun x5_4 : Int64 => if ix i4_2 nx = true then lt ((upd fx_3 i4_2.toNatClampNeg x5_4.toInt32) : Nat → Int32) (fun fx_5 : Nat → Int32 => if 0 ≤ (lg_cmp x5_4 0) then lt (i4_2 + 1 : Int32) (fun x4_6 : Int32 => some (.inl (0, x4_6, fx_5))) else lt (i4_2 + 1 : Int32) (fun x4_7 : Int32 => some (.inl (1, x4_7, fx_5)))) else none) else if ix i4_2 ny = true then lt (((((fx_3 i4_2.toNatClampNeg).toInt64) &&& 4294967295) - (((fy i4_2.toNatClampNeg).toInt64) &&& 4294967295)) - i2_1 : Int64) (fun x5_8 : Int64 => if ix i4_2 nx = true then lt ((upd fx_3 i4_2.toNatClampNeg x5_8.toInt32) : Nat → Int32) (fun fx_9 : Nat → Int32 => if 0 ≤ (lg_cmp x5_8 0) then lt (i4_2 + 1 : Int32) (fun x4_10 : Int32 => some (.inl (0, x4_10, fx_9))) else lt (i4_2 + 1 : Int32) (fun x4_11 : Int32 => some (.inl (1, x4_11, fx_9)))) else none) else none else none else none else none
theorem eb_X11_less_5 (nx : Nat) (ny : Nat) (fy : Nat → Int32) (i2_1 : Int64) (i4_2 : Int32) (fx_3 : Nat → Int32) : b_X11_less_5 nx ny fy (i2_1, i4_2, fx_3) = if ix (0 : Int32) nx = true then if (fx_3 (0 : Int32).toNatClampNeg) < i4_2 then some (.inr (i2_1, i4_2, fx_3)) else if ix i4_2 nx = true then if ix (0 : Int32) ny = true then if (fy (0 : Int32).toNatClampNeg) < i4_2 then lt (((((fx_3 i4_2.toNatClampNeg).toInt64) &&& 4294967295) - 0) - i2_1 : Int64) (fun x5_4 : Int64 => if ix i4_2 nx = true then lt ((upd fx_3 i4_2.toNatClampNeg x5_4.toInt32) : Nat → Int32) (fun fx_5 : Nat → Int32 => if 0 ≤ (lg_cmp x5_4 0) then lt (i4_2 + 1 : Int32) (fun x4_6 : Int32 => some (.inl (0, x4_6, fx_5))) else lt (i4_2 + 1 : Int32) (fun x4_7 : Int32 => some (.inl (1, x4_7, fx_5)))) else none) else if ix i4_2 ny = true then lt (((((fx_3 i4_2.toNatClampNeg).toInt64) &&& 4294967295) - (((fy i4_2.toNatClampNeg).toInt64) &&& 4294967295)) - i2_1 : Int64) (fun x5_8 : Int64 => if ix i4_2 nx = true then lt ((upd fx_3 i4_2.toNatClampNeg x5_8.toInt32) : Nat → Int32) (fun fx_9 : Nat → Int32 => if 0 ≤ (lg_cmp x5_8 0) then lt (i4_2 + 1 : Int32) (fun x4_10 : Int32 => some (.inl (0, x4_10, fx_9))) else lt (i4_2 + 1 : Int32) (fun x4_11 : Int32 => some (.inl (1, x4_11, fx_9)))) else none) else none else none else none else none := rfl
set_option maxHeartbeats 4000000 in
set_option maxRecDepth 100000 in
theorem L_X11_less_5 {K : Cx} {R9 : Room} (hk : Ok K cX11_less 7 RX11 wsX11_less R9) (hR9 : RoomGe R9 rm_X11_less) (adx : Nat) (ady : Nat) (nx : Nat) (ny : Nat) (fy : Nat → Int32) (b9 : (Int64 × Int32 × (Nat → Int32))) (kk0 : ∀ q9 : (Int64 × Int32 × (Nat → Int32)), b9 = q9 → V K 7 [(adx, .inl (gI (kG K), nx, .inl q9.2.2)), (ady, .inl (gI (kG K), ny, .inl fy))] 0 0 74 [(0, .ref adx), (1, .ref ady), (2, .long q9.1), (4, .int q9.2.1)] []) : ∀ (nn : Nat) (i2_1 : Int64) (i4_2 : Int32) (fx_3 : Nat → Int32), lp (b_X11_less_5 nx ny fy) nn (i2_1, i4_2, fx_3) = some b9 → V K 7 [(adx, .inl (gI (kG K), nx, .inl fx_3)), (ady, .inl (gI (kG K), ny, .inl fy))] 0 0 5 [(0, .ref adx), (1, .ref ady), (2, .long i2_1), (4, .int i4_2)] [] := by
  intro nn
  induction nn with
  | zero => intro i2_1 i4_2 fx_3 h; exact absurd h (by simp [lp])
  | succ nn ih =>
    intro i2_1 i4_2 fx_3 h
    replace h : lpk (lp (b_X11_less_5 nx ny fy) nn) (b_X11_less_5 nx ny fy (i2_1, i4_2, fx_3)) = some b9 := h
    rw [eb_X11_less_5] at h
    refine v_iload hk dX11_less_5 rfl ?_
    refine v_aload_n hk dX11_less_7 rfl ?_
    refine v_iconst (v := 0) hk dX11_less_8 (by decide) ?_
    obtain ⟨hi, h⟩ := ok_e (g := (lpk (lp (b_X11_less_5 nx ny fy) nn))) rfl h
    refine v_ialdV hk dX11_less_9 0 rfl (ix_in hi) ?_
    refine v_icmp_gt (tgt := 74) hk dX11_less_10 (by decide) (fun hc => ?_) (fun hc => ?_)
    · replace h := it_t (g := (lpk (lp (b_X11_less_5 nx ny fy) nn))) h hc
      replace h : some (i2_1, i4_2, fx_3) = some b9 := h
      replace h := Option.some.inj h
      subst h
      exact kk0 _ rfl
    · replace h := it_f (g := (lpk (lp (b_X11_less_5 nx ny fy) nn))) h hc
      refine v_aload_n hk dX11_less_13 rfl ?_
      refine v_iload hk dX11_less_14 rfl ?_
      obtain ⟨hi, h⟩ := ok_e (g := (lpk (lp (b_X11_less_5 nx ny fy) nn))) rfl h
      refine v_ialdV hk dX11_less_16 0 rfl (ix_in hi) ?_
      refine v_i2l hk dX11_less_17 ?_
      refine v_ldc2 (v := 4294967295) hk dX11_less_18 (by decide +kernel) ?_
      refine v_land hk dX11_less_21 ?_
      refine v_iload hk dX11_less_22 rfl ?_
      refine v_aload_n hk dX11_less_24 rfl ?_
      refine v_iconst (v := 0) hk dX11_less_25 (by decide) ?_
      obtain ⟨hi, h⟩ := ok_e (g := (lpk (lp (b_X11_less_5 nx ny fy) nn))) rfl h
      refine v_ialdV hk dX11_less_26 1 rfl (ix_in hi) ?_
      refine v_icmp_gt (tgt := 42) hk dX11_less_27 (by decide) (fun hc => ?_) (fun hc => ?_)
      · replace h := it_t (g := (lpk (lp (b_X11_less_5 nx ny fy) nn))) h hc
        refine v_lconst (v := 0) hk dX11_less_42 (by decide) ?_
        refine v_lsub hk dX11_less_43 ?_
        refine v_lload_n hk dX11_less_44 rfl ?_
        refine v_lsub hk dX11_less_45 ?_
        obtain ⟨x5_4, ex5_4, h⟩ := lt_e (g := (lpk (lp (b_X11_less_5 nx ny fy) nn))) h
        refine v_topl ex5_4.symm ?_
        refine v_lstore hk dX11_less_46 (by decide) [1, 2, 3, 4, 0] (lv' := [(0, .ref adx), (1, .ref ady), (2, .long i2_1), (4, .int i4_2), (5, .long x5_4)]) rfl ?_
        refine v_aload_n hk dX11_less_48 rfl ?_
        refine v_iload hk dX11_less_49 rfl ?_
        refine v_lload hk dX11_less_51 rfl ?_
        refine v_l2i hk dX11_less_53 ?_
        obtain ⟨hi, h⟩ := ok_e (g := (lpk (lp (b_X11_less_5 nx ny fy) nn))) rfl h
        obtain ⟨fx_5, efx_5, h⟩ := lt_e (g := (lpk (lp (b_X11_less_5 nx ny fy) nn))) h
        refine v_iastV hk dX11_less_54 0 rfl (ix_in hi) (ws' := [(adx, .inl (gI (kG K), nx, .inl fx_5)), (ady, .inl (gI (kG K), ny, .inl fy))]) (by rw [efx_5]; rfl) ?_
        refine v_lload hk dX11_less_55 rfl ?_
        refine v_lconst (v := 0) hk dX11_less_57 (by decide) ?_
        refine v_lcmp hk dX11_less_58 ?_
        refine v_if_ge (tgt := 66) hk dX11_less_59 (by decide) (fun hc => ?_) (fun hc => ?_)
        · replace h := it_t (g := (lpk (lp (b_X11_less_5 nx ny fy) nn))) h hc
          refine v_lconst (v := 0) hk dX11_less_66 (by decide) ?_
          refine v_lstore_n hk dX11_less_67 rfl (by decide) [1, 2, 0, 3, 4] (lv' := [(0, .ref adx), (1, .ref ady), (2, .long 0), (4, .int i4_2), (5, .long x5_4)]) rfl ?_
          obtain ⟨x4_6, ex4_6, h⟩ := lt_e (g := (lpk (lp (b_X11_less_5 nx ny fy) nn))) h
          refine v_iinc (v := x4_6) hk dX11_less_68 rfl (by rw [ex4_6]; rfl) (by decide) [1, 2, 3, 0, 4] (lv' := [(0, .ref adx), (1, .ref ady), (2, .long 0), (4, .int x4_6), (5, .long x5_4)]) rfl ?_
          refine v_goto (tgt := 5) hk dX11_less_71 (by decide) ?_
          refine v_loc [0, 1, 2, 3] (lv' := [(0, .ref adx), (1, .ref ady), (2, .long 0), (4, .int x4_6)]) rfl ?_
          exact ih 0 x4_6 fx_5 h
        · replace h := it_f (g := (lpk (lp (b_X11_less_5 nx ny fy) nn))) h hc
          refine v_lconst (v := 1) hk dX11_less_62 (by decide) ?_
          refine v_goto (tgt := 67) hk dX11_less_63 (by decide) ?_
          refine v_lstore_n hk dX11_less_67 rfl (by decide) [1, 2, 0, 3, 4] (lv' := [(0, .ref adx), (1, .ref ady), (2, .long 1), (4, .int i4_2), (5, .long x5_4)]) rfl ?_
          obtain ⟨x4_7, ex4_7, h⟩ := lt_e (g := (lpk (lp (b_X11_less_5 nx ny fy) nn))) h
          refine v_iinc (v := x4_7) hk dX11_less_68 rfl (by rw [ex4_7]; rfl) (by decide) [1, 2, 3, 0, 4] (lv' := [(0, .ref adx), (1, .ref ady), (2, .long 1), (4, .int x4_7), (5, .long x5_4)]) rfl ?_
          refine v_goto (tgt := 5) hk dX11_less_71 (by decide) ?_
          refine v_loc [0, 1, 2, 3] (lv' := [(0, .ref adx), (1, .ref ady), (2, .long 1), (4, .int x4_7)]) rfl ?_
          exact ih 1 x4_7 fx_5 h
      · replace h := it_f (g := (lpk (lp (b_X11_less_5 nx ny fy) nn))) h hc
        refine v_aload_n hk dX11_less_30 rfl ?_
        refine v_iload hk dX11_less_31 rfl ?_
        obtain ⟨hi, h⟩ := ok_e (g := (lpk (lp (b_X11_less_5 nx ny fy) nn))) rfl h
        refine v_ialdV hk dX11_less_33 1 rfl (ix_in hi) ?_
        refine v_i2l hk dX11_less_34 ?_
        refine v_ldc2 (v := 4294967295) hk dX11_less_35 (by decide +kernel) ?_
        refine v_land hk dX11_less_38 ?_
        refine v_goto (tgt := 43) hk dX11_less_39 (by decide) ?_
        refine v_lsub hk dX11_less_43 ?_
        refine v_lload_n hk dX11_less_44 rfl ?_
        refine v_lsub hk dX11_less_45 ?_
        obtain ⟨x5_8, ex5_8, h⟩ := lt_e (g := (lpk (lp (b_X11_less_5 nx ny fy) nn))) h
        refine v_topl ex5_8.symm ?_
        refine v_lstore hk dX11_less_46 (by decide) [1, 2, 3, 4, 0] (lv' := [(0, .ref adx), (1, .ref ady), (2, .long i2_1), (4, .int i4_2), (5, .long x5_8)]) rfl ?_
        refine v_aload_n hk dX11_less_48 rfl ?_
        refine v_iload hk dX11_less_49 rfl ?_
        refine v_lload hk dX11_less_51 rfl ?_
        refine v_l2i hk dX11_less_53 ?_
        obtain ⟨hi, h⟩ := ok_e (g := (lpk (lp (b_X11_less_5 nx ny fy) nn))) rfl h
        obtain ⟨fx_9, efx_9, h⟩ := lt_e (g := (lpk (lp (b_X11_less_5 nx ny fy) nn))) h
        refine v_iastV hk dX11_less_54 0 rfl (ix_in hi) (ws' := [(adx, .inl (gI (kG K), nx, .inl fx_9)), (ady, .inl (gI (kG K), ny, .inl fy))]) (by rw [efx_9]; rfl) ?_
        refine v_lload hk dX11_less_55 rfl ?_
        refine v_lconst (v := 0) hk dX11_less_57 (by decide) ?_
        refine v_lcmp hk dX11_less_58 ?_
        refine v_if_ge (tgt := 66) hk dX11_less_59 (by decide) (fun hc => ?_) (fun hc => ?_)
        · replace h := it_t (g := (lpk (lp (b_X11_less_5 nx ny fy) nn))) h hc
          refine v_lconst (v := 0) hk dX11_less_66 (by decide) ?_
          refine v_lstore_n hk dX11_less_67 rfl (by decide) [1, 2, 0, 3, 4] (lv' := [(0, .ref adx), (1, .ref ady), (2, .long 0), (4, .int i4_2), (5, .long x5_8)]) rfl ?_
          obtain ⟨x4_10, ex4_10, h⟩ := lt_e (g := (lpk (lp (b_X11_less_5 nx ny fy) nn))) h
          refine v_iinc (v := x4_10) hk dX11_less_68 rfl (by rw [ex4_10]; rfl) (by decide) [1, 2, 3, 0, 4] (lv' := [(0, .ref adx), (1, .ref ady), (2, .long 0), (4, .int x4_10), (5, .long x5_8)]) rfl ?_
          refine v_goto (tgt := 5) hk dX11_less_71 (by decide) ?_
          refine v_loc [0, 1, 2, 3] (lv' := [(0, .ref adx), (1, .ref ady), (2, .long 0), (4, .int x4_10)]) rfl ?_
          exact ih 0 x4_10 fx_9 h
        · replace h := it_f (g := (lpk (lp (b_X11_less_5 nx ny fy) nn))) h hc
          refine v_lconst (v := 1) hk dX11_less_62 (by decide) ?_
          refine v_goto (tgt := 67) hk dX11_less_63 (by decide) ?_
          refine v_lstore_n hk dX11_less_67 rfl (by decide) [1, 2, 0, 3, 4] (lv' := [(0, .ref adx), (1, .ref ady), (2, .long 1), (4, .int i4_2), (5, .long x5_8)]) rfl ?_
          obtain ⟨x4_11, ex4_11, h⟩ := lt_e (g := (lpk (lp (b_X11_less_5 nx ny fy) nn))) h
          refine v_iinc (v := x4_11) hk dX11_less_68 rfl (by rw [ex4_11]; rfl) (by decide) [1, 2, 3, 0, 4] (lv' := [(0, .ref adx), (1, .ref ady), (2, .long 1), (4, .int x4_11), (5, .long x5_8)]) rfl ?_
          refine v_goto (tgt := 5) hk dX11_less_71 (by decide) ?_
          refine v_loc [0, 1, 2, 3] (lv' := [(0, .ref adx), (1, .ref ady), (2, .long 1), (4, .int x4_11)]) rfl ?_
          exact ih 1 x4_11 fx_9 h
def m_X11_less (nx : Nat) (fx : Nat → Int32) (ny : Nat) (fy : Nat → Int32) : Option ((Nat → Int32)) := (lp (b_X11_less_5 nx ny fy) FU (0, 1, fx)).bind (fun q_12 : Int64 × Int32 × (Nat → Int32) => if ix (0 : Int32) nx = true then (m_X11_trim nx q_12.2.2 (q_12.2.2 (0 : Int32).toNatClampNeg)).bind (fun r_13 : (Nat → Int32) => some r_13) else none)
set_option maxHeartbeats 4000000 in
set_option maxRecDepth 100000 in
theorem c_X11_less (l : Launch) (G : GG) (adx : Nat) (ady : Nat) (nx : Nat) (fx : Nat → Int32) (ny : Nat) (fy : Nat → Int32) (r : (Nat → Int32)) (h : m_X11_less nx fx ny fy = some r) : Ctr l G yX11_less wsX11_less rm_X11_less [.ref adx, .ref ady] [(adx, .inl (gI G, nx, .inl fx)), (ady, .inl (gI G, ny, .inl fy))] (fun v w => v = none ∧ w = [(adx, .inl (gI G, nx, .inl r)), (ady, .inl (gI G, ny, .inl fy))]) := by
  refine ctr_entry (cc := cX11_less) (maxL := 7) (ret := none) (by decide) rfl (Nat.le_of_ble_eq_true rfl) ?_
  intro K hl9 hG9 hk hn9 hrt
  subst hl9
  subst hG9
  have hR9 : RoomGe rm_X11_less rm_X11_less := RoomGe.rf
  show V K 7 [(adx, .inl (gI (kG K), nx, .inl fx)), (ady, .inl (gI (kG K), ny, .inl fy))] 0 0 0 [(0, .ref adx), (1, .ref ady)] []
  replace h : id (m_X11_less nx fx ny fy) = some r := h
  unfold m_X11_less at h
  refine v_lconst (v := 0) hk dX11_less_0 (by decide) ?_
  refine v_lstore_n hk dX11_less_1 rfl (by decide) [1, 2, 0] (lv' := [(0, .ref adx), (1, .ref ady), (2, .long 0)]) rfl ?_
  refine v_iconst (v := 1) hk dX11_less_2 (by decide) ?_
  refine v_istore hk dX11_less_3 (by decide) [1, 2, 3, 0] (lv' := [(0, .ref adx), (1, .ref ady), (2, .long 0), (4, .int 1)]) rfl ?_
  obtain ⟨b_14, eb_14, h⟩ := bd_e (g := id) rfl h
  refine L_X11_less_5 hk hR9 adx ady nx ny fy b_14 (fun q_12 eq_12 => ?_) FU 0 1 fx eb_14
  · replace eq_12 := eq_12.symm
    subst eq_12
    refine v_aload_n hk dX11_less_74 rfl ?_
    refine v_aload_n hk dX11_less_75 rfl ?_
    refine v_iconst (v := 0) hk dX11_less_76 (by decide) ?_
    obtain ⟨hi, h⟩ := ok_e (g := id) rfl h
    refine v_ialdV hk dX11_less_77 0 rfl (ix_in hi) ?_
    obtain ⟨r_13, er_13, h⟩ := bd_e (g := id) rfl h
    refine v_callS (n := 2) (st := []) hk dX11_less_78 (c_X11_trim (kl K) (kG K) adx nx q_12.2.2 (q_12.2.2 (0 : Int32).toNatClampNeg) r_13 er_13) gX11_less_X11_trim rfl (by decide +kernel) (frok hR9 (Nat.le_of_ble_eq_true rfl) (Nat.le_of_ble_eq_true rfl)) (roomk hR9 (Nat.le_of_ble_eq_true rfl) (Nat.le_of_ble_eq_true rfl)) rfl rfl (by decide) [0] [1] (wr := [(ady, .inl (gI (kG K), ny, .inl fy))]) rfl rfl (by decide) (by decide) (by decide) ?_
    intro v9 w9 hp9
    obtain ⟨rfl, rfl⟩ := hp9
    show V K 7 [(ady, .inl (gI (kG K), ny, .inl fy)), (adx, .inl (gI (kG K), nx, .inl r_13))] 0 0 81 [(0, .ref adx), (1, .ref ady), (2, .long q_12.1), (4, .int q_12.2.1)] []
    replace h : some r_13 = some r := h
    replace h := Option.some.inj h
    subst h
    refine v_perm [1, 0] (ws' := [(adx, .inl (gI (kG K), nx, .inl r_13)), (ady, .inl (gI (kG K), ny, .inl fy))]) rfl rfl (by decide) ?_
    refine hrt (none) _ _ _ _ _ (⟨rfl, rfl⟩) (Nat.zero_le _) (Nat.zero_le _) (dX11_less_81)
abbrev rm_X11_halve : Room := { frames := 1, cells := 0, slots := 0, locals := 22 }
def b_X11_halve_2 (nx : Nat) : (Int32 × (Nat → Int32)) → Option ((Int32 × (Nat → Int32)) ⊕ ((Int32 × (Nat → Int32))))
  | (i1_1, fx_2) => if ix (0 : Int32) nx = true then if (fx_2 (0 : Int32).toNatClampNeg) < i1_1 then some (.inr (i1_1, fx_2)) else if ix i1_1 nx = true then if ix (0 : Int32) nx = true then if (fx_2 (0 : Int32).toNatClampNeg) ≤ i1_1 then if ix i1_1 nx = true then lt ((upd fx_2 i1_1.toNatClampNeg ((((fx_2 i1_1.toNatClampNeg).toUInt32 >>> ((1 : Int32).toUInt32 &&& Int32.toUInt32 31)).toInt32) ||| 0)) : Nat → Int32) (fun fx_3 : Nat → Int32 => lt (i1_1 + 1 : Int32) (fun x1_4 : Int32 => some (.inl (x1_4, fx_3)))) else none else if ix (i1_1 + 1) nx = true then if ix i1_1 nx = true then lt ((upd fx_2 i1_1.toNatClampNeg ((((fx_2 i1_1.toNatClampNeg).toUInt32 >>> ((1 : Int32).toUInt32 &&& Int32.toUInt32 31)).toInt32) ||| ((fx_2 (i1_1 + 1).toNatClampNeg) <<< (31 &&& 31)))) : Nat → Int32) (fun fx_5 : Nat → Int32 => lt (i1_1 + 1 : Int32) (fun x1_6 : Int32 => some (.inl (x1_6, fx_5)))) else none else none else none else none else none
theorem eb_X11_halve_2 (nx : Nat) (i1_1 : Int32) (fx_2 : Nat → Int32) : b_X11_halve_2 nx (i1_1, fx_2) = if ix (0 : Int32) nx = true then if (fx_2 (0 : Int32).toNatClampNeg) < i1_1 then some (.inr (i1_1, fx_2)) else if ix i1_1 nx = true then if ix (0 : Int32) nx = true then if (fx_2 (0 : Int32).toNatClampNeg) ≤ i1_1 then if ix i1_1 nx = true then lt ((upd fx_2 i1_1.toNatClampNeg ((((fx_2 i1_1.toNatClampNeg).toUInt32 >>> ((1 : Int32).toUInt32 &&& Int32.toUInt32 31)).toInt32) ||| 0)) : Nat → Int32) (fun fx_3 : Nat → Int32 => lt (i1_1 + 1 : Int32) (fun x1_4 : Int32 => some (.inl (x1_4, fx_3)))) else none else if ix (i1_1 + 1) nx = true then if ix i1_1 nx = true then lt ((upd fx_2 i1_1.toNatClampNeg ((((fx_2 i1_1.toNatClampNeg).toUInt32 >>> ((1 : Int32).toUInt32 &&& Int32.toUInt32 31)).toInt32) ||| ((fx_2 (i1_1 + 1).toNatClampNeg) <<< (31 &&& 31)))) : Nat → Int32) (fun fx_5 : Nat → Int32 => lt (i1_1 + 1 : Int32) (fun x1_6 : Int32 => some (.inl (x1_6, fx_5)))) else none else none else none else none else none := rfl
set_option maxHeartbeats 4000000 in
set_option maxRecDepth 100000 in
theorem L_X11_halve_2 {K : Cx} {R9 : Room} (hk : Ok K cX11_halve 2 RX11 wsX11_halve R9) (hR9 : RoomGe R9 rm_X11_halve) (adx : Nat) (nx : Nat) (b9 : (Int32 × (Nat → Int32))) (kk0 : ∀ q9 : (Int32 × (Nat → Int32)), b9 = q9 → V K 2 [(adx, .inl (gI (kG K), nx, .inl q9.2))] 0 0 43 [(0, .ref adx), (1, .int q9.1)] []) : ∀ (nn : Nat) (i1_1 : Int32) (fx_2 : Nat → Int32), lp (b_X11_halve_2 nx) nn (i1_1, fx_2) = some b9 → V K 2 [(adx, .inl (gI (kG K), nx, .inl fx_2))] 0 0 2 [(0, .ref adx), (1, .int i1_1)] [] := by
  intro nn
  induction nn with
  | zero => intro i1_1 fx_2 h; exact absurd h (by simp [lp])
  | succ nn ih =>
    intro i1_1 fx_2 h
    replace h : lpk (lp (b_X11_halve_2 nx) nn) (b_X11_halve_2 nx (i1_1, fx_2)) = some b9 := h
    rw [eb_X11_halve_2] at h
    refine v_iload_n hk dX11_halve_2 rfl ?_
    refine v_aload_n hk dX11_halve_3 rfl ?_
    refine v_iconst (v := 0) hk dX11_halve_4 (by decide) ?_
    obtain ⟨hi, h⟩ := ok_e (g := (lpk (lp (b_X11_halve_2 nx) nn))) rfl h
    refine v_ialdV hk dX11_halve_5 0 rfl (ix_in hi) ?_
    refine v_icmp_gt (tgt := 43) hk dX11_halve_6 (by decide) (fun hc => ?_) (fun hc => ?_)
    · replace h := it_t (g := (lpk (lp (b_X11_halve_2 nx) nn))) h hc
      replace h : some (i1_1, fx_2) = some b9 := h
      replace h := Option.some.inj h
      subst h
      exact kk0 _ rfl
    · replace h := it_f (g := (lpk (lp (b_X11_halve_2 nx) nn))) h hc
      refine v_aload_n hk dX11_halve_9 rfl ?_
      refine v_iload_n hk dX11_halve_10 rfl ?_
      refine v_aload_n hk dX11_halve_11 rfl ?_
      refine v_iload_n hk dX11_halve_12 rfl ?_
      obtain ⟨hi, h⟩ := ok_e (g := (lpk (lp (b_X11_halve_2 nx) nn))) rfl h
      refine v_ialdV hk dX11_halve_13 0 rfl (ix_in hi) ?_
      refine v_iconst (v := 1) hk dX11_halve_14 (by decide) ?_
      refine v_iushr hk dX11_halve_15 ?_
      refine v_iload_n hk dX11_halve_16 rfl ?_
      refine v_aload_n hk dX11_halve_17 rfl ?_
      refine v_iconst (v := 0) hk dX11_halve_18 (by decide) ?_
      obtain ⟨hi, h⟩ := ok_e (g := (lpk (lp (b_X11_halve_2 nx) nn))) rfl h
      refine v_ialdV hk dX11_halve_19 0 rfl (ix_in hi) ?_
      refine v_icmp_ge (tgt := 34) hk dX11_halve_20 (by decide) (fun hc => ?_) (fun hc => ?_)
      · replace h := it_t (g := (lpk (lp (b_X11_halve_2 nx) nn))) h hc
        refine v_iconst (v := 0) hk dX11_halve_34 (by decide) ?_
        refine v_ior hk dX11_halve_35 ?_
        obtain ⟨hi, h⟩ := ok_e (g := (lpk (lp (b_X11_halve_2 nx) nn))) rfl h
        obtain ⟨fx_3, efx_3, h⟩ := lt_e (g := (lpk (lp (b_X11_halve_2 nx) nn))) h
        refine v_iastV hk dX11_halve_36 0 rfl (ix_in hi) (ws' := [(adx, .inl (gI (kG K), nx, .inl fx_3))]) (by rw [efx_3]; rfl) ?_
        obtain ⟨x1_4, ex1_4, h⟩ := lt_e (g := (lpk (lp (b_X11_halve_2 nx) nn))) h
        refine v_iinc (v := x1_4) hk dX11_halve_37 rfl (by rw [ex1_4]; rfl) (by decide) [1, 0] (lv' := [(0, .ref adx), (1, .int x1_4)]) rfl ?_
        refine v_goto (tgt := 2) hk dX11_halve_40 (by decide) ?_
        exact ih x1_4 fx_3 h
      · replace h := it_f (g := (lpk (lp (b_X11_halve_2 nx) nn))) h hc
        refine v_aload_n hk dX11_halve_23 rfl ?_
        refine v_iload_n hk dX11_halve_24 rfl ?_
        refine v_iconst (v := 1) hk dX11_halve_25 (by decide) ?_
        refine v_iadd hk dX11_halve_26 ?_
        obtain ⟨hi, h⟩ := ok_e (g := (lpk (lp (b_X11_halve_2 nx) nn))) rfl h
        refine v_ialdV hk dX11_halve_27 0 rfl (ix_in hi) ?_
        refine v_bipush (v := 31) hk dX11_halve_28 (by decide) ?_
        refine v_ishl hk dX11_halve_30 ?_
        refine v_goto (tgt := 35) hk dX11_halve_31 (by decide) ?_
        refine v_ior hk dX11_halve_35 ?_
        obtain ⟨hi, h⟩ := ok_e (g := (lpk (lp (b_X11_halve_2 nx) nn))) rfl h
        obtain ⟨fx_5, efx_5, h⟩ := lt_e (g := (lpk (lp (b_X11_halve_2 nx) nn))) h
        refine v_iastV hk dX11_halve_36 0 rfl (ix_in hi) (ws' := [(adx, .inl (gI (kG K), nx, .inl fx_5))]) (by rw [efx_5]; rfl) ?_
        obtain ⟨x1_6, ex1_6, h⟩ := lt_e (g := (lpk (lp (b_X11_halve_2 nx) nn))) h
        refine v_iinc (v := x1_6) hk dX11_halve_37 rfl (by rw [ex1_6]; rfl) (by decide) [1, 0] (lv' := [(0, .ref adx), (1, .int x1_6)]) rfl ?_
        refine v_goto (tgt := 2) hk dX11_halve_40 (by decide) ?_
        exact ih x1_6 fx_5 h
def m_X11_halve (nx : Nat) (fx : Nat → Int32) : Option ((Nat → Int32)) := (lp (b_X11_halve_2 nx) FU (1, fx)).bind (fun q_7 : Int32 × (Nat → Int32) => if ix (0 : Int32) nx = true then (m_X11_trim nx q_7.2 (q_7.2 (0 : Int32).toNatClampNeg)).bind (fun r_8 : (Nat → Int32) => some r_8) else none)
set_option maxHeartbeats 4000000 in
set_option maxRecDepth 100000 in
theorem c_X11_halve (l : Launch) (G : GG) (adx : Nat) (nx : Nat) (fx : Nat → Int32) (r : (Nat → Int32)) (h : m_X11_halve nx fx = some r) : Ctr l G yX11_halve wsX11_halve rm_X11_halve [.ref adx] [(adx, .inl (gI G, nx, .inl fx))] (fun v w => v = none ∧ w = [(adx, .inl (gI G, nx, .inl r))]) := by
  refine ctr_entry (cc := cX11_halve) (maxL := 2) (ret := none) (by decide) rfl (Nat.le_of_ble_eq_true rfl) ?_
  intro K hl9 hG9 hk hn9 hrt
  subst hl9
  subst hG9
  have hR9 : RoomGe rm_X11_halve rm_X11_halve := RoomGe.rf
  show V K 2 [(adx, .inl (gI (kG K), nx, .inl fx))] 0 0 0 [(0, .ref adx)] []
  replace h : id (m_X11_halve nx fx) = some r := h
  unfold m_X11_halve at h
  refine v_iconst (v := 1) hk dX11_halve_0 (by decide) ?_
  refine v_istore_n hk dX11_halve_1 rfl (by decide) [1, 0] (lv' := [(0, .ref adx), (1, .int 1)]) rfl ?_
  obtain ⟨b_9, eb_9, h⟩ := bd_e (g := id) rfl h
  refine L_X11_halve_2 hk hR9 adx nx b_9 (fun q_7 eq_7 => ?_) FU 1 fx eb_9
  · replace eq_7 := eq_7.symm
    subst eq_7
    refine v_aload_n hk dX11_halve_43 rfl ?_
    refine v_aload_n hk dX11_halve_44 rfl ?_
    refine v_iconst (v := 0) hk dX11_halve_45 (by decide) ?_
    obtain ⟨hi, h⟩ := ok_e (g := id) rfl h
    refine v_ialdV hk dX11_halve_46 0 rfl (ix_in hi) ?_
    obtain ⟨r_8, er_8, h⟩ := bd_e (g := id) rfl h
    refine v_callS (n := 2) (st := []) hk dX11_halve_47 (c_X11_trim (kl K) (kG K) adx nx q_7.2 (q_7.2 (0 : Int32).toNatClampNeg) r_8 er_8) gX11_halve_X11_trim rfl (by decide +kernel) (frok hR9 (Nat.le_of_ble_eq_true rfl) (Nat.le_of_ble_eq_true rfl)) (roomk hR9 (Nat.le_of_ble_eq_true rfl) (Nat.le_of_ble_eq_true rfl)) rfl rfl (by decide) [0] [] (wr := []) rfl rfl (by decide) (by decide) (by decide) ?_
    intro v9 w9 hp9
    obtain ⟨rfl, rfl⟩ := hp9
    show V K 2 [(adx, .inl (gI (kG K), nx, .inl r_8))] 0 0 50 [(0, .ref adx), (1, .int q_7.1)] []
    replace h : some r_8 = some r := h
    replace h := Option.some.inj h
    subst h
    refine hrt (none) _ _ _ _ _ (⟨rfl, rfl⟩) (Nat.zero_le _) (Nat.zero_le _) (dX11_halve_50)
abbrev rm_X11_twice : Room := { frames := 1, cells := 0, slots := 0, locals := 22 }
def b_X11_twice_4 (nx : Nat) : (Int32 × Int32 × (Nat → Int32)) → Option ((Int32 × Int32 × (Nat → Int32)) ⊕ ((Int32 × Int32 × (Nat → Int32))))
  | (i2_1, i3_2, fx_3) => if ix (0 : Int32) nx = true then if (fx_3 (0 : Int32).toNatClampNeg) < i3_2 then some (.inr (i2_1, i3_2, fx_3)) else if ix i3_2 nx = true then lt (((fx_3 i3_2.toNatClampNeg).toUInt32 >>> ((31 : Int32).toUInt32 &&& Int32.toUInt32 31)).toInt32 : Int32) (fun x4_4 : Int32 => if ix i3_2 nx = true then if ix i3_2 nx = true then lt ((upd fx_3 i3_2.toNatClampNeg (((fx_3 i3_2.toNatClampNeg) <<< (1 &&& 31)) ||| i2_1)) : Nat → Int32) (fun fx_5 : Nat → Int32 => lt (i3_2 + 1 : Int32) (fun x3_6 : Int32 => some (.inl (x4_4, x3_6, fx_5)))) else none else none) else none else none
theorem eb_X11_twice_4 (nx : Nat) (i2_1 : Int32) (i3_2 : Int32) (fx_3 : Nat → Int32) : b_X11_twice_4 nx (i2_1, i3_2, fx_3) = if ix (0 : Int32) nx = true then if (fx_3 (0 : Int32).toNatClampNeg) < i3_2 then some (.inr (i2_1, i3_2, fx_3)) else if ix i3_2 nx = true then lt (((fx_3 i3_2.toNatClampNeg).toUInt32 >>> ((31 : Int32).toUInt32 &&& Int32.toUInt32 31)).toInt32 : Int32) (fun x4_4 : Int32 => if ix i3_2 nx = true then if ix i3_2 nx = true then lt ((upd fx_3 i3_2.toNatClampNeg (((fx_3 i3_2.toNatClampNeg) <<< (1 &&& 31)) ||| i2_1)) : Nat → Int32) (fun fx_5 : Nat → Int32 => lt (i3_2 + 1 : Int32) (fun x3_6 : Int32 => some (.inl (x4_4, x3_6, fx_5)))) else none else none) else none else none := rfl
set_option maxHeartbeats 4000000 in
set_option maxRecDepth 100000 in
theorem L_X11_twice_4 {K : Cx} {R9 : Room} (hk : Ok K cX11_twice 5 RX11 wsX11_twice R9) (hR9 : RoomGe R9 rm_X11_twice) (adx : Nat) (nx : Nat) (bit : Int32) (b9 : (Int32 × Int32 × (Nat → Int32))) (kk0 : ∀ q9 : (Int32 × Int32 × (Nat → Int32)), b9 = q9 → V K 5 [(adx, .inl (gI (kG K), nx, .inl q9.2.2))] 0 0 38 [(0, .ref adx), (1, .int bit), (2, .int q9.1), (3, .int q9.2.1)] []) : ∀ (nn : Nat) (i2_1 : Int32) (i3_2 : Int32) (fx_3 : Nat → Int32), lp (b_X11_twice_4 nx) nn (i2_1, i3_2, fx_3) = some b9 → V K 5 [(adx, .inl (gI (kG K), nx, .inl fx_3))] 0 0 4 [(0, .ref adx), (1, .int bit), (2, .int i2_1), (3, .int i3_2)] [] := by
  intro nn
  induction nn with
  | zero => intro i2_1 i3_2 fx_3 h; exact absurd h (by simp [lp])
  | succ nn ih =>
    intro i2_1 i3_2 fx_3 h
    replace h : lpk (lp (b_X11_twice_4 nx) nn) (b_X11_twice_4 nx (i2_1, i3_2, fx_3)) = some b9 := h
    rw [eb_X11_twice_4] at h
    refine v_iload_n hk dX11_twice_4 rfl ?_
    refine v_aload_n hk dX11_twice_5 rfl ?_
    refine v_iconst (v := 0) hk dX11_twice_6 (by decide) ?_
    obtain ⟨hi, h⟩ := ok_e (g := (lpk (lp (b_X11_twice_4 nx) nn))) rfl h
    refine v_ialdV hk dX11_twice_7 0 rfl (ix_in hi) ?_
    refine v_icmp_gt (tgt := 38) hk dX11_twice_8 (by decide) (fun hc => ?_) (fun hc => ?_)
    · replace h := it_t (g := (lpk (lp (b_X11_twice_4 nx) nn))) h hc
      replace h : some (i2_1, i3_2, fx_3) = some b9 := h
      replace h := Option.some.inj h
      subst h
      exact kk0 _ rfl
    · replace h := it_f (g := (lpk (lp (b_X11_twice_4 nx) nn))) h hc
      refine v_aload_n hk dX11_twice_11 rfl ?_
      refine v_iload_n hk dX11_twice_12 rfl ?_
      obtain ⟨hi, h⟩ := ok_e (g := (lpk (lp (b_X11_twice_4 nx) nn))) rfl h
      refine v_ialdV hk dX11_twice_13 0 rfl (ix_in hi) ?_
      refine v_bipush (v := 31) hk dX11_twice_14 (by decide) ?_
      refine v_iushr hk dX11_twice_16 ?_
      obtain ⟨x4_4, ex4_4, h⟩ := lt_e (g := (lpk (lp (b_X11_twice_4 nx) nn))) h
      refine v_topi ex4_4.symm ?_
      refine v_istore hk dX11_twice_17 (by decide) [1, 2, 3, 4, 0] (lv' := [(0, .ref adx), (1, .int bit), (2, .int i2_1), (3, .int i3_2), (4, .int x4_4)]) rfl ?_
      refine v_aload_n hk dX11_twice_19 rfl ?_
      refine v_iload_n hk dX11_twice_20 rfl ?_
      refine v_aload_n hk dX11_twice_21 rfl ?_
      refine v_iload_n hk dX11_twice_22 rfl ?_
      obtain ⟨hi, h⟩ := ok_e (g := (lpk (lp (b_X11_twice_4 nx) nn))) rfl h
      refine v_ialdV hk dX11_twice_23 0 rfl (ix_in hi) ?_
      refine v_iconst (v := 1) hk dX11_twice_24 (by decide) ?_
      refine v_ishl hk dX11_twice_25 ?_
      refine v_iload_n hk dX11_twice_26 rfl ?_
      refine v_ior hk dX11_twice_27 ?_
      obtain ⟨hi, h⟩ := ok_e (g := (lpk (lp (b_X11_twice_4 nx) nn))) rfl h
      obtain ⟨fx_5, efx_5, h⟩ := lt_e (g := (lpk (lp (b_X11_twice_4 nx) nn))) h
      refine v_iastV hk dX11_twice_28 0 rfl (ix_in hi) (ws' := [(adx, .inl (gI (kG K), nx, .inl fx_5))]) (by rw [efx_5]; rfl) ?_
      refine v_iload hk dX11_twice_29 rfl ?_
      refine v_istore_n hk dX11_twice_31 rfl (by decide) [1, 2, 0, 3, 4] (lv' := [(0, .ref adx), (1, .int bit), (2, .int x4_4), (3, .int i3_2), (4, .int x4_4)]) rfl ?_
      obtain ⟨x3_6, ex3_6, h⟩ := lt_e (g := (lpk (lp (b_X11_twice_4 nx) nn))) h
      refine v_iinc (v := x3_6) hk dX11_twice_32 rfl (by rw [ex3_6]; rfl) (by decide) [1, 2, 3, 0, 4] (lv' := [(0, .ref adx), (1, .int bit), (2, .int x4_4), (3, .int x3_6), (4, .int x4_4)]) rfl ?_
      refine v_goto (tgt := 4) hk dX11_twice_35 (by decide) ?_
      refine v_loc [0, 1, 2, 3] (lv' := [(0, .ref adx), (1, .int bit), (2, .int x4_4), (3, .int x3_6)]) rfl ?_
      exact ih x4_4 x3_6 fx_5 h
def m_X11_twice (nx : Nat) (fx : Nat → Int32) (bit : Int32) : Option ((Nat → Int32)) := (lp (b_X11_twice_4 nx) FU (bit, 1, fx)).bind (fun q_7 : Int32 × Int32 × (Nat → Int32) => if ix (0 : Int32) nx = true then if ix ((q_7.2.2 (0 : Int32).toNatClampNeg) + 1) nx = true then lt ((upd q_7.2.2 ((q_7.2.2 (0 : Int32).toNatClampNeg) + 1).toNatClampNeg q_7.1) : Nat → Int32) (fun fx_8 : Nat → Int32 => if ix (0 : Int32) nx = true then (m_X11_trim nx fx_8 ((fx_8 (0 : Int32).toNatClampNeg) + 1)).bind (fun r_9 : (Nat → Int32) => some r_9) else none) else none else none)
set_option maxHeartbeats 4000000 in
set_option maxRecDepth 100000 in
theorem c_X11_twice (l : Launch) (G : GG) (adx : Nat) (nx : Nat) (fx : Nat → Int32) (bit : Int32) (r : (Nat → Int32)) (h : m_X11_twice nx fx bit = some r) : Ctr l G yX11_twice wsX11_twice rm_X11_twice [.ref adx, .int bit] [(adx, .inl (gI G, nx, .inl fx))] (fun v w => v = none ∧ w = [(adx, .inl (gI G, nx, .inl r))]) := by
  refine ctr_entry (cc := cX11_twice) (maxL := 5) (ret := none) (by decide) rfl (Nat.le_of_ble_eq_true rfl) ?_
  intro K hl9 hG9 hk hn9 hrt
  subst hl9
  subst hG9
  have hR9 : RoomGe rm_X11_twice rm_X11_twice := RoomGe.rf
  show V K 5 [(adx, .inl (gI (kG K), nx, .inl fx))] 0 0 0 [(0, .ref adx), (1, .int bit)] []
  replace h : id (m_X11_twice nx fx bit) = some r := h
  unfold m_X11_twice at h
  refine v_iload_n hk dX11_twice_0 rfl ?_
  refine v_istore_n hk dX11_twice_1 rfl (by decide) [1, 2, 0] (lv' := [(0, .ref adx), (1, .int bit), (2, .int bit)]) rfl ?_
  refine v_iconst (v := 1) hk dX11_twice_2 (by decide) ?_
  refine v_istore_n hk dX11_twice_3 rfl (by decide) [1, 2, 3, 0] (lv' := [(0, .ref adx), (1, .int bit), (2, .int bit), (3, .int 1)]) rfl ?_
  obtain ⟨b_10, eb_10, h⟩ := bd_e (g := id) rfl h
  refine L_X11_twice_4 hk hR9 adx nx bit b_10 (fun q_7 eq_7 => ?_) FU bit 1 fx eb_10
  · replace eq_7 := eq_7.symm
    subst eq_7
    refine v_aload_n hk dX11_twice_38 rfl ?_
    refine v_aload_n hk dX11_twice_39 rfl ?_
    refine v_iconst (v := 0) hk dX11_twice_40 (by decide) ?_
    obtain ⟨hi, h⟩ := ok_e (g := id) rfl h
    refine v_ialdV hk dX11_twice_41 0 rfl (ix_in hi) ?_
    refine v_iconst (v := 1) hk dX11_twice_42 (by decide) ?_
    refine v_iadd hk dX11_twice_43 ?_
    refine v_iload_n hk dX11_twice_44 rfl ?_
    obtain ⟨hi, h⟩ := ok_e (g := id) rfl h
    obtain ⟨fx_8, efx_8, h⟩ := lt_e (g := id) h
    refine v_iastV hk dX11_twice_45 0 rfl (ix_in hi) (ws' := [(adx, .inl (gI (kG K), nx, .inl fx_8))]) (by rw [efx_8]; rfl) ?_
    refine v_aload_n hk dX11_twice_46 rfl ?_
    refine v_aload_n hk dX11_twice_47 rfl ?_
    refine v_iconst (v := 0) hk dX11_twice_48 (by decide) ?_
    obtain ⟨hi, h⟩ := ok_e (g := id) rfl h
    refine v_ialdV hk dX11_twice_49 0 rfl (ix_in hi) ?_
    refine v_iconst (v := 1) hk dX11_twice_50 (by decide) ?_
    refine v_iadd hk dX11_twice_51 ?_
    obtain ⟨r_9, er_9, h⟩ := bd_e (g := id) rfl h
    refine v_callS (n := 2) (st := []) hk dX11_twice_52 (c_X11_trim (kl K) (kG K) adx nx fx_8 ((fx_8 (0 : Int32).toNatClampNeg) + 1) r_9 er_9) gX11_twice_X11_trim rfl (by decide +kernel) (frok hR9 (Nat.le_of_ble_eq_true rfl) (Nat.le_of_ble_eq_true rfl)) (roomk hR9 (Nat.le_of_ble_eq_true rfl) (Nat.le_of_ble_eq_true rfl)) rfl rfl (by decide) [0] [] (wr := []) rfl rfl (by decide) (by decide) (by decide) ?_
    intro v9 w9 hp9
    obtain ⟨rfl, rfl⟩ := hp9
    show V K 5 [(adx, .inl (gI (kG K), nx, .inl r_9))] 0 0 55 [(0, .ref adx), (1, .int bit), (2, .int q_7.1), (3, .int q_7.2.1)] []
    replace h : some r_9 = some r := h
    replace h := Option.some.inj h
    subst h
    refine hrt (none) _ _ _ _ _ (⟨rfl, rfl⟩) (Nat.zero_le _) (Nat.zero_le _) (dX11_twice_55)
abbrev rm_X11_isEven : Room := { frames := 0, cells := 0, slots := 0, locals := 0 }
def m_X11_isEven (nx : Nat) (fx : Nat → Int32) : Option Int32 := if ix (1 : Int32) nx = true then lt (if ((fx (1 : Int32).toNatClampNeg) &&& 1) = 0 then 1 else 0 : Int32) (fun z_1 : Int32 => if bz z_1 = true then some z_1 else none) else none
set_option maxHeartbeats 4000000 in
set_option maxRecDepth 100000 in
theorem c_X11_isEven (l : Launch) (G : GG) (adx : Nat) (nx : Nat) (fx : Nat → Int32) (r : Int32) (h : m_X11_isEven nx fx = some r) : Ctr l G yX11_isEven wsX11_isEven rm_X11_isEven [.ref adx] [(adx, .inl (gI G, nx, .inl fx))] (fun v w => v = some (.int r) ∧ w = [(adx, .inl (gI G, nx, .inl fx))]) := by
  refine ctr_entry (cc := cX11_isEven) (maxL := 1) (ret := some .boolean) (by decide) rfl (Nat.le_of_ble_eq_true rfl) ?_
  intro K hl9 hG9 hk hn9 hrt
  subst hl9
  subst hG9
  have hR9 : RoomGe rm_X11_isEven rm_X11_isEven := RoomGe.rf
  show V K 1 [(adx, .inl (gI (kG K), nx, .inl fx))] 0 0 0 [(0, .ref adx)] []
  replace h : id (m_X11_isEven nx fx) = some r := h
  unfold m_X11_isEven at h
  refine v_aload_n hk dX11_isEven_0 rfl ?_
  refine v_iconst (v := 1) hk dX11_isEven_1 (by decide) ?_
  obtain ⟨hi, h⟩ := ok_e (g := id) rfl h
  refine v_ialdV hk dX11_isEven_2 0 rfl (ix_in hi) ?_
  refine v_iconst (v := 1) hk dX11_isEven_3 (by decide) ?_
  refine v_iand hk dX11_isEven_4 ?_
  obtain ⟨z_1, ez_1, h⟩ := lt_e (g := id) h
  have Jz_1 : V K 1 [(adx, .inl (gI (kG K), nx, .inl fx))] 0 0 13 [(0, .ref adx)] (.int z_1 :: []) := by
    obtain ⟨hbz, h⟩ := ok_e (g := id) rfl h
    replace h : some z_1 = some r := h
    replace h := Option.some.inj h
    subst h
    refine hrt (some (.int z_1)) _ _ _ _ _ (⟨rfl, rfl⟩) (Nat.zero_le _) (Nat.zero_le _) (⟨dX11_isEven_13, nar_z _ (of_decide_eq_true hbz)⟩)
  refine v_if_ne (tgt := 12) hk dX11_isEven_5 (by decide) (fun hc => ?_) (fun hc => ?_)
  · rw [if_neg hc] at ez_1
    subst ez_1
    refine v_iconst (v := 0) hk dX11_isEven_12 (by decide) ?_
    exact Jz_1
  · rw [if_pos hc] at ez_1
    subst ez_1
    refine v_iconst (v := 1) hk dX11_isEven_8 (by decide) ?_
    refine v_goto (tgt := 13) hk dX11_isEven_9 (by decide) ?_
    exact Jz_1
abbrev rm_X11_grow : Room := { frames := 0, cells := 0, slots := 0, locals := 0 }
def b_X11_grow_10 (nx : Nat) (p : Int32) (by0 : Int32) (x5_1 : Int32) : (Int64 × Int32 × (Nat → Int32)) → Option ((Int64 × Int32 × (Nat → Int32)) ⊕ ((Int64 × Int32 × (Nat → Int32))))
  | (i3_2, i6_3, fx_4) => if x5_1 < i6_3 then some (.inr (i3_2, i6_3, fx_4)) else if ix (p + i6_3) nx = true then lt (i3_2 + ((((fx_4 (p + i6_3).toNatClampNeg).toInt64) &&& 4294967295) * by0.toInt64) : Int64) (fun x3_5 : Int64 => if ix (p + i6_3) nx = true then lt ((upd fx_4 (p + i6_3).toNatClampNeg x3_5.toInt32) : Nat → Int32) (fun fx_6 : Nat → Int32 => lt ((x3_5.toUInt64 >>> ((32 : Int32).toInt64.toUInt64 &&& Int64.toUInt64 63)).toInt64 : Int64) (fun x3_7 : Int64 => lt (i6_3 + 1 : Int32) (fun x6_8 : Int32 => some (.inl (x3_7, x6_8, fx_6))))) else none) else none
theorem eb_X11_grow_10 (nx : Nat) (p : Int32) (by0 : Int32) (x5_1 : Int32) (i3_2 : Int64) (i6_3 : Int32) (fx_4 : Nat → Int32) : b_X11_grow_10 nx p by0 x5_1 (i3_2, i6_3, fx_4) = if x5_1 < i6_3 then some (.inr (i3_2, i6_3, fx_4)) else if ix (p + i6_3) nx = true then lt (i3_2 + ((((fx_4 (p + i6_3).toNatClampNeg).toInt64) &&& 4294967295) * by0.toInt64) : Int64) (fun x3_5 : Int64 => if ix (p + i6_3) nx = true then lt ((upd fx_4 (p + i6_3).toNatClampNeg x3_5.toInt32) : Nat → Int32) (fun fx_6 : Nat → Int32 => lt ((x3_5.toUInt64 >>> ((32 : Int32).toInt64.toUInt64 &&& Int64.toUInt64 63)).toInt64 : Int64) (fun x3_7 : Int64 => lt (i6_3 + 1 : Int32) (fun x6_8 : Int32 => some (.inl (x3_7, x6_8, fx_6))))) else none) else none := rfl
set_option maxHeartbeats 4000000 in
set_option maxRecDepth 100000 in
theorem L_X11_grow_10 {K : Cx} {R9 : Room} (hk : Ok K cX11_grow 7 RX11 wsX11_grow R9) (hR9 : RoomGe R9 rm_X11_grow) (adx : Nat) (nx : Nat) (p : Int32) (by0 : Int32) (x5_1 : Int32) (b9 : (Int64 × Int32 × (Nat → Int32))) (kk0 : ∀ q9 : (Int64 × Int32 × (Nat → Int32)), b9 = q9 → V K 7 [(adx, .inl (gI (kG K), nx, .inl q9.2.2))] 0 0 53 [(0, .ref adx), (1, .int p), (2, .int by0), (3, .long q9.1), (5, .int x5_1), (6, .int q9.2.1)] []) : ∀ (nn : Nat) (i3_2 : Int64) (i6_3 : Int32) (fx_4 : Nat → Int32), lp (b_X11_grow_10 nx p by0 x5_1) nn (i3_2, i6_3, fx_4) = some b9 → V K 7 [(adx, .inl (gI (kG K), nx, .inl fx_4))] 0 0 10 [(0, .ref adx), (1, .int p), (2, .int by0), (3, .long i3_2), (5, .int x5_1), (6, .int i6_3)] [] := by
  intro nn
  induction nn with
  | zero => intro i3_2 i6_3 fx_4 h; exact absurd h (by simp [lp])
  | succ nn ih =>
    intro i3_2 i6_3 fx_4 h
    replace h : lpk (lp (b_X11_grow_10 nx p by0 x5_1) nn) (b_X11_grow_10 nx p by0 x5_1 (i3_2, i6_3, fx_4)) = some b9 := h
    rw [eb_X11_grow_10] at h
    refine v_iload hk dX11_grow_10 rfl ?_
    refine v_iload hk dX11_grow_12 rfl ?_
    refine v_icmp_gt (tgt := 53) hk dX11_grow_14 (by decide) (fun hc => ?_) (fun hc => ?_)
    · replace h := it_t (g := (lpk (lp (b_X11_grow_10 nx p by0 x5_1) nn))) h hc
      replace h : some (i3_2, i6_3, fx_4) = some b9 := h
      replace h := Option.some.inj h
      subst h
      exact kk0 _ rfl
    · replace h := it_f (g := (lpk (lp (b_X11_grow_10 nx p by0 x5_1) nn))) h hc
      refine v_lload_n hk dX11_grow_17 rfl ?_
      refine v_aload_n hk dX11_grow_18 rfl ?_
      refine v_iload_n hk dX11_grow_19 rfl ?_
      refine v_iload hk dX11_grow_20 rfl ?_
      refine v_iadd hk dX11_grow_22 ?_
      obtain ⟨hi, h⟩ := ok_e (g := (lpk (lp (b_X11_grow_10 nx p by0 x5_1) nn))) rfl h
      refine v_ialdV hk dX11_grow_23 0 rfl (ix_in hi) ?_
      refine v_i2l hk dX11_grow_24 ?_
      refine v_ldc2 (v := 4294967295) hk dX11_grow_25 (by decide +kernel) ?_
      refine v_land hk dX11_grow_28 ?_
      refine v_iload_n hk dX11_grow_29 rfl ?_
      refine v_i2l hk dX11_grow_30 ?_
      refine v_lmul hk dX11_grow_31 ?_
      refine v_ladd hk dX11_grow_32 ?_
      obtain ⟨x3_5, ex3_5, h⟩ := lt_e (g := (lpk (lp (b_X11_grow_10 nx p by0 x5_1) nn))) h
      refine v_topl ex3_5.symm ?_
      refine v_lstore_n hk dX11_grow_33 rfl (by decide) [1, 2, 3, 0, 4, 5] (lv' := [(0, .ref adx), (1, .int p), (2, .int by0), (3, .long x3_5), (5, .int x5_1), (6, .int i6_3)]) rfl ?_
      refine v_aload_n hk dX11_grow_34 rfl ?_
      refine v_iload_n hk dX11_grow_35 rfl ?_
      refine v_iload hk dX11_grow_36 rfl ?_
      refine v_iadd hk dX11_grow_38 ?_
      refine v_lload_n hk dX11_grow_39 rfl ?_
      refine v_l2i hk dX11_grow_40 ?_
      obtain ⟨hi, h⟩ := ok_e (g := (lpk (lp (b_X11_grow_10 nx p by0 x5_1) nn))) rfl h
      obtain ⟨fx_6, efx_6, h⟩ := lt_e (g := (lpk (lp (b_X11_grow_10 nx p by0 x5_1) nn))) h
      refine v_iastV hk dX11_grow_41 0 rfl (ix_in hi) (ws' := [(adx, .inl (gI (kG K), nx, .inl fx_6))]) (by rw [efx_6]; rfl) ?_
      refine v_lload_n hk dX11_grow_42 rfl ?_
      refine v_bipush (v := 32) hk dX11_grow_43 (by decide) ?_
      refine v_lushr hk dX11_grow_45 ?_
      obtain ⟨x3_7, ex3_7, h⟩ := lt_e (g := (lpk (lp (b_X11_grow_10 nx p by0 x5_1) nn))) h
      refine v_topl ex3_7.symm ?_
      refine v_lstore_n hk dX11_grow_46 rfl (by decide) [1, 2, 3, 0, 4, 5] (lv' := [(0, .ref adx), (1, .int p), (2, .int by0), (3, .long x3_7), (5, .int x5_1), (6, .int i6_3)]) rfl ?_
      obtain ⟨x6_8, ex6_8, h⟩ := lt_e (g := (lpk (lp (b_X11_grow_10 nx p by0 x5_1) nn))) h
      refine v_iinc (v := x6_8) hk dX11_grow_47 rfl (by rw [ex6_8]; rfl) (by decide) [1, 2, 3, 4, 5, 0] (lv' := [(0, .ref adx), (1, .int p), (2, .int by0), (3, .long x3_7), (5, .int x5_1), (6, .int x6_8)]) rfl ?_
      refine v_goto (tgt := 10) hk dX11_grow_50 (by decide) ?_
      exact ih x3_7 x6_8 fx_6 h
def m_X11_grow (nx : Nat) (fx : Nat → Int32) (p : Int32) (by0 : Int32) : Option ((Nat → Int32)) := if ix p nx = true then lt (fx p.toNatClampNeg : Int32) (fun x5_1 : Int32 => (lp (b_X11_grow_10 nx p by0 x5_1) FU (0, 1, fx)).bind (fun q_9 : Int64 × Int32 × (Nat → Int32) => if (lg_cmp q_9.1 0) = 0 then some q_9.2.2 else if ix p nx = true then lt ((upd q_9.2.2 p.toNatClampNeg (x5_1 + 1)) : Nat → Int32) (fun fx_10 : Nat → Int32 => if ix ((p + x5_1) + 1) nx = true then lt ((upd fx_10 ((p + x5_1) + 1).toNatClampNeg q_9.1.toInt32) : Nat → Int32) (fun fx_11 : Nat → Int32 => some fx_11) else none) else none)) else none
set_option maxHeartbeats 4000000 in
set_option maxRecDepth 100000 in
theorem c_X11_grow (l : Launch) (G : GG) (adx : Nat) (nx : Nat) (fx : Nat → Int32) (p : Int32) (by0 : Int32) (r : (Nat → Int32)) (h : m_X11_grow nx fx p by0 = some r) : Ctr l G yX11_grow wsX11_grow rm_X11_grow [.ref adx, .int p, .int by0] [(adx, .inl (gI G, nx, .inl fx))] (fun v w => v = none ∧ w = [(adx, .inl (gI G, nx, .inl r))]) := by
  refine ctr_entry (cc := cX11_grow) (maxL := 7) (ret := none) (by decide) rfl (Nat.le_of_ble_eq_true rfl) ?_
  intro K hl9 hG9 hk hn9 hrt
  subst hl9
  subst hG9
  have hR9 : RoomGe rm_X11_grow rm_X11_grow := RoomGe.rf
  show V K 7 [(adx, .inl (gI (kG K), nx, .inl fx))] 0 0 0 [(0, .ref adx), (1, .int p), (2, .int by0)] []
  replace h : id (m_X11_grow nx fx p by0) = some r := h
  unfold m_X11_grow at h
  refine v_lconst (v := 0) hk dX11_grow_0 (by decide) ?_
  refine v_lstore_n hk dX11_grow_1 rfl (by decide) [1, 2, 3, 0] (lv' := [(0, .ref adx), (1, .int p), (2, .int by0), (3, .long 0)]) rfl ?_
  refine v_aload_n hk dX11_grow_2 rfl ?_
  refine v_iload_n hk dX11_grow_3 rfl ?_
  obtain ⟨hi, h⟩ := ok_e (g := id) rfl h
  refine v_ialdV hk dX11_grow_4 0 rfl (ix_in hi) ?_
  obtain ⟨x5_1, ex5_1, h⟩ := lt_e (g := id) h
  refine v_topi ex5_1.symm ?_
  refine v_istore hk dX11_grow_5 (by decide) [1, 2, 3, 4, 0] (lv' := [(0, .ref adx), (1, .int p), (2, .int by0), (3, .long 0), (5, .int x5_1)]) rfl ?_
  refine v_iconst (v := 1) hk dX11_grow_7 (by decide) ?_
  refine v_istore hk dX11_grow_8 (by decide) [1, 2, 3, 4, 5, 0] (lv' := [(0, .ref adx), (1, .int p), (2, .int by0), (3, .long 0), (5, .int x5_1), (6, .int 1)]) rfl ?_
  obtain ⟨b_12, eb_12, h⟩ := bd_e (g := id) rfl h
  refine L_X11_grow_10 hk hR9 adx nx p by0 x5_1 b_12 (fun q_9 eq_9 => ?_) FU 0 1 fx eb_12
  · replace eq_9 := eq_9.symm
    subst eq_9
    refine v_lload_n hk dX11_grow_53 rfl ?_
    refine v_lconst (v := 0) hk dX11_grow_54 (by decide) ?_
    refine v_lcmp hk dX11_grow_55 ?_
    refine v_if_eq (tgt := 76) hk dX11_grow_56 (by decide) (fun hc => ?_) (fun hc => ?_)
    · replace h := it_t (g := id) h hc
      replace h : some q_9.2.2 = some r := h
      replace h := Option.some.inj h
      subst h
      refine hrt (none) _ _ _ _ _ (⟨rfl, rfl⟩) (Nat.zero_le _) (Nat.zero_le _) (dX11_grow_76)
    · replace h := it_f (g := id) h hc
      refine v_aload_n hk dX11_grow_59 rfl ?_
      refine v_iload_n hk dX11_grow_60 rfl ?_
      refine v_iload hk dX11_grow_61 rfl ?_
      refine v_iconst (v := 1) hk dX11_grow_63 (by decide) ?_
      refine v_iadd hk dX11_grow_64 ?_
      obtain ⟨hi, h⟩ := ok_e (g := id) rfl h
      obtain ⟨fx_10, efx_10, h⟩ := lt_e (g := id) h
      refine v_iastV hk dX11_grow_65 0 rfl (ix_in hi) (ws' := [(adx, .inl (gI (kG K), nx, .inl fx_10))]) (by rw [efx_10]; rfl) ?_
      refine v_aload_n hk dX11_grow_66 rfl ?_
      refine v_iload_n hk dX11_grow_67 rfl ?_
      refine v_iload hk dX11_grow_68 rfl ?_
      refine v_iadd hk dX11_grow_70 ?_
      refine v_iconst (v := 1) hk dX11_grow_71 (by decide) ?_
      refine v_iadd hk dX11_grow_72 ?_
      refine v_lload_n hk dX11_grow_73 rfl ?_
      refine v_l2i hk dX11_grow_74 ?_
      obtain ⟨hi, h⟩ := ok_e (g := id) rfl h
      obtain ⟨fx_11, efx_11, h⟩ := lt_e (g := id) h
      refine v_iastV hk dX11_grow_75 0 rfl (ix_in hi) (ws' := [(adx, .inl (gI (kG K), nx, .inl fx_11))]) (by rw [efx_11]; rfl) ?_
      replace h : some fx_11 = some r := h
      replace h := Option.some.inj h
      subst h
      refine hrt (none) _ _ _ _ _ (⟨rfl, rfl⟩) (Nat.zero_le _) (Nat.zero_le _) (dX11_grow_76)
abbrev rm_X11_place : Room := { frames := 0, cells := 0, slots := 0, locals := 0 }
def m_X11_place (nm : Int32) (se : Int32) : Option Int32 := some (((32 * nm) + se) * 8)
set_option maxHeartbeats 4000000 in
set_option maxRecDepth 100000 in
theorem c_X11_place (l : Launch) (G : GG) (nm : Int32) (se : Int32) (r : Int32) (h : m_X11_place nm se = some r) : Ctr l G yX11_place wsX11_place rm_X11_place [.int nm, .int se] [] (fun v w => v = some (.int r) ∧ w = []) := by
  refine ctr_entry (cc := cX11_place) (maxL := 2) (ret := some .int) (by decide) rfl (Nat.le_of_ble_eq_true rfl) ?_
  intro K hl9 hG9 hk hn9 hrt
  subst hl9
  subst hG9
  have hR9 : RoomGe rm_X11_place rm_X11_place := RoomGe.rf
  show V K 2 [] 0 0 0 [(0, .int nm), (1, .int se)] []
  replace h : id (m_X11_place nm se) = some r := h
  unfold m_X11_place at h
  refine v_bipush (v := 32) hk dX11_place_0 (by decide) ?_
  refine v_iload_n hk dX11_place_2 rfl ?_
  refine v_imul hk dX11_place_3 ?_
  refine v_iload_n hk dX11_place_4 rfl ?_
  refine v_iadd hk dX11_place_5 ?_
  refine v_bipush (v := 8) hk dX11_place_6 (by decide) ?_
  refine v_imul hk dX11_place_8 ?_
  replace h : some (((32 * nm) + se) * 8) = some r := h
  replace h := Option.some.inj h
  subst h
  refine hrt (some (.int (((32 * nm) + se) * 8))) _ _ _ _ _ (⟨rfl, rfl⟩) (Nat.zero_le _) (Nat.zero_le _) (dX11_place_9)
abbrev rm_X11_store : Room := { frames := 0, cells := 0, slots := 0, locals := 0 }
def b_X11_store_2 (nx : Nat) (fx : Nat → Int32) (ny : Nat) (p : Int32) : (Int32 × (Nat → Int32)) → Option ((Int32 × (Nat → Int32)) ⊕ ((Int32 × (Nat → Int32))))
  | (i3_1, fy_2) => if ix (0 : Int32) nx = true then if (fx (0 : Int32).toNatClampNeg) < i3_1 then some (.inr (i3_1, fy_2)) else if ix i3_1 nx = true then if ix (p + i3_1) ny = true then lt ((upd fy_2 (p + i3_1).toNatClampNeg (fx i3_1.toNatClampNeg)) : Nat → Int32) (fun fy_3 : Nat → Int32 => lt (i3_1 + 1 : Int32) (fun x3_4 : Int32 => some (.inl (x3_4, fy_3)))) else none else none else none
theorem eb_X11_store_2 (nx : Nat) (fx : Nat → Int32) (ny : Nat) (p : Int32) (i3_1 : Int32) (fy_2 : Nat → Int32) : b_X11_store_2 nx fx ny p (i3_1, fy_2) = if ix (0 : Int32) nx = true then if (fx (0 : Int32).toNatClampNeg) < i3_1 then some (.inr (i3_1, fy_2)) else if ix i3_1 nx = true then if ix (p + i3_1) ny = true then lt ((upd fy_2 (p + i3_1).toNatClampNeg (fx i3_1.toNatClampNeg)) : Nat → Int32) (fun fy_3 : Nat → Int32 => lt (i3_1 + 1 : Int32) (fun x3_4 : Int32 => some (.inl (x3_4, fy_3)))) else none else none else none := rfl
set_option maxHeartbeats 4000000 in
set_option maxRecDepth 100000 in
theorem L_X11_store_2 {K : Cx} {R9 : Room} (hk : Ok K cX11_store 4 RX11 wsX11_store R9) (hR9 : RoomGe R9 rm_X11_store) (adx : Nat) (ady : Nat) (nx : Nat) (fx : Nat → Int32) (ny : Nat) (p : Int32) (b9 : (Int32 × (Nat → Int32))) (kk0 : ∀ q9 : (Int32 × (Nat → Int32)), b9 = q9 → V K 4 [(adx, .inl (gI (kG K), nx, .inl fx)), (ady, .inl (gI (kG K), ny, .inl q9.2))] 0 0 23 [(0, .ref adx), (1, .ref ady), (2, .int p), (3, .int q9.1)] []) : ∀ (nn : Nat) (i3_1 : Int32) (fy_2 : Nat → Int32), lp (b_X11_store_2 nx fx ny p) nn (i3_1, fy_2) = some b9 → V K 4 [(adx, .inl (gI (kG K), nx, .inl fx)), (ady, .inl (gI (kG K), ny, .inl fy_2))] 0 0 2 [(0, .ref adx), (1, .ref ady), (2, .int p), (3, .int i3_1)] [] := by
  intro nn
  induction nn with
  | zero => intro i3_1 fy_2 h; exact absurd h (by simp [lp])
  | succ nn ih =>
    intro i3_1 fy_2 h
    replace h : lpk (lp (b_X11_store_2 nx fx ny p) nn) (b_X11_store_2 nx fx ny p (i3_1, fy_2)) = some b9 := h
    rw [eb_X11_store_2] at h
    refine v_iload_n hk dX11_store_2 rfl ?_
    refine v_aload_n hk dX11_store_3 rfl ?_
    refine v_iconst (v := 0) hk dX11_store_4 (by decide) ?_
    obtain ⟨hi, h⟩ := ok_e (g := (lpk (lp (b_X11_store_2 nx fx ny p) nn))) rfl h
    refine v_ialdV hk dX11_store_5 0 rfl (ix_in hi) ?_
    refine v_icmp_gt (tgt := 23) hk dX11_store_6 (by decide) (fun hc => ?_) (fun hc => ?_)
    · replace h := it_t (g := (lpk (lp (b_X11_store_2 nx fx ny p) nn))) h hc
      replace h : some (i3_1, fy_2) = some b9 := h
      replace h := Option.some.inj h
      subst h
      exact kk0 _ rfl
    · replace h := it_f (g := (lpk (lp (b_X11_store_2 nx fx ny p) nn))) h hc
      refine v_aload_n hk dX11_store_9 rfl ?_
      refine v_iload_n hk dX11_store_10 rfl ?_
      refine v_iload_n hk dX11_store_11 rfl ?_
      refine v_iadd hk dX11_store_12 ?_
      refine v_aload_n hk dX11_store_13 rfl ?_
      refine v_iload_n hk dX11_store_14 rfl ?_
      obtain ⟨hi, h⟩ := ok_e (g := (lpk (lp (b_X11_store_2 nx fx ny p) nn))) rfl h
      refine v_ialdV hk dX11_store_15 0 rfl (ix_in hi) ?_
      obtain ⟨hi, h⟩ := ok_e (g := (lpk (lp (b_X11_store_2 nx fx ny p) nn))) rfl h
      obtain ⟨fy_3, efy_3, h⟩ := lt_e (g := (lpk (lp (b_X11_store_2 nx fx ny p) nn))) h
      refine v_iastV hk dX11_store_16 1 rfl (ix_in hi) (ws' := [(adx, .inl (gI (kG K), nx, .inl fx)), (ady, .inl (gI (kG K), ny, .inl fy_3))]) (by rw [efy_3]; rfl) ?_
      obtain ⟨x3_4, ex3_4, h⟩ := lt_e (g := (lpk (lp (b_X11_store_2 nx fx ny p) nn))) h
      refine v_iinc (v := x3_4) hk dX11_store_17 rfl (by rw [ex3_4]; rfl) (by decide) [1, 2, 3, 0] (lv' := [(0, .ref adx), (1, .ref ady), (2, .int p), (3, .int x3_4)]) rfl ?_
      refine v_goto (tgt := 2) hk dX11_store_20 (by decide) ?_
      exact ih x3_4 fy_3 h
def m_X11_store (nx : Nat) (fx : Nat → Int32) (ny : Nat) (fy : Nat → Int32) (p : Int32) : Option ((Nat → Int32)) := (lp (b_X11_store_2 nx fx ny p) FU (0, fy)).bind (fun q_5 : Int32 × (Nat → Int32) => some q_5.2)
set_option maxHeartbeats 4000000 in
set_option maxRecDepth 100000 in
theorem c_X11_store (l : Launch) (G : GG) (adx : Nat) (ady : Nat) (nx : Nat) (fx : Nat → Int32) (ny : Nat) (fy : Nat → Int32) (p : Int32) (r : (Nat → Int32)) (h : m_X11_store nx fx ny fy p = some r) : Ctr l G yX11_store wsX11_store rm_X11_store [.ref adx, .ref ady, .int p] [(adx, .inl (gI G, nx, .inl fx)), (ady, .inl (gI G, ny, .inl fy))] (fun v w => v = none ∧ w = [(adx, .inl (gI G, nx, .inl fx)), (ady, .inl (gI G, ny, .inl r))]) := by
  refine ctr_entry (cc := cX11_store) (maxL := 4) (ret := none) (by decide) rfl (Nat.le_of_ble_eq_true rfl) ?_
  intro K hl9 hG9 hk hn9 hrt
  subst hl9
  subst hG9
  have hR9 : RoomGe rm_X11_store rm_X11_store := RoomGe.rf
  show V K 4 [(adx, .inl (gI (kG K), nx, .inl fx)), (ady, .inl (gI (kG K), ny, .inl fy))] 0 0 0 [(0, .ref adx), (1, .ref ady), (2, .int p)] []
  replace h : id (m_X11_store nx fx ny fy p) = some r := h
  unfold m_X11_store at h
  refine v_iconst (v := 0) hk dX11_store_0 (by decide) ?_
  refine v_istore_n hk dX11_store_1 rfl (by decide) [1, 2, 3, 0] (lv' := [(0, .ref adx), (1, .ref ady), (2, .int p), (3, .int 0)]) rfl ?_
  obtain ⟨b_6, eb_6, h⟩ := bd_e (g := id) rfl h
  refine L_X11_store_2 hk hR9 adx ady nx fx ny p b_6 (fun q_5 eq_5 => ?_) FU 0 fy eb_6
  · replace eq_5 := eq_5.symm
    subst eq_5
    replace h : some q_5.2 = some r := h
    replace h := Option.some.inj h
    subst h
    refine hrt (none) _ _ _ _ _ (⟨rfl, rfl⟩) (Nat.zero_le _) (Nat.zero_le _) (dX11_store_23)
abbrev rm_X11_load : Room := { frames := 0, cells := 0, slots := 0, locals := 0 }
def b_X11_load_2 (nx : Nat) (fx : Nat → Int32) (ny : Nat) (p : Int32) : (Int32 × (Nat → Int32)) → Option ((Int32 × (Nat → Int32)) ⊕ ((Int32 × (Nat → Int32))))
  | (i3_1, fy_2) => if ix p nx = true then if (fx p.toNatClampNeg) < i3_1 then some (.inr (i3_1, fy_2)) else if ix (p + i3_1) nx = true then if ix i3_1 ny = true then lt ((upd fy_2 i3_1.toNatClampNeg (fx (p + i3_1).toNatClampNeg)) : Nat → Int32) (fun fy_3 : Nat → Int32 => lt (i3_1 + 1 : Int32) (fun x3_4 : Int32 => some (.inl (x3_4, fy_3)))) else none else none else none
theorem eb_X11_load_2 (nx : Nat) (fx : Nat → Int32) (ny : Nat) (p : Int32) (i3_1 : Int32) (fy_2 : Nat → Int32) : b_X11_load_2 nx fx ny p (i3_1, fy_2) = if ix p nx = true then if (fx p.toNatClampNeg) < i3_1 then some (.inr (i3_1, fy_2)) else if ix (p + i3_1) nx = true then if ix i3_1 ny = true then lt ((upd fy_2 i3_1.toNatClampNeg (fx (p + i3_1).toNatClampNeg)) : Nat → Int32) (fun fy_3 : Nat → Int32 => lt (i3_1 + 1 : Int32) (fun x3_4 : Int32 => some (.inl (x3_4, fy_3)))) else none else none else none := rfl
set_option maxHeartbeats 4000000 in
set_option maxRecDepth 100000 in
theorem L_X11_load_2 {K : Cx} {R9 : Room} (hk : Ok K cX11_load 4 RX11 wsX11_load R9) (hR9 : RoomGe R9 rm_X11_load) (adx : Nat) (ady : Nat) (nx : Nat) (fx : Nat → Int32) (ny : Nat) (p : Int32) (b9 : (Int32 × (Nat → Int32))) (kk0 : ∀ q9 : (Int32 × (Nat → Int32)), b9 = q9 → V K 4 [(adx, .inl (gI (kG K), nx, .inl fx)), (ady, .inl (gI (kG K), ny, .inl q9.2))] 0 0 23 [(0, .ref adx), (1, .int p), (2, .ref ady), (3, .int q9.1)] []) : ∀ (nn : Nat) (i3_1 : Int32) (fy_2 : Nat → Int32), lp (b_X11_load_2 nx fx ny p) nn (i3_1, fy_2) = some b9 → V K 4 [(adx, .inl (gI (kG K), nx, .inl fx)), (ady, .inl (gI (kG K), ny, .inl fy_2))] 0 0 2 [(0, .ref adx), (1, .int p), (2, .ref ady), (3, .int i3_1)] [] := by
  intro nn
  induction nn with
  | zero => intro i3_1 fy_2 h; exact absurd h (by simp [lp])
  | succ nn ih =>
    intro i3_1 fy_2 h
    replace h : lpk (lp (b_X11_load_2 nx fx ny p) nn) (b_X11_load_2 nx fx ny p (i3_1, fy_2)) = some b9 := h
    rw [eb_X11_load_2] at h
    refine v_iload_n hk dX11_load_2 rfl ?_
    refine v_aload_n hk dX11_load_3 rfl ?_
    refine v_iload_n hk dX11_load_4 rfl ?_
    obtain ⟨hi, h⟩ := ok_e (g := (lpk (lp (b_X11_load_2 nx fx ny p) nn))) rfl h
    refine v_ialdV hk dX11_load_5 0 rfl (ix_in hi) ?_
    refine v_icmp_gt (tgt := 23) hk dX11_load_6 (by decide) (fun hc => ?_) (fun hc => ?_)
    · replace h := it_t (g := (lpk (lp (b_X11_load_2 nx fx ny p) nn))) h hc
      replace h : some (i3_1, fy_2) = some b9 := h
      replace h := Option.some.inj h
      subst h
      exact kk0 _ rfl
    · replace h := it_f (g := (lpk (lp (b_X11_load_2 nx fx ny p) nn))) h hc
      refine v_aload_n hk dX11_load_9 rfl ?_
      refine v_iload_n hk dX11_load_10 rfl ?_
      refine v_aload_n hk dX11_load_11 rfl ?_
      refine v_iload_n hk dX11_load_12 rfl ?_
      refine v_iload_n hk dX11_load_13 rfl ?_
      refine v_iadd hk dX11_load_14 ?_
      obtain ⟨hi, h⟩ := ok_e (g := (lpk (lp (b_X11_load_2 nx fx ny p) nn))) rfl h
      refine v_ialdV hk dX11_load_15 0 rfl (ix_in hi) ?_
      obtain ⟨hi, h⟩ := ok_e (g := (lpk (lp (b_X11_load_2 nx fx ny p) nn))) rfl h
      obtain ⟨fy_3, efy_3, h⟩ := lt_e (g := (lpk (lp (b_X11_load_2 nx fx ny p) nn))) h
      refine v_iastV hk dX11_load_16 1 rfl (ix_in hi) (ws' := [(adx, .inl (gI (kG K), nx, .inl fx)), (ady, .inl (gI (kG K), ny, .inl fy_3))]) (by rw [efy_3]; rfl) ?_
      obtain ⟨x3_4, ex3_4, h⟩ := lt_e (g := (lpk (lp (b_X11_load_2 nx fx ny p) nn))) h
      refine v_iinc (v := x3_4) hk dX11_load_17 rfl (by rw [ex3_4]; rfl) (by decide) [1, 2, 3, 0] (lv' := [(0, .ref adx), (1, .int p), (2, .ref ady), (3, .int x3_4)]) rfl ?_
      refine v_goto (tgt := 2) hk dX11_load_20 (by decide) ?_
      exact ih x3_4 fy_3 h
def m_X11_load (nx : Nat) (fx : Nat → Int32) (ny : Nat) (fy : Nat → Int32) (p : Int32) : Option ((Nat → Int32)) := (lp (b_X11_load_2 nx fx ny p) FU (0, fy)).bind (fun q_5 : Int32 × (Nat → Int32) => some q_5.2)
set_option maxHeartbeats 4000000 in
set_option maxRecDepth 100000 in
theorem c_X11_load (l : Launch) (G : GG) (adx : Nat) (ady : Nat) (nx : Nat) (fx : Nat → Int32) (ny : Nat) (fy : Nat → Int32) (p : Int32) (r : (Nat → Int32)) (h : m_X11_load nx fx ny fy p = some r) : Ctr l G yX11_load wsX11_load rm_X11_load [.ref adx, .int p, .ref ady] [(adx, .inl (gI G, nx, .inl fx)), (ady, .inl (gI G, ny, .inl fy))] (fun v w => v = none ∧ w = [(adx, .inl (gI G, nx, .inl fx)), (ady, .inl (gI G, ny, .inl r))]) := by
  refine ctr_entry (cc := cX11_load) (maxL := 4) (ret := none) (by decide) rfl (Nat.le_of_ble_eq_true rfl) ?_
  intro K hl9 hG9 hk hn9 hrt
  subst hl9
  subst hG9
  have hR9 : RoomGe rm_X11_load rm_X11_load := RoomGe.rf
  show V K 4 [(adx, .inl (gI (kG K), nx, .inl fx)), (ady, .inl (gI (kG K), ny, .inl fy))] 0 0 0 [(0, .ref adx), (1, .int p), (2, .ref ady)] []
  replace h : id (m_X11_load nx fx ny fy p) = some r := h
  unfold m_X11_load at h
  refine v_iconst (v := 0) hk dX11_load_0 (by decide) ?_
  refine v_istore_n hk dX11_load_1 rfl (by decide) [1, 2, 3, 0] (lv' := [(0, .ref adx), (1, .int p), (2, .ref ady), (3, .int 0)]) rfl ?_
  obtain ⟨b_6, eb_6, h⟩ := bd_e (g := id) rfl h
  refine L_X11_load_2 hk hR9 adx ady nx fx ny p b_6 (fun q_5 eq_5 => ?_) FU 0 fy eb_6
  · replace eq_5 := eq_5.symm
    subst eq_5
    replace h : some q_5.2 = some r := h
    replace h := Option.some.inj h
    subst h
    refine hrt (none) _ _ _ _ _ (⟨rfl, rfl⟩) (Nat.zero_le _) (Nat.zero_le _) (dX11_load_23)
abbrev rm_X11_bits : Room := { frames := 0, cells := 0, slots := 0, locals := 0 }
def b_X11_bits_4 (v : Int32) : (Int32 × Int32) → Option ((Int32 × Int32) ⊕ ((Int32 × Int32)))
  | (i1_1, i2_2) => if (5 : Int32) ≤ i2_2 then some (.inr (i1_1, i2_2)) else lt (i1_1 + ((v >>> (i2_2 &&& 31)) &&& 1) : Int32) (fun x1_3 : Int32 => lt (i2_2 + 1 : Int32) (fun x2_4 : Int32 => some (.inl (x1_3, x2_4))))
theorem eb_X11_bits_4 (v : Int32) (i1_1 : Int32) (i2_2 : Int32) : b_X11_bits_4 v (i1_1, i2_2) = if (5 : Int32) ≤ i2_2 then some (.inr (i1_1, i2_2)) else lt (i1_1 + ((v >>> (i2_2 &&& 31)) &&& 1) : Int32) (fun x1_3 : Int32 => lt (i2_2 + 1 : Int32) (fun x2_4 : Int32 => some (.inl (x1_3, x2_4)))) := rfl
set_option maxHeartbeats 4000000 in
set_option maxRecDepth 100000 in
theorem L_X11_bits_4 {K : Cx} {R9 : Room} (hk : Ok K cX11_bits 3 RX11 wsX11_bits R9) (hR9 : RoomGe R9 rm_X11_bits) (v : Int32) (b9 : (Int32 × Int32)) (kk0 : ∀ q9 : (Int32 × Int32), b9 = q9 → V K 3 [] 0 0 23 [(0, .int v), (1, .int q9.1), (2, .int q9.2)] []) : ∀ (nn : Nat) (i1_1 : Int32) (i2_2 : Int32), lp (b_X11_bits_4 v) nn (i1_1, i2_2) = some b9 → V K 3 [] 0 0 4 [(0, .int v), (1, .int i1_1), (2, .int i2_2)] [] := by
  intro nn
  induction nn with
  | zero => intro i1_1 i2_2 h; exact absurd h (by simp [lp])
  | succ nn ih =>
    intro i1_1 i2_2 h
    replace h : lpk (lp (b_X11_bits_4 v) nn) (b_X11_bits_4 v (i1_1, i2_2)) = some b9 := h
    rw [eb_X11_bits_4] at h
    refine v_iload_n hk dX11_bits_4 rfl ?_
    refine v_iconst (v := 5) hk dX11_bits_5 (by decide) ?_
    refine v_icmp_ge (tgt := 23) hk dX11_bits_6 (by decide) (fun hc => ?_) (fun hc => ?_)
    · replace h := it_t (g := (lpk (lp (b_X11_bits_4 v) nn))) h hc
      replace h : some (i1_1, i2_2) = some b9 := h
      replace h := Option.some.inj h
      subst h
      exact kk0 _ rfl
    · replace h := it_f (g := (lpk (lp (b_X11_bits_4 v) nn))) h hc
      refine v_iload_n hk dX11_bits_9 rfl ?_
      refine v_iload_n hk dX11_bits_10 rfl ?_
      refine v_iload_n hk dX11_bits_11 rfl ?_
      refine v_ishr hk dX11_bits_12 ?_
      refine v_iconst (v := 1) hk dX11_bits_13 (by decide) ?_
      refine v_iand hk dX11_bits_14 ?_
      refine v_iadd hk dX11_bits_15 ?_
      obtain ⟨x1_3, ex1_3, h⟩ := lt_e (g := (lpk (lp (b_X11_bits_4 v) nn))) h
      refine v_topi ex1_3.symm ?_
      refine v_istore_n hk dX11_bits_16 rfl (by decide) [1, 0, 2] (lv' := [(0, .int v), (1, .int x1_3), (2, .int i2_2)]) rfl ?_
      obtain ⟨x2_4, ex2_4, h⟩ := lt_e (g := (lpk (lp (b_X11_bits_4 v) nn))) h
      refine v_iinc (v := x2_4) hk dX11_bits_17 rfl (by rw [ex2_4]; rfl) (by decide) [1, 2, 0] (lv' := [(0, .int v), (1, .int x1_3), (2, .int x2_4)]) rfl ?_
      refine v_goto (tgt := 4) hk dX11_bits_20 (by decide) ?_
      exact ih x1_3 x2_4 h
def m_X11_bits (v : Int32) : Option Int32 := (lp (b_X11_bits_4 v) FU (0, 0)).bind (fun q_5 : Int32 × Int32 => some q_5.1)
set_option maxHeartbeats 4000000 in
set_option maxRecDepth 100000 in
theorem c_X11_bits (l : Launch) (G : GG) (v : Int32) (r : Int32) (h : m_X11_bits v = some r) : Ctr l G yX11_bits wsX11_bits rm_X11_bits [.int v] [] (fun v w => v = some (.int r) ∧ w = []) := by
  refine ctr_entry (cc := cX11_bits) (maxL := 3) (ret := some .int) (by decide) rfl (Nat.le_of_ble_eq_true rfl) ?_
  intro K hl9 hG9 hk hn9 hrt
  subst hl9
  subst hG9
  have hR9 : RoomGe rm_X11_bits rm_X11_bits := RoomGe.rf
  show V K 3 [] 0 0 0 [(0, .int v)] []
  replace h : id (m_X11_bits v) = some r := h
  unfold m_X11_bits at h
  refine v_iconst (v := 0) hk dX11_bits_0 (by decide) ?_
  refine v_istore_n hk dX11_bits_1 rfl (by decide) [1, 0] (lv' := [(0, .int v), (1, .int 0)]) rfl ?_
  refine v_iconst (v := 0) hk dX11_bits_2 (by decide) ?_
  refine v_istore_n hk dX11_bits_3 rfl (by decide) [1, 2, 0] (lv' := [(0, .int v), (1, .int 0), (2, .int 0)]) rfl ?_
  obtain ⟨b_6, eb_6, h⟩ := bd_e (g := id) rfl h
  refine L_X11_bits_4 hk hR9 v b_6 (fun q_5 eq_5 => ?_) FU 0 0 eb_6
  · replace eq_5 := eq_5.symm
    subst eq_5
    refine v_iload_n hk dX11_bits_23 rfl ?_
    replace h : some q_5.1 = some r := h
    replace h := Option.some.inj h
    subst h
    refine hrt (some (.int q_5.1)) _ _ _ _ _ (⟨rfl, rfl⟩) (Nat.zero_le _) (Nat.zero_le _) (dX11_bits_24)
abbrev rm_X11_parentsOf : Room := { frames := 0, cells := 0, slots := 0, locals := 0 }
def b_X11_parentsOf_4 (gr : Int32) (nm : Int32) : (Int32 × Int32) → Option ((Int32 × Int32) ⊕ ((Int32 × Int32)))
  | (i2_1, i3_2) => if (5 : Int32) ≤ i3_2 then some (.inr (i2_1, i3_2)) else lt (i2_1 ||| (((gr >>> (((5 * i3_2) + nm) &&& 31)) &&& 1) <<< (i3_2 &&& 31)) : Int32) (fun x2_3 : Int32 => lt (i3_2 + 1 : Int32) (fun x3_4 : Int32 => some (.inl (x2_3, x3_4))))
theorem eb_X11_parentsOf_4 (gr : Int32) (nm : Int32) (i2_1 : Int32) (i3_2 : Int32) : b_X11_parentsOf_4 gr nm (i2_1, i3_2) = if (5 : Int32) ≤ i3_2 then some (.inr (i2_1, i3_2)) else lt (i2_1 ||| (((gr >>> (((5 * i3_2) + nm) &&& 31)) &&& 1) <<< (i3_2 &&& 31)) : Int32) (fun x2_3 : Int32 => lt (i3_2 + 1 : Int32) (fun x3_4 : Int32 => some (.inl (x2_3, x3_4)))) := rfl
set_option maxHeartbeats 4000000 in
set_option maxRecDepth 100000 in
theorem L_X11_parentsOf_4 {K : Cx} {R9 : Room} (hk : Ok K cX11_parentsOf 4 RX11 wsX11_parentsOf R9) (hR9 : RoomGe R9 rm_X11_parentsOf) (gr : Int32) (nm : Int32) (b9 : (Int32 × Int32)) (kk0 : ∀ q9 : (Int32 × Int32), b9 = q9 → V K 4 [] 0 0 29 [(0, .int gr), (1, .int nm), (2, .int q9.1), (3, .int q9.2)] []) : ∀ (nn : Nat) (i2_1 : Int32) (i3_2 : Int32), lp (b_X11_parentsOf_4 gr nm) nn (i2_1, i3_2) = some b9 → V K 4 [] 0 0 4 [(0, .int gr), (1, .int nm), (2, .int i2_1), (3, .int i3_2)] [] := by
  intro nn
  induction nn with
  | zero => intro i2_1 i3_2 h; exact absurd h (by simp [lp])
  | succ nn ih =>
    intro i2_1 i3_2 h
    replace h : lpk (lp (b_X11_parentsOf_4 gr nm) nn) (b_X11_parentsOf_4 gr nm (i2_1, i3_2)) = some b9 := h
    rw [eb_X11_parentsOf_4] at h
    refine v_iload_n hk dX11_parentsOf_4 rfl ?_
    refine v_iconst (v := 5) hk dX11_parentsOf_5 (by decide) ?_
    refine v_icmp_ge (tgt := 29) hk dX11_parentsOf_6 (by decide) (fun hc => ?_) (fun hc => ?_)
    · replace h := it_t (g := (lpk (lp (b_X11_parentsOf_4 gr nm) nn))) h hc
      replace h : some (i2_1, i3_2) = some b9 := h
      replace h := Option.some.inj h
      subst h
      exact kk0 _ rfl
    · replace h := it_f (g := (lpk (lp (b_X11_parentsOf_4 gr nm) nn))) h hc
      refine v_iload_n hk dX11_parentsOf_9 rfl ?_
      refine v_iload_n hk dX11_parentsOf_10 rfl ?_
      refine v_iconst (v := 5) hk dX11_parentsOf_11 (by decide) ?_
      refine v_iload_n hk dX11_parentsOf_12 rfl ?_
      refine v_imul hk dX11_parentsOf_13 ?_
      refine v_iload_n hk dX11_parentsOf_14 rfl ?_
      refine v_iadd hk dX11_parentsOf_15 ?_
      refine v_ishr hk dX11_parentsOf_16 ?_
      refine v_iconst (v := 1) hk dX11_parentsOf_17 (by decide) ?_
      refine v_iand hk dX11_parentsOf_18 ?_
      refine v_iload_n hk dX11_parentsOf_19 rfl ?_
      refine v_ishl hk dX11_parentsOf_20 ?_
      refine v_ior hk dX11_parentsOf_21 ?_
      obtain ⟨x2_3, ex2_3, h⟩ := lt_e (g := (lpk (lp (b_X11_parentsOf_4 gr nm) nn))) h
      refine v_topi ex2_3.symm ?_
      refine v_istore_n hk dX11_parentsOf_22 rfl (by decide) [1, 2, 0, 3] (lv' := [(0, .int gr), (1, .int nm), (2, .int x2_3), (3, .int i3_2)]) rfl ?_
      obtain ⟨x3_4, ex3_4, h⟩ := lt_e (g := (lpk (lp (b_X11_parentsOf_4 gr nm) nn))) h
      refine v_iinc (v := x3_4) hk dX11_parentsOf_23 rfl (by rw [ex3_4]; rfl) (by decide) [1, 2, 3, 0] (lv' := [(0, .int gr), (1, .int nm), (2, .int x2_3), (3, .int x3_4)]) rfl ?_
      refine v_goto (tgt := 4) hk dX11_parentsOf_26 (by decide) ?_
      exact ih x2_3 x3_4 h
def m_X11_parentsOf (gr : Int32) (nm : Int32) : Option Int32 := (lp (b_X11_parentsOf_4 gr nm) FU (0, 0)).bind (fun q_5 : Int32 × Int32 => some q_5.1)
set_option maxHeartbeats 4000000 in
set_option maxRecDepth 100000 in
theorem c_X11_parentsOf (l : Launch) (G : GG) (gr : Int32) (nm : Int32) (r : Int32) (h : m_X11_parentsOf gr nm = some r) : Ctr l G yX11_parentsOf wsX11_parentsOf rm_X11_parentsOf [.int gr, .int nm] [] (fun v w => v = some (.int r) ∧ w = []) := by
  refine ctr_entry (cc := cX11_parentsOf) (maxL := 4) (ret := some .int) (by decide) rfl (Nat.le_of_ble_eq_true rfl) ?_
  intro K hl9 hG9 hk hn9 hrt
  subst hl9
  subst hG9
  have hR9 : RoomGe rm_X11_parentsOf rm_X11_parentsOf := RoomGe.rf
  show V K 4 [] 0 0 0 [(0, .int gr), (1, .int nm)] []
  replace h : id (m_X11_parentsOf gr nm) = some r := h
  unfold m_X11_parentsOf at h
  refine v_iconst (v := 0) hk dX11_parentsOf_0 (by decide) ?_
  refine v_istore_n hk dX11_parentsOf_1 rfl (by decide) [1, 2, 0] (lv' := [(0, .int gr), (1, .int nm), (2, .int 0)]) rfl ?_
  refine v_iconst (v := 0) hk dX11_parentsOf_2 (by decide) ?_
  refine v_istore_n hk dX11_parentsOf_3 rfl (by decide) [1, 2, 3, 0] (lv' := [(0, .int gr), (1, .int nm), (2, .int 0), (3, .int 0)]) rfl ?_
  obtain ⟨b_6, eb_6, h⟩ := bd_e (g := id) rfl h
  refine L_X11_parentsOf_4 hk hR9 gr nm b_6 (fun q_5 eq_5 => ?_) FU 0 0 eb_6
  · replace eq_5 := eq_5.symm
    subst eq_5
    refine v_iload_n hk dX11_parentsOf_29 rfl ?_
    replace h : some q_5.1 = some r := h
    replace h := Option.some.inj h
    subst h
    refine hrt (some (.int q_5.1)) _ _ _ _ _ (⟨rfl, rfl⟩) (Nat.zero_le _) (Nat.zero_le _) (dX11_parentsOf_30)
abbrev rm_X11_has : Room := { frames := 0, cells := 0, slots := 0, locals := 0 }
def m_X11_has (gr : Int32) (p : Int32) (c : Int32) : Option Int32 := lt (if ((gr >>> (((5 * p) + c) &&& 31)) &&& 1) = (1 : Int32) then 1 else 0 : Int32) (fun z_1 : Int32 => if bz z_1 = true then some z_1 else none)
set_option maxHeartbeats 4000000 in
set_option maxRecDepth 100000 in
theorem c_X11_has (l : Launch) (G : GG) (gr : Int32) (p : Int32) (c : Int32) (r : Int32) (h : m_X11_has gr p c = some r) : Ctr l G yX11_has wsX11_has rm_X11_has [.int gr, .int p, .int c] [] (fun v w => v = some (.int r) ∧ w = []) := by
  refine ctr_entry (cc := cX11_has) (maxL := 3) (ret := some .boolean) (by decide) rfl (Nat.le_of_ble_eq_true rfl) ?_
  intro K hl9 hG9 hk hn9 hrt
  subst hl9
  subst hG9
  have hR9 : RoomGe rm_X11_has rm_X11_has := RoomGe.rf
  show V K 3 [] 0 0 0 [(0, .int gr), (1, .int p), (2, .int c)] []
  replace h : id (m_X11_has gr p c) = some r := h
  unfold m_X11_has at h
  refine v_iload_n hk dX11_has_0 rfl ?_
  refine v_iconst (v := 5) hk dX11_has_1 (by decide) ?_
  refine v_iload_n hk dX11_has_2 rfl ?_
  refine v_imul hk dX11_has_3 ?_
  refine v_iload_n hk dX11_has_4 rfl ?_
  refine v_iadd hk dX11_has_5 ?_
  refine v_ishr hk dX11_has_6 ?_
  refine v_iconst (v := 1) hk dX11_has_7 (by decide) ?_
  refine v_iand hk dX11_has_8 ?_
  refine v_iconst (v := 1) hk dX11_has_9 (by decide) ?_
  obtain ⟨z_1, ez_1, h⟩ := lt_e (g := id) h
  have Jz_1 : V K 3 [] 0 0 18 [(0, .int gr), (1, .int p), (2, .int c)] (.int z_1 :: []) := by
    obtain ⟨hbz, h⟩ := ok_e (g := id) rfl h
    replace h : some z_1 = some r := h
    replace h := Option.some.inj h
    subst h
    refine hrt (some (.int z_1)) _ _ _ _ _ (⟨rfl, rfl⟩) (Nat.zero_le _) (Nat.zero_le _) (⟨dX11_has_18, nar_z _ (of_decide_eq_true hbz)⟩)
  refine v_icmp_ne (tgt := 17) hk dX11_has_10 (by decide) (fun hc => ?_) (fun hc => ?_)
  · rw [if_neg hc] at ez_1
    subst ez_1
    refine v_iconst (v := 0) hk dX11_has_17 (by decide) ?_
    exact Jz_1
  · rw [if_pos hc] at ez_1
    subst ez_1
    refine v_iconst (v := 1) hk dX11_has_13 (by decide) ?_
    refine v_goto (tgt := 18) hk dX11_has_14 (by decide) ?_
    exact Jz_1
abbrev rm_X11_touch : Room := { frames := 1, cells := 0, slots := 0, locals := 22 }
def m_X11_touch (gr : Int32) (p : Int32) (c : Int32) : Option Int32 := (m_X11_has gr p c).bind (fun r_1 : Int32 => if r_1 = 0 then (m_X11_has gr c p).bind (fun r_2 : Int32 => lt (if r_2 = 0 then 0 else 1 : Int32) (fun z_3 : Int32 => if bz z_3 = true then some z_3 else none)) else some 1)
set_option maxHeartbeats 4000000 in
set_option maxRecDepth 100000 in
theorem c_X11_touch (l : Launch) (G : GG) (gr : Int32) (p : Int32) (c : Int32) (r : Int32) (h : m_X11_touch gr p c = some r) : Ctr l G yX11_touch wsX11_touch rm_X11_touch [.int gr, .int p, .int c] [] (fun v w => v = some (.int r) ∧ w = []) := by
  refine ctr_entry (cc := cX11_touch) (maxL := 3) (ret := some .boolean) (by decide) rfl (Nat.le_of_ble_eq_true rfl) ?_
  intro K hl9 hG9 hk hn9 hrt
  subst hl9
  subst hG9
  have hR9 : RoomGe rm_X11_touch rm_X11_touch := RoomGe.rf
  show V K 3 [] 0 0 0 [(0, .int gr), (1, .int p), (2, .int c)] []
  replace h : id (m_X11_touch gr p c) = some r := h
  unfold m_X11_touch at h
  refine v_iload_n hk dX11_touch_0 rfl ?_
  refine v_iload_n hk dX11_touch_1 rfl ?_
  refine v_iload_n hk dX11_touch_2 rfl ?_
  obtain ⟨r_1, er_1, h⟩ := bd_e (g := id) rfl h
  refine v_callS (n := 3) (st := []) hk dX11_touch_3 (c_X11_has (kl K) (kG K) gr p c r_1 er_1) gX11_touch_X11_has rfl (by decide +kernel) (frok hR9 (Nat.le_of_ble_eq_true rfl) (Nat.le_of_ble_eq_true rfl)) (roomk hR9 (Nat.le_of_ble_eq_true rfl) (Nat.le_of_ble_eq_true rfl)) rfl rfl (by decide) [] [] (wr := []) rfl rfl (by decide) (by decide) (by decide) ?_
  intro v9 w9 hp9
  obtain ⟨rfl, rfl⟩ := hp9
  show V K 3 [] 0 0 6 [(0, .int gr), (1, .int p), (2, .int c)] [.int r_1]
  refine v_if_ne (tgt := 18) hk dX11_touch_6 (by decide) (fun hc => ?_) (fun hc => ?_)
  · replace h := it_f (g := id) h hc
    refine v_iconst (v := 1) hk dX11_touch_18 (by decide) ?_
    refine v_goto (tgt := 23) hk dX11_touch_19 (by decide) ?_
    replace h : some 1 = some r := h
    replace h := Option.some.inj h
    subst h
    refine hrt (some (.int 1)) _ _ _ _ _ (⟨rfl, rfl⟩) (Nat.zero_le _) (Nat.zero_le _) (⟨dX11_touch_23, rfl⟩)
  · replace h := it_t (g := id) h hc
    refine v_iload_n hk dX11_touch_9 rfl ?_
    refine v_iload_n hk dX11_touch_10 rfl ?_
    refine v_iload_n hk dX11_touch_11 rfl ?_
    obtain ⟨r_2, er_2, h⟩ := bd_e (g := id) rfl h
    refine v_callS (n := 3) (st := []) hk dX11_touch_12 (c_X11_has (kl K) (kG K) gr c p r_2 er_2) gX11_touch_X11_has rfl (by decide +kernel) (frok hR9 (Nat.le_of_ble_eq_true rfl) (Nat.le_of_ble_eq_true rfl)) (roomk hR9 (Nat.le_of_ble_eq_true rfl) (Nat.le_of_ble_eq_true rfl)) rfl rfl (by decide) [] [] (wr := []) rfl rfl (by decide) (by decide) (by decide) ?_
    intro v9 w9 hp9
    obtain ⟨rfl, rfl⟩ := hp9
    show V K 3 [] 0 0 15 [(0, .int gr), (1, .int p), (2, .int c)] [.int r_2]
    obtain ⟨z_3, ez_3, h⟩ := lt_e (g := id) h
    have Jz_3 : V K 3 [] 0 0 23 [(0, .int gr), (1, .int p), (2, .int c)] (.int z_3 :: []) := by
      obtain ⟨hbz, h⟩ := ok_e (g := id) rfl h
      replace h : some z_3 = some r := h
      replace h := Option.some.inj h
      subst h
      refine hrt (some (.int z_3)) _ _ _ _ _ (⟨rfl, rfl⟩) (Nat.zero_le _) (Nat.zero_le _) (⟨dX11_touch_23, nar_z _ (of_decide_eq_true hbz)⟩)
    refine v_if_eq (tgt := 22) hk dX11_touch_15 (by decide) (fun hc => ?_) (fun hc => ?_)
    · rw [if_pos hc] at ez_3
      subst ez_3
      refine v_iconst (v := 0) hk dX11_touch_22 (by decide) ?_
      exact Jz_3
    · rw [if_neg hc] at ez_3
      subst ez_3
      refine v_iconst (v := 1) hk dX11_touch_18 (by decide) ?_
      refine v_goto (tgt := 23) hk dX11_touch_19 (by decide) ?_
      exact Jz_3
abbrev rm_X11_isAlike : Room := { frames := 2, cells := 0, slots := 0, locals := 44 }
def b_X11_isAlike_50 (gr : Int32) (ot : Int32) (i3_2 : Int32) (i4_5 : Int32) : (Int32 × Int32) → Option ((Int32 × Int32) ⊕ ((Int32 × Int32)))
  | (i2_6, i5_7) => if (5 : Int32) ≤ i5_7 then some (.inr (i2_6, i5_7)) else (m_X11_touch gr i3_2 i4_5).bind (fun r_8 : Int32 => if r_8 = 0 then if i2_6 = 0 then lt (i5_7 + 1 : Int32) (fun x5_9 : Int32 => some (.inl (0, x5_9))) else (m_X11_has gr i3_2 i5_7).bind (fun r_10 : Int32 => if r_10 = 0 then (m_X11_has ot i3_2 i5_7).bind (fun r_11 : Int32 => if r_11 = 0 then lt (i5_7 + 1 : Int32) (fun x5_12 : Int32 => some (.inl (1, x5_12))) else (m_X11_has ot i4_5 i5_7).bind (fun r_13 : Int32 => lt (if r_13 = 0 then 0 else 1 : Int32) (fun z_14 : Int32 => lt (if (0 : Int32) = z_14 then 1 else 0 : Int32) (fun z_15 : Int32 => lt (i5_7 + 1 : Int32) (fun x5_16 : Int32 => some (.inl (z_15, x5_16))))))) else (m_X11_has gr i4_5 i5_7).bind (fun r_17 : Int32 => lt (if r_17 = 0 then 0 else 1 : Int32) (fun z_18 : Int32 => (m_X11_has ot i3_2 i5_7).bind (fun r_19 : Int32 => if r_19 = 0 then lt (if z_18 = (0 : Int32) then 1 else 0 : Int32) (fun z_20 : Int32 => lt (i5_7 + 1 : Int32) (fun x5_21 : Int32 => some (.inl (z_20, x5_21)))) else (m_X11_has ot i4_5 i5_7).bind (fun r_22 : Int32 => lt (if r_22 = 0 then 0 else 1 : Int32) (fun z_23 : Int32 => lt (if z_18 = z_23 then 1 else 0 : Int32) (fun z_24 : Int32 => lt (i5_7 + 1 : Int32) (fun x5_25 : Int32 => some (.inl (z_24, x5_25)))))))))) else some (.inr (i2_6, i5_7)))
theorem eb_X11_isAlike_50 (gr : Int32) (ot : Int32) (i3_2 : Int32) (i4_5 : Int32) (i2_6 : Int32) (i5_7 : Int32) : b_X11_isAlike_50 gr ot i3_2 i4_5 (i2_6, i5_7) = if (5 : Int32) ≤ i5_7 then some (.inr (i2_6, i5_7)) else (m_X11_touch gr i3_2 i4_5).bind (fun r_8 : Int32 => if r_8 = 0 then if i2_6 = 0 then lt (i5_7 + 1 : Int32) (fun x5_9 : Int32 => some (.inl (0, x5_9))) else (m_X11_has gr i3_2 i5_7).bind (fun r_10 : Int32 => if r_10 = 0 then (m_X11_has ot i3_2 i5_7).bind (fun r_11 : Int32 => if r_11 = 0 then lt (i5_7 + 1 : Int32) (fun x5_12 : Int32 => some (.inl (1, x5_12))) else (m_X11_has ot i4_5 i5_7).bind (fun r_13 : Int32 => lt (if r_13 = 0 then 0 else 1 : Int32) (fun z_14 : Int32 => lt (if (0 : Int32) = z_14 then 1 else 0 : Int32) (fun z_15 : Int32 => lt (i5_7 + 1 : Int32) (fun x5_16 : Int32 => some (.inl (z_15, x5_16))))))) else (m_X11_has gr i4_5 i5_7).bind (fun r_17 : Int32 => lt (if r_17 = 0 then 0 else 1 : Int32) (fun z_18 : Int32 => (m_X11_has ot i3_2 i5_7).bind (fun r_19 : Int32 => if r_19 = 0 then lt (if z_18 = (0 : Int32) then 1 else 0 : Int32) (fun z_20 : Int32 => lt (i5_7 + 1 : Int32) (fun x5_21 : Int32 => some (.inl (z_20, x5_21)))) else (m_X11_has ot i4_5 i5_7).bind (fun r_22 : Int32 => lt (if r_22 = 0 then 0 else 1 : Int32) (fun z_23 : Int32 => lt (if z_18 = z_23 then 1 else 0 : Int32) (fun z_24 : Int32 => lt (i5_7 + 1 : Int32) (fun x5_25 : Int32 => some (.inl (z_24, x5_25)))))))))) else some (.inr (i2_6, i5_7))) := rfl
set_option maxHeartbeats 4000000 in
set_option maxRecDepth 100000 in
theorem L_X11_isAlike_50 {K : Cx} {R9 : Room} (hk : Ok K cX11_isAlike 6 RX11 wsX11_isAlike R9) (hR9 : RoomGe R9 rm_X11_isAlike) (gr : Int32) (ot : Int32) (i3_2 : Int32) (i4_5 : Int32) (b9 : (Int32 × Int32)) (kk0 : ∀ q9 : (Int32 × Int32), b9 = q9 → V K 6 [] 0 0 137 [(0, .int gr), (1, .int ot), (2, .int q9.1), (3, .int i3_2), (4, .int i4_5), (5, .int q9.2)] []) : ∀ (nn : Nat) (i2_6 : Int32) (i5_7 : Int32), lp (b_X11_isAlike_50 gr ot i3_2 i4_5) nn (i2_6, i5_7) = some b9 → V K 6 [] 0 0 50 [(0, .int gr), (1, .int ot), (2, .int i2_6), (3, .int i3_2), (4, .int i4_5), (5, .int i5_7)] [] := by
  intro nn
  induction nn with
  | zero => intro i2_6 i5_7 h; exact absurd h (by simp [lp])
  | succ nn ih =>
    intro i2_6 i5_7 h
    replace h : lpk (lp (b_X11_isAlike_50 gr ot i3_2 i4_5) nn) (b_X11_isAlike_50 gr ot i3_2 i4_5 (i2_6, i5_7)) = some b9 := h
    rw [eb_X11_isAlike_50] at h
    refine v_iload hk dX11_isAlike_50 rfl ?_
    refine v_iconst (v := 5) hk dX11_isAlike_52 (by decide) ?_
    refine v_icmp_ge (tgt := 137) hk dX11_isAlike_53 (by decide) (fun hc => ?_) (fun hc => ?_)
    · replace h := it_t (g := (lpk (lp (b_X11_isAlike_50 gr ot i3_2 i4_5) nn))) h hc
      replace h : some (i2_6, i5_7) = some b9 := h
      replace h := Option.some.inj h
      subst h
      exact kk0 _ rfl
    · replace h := it_f (g := (lpk (lp (b_X11_isAlike_50 gr ot i3_2 i4_5) nn))) h hc
      refine v_iload_n hk dX11_isAlike_56 rfl ?_
      refine v_iload_n hk dX11_isAlike_57 rfl ?_
      refine v_iload hk dX11_isAlike_58 rfl ?_
      obtain ⟨r_8, er_8, h⟩ := bd_e (g := (lpk (lp (b_X11_isAlike_50 gr ot i3_2 i4_5) nn))) rfl h
      refine v_callS (n := 3) (st := []) hk dX11_isAlike_60 (c_X11_touch (kl K) (kG K) gr i3_2 i4_5 r_8 er_8) gX11_isAlike_X11_touch rfl (by decide +kernel) (frok hR9 (Nat.le_of_ble_eq_true rfl) (Nat.le_of_ble_eq_true rfl)) (roomk hR9 (Nat.le_of_ble_eq_true rfl) (Nat.le_of_ble_eq_true rfl)) rfl rfl (by decide) [] [] (wr := []) rfl rfl (by decide) (by decide) (by decide) ?_
      intro v9 w9 hp9
      obtain ⟨rfl, rfl⟩ := hp9
      show V K 6 [] 0 0 63 [(0, .int gr), (1, .int ot), (2, .int i2_6), (3, .int i3_2), (4, .int i4_5), (5, .int i5_7)] [.int r_8]
      refine v_if_ne (tgt := 137) hk dX11_isAlike_63 (by decide) (fun hc => ?_) (fun hc => ?_)
      · replace h := it_f (g := (lpk (lp (b_X11_isAlike_50 gr ot i3_2 i4_5) nn))) h hc
        replace h : some (i2_6, i5_7) = some b9 := h
        replace h := Option.some.inj h
        subst h
        exact kk0 _ rfl
      · replace h := it_t (g := (lpk (lp (b_X11_isAlike_50 gr ot i3_2 i4_5) nn))) h hc
        refine v_iload_n hk dX11_isAlike_66 rfl ?_
        refine v_if_eq (tgt := 129) hk dX11_isAlike_67 (by decide) (fun hc => ?_) (fun hc => ?_)
        · replace h := it_t (g := (lpk (lp (b_X11_isAlike_50 gr ot i3_2 i4_5) nn))) h hc
          refine v_iconst (v := 0) hk dX11_isAlike_129 (by decide) ?_
          refine v_istore_n hk dX11_isAlike_130 rfl (by decide) [1, 2, 0, 3, 4, 5] (lv' := [(0, .int gr), (1, .int ot), (2, .int 0), (3, .int i3_2), (4, .int i4_5), (5, .int i5_7)]) rfl ?_
          obtain ⟨x5_9, ex5_9, h⟩ := lt_e (g := (lpk (lp (b_X11_isAlike_50 gr ot i3_2 i4_5) nn))) h
          refine v_iinc (v := x5_9) hk dX11_isAlike_131 rfl (by rw [ex5_9]; rfl) (by decide) [1, 2, 3, 4, 5, 0] (lv' := [(0, .int gr), (1, .int ot), (2, .int 0), (3, .int i3_2), (4, .int i4_5), (5, .int x5_9)]) rfl ?_
          refine v_goto (tgt := 50) hk dX11_isAlike_134 (by decide) ?_
          exact ih 0 x5_9 h
        · replace h := it_f (g := (lpk (lp (b_X11_isAlike_50 gr ot i3_2 i4_5) nn))) h hc
          refine v_iload_n hk dX11_isAlike_70 rfl ?_
          refine v_iload_n hk dX11_isAlike_71 rfl ?_
          refine v_iload hk dX11_isAlike_72 rfl ?_
          obtain ⟨r_10, er_10, h⟩ := bd_e (g := (lpk (lp (b_X11_isAlike_50 gr ot i3_2 i4_5) nn))) rfl h
          refine v_callS (n := 3) (st := []) hk dX11_isAlike_74 (c_X11_has (kl K) (kG K) gr i3_2 i5_7 r_10 er_10) gX11_isAlike_X11_has rfl (by decide +kernel) (frok hR9 (Nat.le_of_ble_eq_true rfl) (Nat.le_of_ble_eq_true rfl)) (roomk hR9 (Nat.le_of_ble_eq_true rfl) (Nat.le_of_ble_eq_true rfl)) rfl rfl (by decide) [] [] (wr := []) rfl rfl (by decide) (by decide) (by decide) ?_
          intro v9 w9 hp9
          obtain ⟨rfl, rfl⟩ := hp9
          show V K 6 [] 0 0 77 [(0, .int gr), (1, .int ot), (2, .int i2_6), (3, .int i3_2), (4, .int i4_5), (5, .int i5_7)] [.int r_10]
          refine v_if_eq (tgt := 95) hk dX11_isAlike_77 (by decide) (fun hc => ?_) (fun hc => ?_)
          · replace h := it_t (g := (lpk (lp (b_X11_isAlike_50 gr ot i3_2 i4_5) nn))) h hc
            refine v_iconst (v := 0) hk dX11_isAlike_95 (by decide) ?_
            refine v_iload_n hk dX11_isAlike_96 rfl ?_
            refine v_iload_n hk dX11_isAlike_97 rfl ?_
            refine v_iload hk dX11_isAlike_98 rfl ?_
            obtain ⟨r_11, er_11, h⟩ := bd_e (g := (lpk (lp (b_X11_isAlike_50 gr ot i3_2 i4_5) nn))) rfl h
            refine v_callS (n := 3) (st := [.int 0]) hk dX11_isAlike_100 (c_X11_has (kl K) (kG K) ot i3_2 i5_7 r_11 er_11) gX11_isAlike_X11_has rfl (by decide +kernel) (frok hR9 (Nat.le_of_ble_eq_true rfl) (Nat.le_of_ble_eq_true rfl)) (roomk hR9 (Nat.le_of_ble_eq_true rfl) (Nat.le_of_ble_eq_true rfl)) rfl rfl (by decide) [] [] (wr := []) rfl rfl (by decide) (by decide) (by decide) ?_
            intro v9 w9 hp9
            obtain ⟨rfl, rfl⟩ := hp9
            show V K 6 [] 0 0 103 [(0, .int gr), (1, .int ot), (2, .int i2_6), (3, .int i3_2), (4, .int i4_5), (5, .int i5_7)] [.int r_11, .int 0]
            refine v_if_eq (tgt := 121) hk dX11_isAlike_103 (by decide) (fun hc => ?_) (fun hc => ?_)
            · replace h := it_t (g := (lpk (lp (b_X11_isAlike_50 gr ot i3_2 i4_5) nn))) h hc
              refine v_iconst (v := 0) hk dX11_isAlike_121 (by decide) ?_
              refine v_icmp_ne (tgt := 129) hk dX11_isAlike_122 (by decide) (fun hc => absurd hc (by decide)) (fun _ => ?_)
              refine v_iconst (v := 1) hk dX11_isAlike_125 (by decide) ?_
              refine v_goto (tgt := 130) hk dX11_isAlike_126 (by decide) ?_
              refine v_istore_n hk dX11_isAlike_130 rfl (by decide) [1, 2, 0, 3, 4, 5] (lv' := [(0, .int gr), (1, .int ot), (2, .int 1), (3, .int i3_2), (4, .int i4_5), (5, .int i5_7)]) rfl ?_
              obtain ⟨x5_12, ex5_12, h⟩ := lt_e (g := (lpk (lp (b_X11_isAlike_50 gr ot i3_2 i4_5) nn))) h
              refine v_iinc (v := x5_12) hk dX11_isAlike_131 rfl (by rw [ex5_12]; rfl) (by decide) [1, 2, 3, 4, 5, 0] (lv' := [(0, .int gr), (1, .int ot), (2, .int 1), (3, .int i3_2), (4, .int i4_5), (5, .int x5_12)]) rfl ?_
              refine v_goto (tgt := 50) hk dX11_isAlike_134 (by decide) ?_
              exact ih 1 x5_12 h
            · replace h := it_f (g := (lpk (lp (b_X11_isAlike_50 gr ot i3_2 i4_5) nn))) h hc
              refine v_iload_n hk dX11_isAlike_106 rfl ?_
              refine v_iload hk dX11_isAlike_107 rfl ?_
              refine v_iload hk dX11_isAlike_109 rfl ?_
              obtain ⟨r_13, er_13, h⟩ := bd_e (g := (lpk (lp (b_X11_isAlike_50 gr ot i3_2 i4_5) nn))) rfl h
              refine v_callS (n := 3) (st := [.int 0]) hk dX11_isAlike_111 (c_X11_has (kl K) (kG K) ot i4_5 i5_7 r_13 er_13) gX11_isAlike_X11_has rfl (by decide +kernel) (frok hR9 (Nat.le_of_ble_eq_true rfl) (Nat.le_of_ble_eq_true rfl)) (roomk hR9 (Nat.le_of_ble_eq_true rfl) (Nat.le_of_ble_eq_true rfl)) rfl rfl (by decide) [] [] (wr := []) rfl rfl (by decide) (by decide) (by decide) ?_
              intro v9 w9 hp9
              obtain ⟨rfl, rfl⟩ := hp9
              show V K 6 [] 0 0 114 [(0, .int gr), (1, .int ot), (2, .int i2_6), (3, .int i3_2), (4, .int i4_5), (5, .int i5_7)] [.int r_13, .int 0]
              obtain ⟨z_14, ez_14, h⟩ := lt_e (g := (lpk (lp (b_X11_isAlike_50 gr ot i3_2 i4_5) nn))) h
              have Jz_14 : V K 6 [] 0 0 122 [(0, .int gr), (1, .int ot), (2, .int i2_6), (3, .int i3_2), (4, .int i4_5), (5, .int i5_7)] (.int z_14 :: [.int 0]) := by
                obtain ⟨z_15, ez_15, h⟩ := lt_e (g := (lpk (lp (b_X11_isAlike_50 gr ot i3_2 i4_5) nn))) h
                have Jz_15 : V K 6 [] 0 0 130 [(0, .int gr), (1, .int ot), (2, .int i2_6), (3, .int i3_2), (4, .int i4_5), (5, .int i5_7)] (.int z_15 :: []) := by
                  refine v_istore_n hk dX11_isAlike_130 rfl (by decide) [1, 2, 0, 3, 4, 5] (lv' := [(0, .int gr), (1, .int ot), (2, .int z_15), (3, .int i3_2), (4, .int i4_5), (5, .int i5_7)]) rfl ?_
                  obtain ⟨x5_16, ex5_16, h⟩ := lt_e (g := (lpk (lp (b_X11_isAlike_50 gr ot i3_2 i4_5) nn))) h
                  refine v_iinc (v := x5_16) hk dX11_isAlike_131 rfl (by rw [ex5_16]; rfl) (by decide) [1, 2, 3, 4, 5, 0] (lv' := [(0, .int gr), (1, .int ot), (2, .int z_15), (3, .int i3_2), (4, .int i4_5), (5, .int x5_16)]) rfl ?_
                  refine v_goto (tgt := 50) hk dX11_isAlike_134 (by decide) ?_
                  exact ih z_15 x5_16 h
                refine v_icmp_ne (tgt := 129) hk dX11_isAlike_122 (by decide) (fun hc => ?_) (fun hc => ?_)
                · rw [if_neg hc] at ez_15
                  subst ez_15
                  refine v_iconst (v := 0) hk dX11_isAlike_129 (by decide) ?_
                  exact Jz_15
                · rw [if_pos hc] at ez_15
                  subst ez_15
                  refine v_iconst (v := 1) hk dX11_isAlike_125 (by decide) ?_
                  refine v_goto (tgt := 130) hk dX11_isAlike_126 (by decide) ?_
                  exact Jz_15
              refine v_if_eq (tgt := 121) hk dX11_isAlike_114 (by decide) (fun hc => ?_) (fun hc => ?_)
              · rw [if_pos hc] at ez_14
                subst ez_14
                refine v_iconst (v := 0) hk dX11_isAlike_121 (by decide) ?_
                exact Jz_14
              · rw [if_neg hc] at ez_14
                subst ez_14
                refine v_iconst (v := 1) hk dX11_isAlike_117 (by decide) ?_
                refine v_goto (tgt := 122) hk dX11_isAlike_118 (by decide) ?_
                exact Jz_14
          · replace h := it_f (g := (lpk (lp (b_X11_isAlike_50 gr ot i3_2 i4_5) nn))) h hc
            refine v_iload_n hk dX11_isAlike_80 rfl ?_
            refine v_iload hk dX11_isAlike_81 rfl ?_
            refine v_iload hk dX11_isAlike_83 rfl ?_
            obtain ⟨r_17, er_17, h⟩ := bd_e (g := (lpk (lp (b_X11_isAlike_50 gr ot i3_2 i4_5) nn))) rfl h
            refine v_callS (n := 3) (st := []) hk dX11_isAlike_85 (c_X11_has (kl K) (kG K) gr i4_5 i5_7 r_17 er_17) gX11_isAlike_X11_has rfl (by decide +kernel) (frok hR9 (Nat.le_of_ble_eq_true rfl) (Nat.le_of_ble_eq_true rfl)) (roomk hR9 (Nat.le_of_ble_eq_true rfl) (Nat.le_of_ble_eq_true rfl)) rfl rfl (by decide) [] [] (wr := []) rfl rfl (by decide) (by decide) (by decide) ?_
            intro v9 w9 hp9
            obtain ⟨rfl, rfl⟩ := hp9
            show V K 6 [] 0 0 88 [(0, .int gr), (1, .int ot), (2, .int i2_6), (3, .int i3_2), (4, .int i4_5), (5, .int i5_7)] [.int r_17]
            obtain ⟨z_18, ez_18, h⟩ := lt_e (g := (lpk (lp (b_X11_isAlike_50 gr ot i3_2 i4_5) nn))) h
            have Jz_18 : V K 6 [] 0 0 96 [(0, .int gr), (1, .int ot), (2, .int i2_6), (3, .int i3_2), (4, .int i4_5), (5, .int i5_7)] (.int z_18 :: []) := by
              refine v_iload_n hk dX11_isAlike_96 rfl ?_
              refine v_iload_n hk dX11_isAlike_97 rfl ?_
              refine v_iload hk dX11_isAlike_98 rfl ?_
              obtain ⟨r_19, er_19, h⟩ := bd_e (g := (lpk (lp (b_X11_isAlike_50 gr ot i3_2 i4_5) nn))) rfl h
              refine v_callS (n := 3) (st := [.int z_18]) hk dX11_isAlike_100 (c_X11_has (kl K) (kG K) ot i3_2 i5_7 r_19 er_19) gX11_isAlike_X11_has rfl (by decide +kernel) (frok hR9 (Nat.le_of_ble_eq_true rfl) (Nat.le_of_ble_eq_true rfl)) (roomk hR9 (Nat.le_of_ble_eq_true rfl) (Nat.le_of_ble_eq_true rfl)) rfl rfl (by decide) [] [] (wr := []) rfl rfl (by decide) (by decide) (by decide) ?_
              intro v9 w9 hp9
              obtain ⟨rfl, rfl⟩ := hp9
              show V K 6 [] 0 0 103 [(0, .int gr), (1, .int ot), (2, .int i2_6), (3, .int i3_2), (4, .int i4_5), (5, .int i5_7)] [.int r_19, .int z_18]
              refine v_if_eq (tgt := 121) hk dX11_isAlike_103 (by decide) (fun hc => ?_) (fun hc => ?_)
              · replace h := it_t (g := (lpk (lp (b_X11_isAlike_50 gr ot i3_2 i4_5) nn))) h hc
                refine v_iconst (v := 0) hk dX11_isAlike_121 (by decide) ?_
                obtain ⟨z_20, ez_20, h⟩ := lt_e (g := (lpk (lp (b_X11_isAlike_50 gr ot i3_2 i4_5) nn))) h
                have Jz_20 : V K 6 [] 0 0 130 [(0, .int gr), (1, .int ot), (2, .int i2_6), (3, .int i3_2), (4, .int i4_5), (5, .int i5_7)] (.int z_20 :: []) := by
                  refine v_istore_n hk dX11_isAlike_130 rfl (by decide) [1, 2, 0, 3, 4, 5] (lv' := [(0, .int gr), (1, .int ot), (2, .int z_20), (3, .int i3_2), (4, .int i4_5), (5, .int i5_7)]) rfl ?_
                  obtain ⟨x5_21, ex5_21, h⟩ := lt_e (g := (lpk (lp (b_X11_isAlike_50 gr ot i3_2 i4_5) nn))) h
                  refine v_iinc (v := x5_21) hk dX11_isAlike_131 rfl (by rw [ex5_21]; rfl) (by decide) [1, 2, 3, 4, 5, 0] (lv' := [(0, .int gr), (1, .int ot), (2, .int z_20), (3, .int i3_2), (4, .int i4_5), (5, .int x5_21)]) rfl ?_
                  refine v_goto (tgt := 50) hk dX11_isAlike_134 (by decide) ?_
                  exact ih z_20 x5_21 h
                refine v_icmp_ne (tgt := 129) hk dX11_isAlike_122 (by decide) (fun hc => ?_) (fun hc => ?_)
                · rw [if_neg hc] at ez_20
                  subst ez_20
                  refine v_iconst (v := 0) hk dX11_isAlike_129 (by decide) ?_
                  exact Jz_20
                · rw [if_pos hc] at ez_20
                  subst ez_20
                  refine v_iconst (v := 1) hk dX11_isAlike_125 (by decide) ?_
                  refine v_goto (tgt := 130) hk dX11_isAlike_126 (by decide) ?_
                  exact Jz_20
              · replace h := it_f (g := (lpk (lp (b_X11_isAlike_50 gr ot i3_2 i4_5) nn))) h hc
                refine v_iload_n hk dX11_isAlike_106 rfl ?_
                refine v_iload hk dX11_isAlike_107 rfl ?_
                refine v_iload hk dX11_isAlike_109 rfl ?_
                obtain ⟨r_22, er_22, h⟩ := bd_e (g := (lpk (lp (b_X11_isAlike_50 gr ot i3_2 i4_5) nn))) rfl h
                refine v_callS (n := 3) (st := [.int z_18]) hk dX11_isAlike_111 (c_X11_has (kl K) (kG K) ot i4_5 i5_7 r_22 er_22) gX11_isAlike_X11_has rfl (by decide +kernel) (frok hR9 (Nat.le_of_ble_eq_true rfl) (Nat.le_of_ble_eq_true rfl)) (roomk hR9 (Nat.le_of_ble_eq_true rfl) (Nat.le_of_ble_eq_true rfl)) rfl rfl (by decide) [] [] (wr := []) rfl rfl (by decide) (by decide) (by decide) ?_
                intro v9 w9 hp9
                obtain ⟨rfl, rfl⟩ := hp9
                show V K 6 [] 0 0 114 [(0, .int gr), (1, .int ot), (2, .int i2_6), (3, .int i3_2), (4, .int i4_5), (5, .int i5_7)] [.int r_22, .int z_18]
                obtain ⟨z_23, ez_23, h⟩ := lt_e (g := (lpk (lp (b_X11_isAlike_50 gr ot i3_2 i4_5) nn))) h
                have Jz_23 : V K 6 [] 0 0 122 [(0, .int gr), (1, .int ot), (2, .int i2_6), (3, .int i3_2), (4, .int i4_5), (5, .int i5_7)] (.int z_23 :: [.int z_18]) := by
                  obtain ⟨z_24, ez_24, h⟩ := lt_e (g := (lpk (lp (b_X11_isAlike_50 gr ot i3_2 i4_5) nn))) h
                  have Jz_24 : V K 6 [] 0 0 130 [(0, .int gr), (1, .int ot), (2, .int i2_6), (3, .int i3_2), (4, .int i4_5), (5, .int i5_7)] (.int z_24 :: []) := by
                    refine v_istore_n hk dX11_isAlike_130 rfl (by decide) [1, 2, 0, 3, 4, 5] (lv' := [(0, .int gr), (1, .int ot), (2, .int z_24), (3, .int i3_2), (4, .int i4_5), (5, .int i5_7)]) rfl ?_
                    obtain ⟨x5_25, ex5_25, h⟩ := lt_e (g := (lpk (lp (b_X11_isAlike_50 gr ot i3_2 i4_5) nn))) h
                    refine v_iinc (v := x5_25) hk dX11_isAlike_131 rfl (by rw [ex5_25]; rfl) (by decide) [1, 2, 3, 4, 5, 0] (lv' := [(0, .int gr), (1, .int ot), (2, .int z_24), (3, .int i3_2), (4, .int i4_5), (5, .int x5_25)]) rfl ?_
                    refine v_goto (tgt := 50) hk dX11_isAlike_134 (by decide) ?_
                    exact ih z_24 x5_25 h
                  refine v_icmp_ne (tgt := 129) hk dX11_isAlike_122 (by decide) (fun hc => ?_) (fun hc => ?_)
                  · rw [if_neg hc] at ez_24
                    subst ez_24
                    refine v_iconst (v := 0) hk dX11_isAlike_129 (by decide) ?_
                    exact Jz_24
                  · rw [if_pos hc] at ez_24
                    subst ez_24
                    refine v_iconst (v := 1) hk dX11_isAlike_125 (by decide) ?_
                    refine v_goto (tgt := 130) hk dX11_isAlike_126 (by decide) ?_
                    exact Jz_24
                refine v_if_eq (tgt := 121) hk dX11_isAlike_114 (by decide) (fun hc => ?_) (fun hc => ?_)
                · rw [if_pos hc] at ez_23
                  subst ez_23
                  refine v_iconst (v := 0) hk dX11_isAlike_121 (by decide) ?_
                  exact Jz_23
                · rw [if_neg hc] at ez_23
                  subst ez_23
                  refine v_iconst (v := 1) hk dX11_isAlike_117 (by decide) ?_
                  refine v_goto (tgt := 122) hk dX11_isAlike_118 (by decide) ?_
                  exact Jz_23
            refine v_if_eq (tgt := 95) hk dX11_isAlike_88 (by decide) (fun hc => ?_) (fun hc => ?_)
            · rw [if_pos hc] at ez_18
              subst ez_18
              refine v_iconst (v := 0) hk dX11_isAlike_95 (by decide) ?_
              exact Jz_18
            · rw [if_neg hc] at ez_18
              subst ez_18
              refine v_iconst (v := 1) hk dX11_isAlike_91 (by decide) ?_
              refine v_goto (tgt := 96) hk dX11_isAlike_92 (by decide) ?_
              exact Jz_18
def b_X11_isAlike_14 (gr : Int32) (ot : Int32) (i3_2 : Int32) : (Int32 × Int32) → Option ((Int32 × Int32) ⊕ ((Int32 × Int32)))
  | (i2_4, i4_5) => if (5 : Int32) ≤ i4_5 then some (.inr (i2_4, i4_5)) else if i2_4 = 0 then (lp (b_X11_isAlike_50 gr ot i3_2 i4_5) FU (0, 0)).bind (fun q_26 : Int32 × Int32 => lt (i4_5 + 1 : Int32) (fun x4_27 : Int32 => some (.inl (q_26.1, x4_27)))) else (m_X11_touch gr i3_2 i4_5).bind (fun r_29 : Int32 => (m_X11_touch ot i3_2 i4_5).bind (fun r_30 : Int32 => lt (if r_29 = r_30 then 1 else 0 : Int32) (fun z_31 : Int32 => (lp (b_X11_isAlike_50 gr ot i3_2 i4_5) FU (z_31, 0)).bind (fun q_32 : Int32 × Int32 => lt (i4_5 + 1 : Int32) (fun x4_33 : Int32 => some (.inl (q_32.1, x4_33)))))))
theorem eb_X11_isAlike_14 (gr : Int32) (ot : Int32) (i3_2 : Int32) (i2_4 : Int32) (i4_5 : Int32) : b_X11_isAlike_14 gr ot i3_2 (i2_4, i4_5) = if (5 : Int32) ≤ i4_5 then some (.inr (i2_4, i4_5)) else if i2_4 = 0 then (lp (b_X11_isAlike_50 gr ot i3_2 i4_5) FU (0, 0)).bind (fun q_26 : Int32 × Int32 => lt (i4_5 + 1 : Int32) (fun x4_27 : Int32 => some (.inl (q_26.1, x4_27)))) else (m_X11_touch gr i3_2 i4_5).bind (fun r_29 : Int32 => (m_X11_touch ot i3_2 i4_5).bind (fun r_30 : Int32 => lt (if r_29 = r_30 then 1 else 0 : Int32) (fun z_31 : Int32 => (lp (b_X11_isAlike_50 gr ot i3_2 i4_5) FU (z_31, 0)).bind (fun q_32 : Int32 × Int32 => lt (i4_5 + 1 : Int32) (fun x4_33 : Int32 => some (.inl (q_32.1, x4_33))))))) := rfl
set_option maxHeartbeats 4000000 in
set_option maxRecDepth 100000 in
theorem L_X11_isAlike_14 {K : Cx} {R9 : Room} (hk : Ok K cX11_isAlike 6 RX11 wsX11_isAlike R9) (hR9 : RoomGe R9 rm_X11_isAlike) (gr : Int32) (ot : Int32) (i3_2 : Int32) (b9 : (Int32 × Int32)) (kk0 : ∀ q9 : (Int32 × Int32), b9 = q9 → V K 6 [] 0 0 143 [(0, .int gr), (1, .int ot), (2, .int q9.1), (3, .int i3_2), (4, .int q9.2)] []) : ∀ (nn : Nat) (i2_4 : Int32) (i4_5 : Int32), lp (b_X11_isAlike_14 gr ot i3_2) nn (i2_4, i4_5) = some b9 → V K 6 [] 0 0 14 [(0, .int gr), (1, .int ot), (2, .int i2_4), (3, .int i3_2), (4, .int i4_5)] [] := by
  intro nn
  induction nn with
  | zero => intro i2_4 i4_5 h; exact absurd h (by simp [lp])
  | succ nn ih =>
    intro i2_4 i4_5 h
    replace h : lpk (lp (b_X11_isAlike_14 gr ot i3_2) nn) (b_X11_isAlike_14 gr ot i3_2 (i2_4, i4_5)) = some b9 := h
    rw [eb_X11_isAlike_14] at h
    refine v_iload hk dX11_isAlike_14 rfl ?_
    refine v_iconst (v := 5) hk dX11_isAlike_16 (by decide) ?_
    refine v_icmp_ge (tgt := 143) hk dX11_isAlike_17 (by decide) (fun hc => ?_) (fun hc => ?_)
    · replace h := it_t (g := (lpk (lp (b_X11_isAlike_14 gr ot i3_2) nn))) h hc
      replace h : some (i2_4, i4_5) = some b9 := h
      replace h := Option.some.inj h
      subst h
      exact kk0 _ rfl
    · replace h := it_f (g := (lpk (lp (b_X11_isAlike_14 gr ot i3_2) nn))) h hc
      refine v_iload_n hk dX11_isAlike_20 rfl ?_
      refine v_if_eq (tgt := 45) hk dX11_isAlike_21 (by decide) (fun hc => ?_) (fun hc => ?_)
      · replace h := it_t (g := (lpk (lp (b_X11_isAlike_14 gr ot i3_2) nn))) h hc
        refine v_iconst (v := 0) hk dX11_isAlike_45 (by decide) ?_
        refine v_istore_n hk dX11_isAlike_46 rfl (by decide) [1, 2, 0, 3, 4] (lv' := [(0, .int gr), (1, .int ot), (2, .int 0), (3, .int i3_2), (4, .int i4_5)]) rfl ?_
        refine v_iconst (v := 0) hk dX11_isAlike_47 (by decide) ?_
        refine v_istore hk dX11_isAlike_48 (by decide) [1, 2, 3, 4, 5, 0] (lv' := [(0, .int gr), (1, .int ot), (2, .int 0), (3, .int i3_2), (4, .int i4_5), (5, .int 0)]) rfl ?_
        obtain ⟨b_28, eb_28, h⟩ := bd_e (g := (lpk (lp (b_X11_isAlike_14 gr ot i3_2) nn))) rfl h
        refine L_X11_isAlike_50 hk hR9 gr ot i3_2 i4_5 b_28 (fun q_26 eq_26 => ?_) FU 0 0 eb_28
        · replace eq_26 := eq_26.symm
          subst eq_26
          obtain ⟨x4_27, ex4_27, h⟩ := lt_e (g := (lpk (lp (b_X11_isAlike_14 gr ot i3_2) nn))) h
          refine v_iinc (v := x4_27) hk dX11_isAlike_137 rfl (by rw [ex4_27]; rfl) (by decide) [1, 2, 3, 4, 0, 5] (lv' := [(0, .int gr), (1, .int ot), (2, .int q_26.1), (3, .int i3_2), (4, .int x4_27), (5, .int q_26.2)]) rfl ?_
          refine v_goto (tgt := 14) hk dX11_isAlike_140 (by decide) ?_
          refine v_loc [0, 1, 2, 3, 4] (lv' := [(0, .int gr), (1, .int ot), (2, .int q_26.1), (3, .int i3_2), (4, .int x4_27)]) rfl ?_
          exact ih q_26.1 x4_27 h
      · replace h := it_f (g := (lpk (lp (b_X11_isAlike_14 gr ot i3_2) nn))) h hc
        refine v_iload_n hk dX11_isAlike_24 rfl ?_
        refine v_iload_n hk dX11_isAlike_25 rfl ?_
        refine v_iload hk dX11_isAlike_26 rfl ?_
        obtain ⟨r_29, er_29, h⟩ := bd_e (g := (lpk (lp (b_X11_isAlike_14 gr ot i3_2) nn))) rfl h
        refine v_callS (n := 3) (st := []) hk dX11_isAlike_28 (c_X11_touch (kl K) (kG K) gr i3_2 i4_5 r_29 er_29) gX11_isAlike_X11_touch rfl (by decide +kernel) (frok hR9 (Nat.le_of_ble_eq_true rfl) (Nat.le_of_ble_eq_true rfl)) (roomk hR9 (Nat.le_of_ble_eq_true rfl) (Nat.le_of_ble_eq_true rfl)) rfl rfl (by decide) [] [] (wr := []) rfl rfl (by decide) (by decide) (by decide) ?_
        intro v9 w9 hp9
        obtain ⟨rfl, rfl⟩ := hp9
        show V K 6 [] 0 0 31 [(0, .int gr), (1, .int ot), (2, .int i2_4), (3, .int i3_2), (4, .int i4_5)] [.int r_29]
        refine v_iload_n hk dX11_isAlike_31 rfl ?_
        refine v_iload_n hk dX11_isAlike_32 rfl ?_
        refine v_iload hk dX11_isAlike_33 rfl ?_
        obtain ⟨r_30, er_30, h⟩ := bd_e (g := (lpk (lp (b_X11_isAlike_14 gr ot i3_2) nn))) rfl h
        refine v_callS (n := 3) (st := [.int r_29]) hk dX11_isAlike_35 (c_X11_touch (kl K) (kG K) ot i3_2 i4_5 r_30 er_30) gX11_isAlike_X11_touch rfl (by decide +kernel) (frok hR9 (Nat.le_of_ble_eq_true rfl) (Nat.le_of_ble_eq_true rfl)) (roomk hR9 (Nat.le_of_ble_eq_true rfl) (Nat.le_of_ble_eq_true rfl)) rfl rfl (by decide) [] [] (wr := []) rfl rfl (by decide) (by decide) (by decide) ?_
        intro v9 w9 hp9
        obtain ⟨rfl, rfl⟩ := hp9
        show V K 6 [] 0 0 38 [(0, .int gr), (1, .int ot), (2, .int i2_4), (3, .int i3_2), (4, .int i4_5)] [.int r_30, .int r_29]
        obtain ⟨z_31, ez_31, h⟩ := lt_e (g := (lpk (lp (b_X11_isAlike_14 gr ot i3_2) nn))) h
        have Jz_31 : V K 6 [] 0 0 46 [(0, .int gr), (1, .int ot), (2, .int i2_4), (3, .int i3_2), (4, .int i4_5)] (.int z_31 :: []) := by
          refine v_istore_n hk dX11_isAlike_46 rfl (by decide) [1, 2, 0, 3, 4] (lv' := [(0, .int gr), (1, .int ot), (2, .int z_31), (3, .int i3_2), (4, .int i4_5)]) rfl ?_
          refine v_iconst (v := 0) hk dX11_isAlike_47 (by decide) ?_
          refine v_istore hk dX11_isAlike_48 (by decide) [1, 2, 3, 4, 5, 0] (lv' := [(0, .int gr), (1, .int ot), (2, .int z_31), (3, .int i3_2), (4, .int i4_5), (5, .int 0)]) rfl ?_
          obtain ⟨b_34, eb_34, h⟩ := bd_e (g := (lpk (lp (b_X11_isAlike_14 gr ot i3_2) nn))) rfl h
          refine L_X11_isAlike_50 hk hR9 gr ot i3_2 i4_5 b_34 (fun q_32 eq_32 => ?_) FU z_31 0 eb_34
          · replace eq_32 := eq_32.symm
            subst eq_32
            obtain ⟨x4_33, ex4_33, h⟩ := lt_e (g := (lpk (lp (b_X11_isAlike_14 gr ot i3_2) nn))) h
            refine v_iinc (v := x4_33) hk dX11_isAlike_137 rfl (by rw [ex4_33]; rfl) (by decide) [1, 2, 3, 4, 0, 5] (lv' := [(0, .int gr), (1, .int ot), (2, .int q_32.1), (3, .int i3_2), (4, .int x4_33), (5, .int q_32.2)]) rfl ?_
            refine v_goto (tgt := 14) hk dX11_isAlike_140 (by decide) ?_
            refine v_loc [0, 1, 2, 3, 4] (lv' := [(0, .int gr), (1, .int ot), (2, .int q_32.1), (3, .int i3_2), (4, .int x4_33)]) rfl ?_
            exact ih q_32.1 x4_33 h
        refine v_icmp_ne (tgt := 45) hk dX11_isAlike_38 (by decide) (fun hc => ?_) (fun hc => ?_)
        · rw [if_neg hc] at ez_31
          subst ez_31
          refine v_iconst (v := 0) hk dX11_isAlike_45 (by decide) ?_
          exact Jz_31
        · rw [if_pos hc] at ez_31
          subst ez_31
          refine v_iconst (v := 1) hk dX11_isAlike_41 (by decide) ?_
          refine v_goto (tgt := 46) hk dX11_isAlike_42 (by decide) ?_
          exact Jz_31
def b_X11_isAlike_4 (gr : Int32) (ot : Int32) : (Int32 × Int32) → Option ((Int32 × Int32) ⊕ ((Int32 × Int32)))
  | (i2_1, i3_2) => if (5 : Int32) ≤ i3_2 then some (.inr (i2_1, i3_2)) else lt (i3_2 + 1 : Int32) (fun x4_3 : Int32 => (lp (b_X11_isAlike_14 gr ot i3_2) FU (i2_1, x4_3)).bind (fun q_35 : Int32 × Int32 => lt (i3_2 + 1 : Int32) (fun x3_36 : Int32 => some (.inl (q_35.1, x3_36)))))
theorem eb_X11_isAlike_4 (gr : Int32) (ot : Int32) (i2_1 : Int32) (i3_2 : Int32) : b_X11_isAlike_4 gr ot (i2_1, i3_2) = if (5 : Int32) ≤ i3_2 then some (.inr (i2_1, i3_2)) else lt (i3_2 + 1 : Int32) (fun x4_3 : Int32 => (lp (b_X11_isAlike_14 gr ot i3_2) FU (i2_1, x4_3)).bind (fun q_35 : Int32 × Int32 => lt (i3_2 + 1 : Int32) (fun x3_36 : Int32 => some (.inl (q_35.1, x3_36))))) := rfl
set_option maxHeartbeats 4000000 in
set_option maxRecDepth 100000 in
theorem L_X11_isAlike_4 {K : Cx} {R9 : Room} (hk : Ok K cX11_isAlike 6 RX11 wsX11_isAlike R9) (hR9 : RoomGe R9 rm_X11_isAlike) (gr : Int32) (ot : Int32) (b9 : (Int32 × Int32)) (kk0 : ∀ q9 : (Int32 × Int32), b9 = q9 → V K 6 [] 0 0 149 [(0, .int gr), (1, .int ot), (2, .int q9.1), (3, .int q9.2)] []) : ∀ (nn : Nat) (i2_1 : Int32) (i3_2 : Int32), lp (b_X11_isAlike_4 gr ot) nn (i2_1, i3_2) = some b9 → V K 6 [] 0 0 4 [(0, .int gr), (1, .int ot), (2, .int i2_1), (3, .int i3_2)] [] := by
  intro nn
  induction nn with
  | zero => intro i2_1 i3_2 h; exact absurd h (by simp [lp])
  | succ nn ih =>
    intro i2_1 i3_2 h
    replace h : lpk (lp (b_X11_isAlike_4 gr ot) nn) (b_X11_isAlike_4 gr ot (i2_1, i3_2)) = some b9 := h
    rw [eb_X11_isAlike_4] at h
    refine v_iload_n hk dX11_isAlike_4 rfl ?_
    refine v_iconst (v := 5) hk dX11_isAlike_5 (by decide) ?_
    refine v_icmp_ge (tgt := 149) hk dX11_isAlike_6 (by decide) (fun hc => ?_) (fun hc => ?_)
    · replace h := it_t (g := (lpk (lp (b_X11_isAlike_4 gr ot) nn))) h hc
      replace h : some (i2_1, i3_2) = some b9 := h
      replace h := Option.some.inj h
      subst h
      exact kk0 _ rfl
    · replace h := it_f (g := (lpk (lp (b_X11_isAlike_4 gr ot) nn))) h hc
      refine v_iload_n hk dX11_isAlike_9 rfl ?_
      refine v_iconst (v := 1) hk dX11_isAlike_10 (by decide) ?_
      refine v_iadd hk dX11_isAlike_11 ?_
      obtain ⟨x4_3, ex4_3, h⟩ := lt_e (g := (lpk (lp (b_X11_isAlike_4 gr ot) nn))) h
      refine v_topi ex4_3.symm ?_
      refine v_istore hk dX11_isAlike_12 (by decide) [1, 2, 3, 4, 0] (lv' := [(0, .int gr), (1, .int ot), (2, .int i2_1), (3, .int i3_2), (4, .int x4_3)]) rfl ?_
      obtain ⟨b_37, eb_37, h⟩ := bd_e (g := (lpk (lp (b_X11_isAlike_4 gr ot) nn))) rfl h
      refine L_X11_isAlike_14 hk hR9 gr ot i3_2 b_37 (fun q_35 eq_35 => ?_) FU i2_1 x4_3 eb_37
      · replace eq_35 := eq_35.symm
        subst eq_35
        obtain ⟨x3_36, ex3_36, h⟩ := lt_e (g := (lpk (lp (b_X11_isAlike_4 gr ot) nn))) h
        refine v_iinc (v := x3_36) hk dX11_isAlike_143 rfl (by rw [ex3_36]; rfl) (by decide) [1, 2, 3, 0, 4] (lv' := [(0, .int gr), (1, .int ot), (2, .int q_35.1), (3, .int x3_36), (4, .int q_35.2)]) rfl ?_
        refine v_goto (tgt := 4) hk dX11_isAlike_146 (by decide) ?_
        refine v_loc [0, 1, 2, 3] (lv' := [(0, .int gr), (1, .int ot), (2, .int q_35.1), (3, .int x3_36)]) rfl ?_
        exact ih q_35.1 x3_36 h
def m_X11_isAlike (gr : Int32) (ot : Int32) : Option Int32 := (lp (b_X11_isAlike_4 gr ot) FU (1, 0)).bind (fun q_38 : Int32 × Int32 => if bz q_38.1 = true then some q_38.1 else none)
set_option maxHeartbeats 4000000 in
set_option maxRecDepth 100000 in
theorem c_X11_isAlike (l : Launch) (G : GG) (gr : Int32) (ot : Int32) (r : Int32) (h : m_X11_isAlike gr ot = some r) : Ctr l G yX11_isAlike wsX11_isAlike rm_X11_isAlike [.int gr, .int ot] [] (fun v w => v = some (.int r) ∧ w = []) := by
  refine ctr_entry (cc := cX11_isAlike) (maxL := 6) (ret := some .boolean) (by decide) rfl (Nat.le_of_ble_eq_true rfl) ?_
  intro K hl9 hG9 hk hn9 hrt
  subst hl9
  subst hG9
  have hR9 : RoomGe rm_X11_isAlike rm_X11_isAlike := RoomGe.rf
  show V K 6 [] 0 0 0 [(0, .int gr), (1, .int ot)] []
  replace h : id (m_X11_isAlike gr ot) = some r := h
  unfold m_X11_isAlike at h
  refine v_iconst (v := 1) hk dX11_isAlike_0 (by decide) ?_
  refine v_istore_n hk dX11_isAlike_1 rfl (by decide) [1, 2, 0] (lv' := [(0, .int gr), (1, .int ot), (2, .int 1)]) rfl ?_
  refine v_iconst (v := 0) hk dX11_isAlike_2 (by decide) ?_
  refine v_istore_n hk dX11_isAlike_3 rfl (by decide) [1, 2, 3, 0] (lv' := [(0, .int gr), (1, .int ot), (2, .int 1), (3, .int 0)]) rfl ?_
  obtain ⟨b_39, eb_39, h⟩ := bd_e (g := id) rfl h
  refine L_X11_isAlike_4 hk hR9 gr ot b_39 (fun q_38 eq_38 => ?_) FU 1 0 eb_39
  · replace eq_38 := eq_38.symm
    subst eq_38
    refine v_iload_n hk dX11_isAlike_149 rfl ?_
    obtain ⟨hbz, h⟩ := ok_e (g := id) rfl h
    replace h : some q_38.1 = some r := h
    replace h := Option.some.inj h
    subst h
    refine hrt (some (.int q_38.1)) _ _ _ _ _ (⟨rfl, rfl⟩) (Nat.zero_le _) (Nat.zero_le _) (⟨dX11_isAlike_150, nar_z _ (of_decide_eq_true hbz)⟩)
end
