/-! ===== BEGIN words of one list among another's, by their places ===== -/
theorem goodIn_r {big : List Cond} (ws : List Cond) (ps : List Nat) (hp : ws = ps.filterMap (fun i => big[i]?)) (h : ws.all goodWord = true) : GoodIn big ws := by
  intro w hw
  have h1 := List.all_eq_true.mp h w hw
  rw [hp] at hw
  obtain ⟨i, -, hi⟩ := List.mem_filterMap.mp hw
  have hm : w ∈ big := by first | exact List.mem_of_getElem? hi | exact List.getElem?_mem hi
  exact ⟨hm, good_of_word h1⟩
theorem goodIn_app {big a b : List Cond} (ha : GoodIn big a) (hb : GoodIn big b) : GoodIn big (a ++ b) := fun w h => (List.mem_append.mp h).elim (ha w) (hb w)
theorem goodIn_ca {big a b : List Cond} {c : Cond} (ha : GoodIn big (c :: a)) (hb : GoodIn big b) : GoodIn big (c :: (a ++ b)) := fun w h => (List.mem_cons.mp h).elim (fun e => ha w (List.mem_cons.mpr (Or.inl e))) (fun h => (List.mem_append.mp h).elim (fun h => ha w (List.mem_cons.mpr (Or.inr h))) (hb w))
theorem goodIn_sub {big ws : List Cond} (hm : ∀ w ∈ ws, w ∈ big) (h : ws.all goodWord = true) : GoodIn big ws := fun w hw => ⟨hm w hw, good_of_word (List.all_eq_true.mp h w hw)⟩
/-! ===== END ===== -/

/-! ===== BEGIN printed: names, fields, word lists, decode rows ===== -/
def RX0 : String := "StructureSearch$Arcs"
def TX0 : u_T := fun k => match k with
  | _ => ("", "", "", false)
def tyX0 : Nat → FieldType := fun k => match k with
  | _ => .int
abbrev wsX00 : List Cond := u_ws RX0 TX0 0
theorem nmX0 : ∀ a, a < 0 → ∀ b, b < 0 → a ≠ b → (TX0 a).2.1 ≠ (TX0 b).2.1 := by decide +kernel
theorem tyX0_ok : ∀ k, k < 0 → parseFieldDescriptor (TX0 k).2.2.1 = some (tyX0 k) := by decide +kernel
abbrev cX0_isIn : ByteArray := prog_2_method_2_code
def yX0_isIn : MethodName := ⟨RX0, "isIn", "(II)Z"⟩
abbrev cX0_arc : ByteArray := prog_2_method_3_code
def yX0_arc : MethodName := ⟨RX0, "arc", "(II)I"⟩
abbrev cX0_has : ByteArray := prog_2_method_4_code
def yX0_has : MethodName := ⟨RX0, "has", "(III)Z"⟩
abbrev cX0_parentsIn : ByteArray := prog_2_method_5_code
def yX0_parentsIn : MethodName := ⟨RX0, "parentsIn", "(II)I"⟩
abbrev cX0_fromAll : ByteArray := prog_2_method_6_code
def yX0_fromAll : MethodName := ⟨RX0, "fromAll", "(II)I"⟩
abbrev cX0_areGraph : ByteArray := prog_2_method_7_code
def yX0_areGraph : MethodName := ⟨RX0, "areGraph", "(II)Z"⟩
abbrev cX0_haveNoRound : ByteArray := prog_2_method_8_code
def yX0_haveNoRound : MethodName := ⟨RX0, "haveNoRound", "(II)Z"⟩
abbrev cX0_nextAfter : ByteArray := prog_2_method_9_code
def yX0_nextAfter : MethodName := ⟨RX0, "nextAfter", "(III)I"⟩
abbrev cX0_areBounded : ByteArray := prog_2_method_10_code
def yX0_areBounded : MethodName := ⟨RX0, "areBounded", "(II)Z"⟩
def RX1 : String := "StructureSearch$Big"
def TX1 : u_T := fun k => match k with
  | 0 => ("StructureSearch$Big", "words", "[J", true)
  | _ => ("StructureSearch$Big", "used", "I", false)
def tyX1 : Nat → FieldType := fun k => match k with
  | 0 => .array .long
  | _ => .int
abbrev wsX10 : List Cond := u_ws RX1 TX1 2
theorem nmX1 : ∀ a, a < 2 → ∀ b, b < 2 → a ≠ b → (TX1 a).2.1 ≠ (TX1 b).2.1 := by decide +kernel
theorem tyX1_ok : ∀ k, k < 2 → parseFieldDescriptor (TX1 k).2.2.1 = some (tyX1 k) := by decide +kernel
abbrev cX1_init : ByteArray := prog_3_method_1_code
def yX1_init : MethodName := ⟨RX1, "<init>", "(I)V"⟩
abbrev cX1_length : ByteArray := prog_3_method_2_code
def yX1_length : MethodName := ⟨RX1, "length", "()I"⟩
abbrev cX1_at : ByteArray := prog_3_method_3_code
def yX1_at : MethodName := ⟨RX1, "at", "(I)J"⟩
abbrev cX1_become : ByteArray := prog_3_method_4_code
def yX1_become : MethodName := ⟨RX1, "become", "(I)V"⟩
abbrev cX1_copy : ByteArray := prog_3_method_5_code
def yX1_copy : MethodName := ⟨RX1, "copy", "(LStructureSearch$Big;)V"⟩
abbrev cX1_against : ByteArray := prog_3_method_6_code
def yX1_against : MethodName := ⟨RX1, "against", "(LStructureSearch$Big;)I"⟩
abbrev cX1_timesSmall : ByteArray := prog_3_method_7_code
def yX1_timesSmall : MethodName := ⟨RX1, "timesSmall", "(J)V"⟩
abbrev cX1_times : ByteArray := prog_3_method_8_code
def yX1_times : MethodName := ⟨RX1, "times", "(LStructureSearch$Big;)V"⟩
abbrev cX1_plus : ByteArray := prog_3_method_9_code
def yX1_plus : MethodName := ⟨RX1, "plus", "(LStructureSearch$Big;)V"⟩
abbrev cX1_minus : ByteArray := prog_3_method_10_code
def yX1_minus : MethodName := ⟨RX1, "minus", "(LStructureSearch$Big;)V"⟩
abbrev cX1_reduceBy : ByteArray := prog_3_method_11_code
def yX1_reduceBy : MethodName := ⟨RX1, "reduceBy", "(LStructureSearch$Big;LStructureSearch$Big;)V"⟩
abbrev cX1_commonDivisor : ByteArray := prog_3_method_12_code
def yX1_commonDivisor : MethodName := ⟨RX1, "commonDivisor", "(LStructureSearch$Big;LStructureSearch$Big;)LStructureSearch$Big;"⟩
abbrev cX1_bits : ByteArray := prog_3_method_13_code
def yX1_bits : MethodName := ⟨RX1, "bits", "()I"⟩
abbrev cX1_from : ByteArray := prog_3_method_14_code
def yX1_from : MethodName := ⟨RX1, "from", "(I)J"⟩
abbrev cX1_addDigit : ByteArray := prog_3_method_15_code
def yX1_addDigit : MethodName := ⟨RX1, "addDigit", "(JI)V"⟩
abbrev cX1_addMultiple : ByteArray := prog_3_method_16_code
def yX1_addMultiple : MethodName := ⟨RX1, "addMultiple", "(JLStructureSearch$Big;I)V"⟩
abbrev cX1_subtractMultiple : ByteArray := prog_3_method_17_code
def yX1_subtractMultiple : MethodName := ⟨RX1, "subtractMultiple", "(JLStructureSearch$Big;I)V"⟩
abbrev cX1_widen : ByteArray := prog_3_method_18_code
def yX1_widen : MethodName := ⟨RX1, "widen", "(I)V"⟩
abbrev cX1_trim : ByteArray := prog_3_method_19_code
def yX1_trim : MethodName := ⟨RX1, "trim", "()V"⟩
def RX2 : String := "StructureSearch$Fits"
def TX2 : u_T := fun k => match k with
  | 0 => ("StructureSearch$Fits", "sheet", "LStructureSearch$Sheet;", true)
  | 1 => ("StructureSearch$Fits", "powers", "LStructureSearch$Powers;", true)
  | 2 => ("StructureSearch$Fits", "ofNames", "[LStructureSearch$Fraction;", true)
  | 3 => ("StructureSearch$Fits", "ofNothing", "LStructureSearch$Fraction;", true)
  | 4 => ("StructureSearch$Fits", "whole", "LStructureSearch$Fraction;", true)
  | 5 => ("StructureSearch$Fits", "wholeGraph", "I", false)
  | 6 => ("StructureSearch$Fits", "left", "LStructureSearch$Big;", true)
  | _ => ("StructureSearch$Fits", "right", "LStructureSearch$Big;", true)
def tyX2 : Nat → FieldType := fun k => match k with
  | 0 => .object "StructureSearch$Sheet"
  | 1 => .object "StructureSearch$Powers"
  | 2 => .array (.object "StructureSearch$Fraction")
  | 3 => .object "StructureSearch$Fraction"
  | 4 => .object "StructureSearch$Fraction"
  | 5 => .int
  | 6 => .object "StructureSearch$Big"
  | _ => .object "StructureSearch$Big"
abbrev wsX20 : List Cond := u_ws RX2 TX2 8
theorem nmX2 : ∀ a, a < 8 → ∀ b, b < 8 → a ≠ b → (TX2 a).2.1 ≠ (TX2 b).2.1 := by decide +kernel
theorem tyX2_ok : ∀ k, k < 8 → parseFieldDescriptor (TX2 k).2.2.1 = some (tyX2 k) := by decide +kernel
abbrev cX2_init : ByteArray := prog_4_method_1_code
def yX2_init : MethodName := ⟨RX2, "<init>", "(LStructureSearch$Sheet;LStructureSearch$Powers;)V"⟩
abbrev cX2_forget : ByteArray := prog_4_method_2_code
def yX2_forget : MethodName := ⟨RX2, "forget", "()V"⟩
abbrev cX2_ofGraph : ByteArray := prog_4_method_3_code
def yX2_ofGraph : MethodName := ⟨RX2, "ofGraph", "(I)LStructureSearch$Fraction;"⟩
abbrev cX2_weigh : ByteArray := prog_4_method_4_code
def yX2_weigh : MethodName := ⟨RX2, "weigh", "(II)I"⟩
abbrev cX2_ofName : ByteArray := prog_4_method_5_code
def yX2_ofName : MethodName := ⟨RX2, "ofName", "(II)LStructureSearch$Fraction;"⟩
def RX3 : String := "StructureSearch$Fraction"
def TX3 : u_T := fun k => match k with
  | 0 => ("StructureSearch$Fraction", "above", "LStructureSearch$Big;", true)
  | 1 => ("StructureSearch$Fraction", "below", "LStructureSearch$Big;", true)
  | _ => ("StructureSearch$Fraction", "ready", "Z", false)
def tyX3 : Nat → FieldType := fun k => match k with
  | 0 => .object "StructureSearch$Big"
  | 1 => .object "StructureSearch$Big"
  | _ => .boolean
abbrev wsX30 : List Cond := u_ws RX3 TX3 3
theorem nmX3 : ∀ a, a < 3 → ∀ b, b < 3 → a ≠ b → (TX3 a).2.1 ≠ (TX3 b).2.1 := by decide +kernel
theorem tyX3_ok : ∀ k, k < 3 → parseFieldDescriptor (TX3 k).2.2.1 = some (tyX3 k) := by decide +kernel
abbrev cX3_init : ByteArray := prog_5_method_1_code
def yX3_init : MethodName := ⟨RX3, "<init>", "(LStructureSearch$Big;LStructureSearch$Big;)V"⟩
abbrev cX3_side : ByteArray := prog_5_method_2_code
def yX3_side : MethodName := ⟨RX3, "side", "(I)LStructureSearch$Big;"⟩
def RX4 : String := "StructureSearch$Kin"
def TX4 : u_T := fun k => match k with
  | 0 => ("StructureSearch$Kin", "count", "I", false)
  | 1 => ("StructureSearch$Kin", "least", "I", false)
  | 2 => ("StructureSearch$Kin", "greatest", "I", false)
  | _ => ("StructureSearch$Kin", "common", "I", false)
def tyX4 : Nat → FieldType := fun k => match k with
  | 0 => .int
  | 1 => .int
  | 2 => .int
  | _ => .int
abbrev wsX40 : List Cond := u_ws RX4 TX4 4
theorem nmX4 : ∀ a, a < 4 → ∀ b, b < 4 → a ≠ b → (TX4 a).2.1 ≠ (TX4 b).2.1 := by decide +kernel
theorem tyX4_ok : ∀ k, k < 4 → parseFieldDescriptor (TX4 k).2.2.1 = some (tyX4 k) := by decide +kernel
abbrev cX4_init : ByteArray := prog_6_method_1_code
def yX4_init : MethodName := ⟨RX4, "<init>", "()V"⟩
abbrev cX4_ties : ByteArray := prog_6_method_2_code
def yX4_ties : MethodName := ⟨RX4, "ties", "(I)I"⟩
abbrev cX4_meetings : ByteArray := prog_6_method_3_code
def yX4_meetings : MethodName := ⟨RX4, "meetings", "(I)J"⟩
abbrev cX4_gather : ByteArray := prog_6_method_4_code
def yX4_gather : MethodName := ⟨RX4, "gather", "(II)V"⟩
abbrev cX4_add : ByteArray := prog_6_method_5_code
def yX4_add : MethodName := ⟨RX4, "add", "(I)V"⟩
abbrev cX4_directed : ByteArray := prog_6_method_6_code
def yX4_directed : MethodName := ⟨RX4, "directed", "(II)I"⟩
def RX5 : String := "StructureSearch$Powers"
def TX5 : u_T := fun k => match k with
  | 0 => ("StructureSearch$Powers", "power", "[I", true)
  | _ => ("StructureSearch$Powers", "largest", "I", false)
def tyX5 : Nat → FieldType := fun k => match k with
  | 0 => .array .int
  | _ => .int
abbrev wsX50 : List Cond := u_ws RX5 TX5 2
theorem nmX5 : ∀ a, a < 2 → ∀ b, b < 2 → a ≠ b → (TX5 a).2.1 ≠ (TX5 b).2.1 := by decide +kernel
theorem tyX5_ok : ∀ k, k < 2 → parseFieldDescriptor (TX5 k).2.2.1 = some (tyX5 k) := by decide +kernel
abbrev cX5_init : ByteArray := prog_7_method_1_code
def yX5_init : MethodName := ⟨RX5, "<init>", "()V"⟩
abbrev cX5_forget : ByteArray := prog_7_method_2_code
def yX5_forget : MethodName := ⟨RX5, "forget", "()V"⟩
abbrev cX5_multiply : ByteArray := prog_7_method_3_code
def yX5_multiply : MethodName := ⟨RX5, "multiply", "(II)V"⟩
abbrev cX5_write : ByteArray := prog_7_method_4_code
def yX5_write : MethodName := ⟨RX5, "write", "(ILStructureSearch$Big;)V"⟩
abbrev cX5_copy : ByteArray := prog_7_method_5_code
def yX5_copy : MethodName := ⟨RX5, "copy", "(LStructureSearch$Powers;)V"⟩
abbrev cX5_lowerTo : ByteArray := prog_7_method_6_code
def yX5_lowerTo : MethodName := ⟨RX5, "lowerTo", "(LStructureSearch$Powers;)V"⟩
abbrev cX5_divide : ByteArray := prog_7_method_7_code
def yX5_divide : MethodName := ⟨RX5, "divide", "(LStructureSearch$Powers;)V"⟩
def RX6 : String := "StructureSearch$Search"
def TX6 : u_T := fun k => match k with
  | 0 => ("StructureSearch$Search", "sheet", "LStructureSearch$Sheet;", true)
  | 1 => ("StructureSearch$Search", "fits", "LStructureSearch$Fits;", true)
  | _ => ("StructureSearch$Search", "bestOf", "[I", true)
def tyX6 : Nat → FieldType := fun k => match k with
  | 0 => .object "StructureSearch$Sheet"
  | 1 => .object "StructureSearch$Fits"
  | _ => .array .int
abbrev wsX60 : List Cond := u_ws RX6 TX6 3
theorem nmX6 : ∀ a, a < 3 → ∀ b, b < 3 → a ≠ b → (TX6 a).2.1 ≠ (TX6 b).2.1 := by decide +kernel
theorem tyX6_ok : ∀ k, k < 3 → parseFieldDescriptor (TX6 k).2.2.1 = some (tyX6 k) := by decide +kernel
abbrev cX6_init : ByteArray := prog_8_method_1_code
def yX6_init : MethodName := ⟨RX6, "<init>", "(LStructureSearch$Sheet;LStructureSearch$Fits;)V"⟩
abbrev cX6_bestParents : ByteArray := prog_8_method_2_code
def yX6_bestParents : MethodName := ⟨RX6, "bestParents", "(II)I"⟩
abbrev cX6_bestGraph : ByteArray := prog_8_method_3_code
def yX6_bestGraph : MethodName := ⟨RX6, "bestGraph", "()I"⟩
abbrev cX6_climbFrom : ByteArray := prog_8_method_4_code
def yX6_climbFrom : MethodName := ⟨RX6, "climbFrom", "(II)I"⟩
abbrev cX6_kept : ByteArray := prog_8_method_5_code
def yX6_kept : MethodName := ⟨RX6, "kept", "(I)I"⟩
abbrev cX6_keep : ByteArray := prog_8_method_6_code
def yX6_keep : MethodName := ⟨RX6, "keep", "(II)V"⟩
abbrev cX6_bestNear : ByteArray := prog_8_method_7_code
def yX6_bestNear : MethodName := ⟨RX6, "bestNear", "(I)I"⟩
abbrev cX6_isOpen : ByteArray := prog_8_method_8_code
def yX6_isOpen : MethodName := ⟨RX6, "isOpen", "(I)Z"⟩
abbrev cX6_better : ByteArray := prog_8_method_9_code
def yX6_better : MethodName := ⟨RX6, "better", "(II)I"⟩
def RX7 : String := "StructureSearch$Shares"
def TX7 : u_T := fun k => match k with
  | 0 => ("StructureSearch$Shares", "sheet", "LStructureSearch$Sheet;", true)
  | 1 => ("StructureSearch$Shares", "powers", "LStructureSearch$Powers;", true)
  | 2 => ("StructureSearch$Shares", "least", "LStructureSearch$Powers;", true)
  | 3 => ("StructureSearch$Shares", "weights", "[LStructureSearch$Big;", true)
  | 4 => ("StructureSearch$Shares", "sums", "[LStructureSearch$Big;", true)
  | 5 => ("StructureSearch$Shares", "none", "LStructureSearch$Big;", true)
  | 6 => ("StructureSearch$Shares", "term", "LStructureSearch$Big;", true)
  | 7 => ("StructureSearch$Shares", "rest", "LStructureSearch$Big;", true)
  | 8 => ("StructureSearch$Shares", "divisor", "LStructureSearch$Big;", true)
  | 9 => ("StructureSearch$Shares", "share", "LStructureSearch$Fraction;", true)
  | 10 => ("StructureSearch$Shares", "shareFrom", "I", false)
  | _ => ("StructureSearch$Shares", "shareTo", "I", false)
def tyX7 : Nat → FieldType := fun k => match k with
  | 0 => .object "StructureSearch$Sheet"
  | 1 => .object "StructureSearch$Powers"
  | 2 => .object "StructureSearch$Powers"
  | 3 => .array (.object "StructureSearch$Big")
  | 4 => .array (.object "StructureSearch$Big")
  | 5 => .object "StructureSearch$Big"
  | 6 => .object "StructureSearch$Big"
  | 7 => .object "StructureSearch$Big"
  | 8 => .object "StructureSearch$Big"
  | 9 => .object "StructureSearch$Fraction"
  | 10 => .int
  | _ => .int
abbrev wsX70 : List Cond := u_ws RX7 TX7 12
theorem nmX7 : ∀ a, a < 12 → ∀ b, b < 12 → a ≠ b → (TX7 a).2.1 ≠ (TX7 b).2.1 := by decide +kernel
theorem tyX7_ok : ∀ k, k < 12 → parseFieldDescriptor (TX7 k).2.2.1 = some (tyX7 k) := by decide +kernel
abbrev cX7_init : ByteArray := prog_9_method_1_code
def yX7_init : MethodName := ⟨RX7, "<init>", "(LStructureSearch$Sheet;LStructureSearch$Powers;)V"⟩
abbrev cX7_forget : ByteArray := prog_9_method_2_code
def yX7_forget : MethodName := ⟨RX7, "forget", "()V"⟩
abbrev cX7_of : ByteArray := prog_9_method_3_code
def yX7_of : MethodName := ⟨RX7, "of", "(II)LStructureSearch$Fraction;"⟩
abbrev cX7_weigh : ByteArray := prog_9_method_4_code
def yX7_weigh : MethodName := ⟨RX7, "weigh", "(I)V"⟩
abbrev cX7_addSmaller : ByteArray := prog_9_method_5_code
def yX7_addSmaller : MethodName := ⟨RX7, "addSmaller", "(II)V"⟩
abbrev cX7_isOpen : ByteArray := prog_9_method_6_code
def yX7_isOpen : MethodName := ⟨RX7, "isOpen", "(II)Z"⟩
abbrev cX7_keepArc : ByteArray := prog_9_method_7_code
def yX7_keepArc : MethodName := ⟨RX7, "keepArc", "(II)V"⟩
abbrev cX7_sumGraphs : ByteArray := prog_9_method_8_code
def yX7_sumGraphs : MethodName := ⟨RX7, "sumGraphs", "(I)V"⟩
abbrev cX7_sumGraphsOf : ByteArray := prog_9_method_9_code
def yX7_sumGraphsOf : MethodName := ⟨RX7, "sumGraphsOf", "(I)V"⟩
abbrev cX7_multiplyOut : ByteArray := prog_9_method_10_code
def yX7_multiplyOut : MethodName := ⟨RX7, "multiplyOut", "(II)V"⟩
abbrev cX7_lower : ByteArray := prog_9_method_11_code
def yX7_lower : MethodName := ⟨RX7, "lower", "()V"⟩
abbrev cX7_divide : ByteArray := prog_9_method_12_code
def yX7_divide : MethodName := ⟨RX7, "divide", "(LStructureSearch$Big;)V"⟩
abbrev cX7_weight : ByteArray := prog_9_method_13_code
def yX7_weight : MethodName := ⟨RX7, "weight", "(II)LStructureSearch$Big;"⟩
abbrev cX7_sum : ByteArray := prog_9_method_14_code
def yX7_sum : MethodName := ⟨RX7, "sum", "(I)LStructureSearch$Big;"⟩
def RX8 : String := "StructureSearch$Sheet"
def TX8 : u_T := fun k => match k with
  | 0 => ("StructureSearch$Sheet", "names", "I", false)
  | 1 => ("StructureSearch$Sheet", "rows", "I", false)
  | 2 => ("StructureSearch$Sheet", "strength", "I", false)
  | 3 => ("StructureSearch$Sheet", "most", "I", false)
  | 4 => ("StructureSearch$Sheet", "values", "[I", true)
  | _ => ("StructureSearch$Sheet", "codes", "[I", true)
def tyX8 : Nat → FieldType := fun k => match k with
  | 0 => .int
  | 1 => .int
  | 2 => .int
  | 3 => .int
  | 4 => .array .int
  | _ => .array .int
abbrev wsX80 : List Cond := u_ws RX8 TX8 6
theorem nmX8 : ∀ a, a < 6 → ∀ b, b < 6 → a ≠ b → (TX8 a).2.1 ≠ (TX8 b).2.1 := by decide +kernel
theorem tyX8_ok : ∀ k, k < 6 → parseFieldDescriptor (TX8 k).2.2.1 = some (tyX8 k) := by decide +kernel
abbrev cX8_init : ByteArray := prog_10_method_1_code
def yX8_init : MethodName := ⟨RX8, "<init>", "()V"⟩
abbrev cX8_startAnew : ByteArray := prog_10_method_2_code
def yX8_startAnew : MethodName := ⟨RX8, "startAnew", "()V"⟩
abbrev cX8_addName : ByteArray := prog_10_method_3_code
def yX8_addName : MethodName := ⟨RX8, "addName", "(I)I"⟩
abbrev cX8_addRow : ByteArray := prog_10_method_4_code
def yX8_addRow : MethodName := ⟨RX8, "addRow", "(I)I"⟩
abbrev cX8_removeRow : ByteArray := prog_10_method_5_code
def yX8_removeRow : MethodName := ⟨RX8, "removeRow", "(I)I"⟩
abbrev cX8_valuesOf : ByteArray := prog_10_method_6_code
def yX8_valuesOf : MethodName := ⟨RX8, "valuesOf", "(I)I"⟩
abbrev cX8_valueIn : ByteArray := prog_10_method_7_code
def yX8_valueIn : MethodName := ⟨RX8, "valueIn", "(II)I"⟩
abbrev cX8_pourFit : ByteArray := prog_10_method_8_code
def yX8_pourFit : MethodName := ⟨RX8, "pourFit", "(IILStructureSearch$Powers;)V"⟩
abbrev cX8_codeOf : ByteArray := prog_10_method_9_code
def yX8_codeOf : MethodName := ⟨RX8, "codeOf", "(I)I"⟩
def RX9 : String := "StructureSearch$Tables"
def TX9 : u_T := fun k => match k with
  | 0 => ("StructureSearch$Tables", "sheet", "LStructureSearch$Sheet;", true)
  | 1 => ("StructureSearch$Tables", "cells", "[I", true)
  | 2 => ("StructureSearch$Tables", "ofFirst", "[I", true)
  | _ => ("StructureSearch$Tables", "ofSecond", "[I", true)
def tyX9 : Nat → FieldType := fun k => match k with
  | 0 => .object "StructureSearch$Sheet"
  | 1 => .array .int
  | 2 => .array .int
  | _ => .array .int
abbrev wsX90 : List Cond := u_ws RX9 TX9 4
theorem nmX9 : ∀ a, a < 4 → ∀ b, b < 4 → a ≠ b → (TX9 a).2.1 ≠ (TX9 b).2.1 := by decide +kernel
theorem tyX9_ok : ∀ k, k < 4 → parseFieldDescriptor (TX9 k).2.2.1 = some (tyX9 k) := by decide +kernel
abbrev cX9_init : ByteArray := prog_11_method_1_code
def yX9_init : MethodName := ⟨RX9, "<init>", "(LStructureSearch$Sheet;)V"⟩
abbrev cX9_count : ByteArray := prog_11_method_2_code
def yX9_count : MethodName := ⟨RX9, "count", "(IIII)V"⟩
abbrev cX9_allWays : ByteArray := prog_11_method_3_code
def yX9_allWays : MethodName := ⟨RX9, "allWays", "()J"⟩
abbrev cX9_waysNotAbove : ByteArray := prog_11_method_4_code
def yX9_waysNotAbove : MethodName := ⟨RX9, "waysNotAbove", "()J"⟩
abbrev cX9_waysWith : ByteArray := prog_11_method_5_code
def yX9_waysWith : MethodName := ⟨RX9, "waysWith", "(IIJ)J"⟩
abbrev cX9_deals : ByteArray := prog_11_method_6_code
def yX9_deals : MethodName := ⟨RX9, "deals", "(III)J"⟩
abbrev cX9_factorial : ByteArray := prog_11_method_7_code
def yX9_factorial : MethodName := ⟨RX9, "factorial", "(I)J"⟩
abbrev cX9_cell : ByteArray := prog_11_method_8_code
def yX9_cell : MethodName := ⟨RX9, "cell", "(II)I"⟩
abbrev cX9_first : ByteArray := prog_11_method_9_code
def yX9_first : MethodName := ⟨RX9, "first", "(I)I"⟩
abbrev cX9_second : ByteArray := prog_11_method_10_code
def yX9_second : MethodName := ⟨RX9, "second", "(I)I"⟩
def RX10 : String := "StructureSearch"
def TX10 : u_T := fun k => match k with
  | 0 => ("StructureSearch", "sheet", "LStructureSearch$Sheet;", true)
  | 1 => ("StructureSearch", "powers", "LStructureSearch$Powers;", true)
  | 2 => ("StructureSearch", "fits", "LStructureSearch$Fits;", true)
  | 3 => ("StructureSearch", "search", "LStructureSearch$Search;", true)
  | 4 => ("StructureSearch", "tables", "LStructureSearch$Tables;", true)
  | _ => ("StructureSearch", "shares", "LStructureSearch$Shares;", false)
def tyX10 : Nat → FieldType := fun k => match k with
  | 0 => .object "StructureSearch$Sheet"
  | 1 => .object "StructureSearch$Powers"
  | 2 => .object "StructureSearch$Fits"
  | 3 => .object "StructureSearch$Search"
  | 4 => .object "StructureSearch$Tables"
  | _ => .object "StructureSearch$Shares"
abbrev wsX100 : List Cond := u_ws RX10 TX10 6
theorem nmX10 : ∀ a, a < 6 → ∀ b, b < 6 → a ≠ b → (TX10 a).2.1 ≠ (TX10 b).2.1 := by decide +kernel
theorem tyX10_ok : ∀ k, k < 6 → parseFieldDescriptor (TX10 k).2.2.1 = some (tyX10 k) := by decide +kernel
abbrev cX10_init : ByteArray := prog_1_method_1_code
def yX10_init : MethodName := ⟨RX10, "<init>", "()V"⟩
abbrev cX10_clear : ByteArray := prog_1_method_2_code
def yX10_clear : MethodName := ⟨RX10, "clear", "()I"⟩
abbrev cX10_name : ByteArray := prog_1_method_3_code
def yX10_name : MethodName := ⟨RX10, "name", "(I)I"⟩
abbrev cX10_row : ByteArray := prog_1_method_4_code
def yX10_row : MethodName := ⟨RX10, "row", "(IIIII)I"⟩
abbrev cX10_drop : ByteArray := prog_1_method_5_code
def yX10_drop : MethodName := ⟨RX10, "drop", "(I)I"⟩
abbrev cX10_value : ByteArray := prog_1_method_6_code
def yX10_value : MethodName := ⟨RX10, "value", "(II)I"⟩
abbrev cX10_set : ByteArray := prog_1_method_7_code
def yX10_set : MethodName := ⟨RX10, "set", "(II)I"⟩
abbrev cX10_about : ByteArray := prog_1_method_8_code
def yX10_about : MethodName := ⟨RX10, "about", "(I)I"⟩
abbrev cX10_isGraph : ByteArray := prog_1_method_9_code
def yX10_isGraph : MethodName := ⟨RX10, "isGraph", "(I)Z"⟩
abbrev cX10_order : ByteArray := prog_1_method_10_code
def yX10_order : MethodName := ⟨RX10, "order", "(II)I"⟩
abbrev cX10_size : ByteArray := prog_1_method_11_code
def yX10_size : MethodName := ⟨RX10, "size", "(II)I"⟩
abbrev cX10_word : ByteArray := prog_1_method_12_code
def yX10_word : MethodName := ⟨RX10, "word", "(III)J"⟩
abbrev cX10_compare : ByteArray := prog_1_method_13_code
def yX10_compare : MethodName := ⟨RX10, "compare", "(II)I"⟩
abbrev cX10_parents : ByteArray := prog_1_method_14_code
def yX10_parents : MethodName := ⟨RX10, "parents", "(II)I"⟩
abbrev cX10_best : ByteArray := prog_1_method_15_code
def yX10_best : MethodName := ⟨RX10, "best", "()I"⟩
abbrev cX10_climb : ByteArray := prog_1_method_16_code
def yX10_climb : MethodName := ⟨RX10, "climb", "(II)I"⟩
abbrev cX10_alike : ByteArray := prog_1_method_17_code
def yX10_alike : MethodName := ⟨RX10, "alike", "(II)I"⟩
abbrev cX10_kin : ByteArray := prog_1_method_18_code
def yX10_kin : MethodName := ⟨RX10, "kin", "(II)I"⟩
abbrev cX10_shareSize : ByteArray := prog_1_method_19_code
def yX10_shareSize : MethodName := ⟨RX10, "shareSize", "(III)I"⟩
abbrev cX10_shareWord : ByteArray := prog_1_method_20_code
def yX10_shareWord : MethodName := ⟨RX10, "shareWord", "(IIII)J"⟩
abbrev cX10_test : ByteArray := prog_1_method_21_code
def yX10_test : MethodName := ⟨RX10, "test", "(IIIII)J"⟩
abbrev cX10_isName : ByteArray := prog_1_method_22_code
def yX10_isName : MethodName := ⟨RX10, "isName", "(I)Z"⟩
abbrev cX10_isPair : ByteArray := prog_1_method_23_code
def yX10_isPair : MethodName := ⟨RX10, "isPair", "(II)Z"⟩
abbrev cX10_isRow : ByteArray := prog_1_method_24_code
def yX10_isRow : MethodName := ⟨RX10, "isRow", "(I)Z"⟩
abbrev cX10_isValue : ByteArray := prog_1_method_25_code
def yX10_isValue : MethodName := ⟨RX10, "isValue", "(II)Z"⟩
abbrev cX10_isPart : ByteArray := prog_1_method_26_code
def yX10_isPart : MethodName := ⟨RX10, "isPart", "(I)Z"⟩
abbrev cX10_fitsName : ByteArray := prog_1_method_27_code
def yX10_fitsName : MethodName := ⟨RX10, "fitsName", "(II)Z"⟩
abbrev cX10_coded : ByteArray := prog_1_method_28_code
def yX10_coded : MethodName := ⟨RX10, "coded", "(II)I"⟩
abbrev cX10_wordOf : ByteArray := prog_1_method_29_code
def yX10_wordOf : MethodName := ⟨RX10, "wordOf", "(LStructureSearch$Big;I)J"⟩
abbrev cX10_readyShares : ByteArray := prog_1_method_30_code
def yX10_readyShares : MethodName := ⟨RX10, "readyShares", "()LStructureSearch$Shares;"⟩
abbrev cX10_forgetFits : ByteArray := prog_1_method_31_code
def yX10_forgetFits : MethodName := ⟨RX10, "forgetFits", "()V"⟩
abbrev cX10_forgetShares : ByteArray := prog_1_method_32_code
def yX10_forgetShares : MethodName := ⟨RX10, "forgetShares", "()V"⟩
def RX11 : String := "StructureSearchModel"
def TX11 : u_T := fun k => match k with
  | 0 => ("StructureSearchModel", "names", "I", false)
  | 1 => ("StructureSearchModel", "values", "[I", true)
  | 2 => ("StructureSearchModel", "rows", "I", false)
  | 3 => ("StructureSearchModel", "cells", "[I", true)
  | 4 => ("StructureSearchModel", "strength", "I", false)
  | 5 => ("StructureSearchModel", "most", "I", false)
  | 6 => ("StructureSearchModel", "one", "[I", true)
  | 7 => ("StructureSearchModel", "two", "[I", true)
  | 8 => ("StructureSearchModel", "rest", "[I", true)
  | 9 => ("StructureSearchModel", "above", "[I", true)
  | 10 => ("StructureSearchModel", "below", "[I", true)
  | 11 => ("StructureSearchModel", "isKnown", "[Z", true)
  | 12 => ("StructureSearchModel", "tops", "[I", true)
  | 13 => ("StructureSearchModel", "lows", "[I", true)
  | 14 => ("StructureSearchModel", "small", "[I", true)
  | 15 => ("StructureSearchModel", "large", "[I", true)
  | 16 => ("StructureSearchModel", "factor", "[I", true)
  | 17 => ("StructureSearchModel", "made", "[I", true)
  | 18 => ("StructureSearchModel", "topA", "[I", true)
  | 19 => ("StructureSearchModel", "lowA", "[I", true)
  | 20 => ("StructureSearchModel", "topB", "[I", true)
  | 21 => ("StructureSearchModel", "lowB", "[I", true)
  | 22 => ("StructureSearchModel", "left", "[I", true)
  | 23 => ("StructureSearchModel", "right", "[I", true)
  | 24 => ("StructureSearchModel", "toldGraph", "I", false)
  | 25 => ("StructureSearchModel", "toldArc", "I", false)
  | 26 => ("StructureSearchModel", "bests", "[I", true)
  | 27 => ("StructureSearchModel", "first", "[I", true)
  | 28 => ("StructureSearchModel", "second", "[I", true)
  | 29 => ("StructureSearchModel", "sums", "[I", true)
  | 30 => ("StructureSearchModel", "terms", "[I", true)
  | 31 => ("StructureSearchModel", "wholes", "[I", true)
  | 32 => ("StructureSearchModel", "term", "[I", true)
  | 33 => ("StructureSearchModel", "more", "[I", true)
  | 34 => ("StructureSearchModel", "fewer", "[I", true)
  | 35 => ("StructureSearchModel", "sum", "[I", true)
  | 36 => ("StructureSearchModel", "ofA", "[I", true)
  | 37 => ("StructureSearchModel", "ofB", "[I", true)
  | _ => ("StructureSearchModel", "both", "[I", true)
def tyX11 : Nat → FieldType := fun k => match k with
  | 0 => .int
  | 1 => .array .int
  | 2 => .int
  | 3 => .array .int
  | 4 => .int
  | 5 => .int
  | 6 => .array .int
  | 7 => .array .int
  | 8 => .array .int
  | 9 => .array .int
  | 10 => .array .int
  | 11 => .array .boolean
  | 12 => .array .int
  | 13 => .array .int
  | 14 => .array .int
  | 15 => .array .int
  | 16 => .array .int
  | 17 => .array .int
  | 18 => .array .int
  | 19 => .array .int
  | 20 => .array .int
  | 21 => .array .int
  | 22 => .array .int
  | 23 => .array .int
  | 24 => .int
  | 25 => .int
  | 26 => .array .int
  | 27 => .array .int
  | 28 => .array .int
  | 29 => .array .int
  | 30 => .array .int
  | 31 => .array .int
  | 32 => .array .int
  | 33 => .array .int
  | 34 => .array .int
  | 35 => .array .int
  | 36 => .array .int
  | 37 => .array .int
  | _ => .array .int
abbrev wsX110 : List Cond := u_ws RX11 TX11 39
theorem nmX11 : ∀ a, a < 39 → ∀ b, b < 39 → a ≠ b → (TX11 a).2.1 ≠ (TX11 b).2.1 := by decide +kernel
theorem tyX11_ok : ∀ k, k < 39 → parseFieldDescriptor (TX11 k).2.2.1 = some (tyX11 k) := by decide +kernel
abbrev cX11_init : ByteArray := prog_13_method_1_code
def yX11_init : MethodName := ⟨RX11, "<init>", "()V"⟩
abbrev cX11_put : ByteArray := prog_13_method_2_code
def yX11_put : MethodName := ⟨RX11, "put", "([II)V"⟩
abbrev cX11_copy : ByteArray := prog_13_method_3_code
def yX11_copy : MethodName := ⟨RX11, "copy", "([I[I)V"⟩
abbrev cX11_compareTo : ByteArray := prog_13_method_4_code
def yX11_compareTo : MethodName := ⟨RX11, "compareTo", "([I[I)I"⟩
abbrev cX11_trim : ByteArray := prog_13_method_5_code
def yX11_trim : MethodName := ⟨RX11, "trim", "([II)V"⟩
abbrev cX11_times : ByteArray := prog_13_method_6_code
def yX11_times : MethodName := ⟨RX11, "times", "([I[I[I)V"⟩
abbrev cX11_plus : ByteArray := prog_13_method_7_code
def yX11_plus : MethodName := ⟨RX11, "plus", "([I[I)V"⟩
abbrev cX11_less : ByteArray := prog_13_method_8_code
def yX11_less : MethodName := ⟨RX11, "less", "([I[I)V"⟩
abbrev cX11_halve : ByteArray := prog_13_method_9_code
def yX11_halve : MethodName := ⟨RX11, "halve", "([I)V"⟩
abbrev cX11_twice : ByteArray := prog_13_method_10_code
def yX11_twice : MethodName := ⟨RX11, "twice", "([II)V"⟩
abbrev cX11_isEven : ByteArray := prog_13_method_11_code
def yX11_isEven : MethodName := ⟨RX11, "isEven", "([I)Z"⟩
abbrev cX11_common : ByteArray := prog_13_method_12_code
def yX11_common : MethodName := ⟨RX11, "common", "([I[I)V"⟩
abbrev cX11_divide : ByteArray := prog_13_method_13_code
def yX11_divide : MethodName := ⟨RX11, "divide", "([I)V"⟩
abbrev cX11_least : ByteArray := prog_13_method_14_code
def yX11_least : MethodName := ⟨RX11, "least", "()V"⟩
abbrev cX11_grow : ByteArray := prog_13_method_15_code
def yX11_grow : MethodName := ⟨RX11, "grow", "([III)V"⟩
abbrev cX11_place : ByteArray := prog_13_method_16_code
def yX11_place : MethodName := ⟨RX11, "place", "(II)I"⟩
abbrev cX11_agree : ByteArray := prog_13_method_17_code
def yX11_agree : MethodName := ⟨RX11, "agree", "(III)Z"⟩
abbrev cX11_family : ByteArray := prog_13_method_18_code
def yX11_family : MethodName := ⟨RX11, "family", "(II)I"⟩
abbrev cX11_store : ByteArray := prog_13_method_19_code
def yX11_store : MethodName := ⟨RX11, "store", "([I[II)V"⟩
abbrev cX11_work : ByteArray := prog_13_method_20_code
def yX11_work : MethodName := ⟨RX11, "work", "(II)V"⟩
abbrev cX11_load : ByteArray := prog_13_method_21_code
def yX11_load : MethodName := ⟨RX11, "load", "([II[I)V"⟩
abbrev cX11_multiply : ByteArray := prog_13_method_22_code
def yX11_multiply : MethodName := ⟨RX11, "multiply", "([I[II)V"⟩
abbrev cX11_bits : ByteArray := prog_13_method_23_code
def yX11_bits : MethodName := ⟨RX11, "bits", "(I)I"⟩
abbrev cX11_parentsOf : ByteArray := prog_13_method_24_code
def yX11_parentsOf : MethodName := ⟨RX11, "parentsOf", "(II)I"⟩
abbrev cX11_fit : ByteArray := prog_13_method_25_code
def yX11_fit : MethodName := ⟨RX11, "fit", "(I[I[I)V"⟩
abbrev cX11_sign : ByteArray := prog_13_method_26_code
def yX11_sign : MethodName := ⟨RX11, "sign", "()I"⟩
abbrev cX11_signOf : ByteArray := prog_13_method_27_code
def yX11_signOf : MethodName := ⟨RX11, "signOf", "(II)I"⟩
abbrev cX11_isSet : ByteArray := prog_13_method_28_code
def yX11_isSet : MethodName := ⟨RX11, "isSet", "(I)Z"⟩
abbrev cX11_isName : ByteArray := prog_13_method_29_code
def yX11_isName : MethodName := ⟨RX11, "isName", "(I)Z"⟩
abbrev cX11_isGraph : ByteArray := prog_13_method_30_code
def yX11_isGraph : MethodName := ⟨RX11, "isGraph", "(I)Z"⟩
abbrev cX11_isBounded : ByteArray := prog_13_method_31_code
def yX11_isBounded : MethodName := ⟨RX11, "isBounded", "(I)Z"⟩
abbrev cX11_has : ByteArray := prog_13_method_32_code
def yX11_has : MethodName := ⟨RX11, "has", "(III)Z"⟩
abbrev cX11_touch : ByteArray := prog_13_method_33_code
def yX11_touch : MethodName := ⟨RX11, "touch", "(III)Z"⟩
abbrev cX11_isAlike : ByteArray := prog_13_method_34_code
def yX11_isAlike : MethodName := ⟨RX11, "isAlike", "(II)Z"⟩
abbrev cX11_change : ByteArray := prog_13_method_35_code
def yX11_change : MethodName := ⟨RX11, "change", "()V"⟩
abbrev cX11_clear : ByteArray := prog_13_method_36_code
def yX11_clear : MethodName := ⟨RX11, "clear", "()I"⟩
abbrev cX11_name : ByteArray := prog_13_method_37_code
def yX11_name : MethodName := ⟨RX11, "name", "(I)I"⟩
abbrev cX11_isValue : ByteArray := prog_13_method_38_code
def yX11_isValue : MethodName := ⟨RX11, "isValue", "(II)Z"⟩
abbrev cX11_row : ByteArray := prog_13_method_39_code
def yX11_row : MethodName := ⟨RX11, "row", "(IIIII)I"⟩
abbrev cX11_drop : ByteArray := prog_13_method_40_code
def yX11_drop : MethodName := ⟨RX11, "drop", "(I)I"⟩
abbrev cX11_value : ByteArray := prog_13_method_41_code
def yX11_value : MethodName := ⟨RX11, "value", "(II)I"⟩
abbrev cX11_set : ByteArray := prog_13_method_42_code
def yX11_set : MethodName := ⟨RX11, "set", "(II)I"⟩
abbrev cX11_about : ByteArray := prog_13_method_43_code
def yX11_about : MethodName := ⟨RX11, "about", "(I)I"⟩
abbrev cX11_order : ByteArray := prog_13_method_44_code
def yX11_order : MethodName := ⟨RX11, "order", "(II)I"⟩
abbrev cX11_tell : ByteArray := prog_13_method_45_code
def yX11_tell : MethodName := ⟨RX11, "tell", "(I)V"⟩
abbrev cX11_wordOf : ByteArray := prog_13_method_46_code
def yX11_wordOf : MethodName := ⟨RX11, "wordOf", "(II)J"⟩
abbrev cX11_isPart : ByteArray := prog_13_method_47_code
def yX11_isPart : MethodName := ⟨RX11, "isPart", "(I)Z"⟩
abbrev cX11_size : ByteArray := prog_13_method_48_code
def yX11_size : MethodName := ⟨RX11, "size", "(II)I"⟩
abbrev cX11_word : ByteArray := prog_13_method_49_code
def yX11_word : MethodName := ⟨RX11, "word", "(III)J"⟩
abbrev cX11_compare : ByteArray := prog_13_method_50_code
def yX11_compare : MethodName := ⟨RX11, "compare", "(II)I"⟩
abbrev cX11_bestParents : ByteArray := prog_13_method_51_code
def yX11_bestParents : MethodName := ⟨RX11, "bestParents", "(II)I"⟩
abbrev cX11_parents : ByteArray := prog_13_method_52_code
def yX11_parents : MethodName := ⟨RX11, "parents", "(II)I"⟩
abbrev cX11_arcs : ByteArray := prog_13_method_53_code
def yX11_arcs : MethodName := ⟨RX11, "arcs", "(II)I"⟩
abbrev cX11_best : ByteArray := prog_13_method_54_code
def yX11_best : MethodName := ⟨RX11, "best", "()I"⟩
abbrev cX11_fitIn : ByteArray := prog_13_method_55_code
def yX11_fitIn : MethodName := ⟨RX11, "fitIn", "(II[I[I)V"⟩
abbrev cX11_signIn : ByteArray := prog_13_method_56_code
def yX11_signIn : MethodName := ⟨RX11, "signIn", "(III)I"⟩
abbrev cX11_better : ByteArray := prog_13_method_57_code
def yX11_better : MethodName := ⟨RX11, "better", "(II)I"⟩
abbrev cX11_climb : ByteArray := prog_13_method_58_code
def yX11_climb : MethodName := ⟨RX11, "climb", "(II)I"⟩
abbrev cX11_alike : ByteArray := prog_13_method_59_code
def yX11_alike : MethodName := ⟨RX11, "alike", "(II)I"⟩
abbrev cX11_kin : ByteArray := prog_13_method_60_code
def yX11_kin : MethodName := ⟨RX11, "kin", "(II)I"⟩
abbrev cX11_whole : ByteArray := prog_13_method_61_code
def yX11_whole : MethodName := ⟨RX11, "whole", "(II)V"⟩
abbrev cX11_sumUp : ByteArray := prog_13_method_62_code
def yX11_sumUp : MethodName := ⟨RX11, "sumUp", "(II)V"⟩
abbrev cX11_total : ByteArray := prog_13_method_63_code
def yX11_total : MethodName := ⟨RX11, "total", "(II[I)V"⟩
abbrev cX11_tellShare : ByteArray := prog_13_method_64_code
def yX11_tellShare : MethodName := ⟨RX11, "tellShare", "(II)V"⟩
abbrev cX11_shareFault : ByteArray := prog_13_method_65_code
def yX11_shareFault : MethodName := ⟨RX11, "shareFault", "(III)I"⟩
abbrev cX11_shareSize : ByteArray := prog_13_method_66_code
def yX11_shareSize : MethodName := ⟨RX11, "shareSize", "(III)I"⟩
abbrev cX11_shareWord : ByteArray := prog_13_method_67_code
def yX11_shareWord : MethodName := ⟨RX11, "shareWord", "(IIII)J"⟩
abbrev cX11_lesser : ByteArray := prog_13_method_68_code
def yX11_lesser : MethodName := ⟨RX11, "lesser", "(II)I"⟩
abbrev cX11_choose : ByteArray := prog_13_method_69_code
def yX11_choose : MethodName := ⟨RX11, "choose", "(II)J"⟩
abbrev cX11_ways : ByteArray := prog_13_method_70_code
def yX11_ways : MethodName := ⟨RX11, "ways", "(III)J"⟩
abbrev cX11_test : ByteArray := prog_13_method_71_code
def yX11_test : MethodName := ⟨RX11, "test", "(IIIII)J"⟩
def RJ6 : String := "java/lang/Integer"
def TJ6 : u_T := fun k => match k with
  | _ => ("", "", "", false)
def tyJ6 : Nat → FieldType := fun k => match k with
  | _ => .int
abbrev wsJ60 : List Cond := u_ws RJ6 TJ6 0
theorem nmJ6 : ∀ a, a < 0 → ∀ b, b < 0 → a ≠ b → (TJ6 a).2.1 ≠ (TJ6 b).2.1 := by decide +kernel
theorem tyJ6_ok : ∀ k, k < 0 → parseFieldDescriptor (TJ6 k).2.2.1 = some (tyJ6 k) := by decide +kernel
abbrev cJ6_bitCount_0f7a4 : ByteArray := prog_14_method_49_code
def yJ6_bitCount_0f7a4 : MethodName := ⟨RJ6, "bitCount", "(I)I"⟩
def RJ13 : String := "java/lang/Long"
def TJ13 : u_T := fun k => match k with
  | _ => ("", "", "", false)
def tyJ13 : Nat → FieldType := fun k => match k with
  | _ => .int
abbrev wsJ130 : List Cond := u_ws RJ13 TJ13 0
theorem nmJ13 : ∀ a, a < 0 → ∀ b, b < 0 → a ≠ b → (TJ13 a).2.1 ≠ (TJ13 b).2.1 := by decide +kernel
theorem tyJ13_ok : ∀ k, k < 0 → parseFieldDescriptor (TJ13 k).2.2.1 = some (tyJ13 k) := by decide +kernel
abbrev cJ13_bitCount_95d88 : ByteArray := prog_15_method_50_code
def yJ13_bitCount_95d88 : MethodName := ⟨RJ13, "bitCount", "(J)I"⟩
def RJ9 : String := "java/lang/Math"
def TJ9 : u_T := fun k => match k with
  | _ => ("", "", "", false)
def tyJ9 : Nat → FieldType := fun k => match k with
  | _ => .int
abbrev wsJ90 : List Cond := u_ws RJ9 TJ9 0
theorem nmJ9 : ∀ a, a < 0 → ∀ b, b < 0 → a ≠ b → (TJ9 a).2.1 ≠ (TJ9 b).2.1 := by decide +kernel
theorem tyJ9_ok : ∀ k, k < 0 → parseFieldDescriptor (TJ9 k).2.2.1 = some (tyJ9 k) := by decide +kernel
abbrev cJ9_max_7cf53 : ByteArray := prog_16_method_65_code
def yJ9_max_7cf53 : MethodName := ⟨RJ9, "max", "(II)I"⟩
abbrev cJ9_max_f86c9 : ByteArray := prog_16_method_66_code
def yJ9_max_f86c9 : MethodName := ⟨RJ9, "max", "(JJ)J"⟩
abbrev cJ9_min_7cf53 : ByteArray := prog_16_method_69_code
def yJ9_min_7cf53 : MethodName := ⟨RJ9, "min", "(II)I"⟩
abbrev cJ9_min_f86c9 : ByteArray := prog_16_method_70_code
def yJ9_min_f86c9 : MethodName := ⟨RJ9, "min", "(JJ)J"⟩
def RJ10 : String := "java/lang/System"
def TJ10 : u_T := fun k => match k with
  | _ => ("", "", "", false)
def tyJ10 : Nat → FieldType := fun k => match k with
  | _ => .int
abbrev wsJ100 : List Cond := u_ws RJ10 TJ10 0
theorem nmJ10 : ∀ a, a < 0 → ∀ b, b < 0 → a ≠ b → (TJ10 a).2.1 ≠ (TJ10 b).2.1 := by decide +kernel
theorem tyJ10_ok : ∀ k, k < 0 → parseFieldDescriptor (TJ10 k).2.2.1 = some (tyJ10 k) := by decide +kernel
def RL : String := "StructureSearchLaw"
abbrev cL_law : ByteArray := code
def yL_law : MethodName := ⟨RL, "law", "([I)Z"⟩
abbrev vwCl : List vw_C := [(RX1, TX1, 2), (RX2, TX2, 8), (RX3, TX3, 3), (RX4, TX4, 4), (RX5, TX5, 2), (RX6, TX6, 3), (RX7, TX7, 12), (RX8, TX8, 6), (RX9, TX9, 4), (RX10, TX10, 6), (RX11, TX11, 39)]
theorem gi_c {big a b : List Cond} (ha : GoodIn big a) (hb : GoodIn big b) : GoodIn big (a ++ b) := goodIn_app ha hb
def w2t_X0_isIn : List Cond := []
def w2_X0_isIn : List Cond := .code yX0_isIn cX0_isIn 2 (some .boolean) :: (w2t_X0_isIn)
set_option maxRecDepth 20000 in
theorem w2g_X0_isIn : ∀ w ∈ w2_X0_isIn, ((w.onTables && w.keeps) = true ∨ ∃ ty, w = .arrayClass ty) := by
  intro w h
  rcases List.mem_cons.mp h with rfl | h
  · exact good_of_word (by decide +kernel)
  exact good_of_word (List.all_eq_true.mp (show List.all w2t_X0_isIn goodWord = true by decide +kernel) w h)
def w2t_X0_arc : List Cond := []
def w2_X0_arc : List Cond := .code yX0_arc cX0_arc 2 (some .int) :: (w2t_X0_arc)
set_option maxRecDepth 20000 in
theorem w2g_X0_arc : ∀ w ∈ w2_X0_arc, ((w.onTables && w.keeps) = true ∨ ∃ ty, w = .arrayClass ty) := by
  intro w h
  rcases List.mem_cons.mp h with rfl | h
  · exact good_of_word (by decide +kernel)
  exact good_of_word (List.all_eq_true.mp (show List.all w2t_X0_arc goodWord = true by decide +kernel) w h)
def w2t_X0_has : List Cond := [.methodLink RX0 9 yX0_arc, .static yX0_arc, .initialized RX0]
def w2_X0_has : List Cond := .code yX0_has cX0_has 3 (some .boolean) :: (w2t_X0_has ++ (w2_X0_arc))
set_option maxRecDepth 20000 in
theorem w2g_X0_has : ∀ w ∈ w2_X0_has, ((w.onTables && w.keeps) = true ∨ ∃ ty, w = .arrayClass ty) := by
  intro w h
  rcases List.mem_cons.mp h with rfl | h
  · exact good_of_word (by decide +kernel)
  rcases List.mem_append.mp h with h | h
  · exact good_of_word (List.all_eq_true.mp (show List.all w2t_X0_has goodWord = true by decide +kernel) w h)
  exact w2g_X0_arc w h
theorem w2i_X0_has_X0_arc : ∀ w ∈ w2_X0_arc, w ∈ w2_X0_has := fun w h => List.mem_cons_of_mem _ (List.mem_append_right _ (h))
theorem gd_X0_has_X0_arc : GoodIn w2_X0_has (va_wsS RX0 9 yX0_arc w2_X0_arc) := goodIn_app (goodIn_of _ (by decide +kernel)) (fun w h => ⟨w2i_X0_has_X0_arc w h, w2g_X0_arc w h⟩)
def w2t_X0_parentsIn : List Cond := []
def w2_X0_parentsIn : List Cond := .code yX0_parentsIn cX0_parentsIn 4 (some .int) :: (w2t_X0_parentsIn)
set_option maxRecDepth 20000 in
theorem w2g_X0_parentsIn : ∀ w ∈ w2_X0_parentsIn, ((w.onTables && w.keeps) = true ∨ ∃ ty, w = .arrayClass ty) := by
  intro w h
  rcases List.mem_cons.mp h with rfl | h
  · exact good_of_word (by decide +kernel)
  exact good_of_word (List.all_eq_true.mp (show List.all w2t_X0_parentsIn goodWord = true by decide +kernel) w h)
def w2t_X0_fromAll : List Cond := [.methodLink RX0 15 yX0_isIn, .methodLink RX0 9 yX0_arc, .static yX0_isIn, .initialized RX0, .static yX0_arc]
def w2_X0_fromAll : List Cond := .code yX0_fromAll cX0_fromAll 4 (some .int) :: (w2t_X0_fromAll ++ (w2_X0_arc ++ (w2_X0_isIn)))
set_option maxRecDepth 20000 in
theorem w2g_X0_fromAll : ∀ w ∈ w2_X0_fromAll, ((w.onTables && w.keeps) = true ∨ ∃ ty, w = .arrayClass ty) := by
  intro w h
  rcases List.mem_cons.mp h with rfl | h
  · exact good_of_word (by decide +kernel)
  rcases List.mem_append.mp h with h | h
  · exact good_of_word (List.all_eq_true.mp (show List.all w2t_X0_fromAll goodWord = true by decide +kernel) w h)
  rcases List.mem_append.mp h with h | h
  · exact w2g_X0_arc w h
  exact w2g_X0_isIn w h
theorem w2i_X0_fromAll_X0_arc : ∀ w ∈ w2_X0_arc, w ∈ w2_X0_fromAll := fun w h => List.mem_cons_of_mem _ (List.mem_append_right _ (List.mem_append_left _ (h)))
theorem w2i_X0_fromAll_X0_isIn : ∀ w ∈ w2_X0_isIn, w ∈ w2_X0_fromAll := fun w h => List.mem_cons_of_mem _ (List.mem_append_right _ (List.mem_append_right _ (h)))
theorem gd_X0_fromAll_X0_isIn : GoodIn w2_X0_fromAll (va_wsS RX0 15 yX0_isIn w2_X0_isIn) := goodIn_app (goodIn_of _ (by decide +kernel)) (fun w h => ⟨w2i_X0_fromAll_X0_isIn w h, w2g_X0_isIn w h⟩)
theorem gd_X0_fromAll_X0_arc : GoodIn w2_X0_fromAll (va_wsS RX0 9 yX0_arc w2_X0_arc) := goodIn_app (goodIn_of _ (by decide +kernel)) (fun w h => ⟨w2i_X0_fromAll_X0_arc w h, w2g_X0_arc w h⟩)
def w2t_X0_nextAfter : List Cond := [.methodLink RX0 15 yX0_isIn, .methodLink RX0 29 yX0_parentsIn, .static yX0_isIn, .initialized RX0, .static yX0_parentsIn]
def w2_X0_nextAfter : List Cond := .code yX0_nextAfter cX0_nextAfter 4 (some .int) :: (w2t_X0_nextAfter ++ (w2_X0_isIn ++ (w2_X0_parentsIn)))
set_option maxRecDepth 20000 in
theorem w2g_X0_nextAfter : ∀ w ∈ w2_X0_nextAfter, ((w.onTables && w.keeps) = true ∨ ∃ ty, w = .arrayClass ty) := by
  intro w h
  rcases List.mem_cons.mp h with rfl | h
  · exact good_of_word (by decide +kernel)
  rcases List.mem_append.mp h with h | h
  · exact good_of_word (List.all_eq_true.mp (show List.all w2t_X0_nextAfter goodWord = true by decide +kernel) w h)
  rcases List.mem_append.mp h with h | h
  · exact w2g_X0_isIn w h
  exact w2g_X0_parentsIn w h
theorem w2i_X0_nextAfter_X0_isIn : ∀ w ∈ w2_X0_isIn, w ∈ w2_X0_nextAfter := fun w h => List.mem_cons_of_mem _ (List.mem_append_right _ (List.mem_append_left _ (h)))
theorem w2i_X0_nextAfter_X0_parentsIn : ∀ w ∈ w2_X0_parentsIn, w ∈ w2_X0_nextAfter := fun w h => List.mem_cons_of_mem _ (List.mem_append_right _ (List.mem_append_right _ (h)))
theorem gd_X0_nextAfter_X0_isIn : GoodIn w2_X0_nextAfter (va_wsS RX0 15 yX0_isIn w2_X0_isIn) := goodIn_app (goodIn_of _ (by decide +kernel)) (fun w h => ⟨w2i_X0_nextAfter_X0_isIn w h, w2g_X0_isIn w h⟩)
theorem gd_X0_nextAfter_X0_parentsIn : GoodIn w2_X0_nextAfter (va_wsS RX0 29 yX0_parentsIn w2_X0_parentsIn) := goodIn_app (goodIn_of _ (by decide +kernel)) (fun w h => ⟨w2i_X0_nextAfter_X0_parentsIn w h, w2g_X0_parentsIn w h⟩)
def w2t_X0_haveNoRound : List Cond := [.methodLink RX0 25 yX0_nextAfter, .static yX0_nextAfter, .initialized RX0]
def w2_X0_haveNoRound : List Cond := .code yX0_haveNoRound cX0_haveNoRound 5 (some .boolean) :: (w2t_X0_haveNoRound ++ (w2_X0_nextAfter))
set_option maxRecDepth 20000 in
theorem w2g_X0_haveNoRound : ∀ w ∈ w2_X0_haveNoRound, ((w.onTables && w.keeps) = true ∨ ∃ ty, w = .arrayClass ty) := by
  intro w h
  rcases List.mem_cons.mp h with rfl | h
  · exact good_of_word (by decide +kernel)
  rcases List.mem_append.mp h with h | h
  · exact good_of_word (List.all_eq_true.mp (show List.all w2t_X0_haveNoRound goodWord = true by decide +kernel) w h)
  exact w2g_X0_nextAfter w h
theorem w2i_X0_haveNoRound_X0_nextAfter : ∀ w ∈ w2_X0_nextAfter, w ∈ w2_X0_haveNoRound := fun w h => List.mem_cons_of_mem _ (List.mem_append_right _ (h))
theorem gd_X0_haveNoRound_X0_nextAfter : GoodIn w2_X0_haveNoRound (va_wsS RX0 25 yX0_nextAfter w2_X0_nextAfter) := goodIn_app (goodIn_of _ (by decide +kernel)) (fun w h => ⟨w2i_X0_haveNoRound_X0_nextAfter w h, w2g_X0_nextAfter w h⟩)
def w2t_X0_areGraph : List Cond := [.methodLink RX0 19 yX0_fromAll, .methodLink RX0 22 yX0_haveNoRound, .static yX0_fromAll, .initialized RX0, .static yX0_haveNoRound]
def w2_X0_areGraph : List Cond := .code yX0_areGraph cX0_areGraph 5 (some .boolean) :: (w2t_X0_areGraph ++ (w2_X0_fromAll ++ (w2_X0_haveNoRound)))
set_option maxRecDepth 20000 in
theorem w2g_X0_areGraph : ∀ w ∈ w2_X0_areGraph, ((w.onTables && w.keeps) = true ∨ ∃ ty, w = .arrayClass ty) := by
  intro w h
  rcases List.mem_cons.mp h with rfl | h
  · exact good_of_word (by decide +kernel)
  rcases List.mem_append.mp h with h | h
  · exact good_of_word (List.all_eq_true.mp (show List.all w2t_X0_areGraph goodWord = true by decide +kernel) w h)
  rcases List.mem_append.mp h with h | h
  · exact w2g_X0_fromAll w h
  exact w2g_X0_haveNoRound w h
theorem w2i_X0_areGraph_X0_fromAll : ∀ w ∈ w2_X0_fromAll, w ∈ w2_X0_areGraph := fun w h => List.mem_cons_of_mem _ (List.mem_append_right _ (List.mem_append_left _ (h)))
theorem w2i_X0_areGraph_X0_haveNoRound : ∀ w ∈ w2_X0_haveNoRound, w ∈ w2_X0_areGraph := fun w h => List.mem_cons_of_mem _ (List.mem_append_right _ (List.mem_append_right _ (h)))
theorem gd_X0_areGraph_X0_fromAll : GoodIn w2_X0_areGraph (va_wsS RX0 19 yX0_fromAll w2_X0_fromAll) := goodIn_app (goodIn_of _ (by decide +kernel)) (fun w h => ⟨w2i_X0_areGraph_X0_fromAll w h, w2g_X0_fromAll w h⟩)
theorem gd_X0_areGraph_X0_haveNoRound : GoodIn w2_X0_areGraph (va_wsS RX0 22 yX0_haveNoRound w2_X0_haveNoRound) := goodIn_app (goodIn_of _ (by decide +kernel)) (fun w h => ⟨w2i_X0_areGraph_X0_haveNoRound w h, w2g_X0_haveNoRound w h⟩)
def w2t_J6_bitCount_0f7a4 : List Cond := [.constant RJ6 265 (1431655765), .constant RJ6 266 (858993459), .constant RJ6 267 (252645135)]
def w2_J6_bitCount_0f7a4 : List Cond := .code yJ6_bitCount_0f7a4 cJ6_bitCount_0f7a4 1 (some .int) :: (w2t_J6_bitCount_0f7a4)
set_option maxRecDepth 20000 in
theorem w2g_J6_bitCount_0f7a4 : ∀ w ∈ w2_J6_bitCount_0f7a4, ((w.onTables && w.keeps) = true ∨ ∃ ty, w = .arrayClass ty) := by
  intro w h
  rcases List.mem_cons.mp h with rfl | h
  · exact good_of_word (by decide +kernel)
  exact good_of_word (List.all_eq_true.mp (show List.all w2t_J6_bitCount_0f7a4 goodWord = true by decide +kernel) w h)
def w2t_X0_areBounded : List Cond := [.methodLink RX0 29 yX0_parentsIn, .methodLink RX0 32 yJ6_bitCount_0f7a4, .static yX0_parentsIn, .initialized RX0, .static yJ6_bitCount_0f7a4, .initialized RJ6]
def w2_X0_areBounded : List Cond := .code yX0_areBounded cX0_areBounded 3 (some .boolean) :: (w2t_X0_areBounded ++ (w2_J6_bitCount_0f7a4 ++ (w2_X0_parentsIn)))
set_option maxRecDepth 20000 in
theorem w2g_X0_areBounded : ∀ w ∈ w2_X0_areBounded, ((w.onTables && w.keeps) = true ∨ ∃ ty, w = .arrayClass ty) := by
  intro w h
  rcases List.mem_cons.mp h with rfl | h
  · exact good_of_word (by decide +kernel)
  rcases List.mem_append.mp h with h | h
  · exact good_of_word (List.all_eq_true.mp (show List.all w2t_X0_areBounded goodWord = true by decide +kernel) w h)
  rcases List.mem_append.mp h with h | h
  · exact w2g_J6_bitCount_0f7a4 w h
  exact w2g_X0_parentsIn w h
theorem w2i_X0_areBounded_J6_bitCount_0f7a4 : ∀ w ∈ w2_J6_bitCount_0f7a4, w ∈ w2_X0_areBounded := fun w h => List.mem_cons_of_mem _ (List.mem_append_right _ (List.mem_append_left _ (h)))
theorem w2i_X0_areBounded_X0_parentsIn : ∀ w ∈ w2_X0_parentsIn, w ∈ w2_X0_areBounded := fun w h => List.mem_cons_of_mem _ (List.mem_append_right _ (List.mem_append_right _ (h)))
theorem gd_X0_areBounded_X0_parentsIn : GoodIn w2_X0_areBounded (va_wsS RX0 29 yX0_parentsIn w2_X0_parentsIn) := goodIn_app (goodIn_of _ (by decide +kernel)) (fun w h => ⟨w2i_X0_areBounded_X0_parentsIn w h, w2g_X0_parentsIn w h⟩)
theorem gd_X0_areBounded_J6_bitCount_0f7a4 : GoodIn w2_X0_areBounded (va_wsS RX0 32 yJ6_bitCount_0f7a4 w2_J6_bitCount_0f7a4) := goodIn_app (goodIn_of _ (by decide +kernel)) (fun w h => ⟨w2i_X0_areBounded_J6_bitCount_0f7a4 w h, w2g_J6_bitCount_0f7a4 w h⟩)
def w2t_X1_init : List Cond := [.methodLink RX1 3 objectInit, .fieldLink RX1 9 "StructureSearch$Big" "words" "[J", .fieldLink RX1 15 "StructureSearch$Big" "used" "I", .instanceMethod objectInit, .code objectInit ⟨#[0xb1]⟩ 1 none, .arrayClass .long]
def w2_X1_init : List Cond := .code yX1_init cX1_init 2 none :: (w2t_X1_init ++ (wsX10))
set_option maxRecDepth 20000 in
theorem w2g_X1_init : ∀ w ∈ w2_X1_init, ((w.onTables && w.keeps) = true ∨ ∃ ty, w = .arrayClass ty) := by
  intro w h
  rcases List.mem_cons.mp h with rfl | h
  · exact good_of_word (by decide +kernel)
  rcases List.mem_append.mp h with h | h
  · exact good_of_word (List.all_eq_true.mp (show List.all w2t_X1_init goodWord = true by decide +kernel) w h)
  exact good_of_word (List.all_eq_true.mp (show List.all wsX10 goodWord = true by decide +kernel) w h)
theorem w2i_X1_init_X10 : ∀ w ∈ wsX10, w ∈ w2_X1_init := fun w h => List.mem_cons_of_mem _ (List.mem_append_right _ (h))
def w2t_X1_length : List Cond := [.fieldLink RX1 15 "StructureSearch$Big" "used" "I"]
def w2_X1_length : List Cond := .code yX1_length cX1_length 1 (some .int) :: (w2t_X1_length ++ (wsX10))
set_option maxRecDepth 20000 in
theorem w2g_X1_length : ∀ w ∈ w2_X1_length, ((w.onTables && w.keeps) = true ∨ ∃ ty, w = .arrayClass ty) := by
  intro w h
  rcases List.mem_cons.mp h with rfl | h
  · exact good_of_word (by decide +kernel)
  rcases List.mem_append.mp h with h | h
  · exact good_of_word (List.all_eq_true.mp (show List.all w2t_X1_length goodWord = true by decide +kernel) w h)
  exact good_of_word (List.all_eq_true.mp (show List.all wsX10 goodWord = true by decide +kernel) w h)
theorem w2i_X1_length_X10 : ∀ w ∈ wsX10, w ∈ w2_X1_length := fun w h => List.mem_cons_of_mem _ (List.mem_append_right _ (h))
def w2t_X1_at : List Cond := [.fieldLink RX1 15 "StructureSearch$Big" "used" "I", .fieldLink RX1 9 "StructureSearch$Big" "words" "[J"]
def w2_X1_at : List Cond := .code yX1_at cX1_at 2 (some .long) :: (w2t_X1_at ++ (wsX10))
set_option maxRecDepth 20000 in
theorem w2g_X1_at : ∀ w ∈ w2_X1_at, ((w.onTables && w.keeps) = true ∨ ∃ ty, w = .arrayClass ty) := by
  intro w h
  rcases List.mem_cons.mp h with rfl | h
  · exact good_of_word (by decide +kernel)
  rcases List.mem_append.mp h with h | h
  · exact good_of_word (List.all_eq_true.mp (show List.all w2t_X1_at goodWord = true by decide +kernel) w h)
  exact good_of_word (List.all_eq_true.mp (show List.all wsX10 goodWord = true by decide +kernel) w h)
theorem w2i_X1_at_X10 : ∀ w ∈ wsX10, w ∈ w2_X1_at := fun w h => List.mem_cons_of_mem _ (List.mem_append_right _ (h))
def w2t_X1_become : List Cond := [.fieldLink RX1 15 "StructureSearch$Big" "used" "I", .fieldLink RX1 9 "StructureSearch$Big" "words" "[J"]
def w2_X1_become : List Cond := .code yX1_become cX1_become 2 none :: (w2t_X1_become ++ (wsX10))
set_option maxRecDepth 20000 in
theorem w2g_X1_become : ∀ w ∈ w2_X1_become, ((w.onTables && w.keeps) = true ∨ ∃ ty, w = .arrayClass ty) := by
  intro w h
  rcases List.mem_cons.mp h with rfl | h
  · exact good_of_word (by decide +kernel)
  rcases List.mem_append.mp h with h | h
  · exact good_of_word (List.all_eq_true.mp (show List.all w2t_X1_become goodWord = true by decide +kernel) w h)
  exact good_of_word (List.all_eq_true.mp (show List.all wsX10 goodWord = true by decide +kernel) w h)
theorem w2i_X1_become_X10 : ∀ w ∈ wsX10, w ∈ w2_X1_become := fun w h => List.mem_cons_of_mem _ (List.mem_append_right _ (h))
def w2t_X1_copy : List Cond := [.fieldLink RX1 15 "StructureSearch$Big" "used" "I", .fieldLink RX1 9 "StructureSearch$Big" "words" "[J", .methodLink RX1 19 Lib.Math.min.name, .methodLink RX1 25 arraycopyName, .static Lib.Math.min.name, .initialized "java/lang/Math", .code Lib.Math.min.name Lib.Math.min.code 2 (some .int), .native arraycopyName, .static arraycopyName, .initialized "java/lang/System"]
def w2_X1_copy : List Cond := .code yX1_copy cX1_copy 2 none :: (w2t_X1_copy ++ (wsX10))
set_option maxRecDepth 20000 in
theorem w2g_X1_copy : ∀ w ∈ w2_X1_copy, ((w.onTables && w.keeps) = true ∨ ∃ ty, w = .arrayClass ty) := by
  intro w h
  rcases List.mem_cons.mp h with rfl | h
  · exact good_of_word (by decide +kernel)
  rcases List.mem_append.mp h with h | h
  · exact good_of_word (List.all_eq_true.mp (show List.all w2t_X1_copy goodWord = true by decide +kernel) w h)
  exact good_of_word (List.all_eq_true.mp (show List.all wsX10 goodWord = true by decide +kernel) w h)
theorem w2i_X1_copy_X10 : ∀ w ∈ wsX10, w ∈ w2_X1_copy := fun w h => List.mem_cons_of_mem _ (List.mem_append_right _ (h))
def w2t_X1_against : List Cond := [.fieldLink RX1 15 "StructureSearch$Big" "used" "I", .methodLink RX1 31 yX1_at, .instanceMethod yX1_at, .selects RX1 yX1_at yX1_at, .initialized RX1]
def w2_X1_against : List Cond := .code yX1_against cX1_against 3 (some .int) :: (w2t_X1_against ++ (wsX10 ++ (w2_X1_at)))
set_option maxRecDepth 20000 in
theorem w2g_X1_against : ∀ w ∈ w2_X1_against, ((w.onTables && w.keeps) = true ∨ ∃ ty, w = .arrayClass ty) := by
  intro w h
  rcases List.mem_cons.mp h with rfl | h
  · exact good_of_word (by decide +kernel)
  rcases List.mem_append.mp h with h | h
  · exact good_of_word (List.all_eq_true.mp (show List.all w2t_X1_against goodWord = true by decide +kernel) w h)
  rcases List.mem_append.mp h with h | h
  · exact good_of_word (List.all_eq_true.mp (show List.all wsX10 goodWord = true by decide +kernel) w h)
  exact w2g_X1_at w h
theorem w2i_X1_against_X10 : ∀ w ∈ wsX10, w ∈ w2_X1_against := fun w h => List.mem_cons_of_mem _ (List.mem_append_right _ (List.mem_append_left _ (h)))
theorem w2i_X1_against_X1_at : ∀ w ∈ w2_X1_at, w ∈ w2_X1_against := fun w h => List.mem_cons_of_mem _ (List.mem_append_right _ (List.mem_append_right _ (h)))
theorem gd_X1_against_X1_at : GoodIn w2_X1_against (wsV RX1 31 RX1 yX1_at w2_X1_at) := goodIn_app (goodIn_of _ (by decide +kernel)) (fun w h => ⟨w2i_X1_against_X1_at w h, w2g_X1_at w h⟩)
def w2t_X1_timesSmall : List Cond := [.fieldLink RX1 15 "StructureSearch$Big" "used" "I", .fieldLink RX1 9 "StructureSearch$Big" "words" "[J", .constantLong RX1 35 (4294967295)]
def w2_X1_timesSmall : List Cond := .code yX1_timesSmall cX1_timesSmall 8 none :: (w2t_X1_timesSmall ++ (wsX10))
set_option maxRecDepth 20000 in
theorem w2g_X1_timesSmall : ∀ w ∈ w2_X1_timesSmall, ((w.onTables && w.keeps) = true ∨ ∃ ty, w = .arrayClass ty) := by
  intro w h
  rcases List.mem_cons.mp h with rfl | h
  · exact good_of_word (by decide +kernel)
  rcases List.mem_append.mp h with h | h
  · exact good_of_word (List.all_eq_true.mp (show List.all w2t_X1_timesSmall goodWord = true by decide +kernel) w h)
  exact good_of_word (List.all_eq_true.mp (show List.all wsX10 goodWord = true by decide +kernel) w h)
theorem w2i_X1_timesSmall_X10 : ∀ w ∈ wsX10, w ∈ w2_X1_timesSmall := fun w h => List.mem_cons_of_mem _ (List.mem_append_right _ (h))
def w2t_X1_addMultiple : List Cond := [.fieldLink RX1 15 "StructureSearch$Big" "used" "I", .fieldLink RX1 9 "StructureSearch$Big" "words" "[J", .methodLink RX1 19 Lib.Math.min.name, .constantLong RX1 35 (4294967295), .static Lib.Math.min.name, .initialized "java/lang/Math", .code Lib.Math.min.name Lib.Math.min.code 2 (some .int)]
def w2_X1_addMultiple : List Cond := .code yX1_addMultiple cX1_addMultiple 12 none :: (w2t_X1_addMultiple ++ (wsX10))
set_option maxRecDepth 20000 in
theorem w2g_X1_addMultiple : ∀ w ∈ w2_X1_addMultiple, ((w.onTables && w.keeps) = true ∨ ∃ ty, w = .arrayClass ty) := by
  intro w h
  rcases List.mem_cons.mp h with rfl | h
  · exact good_of_word (by decide +kernel)
  rcases List.mem_append.mp h with h | h
  · exact good_of_word (List.all_eq_true.mp (show List.all w2t_X1_addMultiple goodWord = true by decide +kernel) w h)
  exact good_of_word (List.all_eq_true.mp (show List.all wsX10 goodWord = true by decide +kernel) w h)
theorem w2i_X1_addMultiple_X10 : ∀ w ∈ wsX10, w ∈ w2_X1_addMultiple := fun w h => List.mem_cons_of_mem _ (List.mem_append_right _ (h))
def w2t_X1_trim : List Cond := [.fieldLink RX1 15 "StructureSearch$Big" "used" "I", .fieldLink RX1 9 "StructureSearch$Big" "words" "[J", .methodLink RX1 19 Lib.Math.min.name, .static Lib.Math.min.name, .initialized "java/lang/Math", .code Lib.Math.min.name Lib.Math.min.code 2 (some .int)]
def w2_X1_trim : List Cond := .code yX1_trim cX1_trim 2 none :: (w2t_X1_trim ++ (wsX10))
set_option maxRecDepth 20000 in
theorem w2g_X1_trim : ∀ w ∈ w2_X1_trim, ((w.onTables && w.keeps) = true ∨ ∃ ty, w = .arrayClass ty) := by
  intro w h
  rcases List.mem_cons.mp h with rfl | h
  · exact good_of_word (by decide +kernel)
  rcases List.mem_append.mp h with h | h
  · exact good_of_word (List.all_eq_true.mp (show List.all w2t_X1_trim goodWord = true by decide +kernel) w h)
  exact good_of_word (List.all_eq_true.mp (show List.all wsX10 goodWord = true by decide +kernel) w h)
theorem w2i_X1_trim_X10 : ∀ w ∈ wsX10, w ∈ w2_X1_trim := fun w h => List.mem_cons_of_mem _ (List.mem_append_right _ (h))
def w2t_X1_widen : List Cond := [.fieldLink RX1 9 "StructureSearch$Big" "words" "[J", .methodLink RX1 19 Lib.Math.min.name, .fieldLink RX1 15 "StructureSearch$Big" "used" "I", .methodLink RX1 48 Lib.Math.max.name, .static Lib.Math.min.name, .initialized "java/lang/Math", .code Lib.Math.min.name Lib.Math.min.code 2 (some .int), .static Lib.Math.max.name, .code Lib.Math.max.name Lib.Math.max.code 2 (some .int)]
def w2_X1_widen : List Cond := .code yX1_widen cX1_widen 4 none :: (w2t_X1_widen ++ (wsX10))
set_option maxRecDepth 20000 in
theorem w2g_X1_widen : ∀ w ∈ w2_X1_widen, ((w.onTables && w.keeps) = true ∨ ∃ ty, w = .arrayClass ty) := by
  intro w h
  rcases List.mem_cons.mp h with rfl | h
  · exact good_of_word (by decide +kernel)
  rcases List.mem_append.mp h with h | h
  · exact good_of_word (List.all_eq_true.mp (show List.all w2t_X1_widen goodWord = true by decide +kernel) w h)
  exact good_of_word (List.all_eq_true.mp (show List.all wsX10 goodWord = true by decide +kernel) w h)
theorem w2i_X1_widen_X10 : ∀ w ∈ wsX10, w ∈ w2_X1_widen := fun w h => List.mem_cons_of_mem _ (List.mem_append_right _ (h))
def w2t_X1_times : List Cond := [.fieldLink RX1 15 "StructureSearch$Big" "used" "I", .fieldLink RX1 9 "StructureSearch$Big" "words" "[J", .methodLink RX1 19 Lib.Math.min.name, .methodLink RX1 37 yX1_widen, .methodLink RX1 41 yX1_addMultiple, .methodLink RX1 45 yX1_trim, .static Lib.Math.min.name, .initialized "java/lang/Math", .code Lib.Math.min.name Lib.Math.min.code 2 (some .int), .instanceMethod yX1_widen, .selects RX1 yX1_widen yX1_widen, .initialized RX1, .instanceMethod yX1_addMultiple, .selects RX1 yX1_addMultiple yX1_addMultiple, .instanceMethod yX1_trim, .selects RX1 yX1_trim yX1_trim]
def w2_X1_times : List Cond := .code yX1_times cX1_times 6 none :: (w2t_X1_times ++ (wsX10 ++ (w2_X1_addMultiple ++ (w2_X1_trim ++ (w2_X1_widen)))))
set_option maxRecDepth 20000 in
theorem w2g_X1_times : ∀ w ∈ w2_X1_times, ((w.onTables && w.keeps) = true ∨ ∃ ty, w = .arrayClass ty) := by
  intro w h
  rcases List.mem_cons.mp h with rfl | h
  · exact good_of_word (by decide +kernel)
  rcases List.mem_append.mp h with h | h
  · exact good_of_word (List.all_eq_true.mp (show List.all w2t_X1_times goodWord = true by decide +kernel) w h)
  rcases List.mem_append.mp h with h | h
  · exact good_of_word (List.all_eq_true.mp (show List.all wsX10 goodWord = true by decide +kernel) w h)
  rcases List.mem_append.mp h with h | h
  · exact w2g_X1_addMultiple w h
  rcases List.mem_append.mp h with h | h
  · exact w2g_X1_trim w h
  exact w2g_X1_widen w h
theorem w2i_X1_times_X10 : ∀ w ∈ wsX10, w ∈ w2_X1_times := fun w h => List.mem_cons_of_mem _ (List.mem_append_right _ (List.mem_append_left _ (h)))
theorem w2i_X1_times_X1_addMultiple : ∀ w ∈ w2_X1_addMultiple, w ∈ w2_X1_times := fun w h => List.mem_cons_of_mem _ (List.mem_append_right _ (List.mem_append_right _ (List.mem_append_left _ (h))))
theorem w2i_X1_times_X1_trim : ∀ w ∈ w2_X1_trim, w ∈ w2_X1_times := fun w h => List.mem_cons_of_mem _ (List.mem_append_right _ (List.mem_append_right _ (List.mem_append_right _ (List.mem_append_left _ (h)))))
theorem w2i_X1_times_X1_widen : ∀ w ∈ w2_X1_widen, w ∈ w2_X1_times := fun w h => List.mem_cons_of_mem _ (List.mem_append_right _ (List.mem_append_right _ (List.mem_append_right _ (List.mem_append_right _ (h)))))
theorem gd_X1_times_X1_widen : GoodIn w2_X1_times (wsV RX1 37 RX1 yX1_widen w2_X1_widen) := goodIn_app (goodIn_of _ (by decide +kernel)) (fun w h => ⟨w2i_X1_times_X1_widen w h, w2g_X1_widen w h⟩)
theorem gd_X1_times_X1_addMultiple : GoodIn w2_X1_times (wsV RX1 41 RX1 yX1_addMultiple w2_X1_addMultiple) := goodIn_app (goodIn_of _ (by decide +kernel)) (fun w h => ⟨w2i_X1_times_X1_addMultiple w h, w2g_X1_addMultiple w h⟩)
theorem gd_X1_times_X1_trim : GoodIn w2_X1_times (wsV RX1 45 RX1 yX1_trim w2_X1_trim) := goodIn_app (goodIn_of _ (by decide +kernel)) (fun w h => ⟨w2i_X1_times_X1_trim w h, w2g_X1_trim w h⟩)
def w2t_X1_plus : List Cond := [.fieldLink RX1 15 "StructureSearch$Big" "used" "I", .methodLink RX1 48 Lib.Math.max.name, .methodLink RX1 37 yX1_widen, .methodLink RX1 41 yX1_addMultiple, .methodLink RX1 45 yX1_trim, .static Lib.Math.max.name, .initialized "java/lang/Math", .code Lib.Math.max.name Lib.Math.max.code 2 (some .int), .instanceMethod yX1_widen, .selects RX1 yX1_widen yX1_widen, .initialized RX1, .instanceMethod yX1_addMultiple, .selects RX1 yX1_addMultiple yX1_addMultiple, .instanceMethod yX1_trim, .selects RX1 yX1_trim yX1_trim]
def w2_X1_plus : List Cond := .code yX1_plus cX1_plus 2 none :: (w2t_X1_plus ++ (wsX10 ++ (w2_X1_addMultiple ++ (w2_X1_trim ++ (w2_X1_widen)))))
set_option maxRecDepth 20000 in
theorem w2g_X1_plus : ∀ w ∈ w2_X1_plus, ((w.onTables && w.keeps) = true ∨ ∃ ty, w = .arrayClass ty) := by
  intro w h
  rcases List.mem_cons.mp h with rfl | h
  · exact good_of_word (by decide +kernel)
  rcases List.mem_append.mp h with h | h
  · exact good_of_word (List.all_eq_true.mp (show List.all w2t_X1_plus goodWord = true by decide +kernel) w h)
  rcases List.mem_append.mp h with h | h
  · exact good_of_word (List.all_eq_true.mp (show List.all wsX10 goodWord = true by decide +kernel) w h)
  rcases List.mem_append.mp h with h | h
  · exact w2g_X1_addMultiple w h
  rcases List.mem_append.mp h with h | h
  · exact w2g_X1_trim w h
  exact w2g_X1_widen w h
theorem w2i_X1_plus_X10 : ∀ w ∈ wsX10, w ∈ w2_X1_plus := fun w h => List.mem_cons_of_mem _ (List.mem_append_right _ (List.mem_append_left _ (h)))
theorem w2i_X1_plus_X1_addMultiple : ∀ w ∈ w2_X1_addMultiple, w ∈ w2_X1_plus := fun w h => List.mem_cons_of_mem _ (List.mem_append_right _ (List.mem_append_right _ (List.mem_append_left _ (h))))
theorem w2i_X1_plus_X1_trim : ∀ w ∈ w2_X1_trim, w ∈ w2_X1_plus := fun w h => List.mem_cons_of_mem _ (List.mem_append_right _ (List.mem_append_right _ (List.mem_append_right _ (List.mem_append_left _ (h)))))
theorem w2i_X1_plus_X1_widen : ∀ w ∈ w2_X1_widen, w ∈ w2_X1_plus := fun w h => List.mem_cons_of_mem _ (List.mem_append_right _ (List.mem_append_right _ (List.mem_append_right _ (List.mem_append_right _ (h)))))
theorem gd_X1_plus_X1_widen : GoodIn w2_X1_plus (wsV RX1 37 RX1 yX1_widen w2_X1_widen) := goodIn_app (goodIn_of _ (by decide +kernel)) (fun w h => ⟨w2i_X1_plus_X1_widen w h, w2g_X1_widen w h⟩)
theorem gd_X1_plus_X1_addMultiple : GoodIn w2_X1_plus (wsV RX1 41 RX1 yX1_addMultiple w2_X1_addMultiple) := goodIn_app (goodIn_of _ (by decide +kernel)) (fun w h => ⟨w2i_X1_plus_X1_addMultiple w h, w2g_X1_addMultiple w h⟩)
theorem gd_X1_plus_X1_trim : GoodIn w2_X1_plus (wsV RX1 45 RX1 yX1_trim w2_X1_trim) := goodIn_app (goodIn_of _ (by decide +kernel)) (fun w h => ⟨w2i_X1_plus_X1_trim w h, w2g_X1_trim w h⟩)
def w2t_X1_subtractMultiple : List Cond := [.fieldLink RX1 15 "StructureSearch$Big" "used" "I", .fieldLink RX1 9 "StructureSearch$Big" "words" "[J", .methodLink RX1 19 Lib.Math.min.name, .constantLong RX1 35 (4294967295), .methodLink RX1 45 yX1_trim, .static Lib.Math.min.name, .initialized "java/lang/Math", .code Lib.Math.min.name Lib.Math.min.code 2 (some .int), .instanceMethod yX1_trim, .selects RX1 yX1_trim yX1_trim, .initialized RX1]
def w2_X1_subtractMultiple : List Cond := .code yX1_subtractMultiple cX1_subtractMultiple 14 none :: (w2t_X1_subtractMultiple ++ (wsX10 ++ (w2_X1_trim)))
set_option maxRecDepth 20000 in
theorem w2g_X1_subtractMultiple : ∀ w ∈ w2_X1_subtractMultiple, ((w.onTables && w.keeps) = true ∨ ∃ ty, w = .arrayClass ty) := by
  intro w h
  rcases List.mem_cons.mp h with rfl | h
  · exact good_of_word (by decide +kernel)
  rcases List.mem_append.mp h with h | h
  · exact good_of_word (List.all_eq_true.mp (show List.all w2t_X1_subtractMultiple goodWord = true by decide +kernel) w h)
  rcases List.mem_append.mp h with h | h
  · exact good_of_word (List.all_eq_true.mp (show List.all wsX10 goodWord = true by decide +kernel) w h)
  exact w2g_X1_trim w h
theorem w2i_X1_subtractMultiple_X10 : ∀ w ∈ wsX10, w ∈ w2_X1_subtractMultiple := fun w h => List.mem_cons_of_mem _ (List.mem_append_right _ (List.mem_append_left _ (h)))
theorem w2i_X1_subtractMultiple_X1_trim : ∀ w ∈ w2_X1_trim, w ∈ w2_X1_subtractMultiple := fun w h => List.mem_cons_of_mem _ (List.mem_append_right _ (List.mem_append_right _ (h)))
theorem gd_X1_subtractMultiple_X1_trim : GoodIn w2_X1_subtractMultiple (wsV RX1 45 RX1 yX1_trim w2_X1_trim) := goodIn_app (goodIn_of _ (by decide +kernel)) (fun w h => ⟨w2i_X1_subtractMultiple_X1_trim w h, w2g_X1_trim w h⟩)
def w2t_X1_minus : List Cond := [.methodLink RX1 51 yX1_subtractMultiple, .instanceMethod yX1_subtractMultiple, .selects RX1 yX1_subtractMultiple yX1_subtractMultiple, .initialized RX1]
def w2_X1_minus : List Cond := .code yX1_minus cX1_minus 2 none :: (w2t_X1_minus ++ (w2_X1_subtractMultiple))
set_option maxRecDepth 20000 in
theorem w2g_X1_minus : ∀ w ∈ w2_X1_minus, ((w.onTables && w.keeps) = true ∨ ∃ ty, w = .arrayClass ty) := by
  intro w h
  rcases List.mem_cons.mp h with rfl | h
  · exact good_of_word (by decide +kernel)
  rcases List.mem_append.mp h with h | h
  · exact good_of_word (List.all_eq_true.mp (show List.all w2t_X1_minus goodWord = true by decide +kernel) w h)
  exact w2g_X1_subtractMultiple w h
theorem w2i_X1_minus_X1_subtractMultiple : ∀ w ∈ w2_X1_subtractMultiple, w ∈ w2_X1_minus := fun w h => List.mem_cons_of_mem _ (List.mem_append_right _ (h))
theorem gd_X1_minus_X1_subtractMultiple : GoodIn w2_X1_minus (wsV RX1 51 RX1 yX1_subtractMultiple w2_X1_subtractMultiple) := goodIn_app (goodIn_of _ (by decide +kernel)) (fun w h => ⟨w2i_X1_minus_X1_subtractMultiple w h, w2g_X1_subtractMultiple w h⟩)
def w2t_X1_addDigit : List Cond := [.fieldLink RX1 15 "StructureSearch$Big" "used" "I", .methodLink RX1 48 Lib.Math.max.name, .fieldLink RX1 9 "StructureSearch$Big" "words" "[J", .methodLink RX1 19 Lib.Math.min.name, .constantLong RX1 35 (4294967295), .methodLink RX1 37 yX1_widen, .methodLink RX1 45 yX1_trim, .static Lib.Math.max.name, .initialized "java/lang/Math", .code Lib.Math.max.name Lib.Math.max.code 2 (some .int), .static Lib.Math.min.name, .code Lib.Math.min.name Lib.Math.min.code 2 (some .int), .instanceMethod yX1_widen, .selects RX1 yX1_widen yX1_widen, .initialized RX1, .instanceMethod yX1_trim, .selects RX1 yX1_trim yX1_trim]
def w2_X1_addDigit : List Cond := .code yX1_addDigit cX1_addDigit 10 none :: (w2t_X1_addDigit ++ (wsX10 ++ (w2_X1_trim ++ (w2_X1_widen))))
set_option maxRecDepth 20000 in
theorem w2g_X1_addDigit : ∀ w ∈ w2_X1_addDigit, ((w.onTables && w.keeps) = true ∨ ∃ ty, w = .arrayClass ty) := by
  intro w h
  rcases List.mem_cons.mp h with rfl | h
  · exact good_of_word (by decide +kernel)
  rcases List.mem_append.mp h with h | h
  · exact good_of_word (List.all_eq_true.mp (show List.all w2t_X1_addDigit goodWord = true by decide +kernel) w h)
  rcases List.mem_append.mp h with h | h
  · exact good_of_word (List.all_eq_true.mp (show List.all wsX10 goodWord = true by decide +kernel) w h)
  rcases List.mem_append.mp h with h | h
  · exact w2g_X1_trim w h
  exact w2g_X1_widen w h
theorem w2i_X1_addDigit_X10 : ∀ w ∈ wsX10, w ∈ w2_X1_addDigit := fun w h => List.mem_cons_of_mem _ (List.mem_append_right _ (List.mem_append_left _ (h)))
theorem w2i_X1_addDigit_X1_trim : ∀ w ∈ w2_X1_trim, w ∈ w2_X1_addDigit := fun w h => List.mem_cons_of_mem _ (List.mem_append_right _ (List.mem_append_right _ (List.mem_append_left _ (h))))
theorem w2i_X1_addDigit_X1_widen : ∀ w ∈ w2_X1_widen, w ∈ w2_X1_addDigit := fun w h => List.mem_cons_of_mem _ (List.mem_append_right _ (List.mem_append_right _ (List.mem_append_right _ (h))))
theorem gd_X1_addDigit_X1_widen : GoodIn w2_X1_addDigit (wsV RX1 37 RX1 yX1_widen w2_X1_widen) := goodIn_app (goodIn_of _ (by decide +kernel)) (fun w h => ⟨w2i_X1_addDigit_X1_widen w h, w2g_X1_widen w h⟩)
theorem gd_X1_addDigit_X1_trim : GoodIn w2_X1_addDigit (wsV RX1 45 RX1 yX1_trim w2_X1_trim) := goodIn_app (goodIn_of _ (by decide +kernel)) (fun w h => ⟨w2i_X1_addDigit_X1_trim w h, w2g_X1_trim w h⟩)
def w2t_J13_bitCount_95d88 : List Cond := [.constantLong RJ13 314 (6148914691236517205), .constantLong RJ13 316 (3689348814741910323), .constantLong RJ13 318 (1085102592571150095)]
def w2_J13_bitCount_95d88 : List Cond := .code yJ13_bitCount_95d88 cJ13_bitCount_95d88 2 (some .int) :: (w2t_J13_bitCount_95d88)
set_option maxRecDepth 20000 in
theorem w2g_J13_bitCount_95d88 : ∀ w ∈ w2_J13_bitCount_95d88, ((w.onTables && w.keeps) = true ∨ ∃ ty, w = .arrayClass ty) := by
  intro w h
  rcases List.mem_cons.mp h with rfl | h
  · exact good_of_word (by decide +kernel)
  exact good_of_word (List.all_eq_true.mp (show List.all w2t_J13_bitCount_95d88 goodWord = true by decide +kernel) w h)
def w2t_X1_bits : List Cond := [.fieldLink RX1 15 "StructureSearch$Big" "used" "I", .methodLink RX1 31 yX1_at, .methodLink RX1 79 yJ13_bitCount_95d88, .instanceMethod yX1_at, .selects RX1 yX1_at yX1_at, .initialized RX1, .static yJ13_bitCount_95d88, .initialized RJ13]
def w2_X1_bits : List Cond := .code yX1_bits cX1_bits 4 (some .int) :: (w2t_X1_bits ++ (wsX10 ++ (w2_J13_bitCount_95d88 ++ (w2_X1_at))))
set_option maxRecDepth 20000 in
theorem w2g_X1_bits : ∀ w ∈ w2_X1_bits, ((w.onTables && w.keeps) = true ∨ ∃ ty, w = .arrayClass ty) := by
  intro w h
  rcases List.mem_cons.mp h with rfl | h
  · exact good_of_word (by decide +kernel)
  rcases List.mem_append.mp h with h | h
  · exact good_of_word (List.all_eq_true.mp (show List.all w2t_X1_bits goodWord = true by decide +kernel) w h)
  rcases List.mem_append.mp h with h | h
  · exact good_of_word (List.all_eq_true.mp (show List.all wsX10 goodWord = true by decide +kernel) w h)
  rcases List.mem_append.mp h with h | h
  · exact w2g_J13_bitCount_95d88 w h
  exact w2g_X1_at w h
theorem w2i_X1_bits_X10 : ∀ w ∈ wsX10, w ∈ w2_X1_bits := fun w h => List.mem_cons_of_mem _ (List.mem_append_right _ (List.mem_append_left _ (h)))
theorem w2i_X1_bits_J13_bitCount_95d88 : ∀ w ∈ w2_J13_bitCount_95d88, w ∈ w2_X1_bits := fun w h => List.mem_cons_of_mem _ (List.mem_append_right _ (List.mem_append_right _ (List.mem_append_left _ (h))))
theorem w2i_X1_bits_X1_at : ∀ w ∈ w2_X1_at, w ∈ w2_X1_bits := fun w h => List.mem_cons_of_mem _ (List.mem_append_right _ (List.mem_append_right _ (List.mem_append_right _ (h))))
theorem gd_X1_bits_X1_at : GoodIn w2_X1_bits (wsV RX1 31 RX1 yX1_at w2_X1_at) := goodIn_app (goodIn_of _ (by decide +kernel)) (fun w h => ⟨w2i_X1_bits_X1_at w h, w2g_X1_at w h⟩)
theorem gd_X1_bits_J13_bitCount_95d88 : GoodIn w2_X1_bits (va_wsS RX1 79 yJ13_bitCount_95d88 w2_J13_bitCount_95d88) := goodIn_app (goodIn_of _ (by decide +kernel)) (fun w h => ⟨w2i_X1_bits_J13_bitCount_95d88 w h, w2g_J13_bitCount_95d88 w h⟩)
def w2t_X1_from : List Cond := [.methodLink RX1 31 yX1_at, .instanceMethod yX1_at, .selects RX1 yX1_at yX1_at, .initialized RX1]
def w2_X1_from : List Cond := .code yX1_from cX1_from 6 (some .long) :: (w2t_X1_from ++ (w2_X1_at))
set_option maxRecDepth 20000 in
theorem w2g_X1_from : ∀ w ∈ w2_X1_from, ((w.onTables && w.keeps) = true ∨ ∃ ty, w = .arrayClass ty) := by
  intro w h
  rcases List.mem_cons.mp h with rfl | h
  · exact good_of_word (by decide +kernel)
  rcases List.mem_append.mp h with h | h
  · exact good_of_word (List.all_eq_true.mp (show List.all w2t_X1_from goodWord = true by decide +kernel) w h)
  exact w2g_X1_at w h
theorem w2i_X1_from_X1_at : ∀ w ∈ w2_X1_at, w ∈ w2_X1_from := fun w h => List.mem_cons_of_mem _ (List.mem_append_right _ (h))
theorem gd_X1_from_X1_at : GoodIn w2_X1_from (wsV RX1 31 RX1 yX1_at w2_X1_at) := goodIn_app (goodIn_of _ (by decide +kernel)) (fun w h => ⟨w2i_X1_from_X1_at w h, w2g_X1_at w h⟩)
def w2t_X1_reduceBy : List Cond := [.fieldLink RX1 15 "StructureSearch$Big" "used" "I", .methodLink RX1 48 Lib.Math.max.name, .methodLink RX1 61 Lib.MathLoose.max_long.x, .constant RX1 64 (1000000), .constantLong RX1 35 (4294967295), .methodLink RX1 69 Lib.MathLoose.min_long.x, .methodLink RX1 54 yX1_bits, .methodLink RX1 58 yX1_from, .methodLink RX1 65 yX1_against, .methodLink RX1 51 yX1_subtractMultiple, .methodLink RX1 71 yX1_addDigit, .static Lib.Math.max.name, .initialized "java/lang/Math", .code Lib.Math.max.name Lib.Math.max.code 2 (some .int), .static Lib.MathLoose.max_long.x, .code Lib.MathLoose.max_long.x Lib.MathLoose.max_long.code 4 (some .long), .static Lib.MathLoose.min_long.x, .code Lib.MathLoose.min_long.x Lib.MathLoose.min_long.code 4 (some .long), .instanceMethod yX1_bits, .selects RX1 yX1_bits yX1_bits, .initialized RX1, .instanceMethod yX1_from, .selects RX1 yX1_from yX1_from, .instanceMethod yX1_against, .selects RX1 yX1_against yX1_against, .instanceMethod yX1_subtractMultiple, .selects RX1 yX1_subtractMultiple yX1_subtractMultiple, .instanceMethod yX1_addDigit, .selects RX1 yX1_addDigit yX1_addDigit]
def w2_X1_reduceBy : List Cond := .code yX1_reduceBy cX1_reduceBy 11 none :: (w2t_X1_reduceBy ++ (wsX10 ++ (w2_X1_addDigit ++ (w2_X1_against ++ (w2_X1_bits ++ (w2_X1_from ++ (w2_X1_subtractMultiple)))))))
set_option maxRecDepth 20000 in
theorem w2g_X1_reduceBy : ∀ w ∈ w2_X1_reduceBy, ((w.onTables && w.keeps) = true ∨ ∃ ty, w = .arrayClass ty) := by
  intro w h
  rcases List.mem_cons.mp h with rfl | h
  · exact good_of_word (by decide +kernel)
  rcases List.mem_append.mp h with h | h
  · exact good_of_word (List.all_eq_true.mp (show List.all w2t_X1_reduceBy goodWord = true by decide +kernel) w h)
  rcases List.mem_append.mp h with h | h
  · exact good_of_word (List.all_eq_true.mp (show List.all wsX10 goodWord = true by decide +kernel) w h)
  rcases List.mem_append.mp h with h | h
  · exact w2g_X1_addDigit w h
  rcases List.mem_append.mp h with h | h
  · exact w2g_X1_against w h
  rcases List.mem_append.mp h with h | h
  · exact w2g_X1_bits w h
  rcases List.mem_append.mp h with h | h
  · exact w2g_X1_from w h
  exact w2g_X1_subtractMultiple w h
theorem w2i_X1_reduceBy_X10 : ∀ w ∈ wsX10, w ∈ w2_X1_reduceBy := fun w h => List.mem_cons_of_mem _ (List.mem_append_right _ (List.mem_append_left _ (h)))
theorem w2i_X1_reduceBy_X1_addDigit : ∀ w ∈ w2_X1_addDigit, w ∈ w2_X1_reduceBy := fun w h => List.mem_cons_of_mem _ (List.mem_append_right _ (List.mem_append_right _ (List.mem_append_left _ (h))))
theorem w2i_X1_reduceBy_X1_against : ∀ w ∈ w2_X1_against, w ∈ w2_X1_reduceBy := fun w h => List.mem_cons_of_mem _ (List.mem_append_right _ (List.mem_append_right _ (List.mem_append_right _ (List.mem_append_left _ (h)))))
theorem w2i_X1_reduceBy_X1_bits : ∀ w ∈ w2_X1_bits, w ∈ w2_X1_reduceBy := fun w h => List.mem_cons_of_mem _ (List.mem_append_right _ (List.mem_append_right _ (List.mem_append_right _ (List.mem_append_right _ (List.mem_append_left _ (h))))))
theorem w2i_X1_reduceBy_X1_from : ∀ w ∈ w2_X1_from, w ∈ w2_X1_reduceBy := fun w h => List.mem_cons_of_mem _ (List.mem_append_right _ (List.mem_append_right _ (List.mem_append_right _ (List.mem_append_right _ (List.mem_append_right _ (List.mem_append_left _ (h)))))))
theorem w2i_X1_reduceBy_X1_subtractMultiple : ∀ w ∈ w2_X1_subtractMultiple, w ∈ w2_X1_reduceBy := fun w h => List.mem_cons_of_mem _ (List.mem_append_right _ (List.mem_append_right _ (List.mem_append_right _ (List.mem_append_right _ (List.mem_append_right _ (List.mem_append_right _ (h)))))))
theorem gd_X1_reduceBy_X1_bits : GoodIn w2_X1_reduceBy (wsV RX1 54 RX1 yX1_bits w2_X1_bits) := goodIn_app (goodIn_of _ (by decide +kernel)) (fun w h => ⟨w2i_X1_reduceBy_X1_bits w h, w2g_X1_bits w h⟩)
theorem gd_X1_reduceBy_X1_from : GoodIn w2_X1_reduceBy (wsV RX1 58 RX1 yX1_from w2_X1_from) := goodIn_app (goodIn_of _ (by decide +kernel)) (fun w h => ⟨w2i_X1_reduceBy_X1_from w h, w2g_X1_from w h⟩)
theorem gd_X1_reduceBy_X1_against : GoodIn w2_X1_reduceBy (wsV RX1 65 RX1 yX1_against w2_X1_against) := goodIn_app (goodIn_of _ (by decide +kernel)) (fun w h => ⟨w2i_X1_reduceBy_X1_against w h, w2g_X1_against w h⟩)
theorem gd_X1_reduceBy_X1_subtractMultiple : GoodIn w2_X1_reduceBy (wsV RX1 51 RX1 yX1_subtractMultiple w2_X1_subtractMultiple) := goodIn_app (goodIn_of _ (by decide +kernel)) (fun w h => ⟨w2i_X1_reduceBy_X1_subtractMultiple w h, w2g_X1_subtractMultiple w h⟩)
theorem gd_X1_reduceBy_X1_addDigit : GoodIn w2_X1_reduceBy (wsV RX1 71 RX1 yX1_addDigit w2_X1_addDigit) := goodIn_app (goodIn_of _ (by decide +kernel)) (fun w h => ⟨w2i_X1_reduceBy_X1_addDigit w h, w2g_X1_addDigit w h⟩)
def w2t_X1_commonDivisor : List Cond := [.constant RX1 64 (1000000), .fieldLink RX1 15 "StructureSearch$Big" "used" "I", .methodLink RX1 75 yX1_reduceBy, .instanceMethod yX1_reduceBy, .selects RX1 yX1_reduceBy yX1_reduceBy, .initialized RX1]
def w2_X1_commonDivisor : List Cond := .code yX1_commonDivisor cX1_commonDivisor 6 (some (.object "StructureSearch$Big")) :: (w2t_X1_commonDivisor ++ (wsX10 ++ (w2_X1_reduceBy)))
set_option maxRecDepth 20000 in
theorem w2g_X1_commonDivisor : ∀ w ∈ w2_X1_commonDivisor, ((w.onTables && w.keeps) = true ∨ ∃ ty, w = .arrayClass ty) := by
  intro w h
  rcases List.mem_cons.mp h with rfl | h
  · exact good_of_word (by decide +kernel)
  rcases List.mem_append.mp h with h | h
  · exact good_of_word (List.all_eq_true.mp (show List.all w2t_X1_commonDivisor goodWord = true by decide +kernel) w h)
  rcases List.mem_append.mp h with h | h
  · exact good_of_word (List.all_eq_true.mp (show List.all wsX10 goodWord = true by decide +kernel) w h)
  exact w2g_X1_reduceBy w h
theorem w2i_X1_commonDivisor_X10 : ∀ w ∈ wsX10, w ∈ w2_X1_commonDivisor := fun w h => List.mem_cons_of_mem _ (List.mem_append_right _ (List.mem_append_left _ (h)))
theorem w2i_X1_commonDivisor_X1_reduceBy : ∀ w ∈ w2_X1_reduceBy, w ∈ w2_X1_commonDivisor := fun w h => List.mem_cons_of_mem _ (List.mem_append_right _ (List.mem_append_right _ (h)))
theorem gd_X1_commonDivisor_X1_reduceBy : GoodIn w2_X1_commonDivisor (wsV RX1 75 RX1 yX1_reduceBy w2_X1_reduceBy) := goodIn_app (goodIn_of _ (by decide +kernel)) (fun w h => ⟨w2i_X1_commonDivisor_X1_reduceBy w h, w2g_X1_reduceBy w h⟩)
def w2t_X3_init : List Cond := [.methodLink RX3 1 objectInit, .fieldLink RX3 7 "StructureSearch$Fraction" "above" "LStructureSearch$Big;", .fieldLink RX3 13 "StructureSearch$Fraction" "below" "LStructureSearch$Big;", .fieldLink RX3 16 "StructureSearch$Fraction" "ready" "Z", .instanceMethod objectInit, .code objectInit ⟨#[0xb1]⟩ 1 none]
def w2_X3_init : List Cond := .code yX3_init cX3_init 3 none :: (w2t_X3_init ++ (wsX30))
set_option maxRecDepth 20000 in
theorem w2g_X3_init : ∀ w ∈ w2_X3_init, ((w.onTables && w.keeps) = true ∨ ∃ ty, w = .arrayClass ty) := by
  intro w h
  rcases List.mem_cons.mp h with rfl | h
  · exact good_of_word (by decide +kernel)
  rcases List.mem_append.mp h with h | h
  · exact good_of_word (List.all_eq_true.mp (show List.all w2t_X3_init goodWord = true by decide +kernel) w h)
  exact good_of_word (List.all_eq_true.mp (show List.all wsX30 goodWord = true by decide +kernel) w h)
theorem w2i_X3_init_X30 : ∀ w ∈ wsX30, w ∈ w2_X3_init := fun w h => List.mem_cons_of_mem _ (List.mem_append_right _ (h))
def w2t_X2_init : List Cond := [.methodLink RX2 5 objectInit, .fieldLink RX2 11 "StructureSearch$Fits" "sheet" "LStructureSearch$Sheet;", .fieldLink RX2 15 "StructureSearch$Fits" "powers" "LStructureSearch$Powers;", .classLink RX2 19 RX3, .fieldLink RX2 21 "StructureSearch$Fits" "ofNames" "[LStructureSearch$Fraction;", .classLink RX2 25 RX1, .fieldLink RX2 33 "StructureSearch$Fits" "ofNothing" "LStructureSearch$Fraction;", .fieldLink RX2 37 "StructureSearch$Fits" "whole" "LStructureSearch$Fraction;", .fieldLink RX2 40 "StructureSearch$Fits" "wholeGraph" "I", .fieldLink RX2 44 "StructureSearch$Fits" "left" "LStructureSearch$Big;", .fieldLink RX2 48 "StructureSearch$Fits" "right" "LStructureSearch$Big;", .methodLink RX2 27 yX1_init, .methodLink RX2 30 yX3_init, .instanceMethod objectInit, .code objectInit ⟨#[0xb1]⟩ 1 none, .instantiable RX3 3, .initialized RX3, .instantiable RX1 2, .initialized RX1, .instanceMethod yX1_init, .arrayClass .long, .instanceMethod yX3_init]
def w2_X2_init : List Cond := .code yX2_init cX2_init 3 none :: (w2t_X2_init ++ (wsX10 ++ (wsX20 ++ (wsX30 ++ (w2_X1_init ++ (w2_X3_init))))))
set_option maxRecDepth 20000 in
theorem w2g_X2_init : ∀ w ∈ w2_X2_init, ((w.onTables && w.keeps) = true ∨ ∃ ty, w = .arrayClass ty) := by
  intro w h
  rcases List.mem_cons.mp h with rfl | h
  · exact good_of_word (by decide +kernel)
  rcases List.mem_append.mp h with h | h
  · exact good_of_word (List.all_eq_true.mp (show List.all w2t_X2_init goodWord = true by decide +kernel) w h)
  rcases List.mem_append.mp h with h | h
  · exact good_of_word (List.all_eq_true.mp (show List.all wsX10 goodWord = true by decide +kernel) w h)
  rcases List.mem_append.mp h with h | h
  · exact good_of_word (List.all_eq_true.mp (show List.all wsX20 goodWord = true by decide +kernel) w h)
  rcases List.mem_append.mp h with h | h
  · exact good_of_word (List.all_eq_true.mp (show List.all wsX30 goodWord = true by decide +kernel) w h)
  rcases List.mem_append.mp h with h | h
  · exact w2g_X1_init w h
  exact w2g_X3_init w h
theorem w2i_X2_init_X10 : ∀ w ∈ wsX10, w ∈ w2_X2_init := fun w h => List.mem_cons_of_mem _ (List.mem_append_right _ (List.mem_append_left _ (h)))
theorem w2i_X2_init_X20 : ∀ w ∈ wsX20, w ∈ w2_X2_init := fun w h => List.mem_cons_of_mem _ (List.mem_append_right _ (List.mem_append_right _ (List.mem_append_left _ (h))))
theorem w2i_X2_init_X30 : ∀ w ∈ wsX30, w ∈ w2_X2_init := fun w h => List.mem_cons_of_mem _ (List.mem_append_right _ (List.mem_append_right _ (List.mem_append_right _ (List.mem_append_left _ (h)))))
theorem w2i_X2_init_X1_init : ∀ w ∈ w2_X1_init, w ∈ w2_X2_init := fun w h => List.mem_cons_of_mem _ (List.mem_append_right _ (List.mem_append_right _ (List.mem_append_right _ (List.mem_append_right _ (List.mem_append_left _ (h))))))
theorem w2i_X2_init_X3_init : ∀ w ∈ w2_X3_init, w ∈ w2_X2_init := fun w h => List.mem_cons_of_mem _ (List.mem_append_right _ (List.mem_append_right _ (List.mem_append_right _ (List.mem_append_right _ (List.mem_append_right _ (h))))))
theorem gd_X2_init_X1_init : GoodIn w2_X2_init (w2_X1_init) := fun w h => ⟨w2i_X2_init_X1_init w h, w2g_X1_init w h⟩
theorem gd_X2_init_X3_init : GoodIn w2_X2_init (w2_X3_init) := fun w h => ⟨w2i_X2_init_X3_init w h, w2g_X3_init w h⟩
def w2t_X2_forget : List Cond := [.fieldLink RX2 37 "StructureSearch$Fits" "whole" "LStructureSearch$Fraction;", .fieldLink RX2 51 "StructureSearch$Fraction" "ready" "Z", .fieldLink RX2 21 "StructureSearch$Fits" "ofNames" "[LStructureSearch$Fraction;"]
def w2_X2_forget : List Cond := .code yX2_forget cX2_forget 2 none :: (w2t_X2_forget ++ (wsX20 ++ (wsX30)))
set_option maxRecDepth 20000 in
theorem w2g_X2_forget : ∀ w ∈ w2_X2_forget, ((w.onTables && w.keeps) = true ∨ ∃ ty, w = .arrayClass ty) := by
  intro w h
  rcases List.mem_cons.mp h with rfl | h
  · exact good_of_word (by decide +kernel)
  rcases List.mem_append.mp h with h | h
  · exact good_of_word (List.all_eq_true.mp (show List.all w2t_X2_forget goodWord = true by decide +kernel) w h)
  rcases List.mem_append.mp h with h | h
  · exact good_of_word (List.all_eq_true.mp (show List.all wsX20 goodWord = true by decide +kernel) w h)
  exact good_of_word (List.all_eq_true.mp (show List.all wsX30 goodWord = true by decide +kernel) w h)
theorem w2i_X2_forget_X20 : ∀ w ∈ wsX20, w ∈ w2_X2_forget := fun w h => List.mem_cons_of_mem _ (List.mem_append_right _ (List.mem_append_left _ (h)))
theorem w2i_X2_forget_X30 : ∀ w ∈ wsX30, w ∈ w2_X2_forget := fun w h => List.mem_cons_of_mem _ (List.mem_append_right _ (List.mem_append_right _ (h)))
def w2t_X5_forget : List Cond := [.fieldLink RX5 15 "StructureSearch$Powers" "largest" "I", .fieldLink RX5 11 "StructureSearch$Powers" "power" "[I"]
def w2_X5_forget : List Cond := .code yX5_forget cX5_forget 2 none :: (w2t_X5_forget ++ (wsX50))
set_option maxRecDepth 20000 in
theorem w2g_X5_forget : ∀ w ∈ w2_X5_forget, ((w.onTables && w.keeps) = true ∨ ∃ ty, w = .arrayClass ty) := by
  intro w h
  rcases List.mem_cons.mp h with rfl | h
  · exact good_of_word (by decide +kernel)
  rcases List.mem_append.mp h with h | h
  · exact good_of_word (List.all_eq_true.mp (show List.all w2t_X5_forget goodWord = true by decide +kernel) w h)
  exact good_of_word (List.all_eq_true.mp (show List.all wsX50 goodWord = true by decide +kernel) w h)
theorem w2i_X5_forget_X50 : ∀ w ∈ wsX50, w ∈ w2_X5_forget := fun w h => List.mem_cons_of_mem _ (List.mem_append_right _ (h))
def w2t_X5_write : List Cond := [.fieldLink RX5 15 "StructureSearch$Powers" "largest" "I", .fieldLink RX5 11 "StructureSearch$Powers" "power" "[I", .constantLong RX5 28 (4294967295), .methodLink RX5 22 yX1_become, .methodLink RX5 30 yX1_timesSmall, .instanceMethod yX1_become, .selects RX1 yX1_become yX1_become, .initialized RX1, .instanceMethod yX1_timesSmall, .selects RX1 yX1_timesSmall yX1_timesSmall]
def w2_X5_write : List Cond := .code yX5_write cX5_write 8 none :: (w2t_X5_write ++ (wsX50 ++ (w2_X1_become ++ (w2_X1_timesSmall))))
set_option maxRecDepth 20000 in
theorem w2g_X5_write : ∀ w ∈ w2_X5_write, ((w.onTables && w.keeps) = true ∨ ∃ ty, w = .arrayClass ty) := by
  intro w h
  rcases List.mem_cons.mp h with rfl | h
  · exact good_of_word (by decide +kernel)
  rcases List.mem_append.mp h with h | h
  · exact good_of_word (List.all_eq_true.mp (show List.all w2t_X5_write goodWord = true by decide +kernel) w h)
  rcases List.mem_append.mp h with h | h
  · exact good_of_word (List.all_eq_true.mp (show List.all wsX50 goodWord = true by decide +kernel) w h)
  rcases List.mem_append.mp h with h | h
  · exact w2g_X1_become w h
  exact w2g_X1_timesSmall w h
theorem w2i_X5_write_X50 : ∀ w ∈ wsX50, w ∈ w2_X5_write := fun w h => List.mem_cons_of_mem _ (List.mem_append_right _ (List.mem_append_left _ (h)))
theorem w2i_X5_write_X1_become : ∀ w ∈ w2_X1_become, w ∈ w2_X5_write := fun w h => List.mem_cons_of_mem _ (List.mem_append_right _ (List.mem_append_right _ (List.mem_append_left _ (h))))
theorem w2i_X5_write_X1_timesSmall : ∀ w ∈ w2_X1_timesSmall, w ∈ w2_X5_write := fun w h => List.mem_cons_of_mem _ (List.mem_append_right _ (List.mem_append_right _ (List.mem_append_right _ (h))))
theorem gd_X5_write_X1_become : GoodIn w2_X5_write (wsV RX5 22 RX1 yX1_become w2_X1_become) := goodIn_app (goodIn_of _ (by decide +kernel)) (fun w h => ⟨w2i_X5_write_X1_become w h, w2g_X1_become w h⟩)
theorem gd_X5_write_X1_timesSmall : GoodIn w2_X5_write (wsV RX5 30 RX1 yX1_timesSmall w2_X1_timesSmall) := goodIn_app (goodIn_of _ (by decide +kernel)) (fun w h => ⟨w2i_X5_write_X1_timesSmall w h, w2g_X1_timesSmall w h⟩)
def w2t_X5_multiply : List Cond := [.fieldLink RX5 11 "StructureSearch$Powers" "power" "[I", .fieldLink RX5 19 "StructureSearch$Powers" "SMALL_PRIMES" "[I", .fieldLink RX5 15 "StructureSearch$Powers" "largest" "I"]
def w2_X5_multiply : List Cond := .code yX5_multiply cX5_multiply 7 none :: (w2t_X5_multiply ++ (wsX50))
set_option maxRecDepth 20000 in
theorem w2g_X5_multiply : ∀ w ∈ w2_X5_multiply, ((w.onTables && w.keeps) = true ∨ ∃ ty, w = .arrayClass ty) := by
  intro w h
  rcases List.mem_cons.mp h with rfl | h
  · exact good_of_word (by decide +kernel)
  rcases List.mem_append.mp h with h | h
  · exact good_of_word (List.all_eq_true.mp (show List.all w2t_X5_multiply goodWord = true by decide +kernel) w h)
  exact good_of_word (List.all_eq_true.mp (show List.all wsX50 goodWord = true by decide +kernel) w h)
theorem w2i_X5_multiply_X50 : ∀ w ∈ wsX50, w ∈ w2_X5_multiply := fun w h => List.mem_cons_of_mem _ (List.mem_append_right _ (h))
def w2t_X8_codeOf : List Cond := [.fieldLink RX8 25 "StructureSearch$Sheet" "rows" "I", .fieldLink RX8 15 "StructureSearch$Sheet" "codes" "[I"]
def w2_X8_codeOf : List Cond := .code yX8_codeOf cX8_codeOf 2 (some .int) :: (w2t_X8_codeOf ++ (wsX80))
set_option maxRecDepth 20000 in
theorem w2g_X8_codeOf : ∀ w ∈ w2_X8_codeOf, ((w.onTables && w.keeps) = true ∨ ∃ ty, w = .arrayClass ty) := by
  intro w h
  rcases List.mem_cons.mp h with rfl | h
  · exact good_of_word (by decide +kernel)
  rcases List.mem_append.mp h with h | h
  · exact good_of_word (List.all_eq_true.mp (show List.all w2t_X8_codeOf goodWord = true by decide +kernel) w h)
  exact good_of_word (List.all_eq_true.mp (show List.all wsX80 goodWord = true by decide +kernel) w h)
theorem w2i_X8_codeOf_X80 : ∀ w ∈ wsX80, w ∈ w2_X8_codeOf := fun w h => List.mem_cons_of_mem _ (List.mem_append_right _ (h))
def w2t_X8_valuesOf : List Cond := [.fieldLink RX8 21 "StructureSearch$Sheet" "names" "I", .fieldLink RX8 9 "StructureSearch$Sheet" "values" "[I"]
def w2_X8_valuesOf : List Cond := .code yX8_valuesOf cX8_valuesOf 2 (some .int) :: (w2t_X8_valuesOf ++ (wsX80))
set_option maxRecDepth 20000 in
theorem w2g_X8_valuesOf : ∀ w ∈ w2_X8_valuesOf, ((w.onTables && w.keeps) = true ∨ ∃ ty, w = .arrayClass ty) := by
  intro w h
  rcases List.mem_cons.mp h with rfl | h
  · exact good_of_word (by decide +kernel)
  rcases List.mem_append.mp h with h | h
  · exact good_of_word (List.all_eq_true.mp (show List.all w2t_X8_valuesOf goodWord = true by decide +kernel) w h)
  exact good_of_word (List.all_eq_true.mp (show List.all wsX80 goodWord = true by decide +kernel) w h)
theorem w2i_X8_valuesOf_X80 : ∀ w ∈ wsX80, w ∈ w2_X8_valuesOf := fun w h => List.mem_cons_of_mem _ (List.mem_append_right _ (h))
def w2t_X8_pourFit : List Cond := [.fieldLink RX8 21 "StructureSearch$Sheet" "names" "I", .fieldLink RX8 25 "StructureSearch$Sheet" "rows" "I", .fieldLink RX8 28 "StructureSearch$Sheet" "strength" "I", .methodLink RX8 38 yX8_valuesOf, .methodLink RX8 41 yX0_isIn, .methodLink RX8 34 yX8_codeOf, .methodLink RX8 47 yX5_multiply, .instanceMethod yX8_valuesOf, .selects RX8 yX8_valuesOf yX8_valuesOf, .initialized RX8, .static yX0_isIn, .initialized RX0, .instanceMethod yX8_codeOf, .selects RX8 yX8_codeOf yX8_codeOf, .instanceMethod yX5_multiply, .selects RX5 yX5_multiply yX5_multiply, .initialized RX5]
def w2_X8_pourFit : List Cond := .code yX8_pourFit cX8_pourFit 13 none :: (w2t_X8_pourFit ++ (wsX80 ++ (w2_X0_isIn ++ (w2_X5_multiply ++ (w2_X8_codeOf ++ (w2_X8_valuesOf))))))
set_option maxRecDepth 20000 in
theorem w2g_X8_pourFit : ∀ w ∈ w2_X8_pourFit, ((w.onTables && w.keeps) = true ∨ ∃ ty, w = .arrayClass ty) := by
  intro w h
  rcases List.mem_cons.mp h with rfl | h
  · exact good_of_word (by decide +kernel)
  rcases List.mem_append.mp h with h | h
  · exact good_of_word (List.all_eq_true.mp (show List.all w2t_X8_pourFit goodWord = true by decide +kernel) w h)
  rcases List.mem_append.mp h with h | h
  · exact good_of_word (List.all_eq_true.mp (show List.all wsX80 goodWord = true by decide +kernel) w h)
  rcases List.mem_append.mp h with h | h
  · exact w2g_X0_isIn w h
  rcases List.mem_append.mp h with h | h
  · exact w2g_X5_multiply w h
  rcases List.mem_append.mp h with h | h
  · exact w2g_X8_codeOf w h
  exact w2g_X8_valuesOf w h
theorem w2i_X8_pourFit_X80 : ∀ w ∈ wsX80, w ∈ w2_X8_pourFit := fun w h => List.mem_cons_of_mem _ (List.mem_append_right _ (List.mem_append_left _ (h)))
theorem w2i_X8_pourFit_X0_isIn : ∀ w ∈ w2_X0_isIn, w ∈ w2_X8_pourFit := fun w h => List.mem_cons_of_mem _ (List.mem_append_right _ (List.mem_append_right _ (List.mem_append_left _ (h))))
theorem w2i_X8_pourFit_X5_multiply : ∀ w ∈ w2_X5_multiply, w ∈ w2_X8_pourFit := fun w h => List.mem_cons_of_mem _ (List.mem_append_right _ (List.mem_append_right _ (List.mem_append_right _ (List.mem_append_left _ (h)))))
theorem w2i_X8_pourFit_X8_codeOf : ∀ w ∈ w2_X8_codeOf, w ∈ w2_X8_pourFit := fun w h => List.mem_cons_of_mem _ (List.mem_append_right _ (List.mem_append_right _ (List.mem_append_right _ (List.mem_append_right _ (List.mem_append_left _ (h))))))
theorem w2i_X8_pourFit_X8_valuesOf : ∀ w ∈ w2_X8_valuesOf, w ∈ w2_X8_pourFit := fun w h => List.mem_cons_of_mem _ (List.mem_append_right _ (List.mem_append_right _ (List.mem_append_right _ (List.mem_append_right _ (List.mem_append_right _ (h))))))
theorem gd_X8_pourFit_X8_valuesOf : GoodIn w2_X8_pourFit (wsV RX8 38 RX8 yX8_valuesOf w2_X8_valuesOf) := goodIn_app (goodIn_of _ (by decide +kernel)) (fun w h => ⟨w2i_X8_pourFit_X8_valuesOf w h, w2g_X8_valuesOf w h⟩)
theorem gd_X8_pourFit_X0_isIn : GoodIn w2_X8_pourFit (va_wsS RX8 41 yX0_isIn w2_X0_isIn) := goodIn_app (goodIn_of _ (by decide +kernel)) (fun w h => ⟨w2i_X8_pourFit_X0_isIn w h, w2g_X0_isIn w h⟩)
theorem gd_X8_pourFit_X8_codeOf : GoodIn w2_X8_pourFit (wsV RX8 34 RX8 yX8_codeOf w2_X8_codeOf) := goodIn_app (goodIn_of _ (by decide +kernel)) (fun w h => ⟨w2i_X8_pourFit_X8_codeOf w h, w2g_X8_codeOf w h⟩)
theorem gd_X8_pourFit_X5_multiply : GoodIn w2_X8_pourFit (wsV RX8 47 RX5 yX5_multiply w2_X5_multiply) := goodIn_app (goodIn_of _ (by decide +kernel)) (fun w h => ⟨w2i_X8_pourFit_X5_multiply w h, w2g_X5_multiply w h⟩)
def w2t_X2_ofGraph : List Cond := [.fieldLink RX2 37 "StructureSearch$Fits" "whole" "LStructureSearch$Fraction;", .fieldLink RX2 51 "StructureSearch$Fraction" "ready" "Z", .fieldLink RX2 40 "StructureSearch$Fits" "wholeGraph" "I", .fieldLink RX2 15 "StructureSearch$Fits" "powers" "LStructureSearch$Powers;", .fieldLink RX2 11 "StructureSearch$Fits" "sheet" "LStructureSearch$Sheet;", .fieldLink RX2 60 "StructureSearch$Sheet" "names" "I", .fieldLink RX2 75 "StructureSearch$Fraction" "above" "LStructureSearch$Big;", .fieldLink RX2 82 "StructureSearch$Fraction" "below" "LStructureSearch$Big;", .methodLink RX2 55 yX5_forget, .methodLink RX2 65 yX0_parentsIn, .methodLink RX2 71 yX8_pourFit, .methodLink RX2 78 yX5_write, .instanceMethod yX5_forget, .selects RX5 yX5_forget yX5_forget, .initialized RX5, .static yX0_parentsIn, .initialized RX0, .instanceMethod yX8_pourFit, .selects RX8 yX8_pourFit yX8_pourFit, .initialized RX8, .instanceMethod yX5_write, .selects RX5 yX5_write yX5_write]
def w2_X2_ofGraph : List Cond := .code yX2_ofGraph cX2_ofGraph 3 (some (.object "StructureSearch$Fraction")) :: (w2t_X2_ofGraph ++ (wsX20 ++ (wsX30 ++ (wsX80 ++ (w2_X0_parentsIn ++ (w2_X5_forget ++ (w2_X5_write ++ (w2_X8_pourFit))))))))
set_option maxRecDepth 20000 in
theorem w2g_X2_ofGraph : ∀ w ∈ w2_X2_ofGraph, ((w.onTables && w.keeps) = true ∨ ∃ ty, w = .arrayClass ty) := by
  intro w h
  rcases List.mem_cons.mp h with rfl | h
  · exact good_of_word (by decide +kernel)
  rcases List.mem_append.mp h with h | h
  · exact good_of_word (List.all_eq_true.mp (show List.all w2t_X2_ofGraph goodWord = true by decide +kernel) w h)
  rcases List.mem_append.mp h with h | h
  · exact good_of_word (List.all_eq_true.mp (show List.all wsX20 goodWord = true by decide +kernel) w h)
  rcases List.mem_append.mp h with h | h
  · exact good_of_word (List.all_eq_true.mp (show List.all wsX30 goodWord = true by decide +kernel) w h)
  rcases List.mem_append.mp h with h | h
  · exact good_of_word (List.all_eq_true.mp (show List.all wsX80 goodWord = true by decide +kernel) w h)
  rcases List.mem_append.mp h with h | h
  · exact w2g_X0_parentsIn w h
  rcases List.mem_append.mp h with h | h
  · exact w2g_X5_forget w h
  rcases List.mem_append.mp h with h | h
  · exact w2g_X5_write w h
  exact w2g_X8_pourFit w h
theorem w2i_X2_ofGraph_X20 : ∀ w ∈ wsX20, w ∈ w2_X2_ofGraph := fun w h => List.mem_cons_of_mem _ (List.mem_append_right _ (List.mem_append_left _ (h)))
theorem w2i_X2_ofGraph_X30 : ∀ w ∈ wsX30, w ∈ w2_X2_ofGraph := fun w h => List.mem_cons_of_mem _ (List.mem_append_right _ (List.mem_append_right _ (List.mem_append_left _ (h))))
theorem w2i_X2_ofGraph_X80 : ∀ w ∈ wsX80, w ∈ w2_X2_ofGraph := fun w h => List.mem_cons_of_mem _ (List.mem_append_right _ (List.mem_append_right _ (List.mem_append_right _ (List.mem_append_left _ (h)))))
theorem w2i_X2_ofGraph_X0_parentsIn : ∀ w ∈ w2_X0_parentsIn, w ∈ w2_X2_ofGraph := fun w h => List.mem_cons_of_mem _ (List.mem_append_right _ (List.mem_append_right _ (List.mem_append_right _ (List.mem_append_right _ (List.mem_append_left _ (h))))))
theorem w2i_X2_ofGraph_X5_forget : ∀ w ∈ w2_X5_forget, w ∈ w2_X2_ofGraph := fun w h => List.mem_cons_of_mem _ (List.mem_append_right _ (List.mem_append_right _ (List.mem_append_right _ (List.mem_append_right _ (List.mem_append_right _ (List.mem_append_left _ (h)))))))
theorem w2i_X2_ofGraph_X5_write : ∀ w ∈ w2_X5_write, w ∈ w2_X2_ofGraph := fun w h => List.mem_cons_of_mem _ (List.mem_append_right _ (List.mem_append_right _ (List.mem_append_right _ (List.mem_append_right _ (List.mem_append_right _ (List.mem_append_right _ (List.mem_append_left _ (h))))))))
theorem w2i_X2_ofGraph_X8_pourFit : ∀ w ∈ w2_X8_pourFit, w ∈ w2_X2_ofGraph := fun w h => List.mem_cons_of_mem _ (List.mem_append_right _ (List.mem_append_right _ (List.mem_append_right _ (List.mem_append_right _ (List.mem_append_right _ (List.mem_append_right _ (List.mem_append_right _ (h))))))))
theorem gd_X2_ofGraph_X5_forget : GoodIn w2_X2_ofGraph (wsV RX2 55 RX5 yX5_forget w2_X5_forget) := goodIn_app (goodIn_of _ (by decide +kernel)) (fun w h => ⟨w2i_X2_ofGraph_X5_forget w h, w2g_X5_forget w h⟩)
theorem gd_X2_ofGraph_X0_parentsIn : GoodIn w2_X2_ofGraph (va_wsS RX2 65 yX0_parentsIn w2_X0_parentsIn) := goodIn_app (goodIn_of _ (by decide +kernel)) (fun w h => ⟨w2i_X2_ofGraph_X0_parentsIn w h, w2g_X0_parentsIn w h⟩)
theorem gd_X2_ofGraph_X8_pourFit : GoodIn w2_X2_ofGraph (wsV RX2 71 RX8 yX8_pourFit w2_X8_pourFit) := goodIn_app (goodIn_of _ (by decide +kernel)) (fun w h => ⟨w2i_X2_ofGraph_X8_pourFit w h, w2g_X8_pourFit w h⟩)
theorem gd_X2_ofGraph_X5_write : GoodIn w2_X2_ofGraph (wsV RX2 78 RX5 yX5_write w2_X5_write) := goodIn_app (goodIn_of _ (by decide +kernel)) (fun w h => ⟨w2i_X2_ofGraph_X5_write w h, w2g_X5_write w h⟩)
def w2t_X2_ofName : List Cond := [.fieldLink RX2 21 "StructureSearch$Fits" "ofNames" "[LStructureSearch$Fraction;", .fieldLink RX2 33 "StructureSearch$Fits" "ofNothing" "LStructureSearch$Fraction;", .classLink RX2 19 RX3, .classLink RX2 25 RX1, .fieldLink RX2 51 "StructureSearch$Fraction" "ready" "Z", .fieldLink RX2 15 "StructureSearch$Fits" "powers" "LStructureSearch$Powers;", .fieldLink RX2 11 "StructureSearch$Fits" "sheet" "LStructureSearch$Sheet;", .fieldLink RX2 75 "StructureSearch$Fraction" "above" "LStructureSearch$Big;", .fieldLink RX2 82 "StructureSearch$Fraction" "below" "LStructureSearch$Big;", .methodLink RX2 27 yX1_init, .methodLink RX2 30 yX3_init, .methodLink RX2 55 yX5_forget, .methodLink RX2 71 yX8_pourFit, .methodLink RX2 78 yX5_write, .instantiable RX3 3, .initialized RX3, .instantiable RX1 2, .initialized RX1, .instanceMethod yX1_init, .instanceMethod yX3_init, .instanceMethod yX5_forget, .selects RX5 yX5_forget yX5_forget, .initialized RX5, .instanceMethod yX8_pourFit, .selects RX8 yX8_pourFit yX8_pourFit, .initialized RX8, .instanceMethod yX5_write, .selects RX5 yX5_write yX5_write]
def w2_X2_ofName : List Cond := .code yX2_ofName cX2_ofName 5 (some (.object "StructureSearch$Fraction")) :: (w2t_X2_ofName ++ (wsX10 ++ (wsX20 ++ (wsX30 ++ (w2_X1_init ++ (w2_X3_init ++ (w2_X5_forget ++ (w2_X5_write ++ (w2_X8_pourFit)))))))))
set_option maxRecDepth 20000 in
theorem w2g_X2_ofName : ∀ w ∈ w2_X2_ofName, ((w.onTables && w.keeps) = true ∨ ∃ ty, w = .arrayClass ty) := by
  intro w h
  rcases List.mem_cons.mp h with rfl | h
  · exact good_of_word (by decide +kernel)
  rcases List.mem_append.mp h with h | h
  · exact good_of_word (List.all_eq_true.mp (show List.all w2t_X2_ofName goodWord = true by decide +kernel) w h)
  rcases List.mem_append.mp h with h | h
  · exact good_of_word (List.all_eq_true.mp (show List.all wsX10 goodWord = true by decide +kernel) w h)
  rcases List.mem_append.mp h with h | h
  · exact good_of_word (List.all_eq_true.mp (show List.all wsX20 goodWord = true by decide +kernel) w h)
  rcases List.mem_append.mp h with h | h
  · exact good_of_word (List.all_eq_true.mp (show List.all wsX30 goodWord = true by decide +kernel) w h)
  rcases List.mem_append.mp h with h | h
  · exact w2g_X1_init w h
  rcases List.mem_append.mp h with h | h
  · exact w2g_X3_init w h
  rcases List.mem_append.mp h with h | h
  · exact w2g_X5_forget w h
  rcases List.mem_append.mp h with h | h
  · exact w2g_X5_write w h
  exact w2g_X8_pourFit w h
theorem w2i_X2_ofName_X10 : ∀ w ∈ wsX10, w ∈ w2_X2_ofName := fun w h => List.mem_cons_of_mem _ (List.mem_append_right _ (List.mem_append_left _ (h)))
theorem w2i_X2_ofName_X20 : ∀ w ∈ wsX20, w ∈ w2_X2_ofName := fun w h => List.mem_cons_of_mem _ (List.mem_append_right _ (List.mem_append_right _ (List.mem_append_left _ (h))))
theorem w2i_X2_ofName_X30 : ∀ w ∈ wsX30, w ∈ w2_X2_ofName := fun w h => List.mem_cons_of_mem _ (List.mem_append_right _ (List.mem_append_right _ (List.mem_append_right _ (List.mem_append_left _ (h)))))
theorem w2i_X2_ofName_X1_init : ∀ w ∈ w2_X1_init, w ∈ w2_X2_ofName := fun w h => List.mem_cons_of_mem _ (List.mem_append_right _ (List.mem_append_right _ (List.mem_append_right _ (List.mem_append_right _ (List.mem_append_left _ (h))))))
theorem w2i_X2_ofName_X3_init : ∀ w ∈ w2_X3_init, w ∈ w2_X2_ofName := fun w h => List.mem_cons_of_mem _ (List.mem_append_right _ (List.mem_append_right _ (List.mem_append_right _ (List.mem_append_right _ (List.mem_append_right _ (List.mem_append_left _ (h)))))))
theorem w2i_X2_ofName_X5_forget : ∀ w ∈ w2_X5_forget, w ∈ w2_X2_ofName := fun w h => List.mem_cons_of_mem _ (List.mem_append_right _ (List.mem_append_right _ (List.mem_append_right _ (List.mem_append_right _ (List.mem_append_right _ (List.mem_append_right _ (List.mem_append_left _ (h))))))))
theorem w2i_X2_ofName_X5_write : ∀ w ∈ w2_X5_write, w ∈ w2_X2_ofName := fun w h => List.mem_cons_of_mem _ (List.mem_append_right _ (List.mem_append_right _ (List.mem_append_right _ (List.mem_append_right _ (List.mem_append_right _ (List.mem_append_right _ (List.mem_append_right _ (List.mem_append_left _ (h)))))))))
theorem w2i_X2_ofName_X8_pourFit : ∀ w ∈ w2_X8_pourFit, w ∈ w2_X2_ofName := fun w h => List.mem_cons_of_mem _ (List.mem_append_right _ (List.mem_append_right _ (List.mem_append_right _ (List.mem_append_right _ (List.mem_append_right _ (List.mem_append_right _ (List.mem_append_right _ (List.mem_append_right _ (h)))))))))
theorem gd_X2_ofName_X1_init : GoodIn w2_X2_ofName (w2_X1_init) := fun w h => ⟨w2i_X2_ofName_X1_init w h, w2g_X1_init w h⟩
theorem gd_X2_ofName_X3_init : GoodIn w2_X2_ofName (w2_X3_init) := fun w h => ⟨w2i_X2_ofName_X3_init w h, w2g_X3_init w h⟩
theorem gd_X2_ofName_X5_forget : GoodIn w2_X2_ofName (wsV RX2 55 RX5 yX5_forget w2_X5_forget) := goodIn_app (goodIn_of _ (by decide +kernel)) (fun w h => ⟨w2i_X2_ofName_X5_forget w h, w2g_X5_forget w h⟩)
theorem gd_X2_ofName_X8_pourFit : GoodIn w2_X2_ofName (wsV RX2 71 RX8 yX8_pourFit w2_X8_pourFit) := goodIn_app (goodIn_of _ (by decide +kernel)) (fun w h => ⟨w2i_X2_ofName_X8_pourFit w h, w2g_X8_pourFit w h⟩)
theorem gd_X2_ofName_X5_write : GoodIn w2_X2_ofName (wsV RX2 78 RX5 yX5_write w2_X5_write) := goodIn_app (goodIn_of _ (by decide +kernel)) (fun w h => ⟨w2i_X2_ofName_X5_write w h, w2g_X5_write w h⟩)
def w2t_X2_weigh : List Cond := [.fieldLink RX2 44 "StructureSearch$Fits" "left" "LStructureSearch$Big;", .fieldLink RX2 48 "StructureSearch$Fits" "right" "LStructureSearch$Big;", .fieldLink RX2 11 "StructureSearch$Fits" "sheet" "LStructureSearch$Sheet;", .fieldLink RX2 60 "StructureSearch$Sheet" "names" "I", .fieldLink RX2 75 "StructureSearch$Fraction" "above" "LStructureSearch$Big;", .fieldLink RX2 82 "StructureSearch$Fraction" "below" "LStructureSearch$Big;", .methodLink RX2 85 yX1_become, .methodLink RX2 65 yX0_parentsIn, .methodLink RX2 88 yX2_ofName, .methodLink RX2 92 yX1_times, .methodLink RX2 96 yX1_against, .instanceMethod yX1_become, .selects RX1 yX1_become yX1_become, .initialized RX1, .static yX0_parentsIn, .initialized RX0, .instanceMethod yX2_ofName, .selects RX2 yX2_ofName yX2_ofName, .initialized RX2, .instanceMethod yX1_times, .selects RX1 yX1_times yX1_times, .instanceMethod yX1_against, .selects RX1 yX1_against yX1_against]
def w2_X2_weigh : List Cond := .code yX2_weigh cX2_weigh 8 (some .int) :: (w2t_X2_weigh ++ (wsX20 ++ (wsX30 ++ (wsX80 ++ (w2_X0_parentsIn ++ (w2_X1_against ++ (w2_X1_become ++ (w2_X1_times ++ (w2_X2_ofName)))))))))
set_option maxRecDepth 20000 in
theorem w2g_X2_weigh : ∀ w ∈ w2_X2_weigh, ((w.onTables && w.keeps) = true ∨ ∃ ty, w = .arrayClass ty) := by
  intro w h
  rcases List.mem_cons.mp h with rfl | h
  · exact good_of_word (by decide +kernel)
  rcases List.mem_append.mp h with h | h
  · exact good_of_word (List.all_eq_true.mp (show List.all w2t_X2_weigh goodWord = true by decide +kernel) w h)
  rcases List.mem_append.mp h with h | h
  · exact good_of_word (List.all_eq_true.mp (show List.all wsX20 goodWord = true by decide +kernel) w h)
  rcases List.mem_append.mp h with h | h
  · exact good_of_word (List.all_eq_true.mp (show List.all wsX30 goodWord = true by decide +kernel) w h)
  rcases List.mem_append.mp h with h | h
  · exact good_of_word (List.all_eq_true.mp (show List.all wsX80 goodWord = true by decide +kernel) w h)
  rcases List.mem_append.mp h with h | h
  · exact w2g_X0_parentsIn w h
  rcases List.mem_append.mp h with h | h
  · exact w2g_X1_against w h
  rcases List.mem_append.mp h with h | h
  · exact w2g_X1_become w h
  rcases List.mem_append.mp h with h | h
  · exact w2g_X1_times w h
  exact w2g_X2_ofName w h
theorem w2i_X2_weigh_X20 : ∀ w ∈ wsX20, w ∈ w2_X2_weigh := fun w h => List.mem_cons_of_mem _ (List.mem_append_right _ (List.mem_append_left _ (h)))
theorem w2i_X2_weigh_X30 : ∀ w ∈ wsX30, w ∈ w2_X2_weigh := fun w h => List.mem_cons_of_mem _ (List.mem_append_right _ (List.mem_append_right _ (List.mem_append_left _ (h))))
theorem w2i_X2_weigh_X80 : ∀ w ∈ wsX80, w ∈ w2_X2_weigh := fun w h => List.mem_cons_of_mem _ (List.mem_append_right _ (List.mem_append_right _ (List.mem_append_right _ (List.mem_append_left _ (h)))))
theorem w2i_X2_weigh_X0_parentsIn : ∀ w ∈ w2_X0_parentsIn, w ∈ w2_X2_weigh := fun w h => List.mem_cons_of_mem _ (List.mem_append_right _ (List.mem_append_right _ (List.mem_append_right _ (List.mem_append_right _ (List.mem_append_left _ (h))))))
theorem w2i_X2_weigh_X1_against : ∀ w ∈ w2_X1_against, w ∈ w2_X2_weigh := fun w h => List.mem_cons_of_mem _ (List.mem_append_right _ (List.mem_append_right _ (List.mem_append_right _ (List.mem_append_right _ (List.mem_append_right _ (List.mem_append_left _ (h)))))))
theorem w2i_X2_weigh_X1_become : ∀ w ∈ w2_X1_become, w ∈ w2_X2_weigh := fun w h => List.mem_cons_of_mem _ (List.mem_append_right _ (List.mem_append_right _ (List.mem_append_right _ (List.mem_append_right _ (List.mem_append_right _ (List.mem_append_right _ (List.mem_append_left _ (h))))))))
theorem w2i_X2_weigh_X1_times : ∀ w ∈ w2_X1_times, w ∈ w2_X2_weigh := fun w h => List.mem_cons_of_mem _ (List.mem_append_right _ (List.mem_append_right _ (List.mem_append_right _ (List.mem_append_right _ (List.mem_append_right _ (List.mem_append_right _ (List.mem_append_right _ (List.mem_append_left _ (h)))))))))
theorem w2i_X2_weigh_X2_ofName : ∀ w ∈ w2_X2_ofName, w ∈ w2_X2_weigh := fun w h => List.mem_cons_of_mem _ (List.mem_append_right _ (List.mem_append_right _ (List.mem_append_right _ (List.mem_append_right _ (List.mem_append_right _ (List.mem_append_right _ (List.mem_append_right _ (List.mem_append_right _ (h)))))))))
theorem gd_X2_weigh_X1_become : GoodIn w2_X2_weigh (wsV RX2 85 RX1 yX1_become w2_X1_become) := goodIn_app (goodIn_of _ (by decide +kernel)) (fun w h => ⟨w2i_X2_weigh_X1_become w h, w2g_X1_become w h⟩)
theorem gd_X2_weigh_X0_parentsIn : GoodIn w2_X2_weigh (va_wsS RX2 65 yX0_parentsIn w2_X0_parentsIn) := goodIn_app (goodIn_of _ (by decide +kernel)) (fun w h => ⟨w2i_X2_weigh_X0_parentsIn w h, w2g_X0_parentsIn w h⟩)
theorem gd_X2_weigh_X2_ofName : GoodIn w2_X2_weigh (wsV RX2 88 RX2 yX2_ofName w2_X2_ofName) := goodIn_app (goodIn_of _ (by decide +kernel)) (fun w h => ⟨w2i_X2_weigh_X2_ofName w h, w2g_X2_ofName w h⟩)
theorem gd_X2_weigh_X1_times : GoodIn w2_X2_weigh (wsV RX2 92 RX1 yX1_times w2_X1_times) := goodIn_app (goodIn_of _ (by decide +kernel)) (fun w h => ⟨w2i_X2_weigh_X1_times w h, w2g_X1_times w h⟩)
theorem gd_X2_weigh_X1_against : GoodIn w2_X2_weigh (wsV RX2 96 RX1 yX1_against w2_X1_against) := goodIn_app (goodIn_of _ (by decide +kernel)) (fun w h => ⟨w2i_X2_weigh_X1_against w h, w2g_X1_against w h⟩)
def w2t_X3_side : List Cond := [.fieldLink RX3 7 "StructureSearch$Fraction" "above" "LStructureSearch$Big;", .fieldLink RX3 13 "StructureSearch$Fraction" "below" "LStructureSearch$Big;"]
def w2_X3_side : List Cond := .code yX3_side cX3_side 2 (some (.object "StructureSearch$Big")) :: (w2t_X3_side ++ (wsX30))
set_option maxRecDepth 20000 in
theorem w2g_X3_side : ∀ w ∈ w2_X3_side, ((w.onTables && w.keeps) = true ∨ ∃ ty, w = .arrayClass ty) := by
  intro w h
  rcases List.mem_cons.mp h with rfl | h
  · exact good_of_word (by decide +kernel)
  rcases List.mem_append.mp h with h | h
  · exact good_of_word (List.all_eq_true.mp (show List.all w2t_X3_side goodWord = true by decide +kernel) w h)
  exact good_of_word (List.all_eq_true.mp (show List.all wsX30 goodWord = true by decide +kernel) w h)
theorem w2i_X3_side_X30 : ∀ w ∈ wsX30, w ∈ w2_X3_side := fun w h => List.mem_cons_of_mem _ (List.mem_append_right _ (h))
def w2t_X4_init : List Cond := [.methodLink RX4 3 objectInit, .fieldLink RX4 9 "StructureSearch$Kin" "count" "I", .fieldLink RX4 15 "StructureSearch$Kin" "least" "I", .fieldLink RX4 18 "StructureSearch$Kin" "greatest" "I", .fieldLink RX4 21 "StructureSearch$Kin" "common" "I", .instanceMethod objectInit, .code objectInit ⟨#[0xb1]⟩ 1 none]
def w2_X4_init : List Cond := .code yX4_init cX4_init 1 none :: (w2t_X4_init ++ (wsX40))
set_option maxRecDepth 20000 in
theorem w2g_X4_init : ∀ w ∈ w2_X4_init, ((w.onTables && w.keeps) = true ∨ ∃ ty, w = .arrayClass ty) := by
  intro w h
  rcases List.mem_cons.mp h with rfl | h
  · exact good_of_word (by decide +kernel)
  rcases List.mem_append.mp h with h | h
  · exact good_of_word (List.all_eq_true.mp (show List.all w2t_X4_init goodWord = true by decide +kernel) w h)
  exact good_of_word (List.all_eq_true.mp (show List.all wsX40 goodWord = true by decide +kernel) w h)
theorem w2i_X4_init_X40 : ∀ w ∈ wsX40, w ∈ w2_X4_init := fun w h => List.mem_cons_of_mem _ (List.mem_append_right _ (h))
def w2t_X4_ties : List Cond := [.methodLink RX4 24 yX0_has, .methodLink RX4 30 yX0_arc, .static yX0_has, .initialized RX0, .static yX0_arc]
def w2_X4_ties : List Cond := .code yX4_ties cX4_ties 4 (some .int) :: (w2t_X4_ties ++ (w2_X0_arc ++ (w2_X0_has)))
set_option maxRecDepth 20000 in
theorem w2g_X4_ties : ∀ w ∈ w2_X4_ties, ((w.onTables && w.keeps) = true ∨ ∃ ty, w = .arrayClass ty) := by
  intro w h
  rcases List.mem_cons.mp h with rfl | h
  · exact good_of_word (by decide +kernel)
  rcases List.mem_append.mp h with h | h
  · exact good_of_word (List.all_eq_true.mp (show List.all w2t_X4_ties goodWord = true by decide +kernel) w h)
  rcases List.mem_append.mp h with h | h
  · exact w2g_X0_arc w h
  exact w2g_X0_has w h
theorem w2i_X4_ties_X0_arc : ∀ w ∈ w2_X0_arc, w ∈ w2_X4_ties := fun w h => List.mem_cons_of_mem _ (List.mem_append_right _ (List.mem_append_left _ (h)))
theorem w2i_X4_ties_X0_has : ∀ w ∈ w2_X0_has, w ∈ w2_X4_ties := fun w h => List.mem_cons_of_mem _ (List.mem_append_right _ (List.mem_append_right _ (h)))
theorem gd_X4_ties_X0_has : GoodIn w2_X4_ties (va_wsS RX4 24 yX0_has w2_X0_has) := goodIn_app (goodIn_of _ (by decide +kernel)) (fun w h => ⟨w2i_X4_ties_X0_has w h, w2g_X0_has w h⟩)
theorem gd_X4_ties_X0_arc : GoodIn w2_X4_ties (va_wsS RX4 30 yX0_arc w2_X0_arc) := goodIn_app (goodIn_of _ (by decide +kernel)) (fun w h => ⟨w2i_X4_ties_X0_arc w h, w2g_X0_arc w h⟩)
def w2t_X4_meetings : List Cond := [.methodLink RX4 34 yX4_ties, .methodLink RX4 24 yX0_has, .methodLink RX4 38 yX0_parentsIn, .methodLink RX4 41 yX0_isIn, .static yX4_ties, .initialized RX4, .static yX0_has, .initialized RX0, .static yX0_parentsIn, .static yX0_isIn]
def w2_X4_meetings : List Cond := .code yX4_meetings cX4_meetings 10 (some .long) :: (w2t_X4_meetings ++ (w2_X0_has ++ (w2_X0_isIn ++ (w2_X0_parentsIn ++ (w2_X4_ties)))))
set_option maxRecDepth 20000 in
theorem w2g_X4_meetings : ∀ w ∈ w2_X4_meetings, ((w.onTables && w.keeps) = true ∨ ∃ ty, w = .arrayClass ty) := by
  intro w h
  rcases List.mem_cons.mp h with rfl | h
  · exact good_of_word (by decide +kernel)
  rcases List.mem_append.mp h with h | h
  · exact good_of_word (List.all_eq_true.mp (show List.all w2t_X4_meetings goodWord = true by decide +kernel) w h)
  rcases List.mem_append.mp h with h | h
  · exact w2g_X0_has w h
  rcases List.mem_append.mp h with h | h
  · exact w2g_X0_isIn w h
  rcases List.mem_append.mp h with h | h
  · exact w2g_X0_parentsIn w h
  exact w2g_X4_ties w h
theorem w2i_X4_meetings_X0_has : ∀ w ∈ w2_X0_has, w ∈ w2_X4_meetings := fun w h => List.mem_cons_of_mem _ (List.mem_append_right _ (List.mem_append_left _ (h)))
theorem w2i_X4_meetings_X0_isIn : ∀ w ∈ w2_X0_isIn, w ∈ w2_X4_meetings := fun w h => List.mem_cons_of_mem _ (List.mem_append_right _ (List.mem_append_right _ (List.mem_append_left _ (h))))
theorem w2i_X4_meetings_X0_parentsIn : ∀ w ∈ w2_X0_parentsIn, w ∈ w2_X4_meetings := fun w h => List.mem_cons_of_mem _ (List.mem_append_right _ (List.mem_append_right _ (List.mem_append_right _ (List.mem_append_left _ (h)))))
theorem w2i_X4_meetings_X4_ties : ∀ w ∈ w2_X4_ties, w ∈ w2_X4_meetings := fun w h => List.mem_cons_of_mem _ (List.mem_append_right _ (List.mem_append_right _ (List.mem_append_right _ (List.mem_append_right _ (h)))))
theorem gd_X4_meetings_X4_ties : GoodIn w2_X4_meetings (va_wsS RX4 34 yX4_ties w2_X4_ties) := goodIn_app (goodIn_of _ (by decide +kernel)) (fun w h => ⟨w2i_X4_meetings_X4_ties w h, w2g_X4_ties w h⟩)
theorem gd_X4_meetings_X0_parentsIn : GoodIn w2_X4_meetings (va_wsS RX4 38 yX0_parentsIn w2_X0_parentsIn) := goodIn_app (goodIn_of _ (by decide +kernel)) (fun w h => ⟨w2i_X4_meetings_X0_parentsIn w h, w2g_X0_parentsIn w h⟩)
theorem gd_X4_meetings_X0_isIn : GoodIn w2_X4_meetings (va_wsS RX4 41 yX0_isIn w2_X0_isIn) := goodIn_app (goodIn_of _ (by decide +kernel)) (fun w h => ⟨w2i_X4_meetings_X0_isIn w h, w2g_X0_isIn w h⟩)
theorem gd_X4_meetings_X0_has : GoodIn w2_X4_meetings (va_wsS RX4 24 yX0_has w2_X0_has) := goodIn_app (goodIn_of _ (by decide +kernel)) (fun w h => ⟨w2i_X4_meetings_X0_has w h, w2g_X0_has w h⟩)
def w2t_X4_add : List Cond := [.fieldLink RX4 9 "StructureSearch$Kin" "count" "I", .fieldLink RX4 15 "StructureSearch$Kin" "least" "I", .methodLink RX4 64 Lib.Math.min.name, .fieldLink RX4 18 "StructureSearch$Kin" "greatest" "I", .methodLink RX4 69 Lib.Math.max.name, .fieldLink RX4 21 "StructureSearch$Kin" "common" "I", .static Lib.Math.min.name, .initialized "java/lang/Math", .code Lib.Math.min.name Lib.Math.min.code 2 (some .int), .static Lib.Math.max.name, .code Lib.Math.max.name Lib.Math.max.code 2 (some .int)]
def w2_X4_add : List Cond := .code yX4_add cX4_add 2 none :: (w2t_X4_add ++ (wsX40))
set_option maxRecDepth 20000 in
theorem w2g_X4_add : ∀ w ∈ w2_X4_add, ((w.onTables && w.keeps) = true ∨ ∃ ty, w = .arrayClass ty) := by
  intro w h
  rcases List.mem_cons.mp h with rfl | h
  · exact good_of_word (by decide +kernel)
  rcases List.mem_append.mp h with h | h
  · exact good_of_word (List.all_eq_true.mp (show List.all w2t_X4_add goodWord = true by decide +kernel) w h)
  exact good_of_word (List.all_eq_true.mp (show List.all wsX40 goodWord = true by decide +kernel) w h)
theorem w2i_X4_add_X40 : ∀ w ∈ wsX40, w ∈ w2_X4_add := fun w h => List.mem_cons_of_mem _ (List.mem_append_right _ (h))
def w2t_X4_directed : List Cond := [.methodLink RX4 24 yX0_has, .methodLink RX4 30 yX0_arc, .static yX0_has, .initialized RX0, .static yX0_arc]
def w2_X4_directed : List Cond := .code yX4_directed cX4_directed 6 (some .int) :: (w2t_X4_directed ++ (w2_X0_arc ++ (w2_X0_has)))
set_option maxRecDepth 20000 in
theorem w2g_X4_directed : ∀ w ∈ w2_X4_directed, ((w.onTables && w.keeps) = true ∨ ∃ ty, w = .arrayClass ty) := by
  intro w h
  rcases List.mem_cons.mp h with rfl | h
  · exact good_of_word (by decide +kernel)
  rcases List.mem_append.mp h with h | h
  · exact good_of_word (List.all_eq_true.mp (show List.all w2t_X4_directed goodWord = true by decide +kernel) w h)
  rcases List.mem_append.mp h with h | h
  · exact w2g_X0_arc w h
  exact w2g_X0_has w h
theorem w2i_X4_directed_X0_arc : ∀ w ∈ w2_X0_arc, w ∈ w2_X4_directed := fun w h => List.mem_cons_of_mem _ (List.mem_append_right _ (List.mem_append_left _ (h)))
theorem w2i_X4_directed_X0_has : ∀ w ∈ w2_X0_has, w ∈ w2_X4_directed := fun w h => List.mem_cons_of_mem _ (List.mem_append_right _ (List.mem_append_right _ (h)))
theorem gd_X4_directed_X0_has : GoodIn w2_X4_directed (va_wsS RX4 24 yX0_has w2_X0_has) := goodIn_app (goodIn_of _ (by decide +kernel)) (fun w h => ⟨w2i_X4_directed_X0_has w h, w2g_X0_has w h⟩)
theorem gd_X4_directed_X0_arc : GoodIn w2_X4_directed (va_wsS RX4 30 yX0_arc w2_X0_arc) := goodIn_app (goodIn_of _ (by decide +kernel)) (fun w h => ⟨w2i_X4_directed_X0_arc w h, w2g_X0_arc w h⟩)
def w2t_X4_gather : List Cond := [.methodLink RX4 34 yX4_ties, .methodLink RX4 45 yX4_meetings, .methodLink RX4 49 yJ6_bitCount_0f7a4, .methodLink RX4 54 yX4_directed, .methodLink RX4 57 yX0_haveNoRound, .methodLink RX4 60 yX4_add, .static yX4_ties, .initialized RX4, .initialized RX0, .static yX4_meetings, .static yJ6_bitCount_0f7a4, .initialized RJ6, .static yX4_directed, .static yX0_haveNoRound, .instanceMethod yX4_add, .selects RX4 yX4_add yX4_add]
def w2_X4_gather : List Cond := .code yX4_gather cX4_gather 9 none :: (w2t_X4_gather ++ (w2_J6_bitCount_0f7a4 ++ (w2_X0_haveNoRound ++ (w2_X4_add ++ (w2_X4_directed ++ (w2_X4_meetings ++ (w2_X4_ties)))))))
set_option maxRecDepth 20000 in
theorem w2g_X4_gather : ∀ w ∈ w2_X4_gather, ((w.onTables && w.keeps) = true ∨ ∃ ty, w = .arrayClass ty) := by
  intro w h
  rcases List.mem_cons.mp h with rfl | h
  · exact good_of_word (by decide +kernel)
  rcases List.mem_append.mp h with h | h
  · exact good_of_word (List.all_eq_true.mp (show List.all w2t_X4_gather goodWord = true by decide +kernel) w h)
  rcases List.mem_append.mp h with h | h
  · exact w2g_J6_bitCount_0f7a4 w h
  rcases List.mem_append.mp h with h | h
  · exact w2g_X0_haveNoRound w h
  rcases List.mem_append.mp h with h | h
  · exact w2g_X4_add w h
  rcases List.mem_append.mp h with h | h
  · exact w2g_X4_directed w h
  rcases List.mem_append.mp h with h | h
  · exact w2g_X4_meetings w h
  exact w2g_X4_ties w h
theorem w2i_X4_gather_J6_bitCount_0f7a4 : ∀ w ∈ w2_J6_bitCount_0f7a4, w ∈ w2_X4_gather := fun w h => List.mem_cons_of_mem _ (List.mem_append_right _ (List.mem_append_left _ (h)))
theorem w2i_X4_gather_X0_haveNoRound : ∀ w ∈ w2_X0_haveNoRound, w ∈ w2_X4_gather := fun w h => List.mem_cons_of_mem _ (List.mem_append_right _ (List.mem_append_right _ (List.mem_append_left _ (h))))
theorem w2i_X4_gather_X4_add : ∀ w ∈ w2_X4_add, w ∈ w2_X4_gather := fun w h => List.mem_cons_of_mem _ (List.mem_append_right _ (List.mem_append_right _ (List.mem_append_right _ (List.mem_append_left _ (h)))))
theorem w2i_X4_gather_X4_directed : ∀ w ∈ w2_X4_directed, w ∈ w2_X4_gather := fun w h => List.mem_cons_of_mem _ (List.mem_append_right _ (List.mem_append_right _ (List.mem_append_right _ (List.mem_append_right _ (List.mem_append_left _ (h))))))
theorem w2i_X4_gather_X4_meetings : ∀ w ∈ w2_X4_meetings, w ∈ w2_X4_gather := fun w h => List.mem_cons_of_mem _ (List.mem_append_right _ (List.mem_append_right _ (List.mem_append_right _ (List.mem_append_right _ (List.mem_append_right _ (List.mem_append_left _ (h)))))))
theorem w2i_X4_gather_X4_ties : ∀ w ∈ w2_X4_ties, w ∈ w2_X4_gather := fun w h => List.mem_cons_of_mem _ (List.mem_append_right _ (List.mem_append_right _ (List.mem_append_right _ (List.mem_append_right _ (List.mem_append_right _ (List.mem_append_right _ (h)))))))
theorem gd_X4_gather_X4_ties : GoodIn w2_X4_gather (va_wsS RX4 34 yX4_ties w2_X4_ties) := goodIn_app (goodIn_of _ (by decide +kernel)) (fun w h => ⟨w2i_X4_gather_X4_ties w h, w2g_X4_ties w h⟩)
theorem gd_X4_gather_X4_meetings : GoodIn w2_X4_gather (va_wsS RX4 45 yX4_meetings w2_X4_meetings) := goodIn_app (goodIn_of _ (by decide +kernel)) (fun w h => ⟨w2i_X4_gather_X4_meetings w h, w2g_X4_meetings w h⟩)
theorem gd_X4_gather_J6_bitCount_0f7a4 : GoodIn w2_X4_gather (va_wsS RX4 49 yJ6_bitCount_0f7a4 w2_J6_bitCount_0f7a4) := goodIn_app (goodIn_of _ (by decide +kernel)) (fun w h => ⟨w2i_X4_gather_J6_bitCount_0f7a4 w h, w2g_J6_bitCount_0f7a4 w h⟩)
theorem gd_X4_gather_X4_directed : GoodIn w2_X4_gather (va_wsS RX4 54 yX4_directed w2_X4_directed) := goodIn_app (goodIn_of _ (by decide +kernel)) (fun w h => ⟨w2i_X4_gather_X4_directed w h, w2g_X4_directed w h⟩)
theorem gd_X4_gather_X0_haveNoRound : GoodIn w2_X4_gather (va_wsS RX4 57 yX0_haveNoRound w2_X0_haveNoRound) := goodIn_app (goodIn_of _ (by decide +kernel)) (fun w h => ⟨w2i_X4_gather_X0_haveNoRound w h, w2g_X0_haveNoRound w h⟩)
theorem gd_X4_gather_X4_add : GoodIn w2_X4_gather (wsV RX4 60 RX4 yX4_add w2_X4_add) := goodIn_app (goodIn_of _ (by decide +kernel)) (fun w h => ⟨w2i_X4_gather_X4_add w h, w2g_X4_add w h⟩)
def w2t_X5_init : List Cond := [.methodLink RX5 3 objectInit, .fieldLink RX5 11 "StructureSearch$Powers" "power" "[I", .fieldLink RX5 15 "StructureSearch$Powers" "largest" "I", .instanceMethod objectInit, .code objectInit ⟨#[0xb1]⟩ 1 none, .arrayClass .int]
def w2_X5_init : List Cond := .code yX5_init cX5_init 1 none :: (w2t_X5_init ++ (wsX50))
set_option maxRecDepth 20000 in
theorem w2g_X5_init : ∀ w ∈ w2_X5_init, ((w.onTables && w.keeps) = true ∨ ∃ ty, w = .arrayClass ty) := by
  intro w h
  rcases List.mem_cons.mp h with rfl | h
  · exact good_of_word (by decide +kernel)
  rcases List.mem_append.mp h with h | h
  · exact good_of_word (List.all_eq_true.mp (show List.all w2t_X5_init goodWord = true by decide +kernel) w h)
  exact good_of_word (List.all_eq_true.mp (show List.all wsX50 goodWord = true by decide +kernel) w h)
theorem w2i_X5_init_X50 : ∀ w ∈ wsX50, w ∈ w2_X5_init := fun w h => List.mem_cons_of_mem _ (List.mem_append_right _ (h))
def w2t_X5_copy : List Cond := [.fieldLink RX5 15 "StructureSearch$Powers" "largest" "I", .fieldLink RX5 11 "StructureSearch$Powers" "power" "[I", .methodLink RX5 34 yX5_forget, .instanceMethod yX5_forget, .selects RX5 yX5_forget yX5_forget, .initialized RX5]
def w2_X5_copy : List Cond := .code yX5_copy cX5_copy 3 none :: (w2t_X5_copy ++ (wsX50 ++ (w2_X5_forget)))
set_option maxRecDepth 20000 in
theorem w2g_X5_copy : ∀ w ∈ w2_X5_copy, ((w.onTables && w.keeps) = true ∨ ∃ ty, w = .arrayClass ty) := by
  intro w h
  rcases List.mem_cons.mp h with rfl | h
  · exact good_of_word (by decide +kernel)
  rcases List.mem_append.mp h with h | h
  · exact good_of_word (List.all_eq_true.mp (show List.all w2t_X5_copy goodWord = true by decide +kernel) w h)
  rcases List.mem_append.mp h with h | h
  · exact good_of_word (List.all_eq_true.mp (show List.all wsX50 goodWord = true by decide +kernel) w h)
  exact w2g_X5_forget w h
theorem w2i_X5_copy_X50 : ∀ w ∈ wsX50, w ∈ w2_X5_copy := fun w h => List.mem_cons_of_mem _ (List.mem_append_right _ (List.mem_append_left _ (h)))
theorem w2i_X5_copy_X5_forget : ∀ w ∈ w2_X5_forget, w ∈ w2_X5_copy := fun w h => List.mem_cons_of_mem _ (List.mem_append_right _ (List.mem_append_right _ (h)))
theorem gd_X5_copy_X5_forget : GoodIn w2_X5_copy (wsV RX5 34 RX5 yX5_forget w2_X5_forget) := goodIn_app (goodIn_of _ (by decide +kernel)) (fun w h => ⟨w2i_X5_copy_X5_forget w h, w2g_X5_forget w h⟩)
def w2t_X5_lowerTo : List Cond := [.fieldLink RX5 15 "StructureSearch$Powers" "largest" "I", .methodLink RX5 37 Lib.Math.max.name, .fieldLink RX5 11 "StructureSearch$Powers" "power" "[I", .methodLink RX5 43 Lib.Math.min.name, .static Lib.Math.max.name, .initialized "java/lang/Math", .code Lib.Math.max.name Lib.Math.max.code 2 (some .int), .static Lib.Math.min.name, .code Lib.Math.min.name Lib.Math.min.code 2 (some .int)]
def w2_X5_lowerTo : List Cond := .code yX5_lowerTo cX5_lowerTo 3 none :: (w2t_X5_lowerTo ++ (wsX50))
set_option maxRecDepth 20000 in
theorem w2g_X5_lowerTo : ∀ w ∈ w2_X5_lowerTo, ((w.onTables && w.keeps) = true ∨ ∃ ty, w = .arrayClass ty) := by
  intro w h
  rcases List.mem_cons.mp h with rfl | h
  · exact good_of_word (by decide +kernel)
  rcases List.mem_append.mp h with h | h
  · exact good_of_word (List.all_eq_true.mp (show List.all w2t_X5_lowerTo goodWord = true by decide +kernel) w h)
  exact good_of_word (List.all_eq_true.mp (show List.all wsX50 goodWord = true by decide +kernel) w h)
theorem w2i_X5_lowerTo_X50 : ∀ w ∈ wsX50, w ∈ w2_X5_lowerTo := fun w h => List.mem_cons_of_mem _ (List.mem_append_right _ (h))
def w2t_X5_divide : List Cond := [.fieldLink RX5 15 "StructureSearch$Powers" "largest" "I", .methodLink RX5 37 Lib.Math.max.name, .fieldLink RX5 11 "StructureSearch$Powers" "power" "[I", .static Lib.Math.max.name, .initialized "java/lang/Math", .code Lib.Math.max.name Lib.Math.max.code 2 (some .int)]
def w2_X5_divide : List Cond := .code yX5_divide cX5_divide 3 none :: (w2t_X5_divide ++ (wsX50))
set_option maxRecDepth 20000 in
theorem w2g_X5_divide : ∀ w ∈ w2_X5_divide, ((w.onTables && w.keeps) = true ∨ ∃ ty, w = .arrayClass ty) := by
  intro w h
  rcases List.mem_cons.mp h with rfl | h
  · exact good_of_word (by decide +kernel)
  rcases List.mem_append.mp h with h | h
  · exact good_of_word (List.all_eq_true.mp (show List.all w2t_X5_divide goodWord = true by decide +kernel) w h)
  exact good_of_word (List.all_eq_true.mp (show List.all wsX50 goodWord = true by decide +kernel) w h)
theorem w2i_X5_divide_X50 : ∀ w ∈ wsX50, w ∈ w2_X5_divide := fun w h => List.mem_cons_of_mem _ (List.mem_append_right _ (h))
def w2t_X6_init : List Cond := [.methodLink RX6 3 objectInit, .fieldLink RX6 9 "StructureSearch$Search" "sheet" "LStructureSearch$Sheet;", .fieldLink RX6 15 "StructureSearch$Search" "fits" "LStructureSearch$Fits;", .fieldLink RX6 19 "StructureSearch$Search" "bestOf" "[I", .instanceMethod objectInit, .code objectInit ⟨#[0xb1]⟩ 1 none, .arrayClass .int]
def w2_X6_init : List Cond := .code yX6_init cX6_init 3 none :: (w2t_X6_init ++ (wsX60))
set_option maxRecDepth 20000 in
theorem w2g_X6_init : ∀ w ∈ w2_X6_init, ((w.onTables && w.keeps) = true ∨ ∃ ty, w = .arrayClass ty) := by
  intro w h
  rcases List.mem_cons.mp h with rfl | h
  · exact good_of_word (by decide +kernel)
  rcases List.mem_append.mp h with h | h
  · exact good_of_word (List.all_eq_true.mp (show List.all w2t_X6_init goodWord = true by decide +kernel) w h)
  exact good_of_word (List.all_eq_true.mp (show List.all wsX60 goodWord = true by decide +kernel) w h)
theorem w2i_X6_init_X60 : ∀ w ∈ wsX60, w ∈ w2_X6_init := fun w h => List.mem_cons_of_mem _ (List.mem_append_right _ (h))
def w2t_X6_bestParents : List Cond := [.fieldLink RX6 9 "StructureSearch$Search" "sheet" "LStructureSearch$Sheet;", .fieldLink RX6 29 "StructureSearch$Sheet" "most" "I", .fieldLink RX6 15 "StructureSearch$Search" "fits" "LStructureSearch$Fits;", .methodLink RX6 23 yJ6_bitCount_0f7a4, .methodLink RX6 35 yX0_fromAll, .methodLink RX6 41 yX2_weigh, .static yJ6_bitCount_0f7a4, .initialized RJ6, .static yX0_fromAll, .initialized RX0, .instanceMethod yX2_weigh, .selects RX2 yX2_weigh yX2_weigh, .initialized RX2]
def w2_X6_bestParents : List Cond := .code yX6_bestParents cX6_bestParents 5 (some .int) :: (w2t_X6_bestParents ++ (wsX60 ++ (wsX80 ++ (w2_J6_bitCount_0f7a4 ++ (w2_X0_fromAll ++ (w2_X2_weigh))))))
set_option maxRecDepth 20000 in
theorem w2g_X6_bestParents : ∀ w ∈ w2_X6_bestParents, ((w.onTables && w.keeps) = true ∨ ∃ ty, w = .arrayClass ty) := by
  intro w h
  rcases List.mem_cons.mp h with rfl | h
  · exact good_of_word (by decide +kernel)
  rcases List.mem_append.mp h with h | h
  · exact good_of_word (List.all_eq_true.mp (show List.all w2t_X6_bestParents goodWord = true by decide +kernel) w h)
  rcases List.mem_append.mp h with h | h
  · exact good_of_word (List.all_eq_true.mp (show List.all wsX60 goodWord = true by decide +kernel) w h)
  rcases List.mem_append.mp h with h | h
  · exact good_of_word (List.all_eq_true.mp (show List.all wsX80 goodWord = true by decide +kernel) w h)
  rcases List.mem_append.mp h with h | h
  · exact w2g_J6_bitCount_0f7a4 w h
  rcases List.mem_append.mp h with h | h
  · exact w2g_X0_fromAll w h
  exact w2g_X2_weigh w h
theorem w2i_X6_bestParents_X60 : ∀ w ∈ wsX60, w ∈ w2_X6_bestParents := fun w h => List.mem_cons_of_mem _ (List.mem_append_right _ (List.mem_append_left _ (h)))
theorem w2i_X6_bestParents_X80 : ∀ w ∈ wsX80, w ∈ w2_X6_bestParents := fun w h => List.mem_cons_of_mem _ (List.mem_append_right _ (List.mem_append_right _ (List.mem_append_left _ (h))))
theorem w2i_X6_bestParents_J6_bitCount_0f7a4 : ∀ w ∈ w2_J6_bitCount_0f7a4, w ∈ w2_X6_bestParents := fun w h => List.mem_cons_of_mem _ (List.mem_append_right _ (List.mem_append_right _ (List.mem_append_right _ (List.mem_append_left _ (h)))))
theorem w2i_X6_bestParents_X0_fromAll : ∀ w ∈ w2_X0_fromAll, w ∈ w2_X6_bestParents := fun w h => List.mem_cons_of_mem _ (List.mem_append_right _ (List.mem_append_right _ (List.mem_append_right _ (List.mem_append_right _ (List.mem_append_left _ (h))))))
theorem w2i_X6_bestParents_X2_weigh : ∀ w ∈ w2_X2_weigh, w ∈ w2_X6_bestParents := fun w h => List.mem_cons_of_mem _ (List.mem_append_right _ (List.mem_append_right _ (List.mem_append_right _ (List.mem_append_right _ (List.mem_append_right _ (h))))))
theorem gd_X6_bestParents_J6_bitCount_0f7a4 : GoodIn w2_X6_bestParents (va_wsS RX6 23 yJ6_bitCount_0f7a4 w2_J6_bitCount_0f7a4) := goodIn_app (goodIn_of _ (by decide +kernel)) (fun w h => ⟨w2i_X6_bestParents_J6_bitCount_0f7a4 w h, w2g_J6_bitCount_0f7a4 w h⟩)
theorem gd_X6_bestParents_X0_fromAll : GoodIn w2_X6_bestParents (va_wsS RX6 35 yX0_fromAll w2_X0_fromAll) := goodIn_app (goodIn_of _ (by decide +kernel)) (fun w h => ⟨w2i_X6_bestParents_X0_fromAll w h, w2g_X0_fromAll w h⟩)
theorem gd_X6_bestParents_X2_weigh : GoodIn w2_X6_bestParents (wsV RX6 41 RX2 yX2_weigh w2_X2_weigh) := goodIn_app (goodIn_of _ (by decide +kernel)) (fun w h => ⟨w2i_X6_bestParents_X2_weigh w h, w2g_X2_weigh w h⟩)
def w2t_X6_better : List Cond := [.fieldLink RX6 15 "StructureSearch$Search" "fits" "LStructureSearch$Fits;", .methodLink RX6 41 yX2_weigh, .instanceMethod yX2_weigh, .selects RX2 yX2_weigh yX2_weigh, .initialized RX2]
def w2_X6_better : List Cond := .code yX6_better cX6_better 4 (some .int) :: (w2t_X6_better ++ (wsX60 ++ (w2_X2_weigh)))
set_option maxRecDepth 20000 in
theorem w2g_X6_better : ∀ w ∈ w2_X6_better, ((w.onTables && w.keeps) = true ∨ ∃ ty, w = .arrayClass ty) := by
  intro w h
  rcases List.mem_cons.mp h with rfl | h
  · exact good_of_word (by decide +kernel)
  rcases List.mem_append.mp h with h | h
  · exact good_of_word (List.all_eq_true.mp (show List.all w2t_X6_better goodWord = true by decide +kernel) w h)
  rcases List.mem_append.mp h with h | h
  · exact good_of_word (List.all_eq_true.mp (show List.all wsX60 goodWord = true by decide +kernel) w h)
  exact w2g_X2_weigh w h
theorem w2i_X6_better_X60 : ∀ w ∈ wsX60, w ∈ w2_X6_better := fun w h => List.mem_cons_of_mem _ (List.mem_append_right _ (List.mem_append_left _ (h)))
theorem w2i_X6_better_X2_weigh : ∀ w ∈ w2_X2_weigh, w ∈ w2_X6_better := fun w h => List.mem_cons_of_mem _ (List.mem_append_right _ (List.mem_append_right _ (h)))
theorem gd_X6_better_X2_weigh : GoodIn w2_X6_better (wsV RX6 41 RX2 yX2_weigh w2_X2_weigh) := goodIn_app (goodIn_of _ (by decide +kernel)) (fun w h => ⟨w2i_X6_better_X2_weigh w h, w2g_X2_weigh w h⟩)
def w2t_X6_keep : List Cond := [.fieldLink RX6 19 "StructureSearch$Search" "bestOf" "[I"]
def w2_X6_keep : List Cond := .code yX6_keep cX6_keep 3 none :: (w2t_X6_keep ++ (wsX60))
set_option maxRecDepth 20000 in
theorem w2g_X6_keep : ∀ w ∈ w2_X6_keep, ((w.onTables && w.keeps) = true ∨ ∃ ty, w = .arrayClass ty) := by
  intro w h
  rcases List.mem_cons.mp h with rfl | h
  · exact good_of_word (by decide +kernel)
  rcases List.mem_append.mp h with h | h
  · exact good_of_word (List.all_eq_true.mp (show List.all w2t_X6_keep goodWord = true by decide +kernel) w h)
  exact good_of_word (List.all_eq_true.mp (show List.all wsX60 goodWord = true by decide +kernel) w h)
theorem w2i_X6_keep_X60 : ∀ w ∈ wsX60, w ∈ w2_X6_keep := fun w h => List.mem_cons_of_mem _ (List.mem_append_right _ (h))
def w2t_X6_kept : List Cond := [.fieldLink RX6 19 "StructureSearch$Search" "bestOf" "[I"]
def w2_X6_kept : List Cond := .code yX6_kept cX6_kept 2 (some .int) :: (w2t_X6_kept ++ (wsX60))
set_option maxRecDepth 20000 in
theorem w2g_X6_kept : ∀ w ∈ w2_X6_kept, ((w.onTables && w.keeps) = true ∨ ∃ ty, w = .arrayClass ty) := by
  intro w h
  rcases List.mem_cons.mp h with rfl | h
  · exact good_of_word (by decide +kernel)
  rcases List.mem_append.mp h with h | h
  · exact good_of_word (List.all_eq_true.mp (show List.all w2t_X6_kept goodWord = true by decide +kernel) w h)
  exact good_of_word (List.all_eq_true.mp (show List.all wsX60 goodWord = true by decide +kernel) w h)
theorem w2i_X6_kept_X60 : ∀ w ∈ wsX60, w ∈ w2_X6_kept := fun w h => List.mem_cons_of_mem _ (List.mem_append_right _ (h))
def w2t_X6_bestGraph : List Cond := [.fieldLink RX6 9 "StructureSearch$Search" "sheet" "LStructureSearch$Sheet;", .fieldLink RX6 46 "StructureSearch$Sheet" "names" "I", .methodLink RX6 49 yX0_isIn, .methodLink RX6 53 yX6_kept, .methodLink RX6 56 yX6_bestParents, .methodLink RX6 35 yX0_fromAll, .methodLink RX6 59 yX6_better, .methodLink RX6 62 yX6_keep, .static yX0_isIn, .initialized RX0, .instanceMethod yX6_kept, .selects RX6 yX6_kept yX6_kept, .initialized RX6, .instanceMethod yX6_bestParents, .selects RX6 yX6_bestParents yX6_bestParents, .static yX0_fromAll, .instanceMethod yX6_better, .selects RX6 yX6_better yX6_better, .instanceMethod yX6_keep, .selects RX6 yX6_keep yX6_keep]
def w2_X6_bestGraph : List Cond := .code yX6_bestGraph cX6_bestGraph 5 (some .int) :: (w2t_X6_bestGraph ++ (wsX60 ++ (wsX80 ++ (w2_X0_fromAll ++ (w2_X0_isIn ++ (w2_X6_bestParents ++ (w2_X6_better ++ (w2_X6_keep ++ (w2_X6_kept)))))))))
set_option maxRecDepth 20000 in
theorem w2g_X6_bestGraph : ∀ w ∈ w2_X6_bestGraph, ((w.onTables && w.keeps) = true ∨ ∃ ty, w = .arrayClass ty) := by
  intro w h
  rcases List.mem_cons.mp h with rfl | h
  · exact good_of_word (by decide +kernel)
  rcases List.mem_append.mp h with h | h
  · exact good_of_word (List.all_eq_true.mp (show List.all w2t_X6_bestGraph goodWord = true by decide +kernel) w h)
  rcases List.mem_append.mp h with h | h
  · exact good_of_word (List.all_eq_true.mp (show List.all wsX60 goodWord = true by decide +kernel) w h)
  rcases List.mem_append.mp h with h | h
  · exact good_of_word (List.all_eq_true.mp (show List.all wsX80 goodWord = true by decide +kernel) w h)
  rcases List.mem_append.mp h with h | h
  · exact w2g_X0_fromAll w h
  rcases List.mem_append.mp h with h | h
  · exact w2g_X0_isIn w h
  rcases List.mem_append.mp h with h | h
  · exact w2g_X6_bestParents w h
  rcases List.mem_append.mp h with h | h
  · exact w2g_X6_better w h
  rcases List.mem_append.mp h with h | h
  · exact w2g_X6_keep w h
  exact w2g_X6_kept w h
theorem w2i_X6_bestGraph_X60 : ∀ w ∈ wsX60, w ∈ w2_X6_bestGraph := fun w h => List.mem_cons_of_mem _ (List.mem_append_right _ (List.mem_append_left _ (h)))
theorem w2i_X6_bestGraph_X80 : ∀ w ∈ wsX80, w ∈ w2_X6_bestGraph := fun w h => List.mem_cons_of_mem _ (List.mem_append_right _ (List.mem_append_right _ (List.mem_append_left _ (h))))
theorem w2i_X6_bestGraph_X0_fromAll : ∀ w ∈ w2_X0_fromAll, w ∈ w2_X6_bestGraph := fun w h => List.mem_cons_of_mem _ (List.mem_append_right _ (List.mem_append_right _ (List.mem_append_right _ (List.mem_append_left _ (h)))))
theorem w2i_X6_bestGraph_X0_isIn : ∀ w ∈ w2_X0_isIn, w ∈ w2_X6_bestGraph := fun w h => List.mem_cons_of_mem _ (List.mem_append_right _ (List.mem_append_right _ (List.mem_append_right _ (List.mem_append_right _ (List.mem_append_left _ (h))))))
theorem w2i_X6_bestGraph_X6_bestParents : ∀ w ∈ w2_X6_bestParents, w ∈ w2_X6_bestGraph := fun w h => List.mem_cons_of_mem _ (List.mem_append_right _ (List.mem_append_right _ (List.mem_append_right _ (List.mem_append_right _ (List.mem_append_right _ (List.mem_append_left _ (h)))))))
theorem w2i_X6_bestGraph_X6_better : ∀ w ∈ w2_X6_better, w ∈ w2_X6_bestGraph := fun w h => List.mem_cons_of_mem _ (List.mem_append_right _ (List.mem_append_right _ (List.mem_append_right _ (List.mem_append_right _ (List.mem_append_right _ (List.mem_append_right _ (List.mem_append_left _ (h))))))))
theorem w2i_X6_bestGraph_X6_keep : ∀ w ∈ w2_X6_keep, w ∈ w2_X6_bestGraph := fun w h => List.mem_cons_of_mem _ (List.mem_append_right _ (List.mem_append_right _ (List.mem_append_right _ (List.mem_append_right _ (List.mem_append_right _ (List.mem_append_right _ (List.mem_append_right _ (List.mem_append_left _ (h)))))))))
theorem w2i_X6_bestGraph_X6_kept : ∀ w ∈ w2_X6_kept, w ∈ w2_X6_bestGraph := fun w h => List.mem_cons_of_mem _ (List.mem_append_right _ (List.mem_append_right _ (List.mem_append_right _ (List.mem_append_right _ (List.mem_append_right _ (List.mem_append_right _ (List.mem_append_right _ (List.mem_append_right _ (h)))))))))
theorem gd_X6_bestGraph_X0_isIn : GoodIn w2_X6_bestGraph (va_wsS RX6 49 yX0_isIn w2_X0_isIn) := goodIn_app (goodIn_of _ (by decide +kernel)) (fun w h => ⟨w2i_X6_bestGraph_X0_isIn w h, w2g_X0_isIn w h⟩)
theorem gd_X6_bestGraph_X6_kept : GoodIn w2_X6_bestGraph (wsV RX6 53 RX6 yX6_kept w2_X6_kept) := goodIn_app (goodIn_of _ (by decide +kernel)) (fun w h => ⟨w2i_X6_bestGraph_X6_kept w h, w2g_X6_kept w h⟩)
theorem gd_X6_bestGraph_X6_bestParents : GoodIn w2_X6_bestGraph (wsV RX6 56 RX6 yX6_bestParents w2_X6_bestParents) := goodIn_app (goodIn_of _ (by decide +kernel)) (fun w h => ⟨w2i_X6_bestGraph_X6_bestParents w h, w2g_X6_bestParents w h⟩)
theorem gd_X6_bestGraph_X0_fromAll : GoodIn w2_X6_bestGraph (va_wsS RX6 35 yX0_fromAll w2_X0_fromAll) := goodIn_app (goodIn_of _ (by decide +kernel)) (fun w h => ⟨w2i_X6_bestGraph_X0_fromAll w h, w2g_X0_fromAll w h⟩)
theorem gd_X6_bestGraph_X6_better : GoodIn w2_X6_bestGraph (wsV RX6 59 RX6 yX6_better w2_X6_better) := goodIn_app (goodIn_of _ (by decide +kernel)) (fun w h => ⟨w2i_X6_bestGraph_X6_better w h, w2g_X6_better w h⟩)
theorem gd_X6_bestGraph_X6_keep : GoodIn w2_X6_bestGraph (wsV RX6 62 RX6 yX6_keep w2_X6_keep) := goodIn_app (goodIn_of _ (by decide +kernel)) (fun w h => ⟨w2i_X6_bestGraph_X6_keep w h, w2g_X6_keep w h⟩)
def w2t_X6_isOpen : List Cond := [.fieldLink RX6 9 "StructureSearch$Search" "sheet" "LStructureSearch$Sheet;", .fieldLink RX6 29 "StructureSearch$Sheet" "most" "I", .fieldLink RX6 46 "StructureSearch$Sheet" "names" "I", .methodLink RX6 80 yX0_areBounded, .methodLink RX6 83 yX0_haveNoRound, .static yX0_areBounded, .initialized RX0, .static yX0_haveNoRound]
def w2_X6_isOpen : List Cond := .code yX6_isOpen cX6_isOpen 2 (some .boolean) :: (w2t_X6_isOpen ++ (wsX60 ++ (wsX80 ++ (w2_X0_areBounded ++ (w2_X0_haveNoRound)))))
set_option maxRecDepth 20000 in
theorem w2g_X6_isOpen : ∀ w ∈ w2_X6_isOpen, ((w.onTables && w.keeps) = true ∨ ∃ ty, w = .arrayClass ty) := by
  intro w h
  rcases List.mem_cons.mp h with rfl | h
  · exact good_of_word (by decide +kernel)
  rcases List.mem_append.mp h with h | h
  · exact good_of_word (List.all_eq_true.mp (show List.all w2t_X6_isOpen goodWord = true by decide +kernel) w h)
  rcases List.mem_append.mp h with h | h
  · exact good_of_word (List.all_eq_true.mp (show List.all wsX60 goodWord = true by decide +kernel) w h)
  rcases List.mem_append.mp h with h | h
  · exact good_of_word (List.all_eq_true.mp (show List.all wsX80 goodWord = true by decide +kernel) w h)
  rcases List.mem_append.mp h with h | h
  · exact w2g_X0_areBounded w h
  exact w2g_X0_haveNoRound w h
theorem w2i_X6_isOpen_X60 : ∀ w ∈ wsX60, w ∈ w2_X6_isOpen := fun w h => List.mem_cons_of_mem _ (List.mem_append_right _ (List.mem_append_left _ (h)))
theorem w2i_X6_isOpen_X80 : ∀ w ∈ wsX80, w ∈ w2_X6_isOpen := fun w h => List.mem_cons_of_mem _ (List.mem_append_right _ (List.mem_append_right _ (List.mem_append_left _ (h))))
theorem w2i_X6_isOpen_X0_areBounded : ∀ w ∈ w2_X0_areBounded, w ∈ w2_X6_isOpen := fun w h => List.mem_cons_of_mem _ (List.mem_append_right _ (List.mem_append_right _ (List.mem_append_right _ (List.mem_append_left _ (h)))))
theorem w2i_X6_isOpen_X0_haveNoRound : ∀ w ∈ w2_X0_haveNoRound, w ∈ w2_X6_isOpen := fun w h => List.mem_cons_of_mem _ (List.mem_append_right _ (List.mem_append_right _ (List.mem_append_right _ (List.mem_append_right _ (h)))))
theorem gd_X6_isOpen_X0_areBounded : GoodIn w2_X6_isOpen (va_wsS RX6 80 yX0_areBounded w2_X0_areBounded) := goodIn_app (goodIn_of _ (by decide +kernel)) (fun w h => ⟨w2i_X6_isOpen_X0_areBounded w h, w2g_X0_areBounded w h⟩)
theorem gd_X6_isOpen_X0_haveNoRound : GoodIn w2_X6_isOpen (va_wsS RX6 83 yX0_haveNoRound w2_X0_haveNoRound) := goodIn_app (goodIn_of _ (by decide +kernel)) (fun w h => ⟨w2i_X6_isOpen_X0_haveNoRound w h, w2g_X0_haveNoRound w h⟩)
def w2t_X6_bestNear : List Cond := [.fieldLink RX6 9 "StructureSearch$Search" "sheet" "LStructureSearch$Sheet;", .fieldLink RX6 46 "StructureSearch$Sheet" "names" "I", .methodLink RX6 69 yX0_arc, .methodLink RX6 72 yX0_has, .methodLink RX6 76 yX6_isOpen, .methodLink RX6 59 yX6_better, .static yX0_arc, .initialized RX0, .static yX0_has, .instanceMethod yX6_isOpen, .selects RX6 yX6_isOpen yX6_isOpen, .initialized RX6, .instanceMethod yX6_better, .selects RX6 yX6_better yX6_better]
def w2_X6_bestNear : List Cond := .code yX6_bestNear cX6_bestNear 6 (some .int) :: (w2t_X6_bestNear ++ (wsX60 ++ (wsX80 ++ (w2_X0_arc ++ (w2_X0_has ++ (w2_X6_better ++ (w2_X6_isOpen)))))))
set_option maxRecDepth 20000 in
theorem w2g_X6_bestNear : ∀ w ∈ w2_X6_bestNear, ((w.onTables && w.keeps) = true ∨ ∃ ty, w = .arrayClass ty) := by
  intro w h
  rcases List.mem_cons.mp h with rfl | h
  · exact good_of_word (by decide +kernel)
  rcases List.mem_append.mp h with h | h
  · exact good_of_word (List.all_eq_true.mp (show List.all w2t_X6_bestNear goodWord = true by decide +kernel) w h)
  rcases List.mem_append.mp h with h | h
  · exact good_of_word (List.all_eq_true.mp (show List.all wsX60 goodWord = true by decide +kernel) w h)
  rcases List.mem_append.mp h with h | h
  · exact good_of_word (List.all_eq_true.mp (show List.all wsX80 goodWord = true by decide +kernel) w h)
  rcases List.mem_append.mp h with h | h
  · exact w2g_X0_arc w h
  rcases List.mem_append.mp h with h | h
  · exact w2g_X0_has w h
  rcases List.mem_append.mp h with h | h
  · exact w2g_X6_better w h
  exact w2g_X6_isOpen w h
theorem w2i_X6_bestNear_X60 : ∀ w ∈ wsX60, w ∈ w2_X6_bestNear := fun w h => List.mem_cons_of_mem _ (List.mem_append_right _ (List.mem_append_left _ (h)))
theorem w2i_X6_bestNear_X80 : ∀ w ∈ wsX80, w ∈ w2_X6_bestNear := fun w h => List.mem_cons_of_mem _ (List.mem_append_right _ (List.mem_append_right _ (List.mem_append_left _ (h))))
theorem w2i_X6_bestNear_X0_arc : ∀ w ∈ w2_X0_arc, w ∈ w2_X6_bestNear := fun w h => List.mem_cons_of_mem _ (List.mem_append_right _ (List.mem_append_right _ (List.mem_append_right _ (List.mem_append_left _ (h)))))
theorem w2i_X6_bestNear_X0_has : ∀ w ∈ w2_X0_has, w ∈ w2_X6_bestNear := fun w h => List.mem_cons_of_mem _ (List.mem_append_right _ (List.mem_append_right _ (List.mem_append_right _ (List.mem_append_right _ (List.mem_append_left _ (h))))))
theorem w2i_X6_bestNear_X6_better : ∀ w ∈ w2_X6_better, w ∈ w2_X6_bestNear := fun w h => List.mem_cons_of_mem _ (List.mem_append_right _ (List.mem_append_right _ (List.mem_append_right _ (List.mem_append_right _ (List.mem_append_right _ (List.mem_append_left _ (h)))))))
theorem w2i_X6_bestNear_X6_isOpen : ∀ w ∈ w2_X6_isOpen, w ∈ w2_X6_bestNear := fun w h => List.mem_cons_of_mem _ (List.mem_append_right _ (List.mem_append_right _ (List.mem_append_right _ (List.mem_append_right _ (List.mem_append_right _ (List.mem_append_right _ (h)))))))
theorem gd_X6_bestNear_X0_arc : GoodIn w2_X6_bestNear (va_wsS RX6 69 yX0_arc w2_X0_arc) := goodIn_app (goodIn_of _ (by decide +kernel)) (fun w h => ⟨w2i_X6_bestNear_X0_arc w h, w2g_X0_arc w h⟩)
theorem gd_X6_bestNear_X0_has : GoodIn w2_X6_bestNear (va_wsS RX6 72 yX0_has w2_X0_has) := goodIn_app (goodIn_of _ (by decide +kernel)) (fun w h => ⟨w2i_X6_bestNear_X0_has w h, w2g_X0_has w h⟩)
theorem gd_X6_bestNear_X6_isOpen : GoodIn w2_X6_bestNear (wsV RX6 76 RX6 yX6_isOpen w2_X6_isOpen) := goodIn_app (goodIn_of _ (by decide +kernel)) (fun w h => ⟨w2i_X6_bestNear_X6_isOpen w h, w2g_X6_isOpen w h⟩)
theorem gd_X6_bestNear_X6_better : GoodIn w2_X6_bestNear (wsV RX6 59 RX6 yX6_better w2_X6_better) := goodIn_app (goodIn_of _ (by decide +kernel)) (fun w h => ⟨w2i_X6_bestNear_X6_better w h, w2g_X6_better w h⟩)
def w2t_X6_climbFrom : List Cond := [.fieldLink RX6 15 "StructureSearch$Search" "fits" "LStructureSearch$Fits;", .methodLink RX6 66 yX6_bestNear, .methodLink RX6 41 yX2_weigh, .instanceMethod yX6_bestNear, .selects RX6 yX6_bestNear yX6_bestNear, .initialized RX6, .instanceMethod yX2_weigh, .selects RX2 yX2_weigh yX2_weigh, .initialized RX2]
def w2_X6_climbFrom : List Cond := .code yX6_climbFrom cX6_climbFrom 6 (some .int) :: (w2t_X6_climbFrom ++ (wsX60 ++ (w2_X2_weigh ++ (w2_X6_bestNear))))
set_option maxRecDepth 20000 in
theorem w2g_X6_climbFrom : ∀ w ∈ w2_X6_climbFrom, ((w.onTables && w.keeps) = true ∨ ∃ ty, w = .arrayClass ty) := by
  intro w h
  rcases List.mem_cons.mp h with rfl | h
  · exact good_of_word (by decide +kernel)
  rcases List.mem_append.mp h with h | h
  · exact good_of_word (List.all_eq_true.mp (show List.all w2t_X6_climbFrom goodWord = true by decide +kernel) w h)
  rcases List.mem_append.mp h with h | h
  · exact good_of_word (List.all_eq_true.mp (show List.all wsX60 goodWord = true by decide +kernel) w h)
  rcases List.mem_append.mp h with h | h
  · exact w2g_X2_weigh w h
  exact w2g_X6_bestNear w h
theorem w2i_X6_climbFrom_X60 : ∀ w ∈ wsX60, w ∈ w2_X6_climbFrom := fun w h => List.mem_cons_of_mem _ (List.mem_append_right _ (List.mem_append_left _ (h)))
theorem w2i_X6_climbFrom_X2_weigh : ∀ w ∈ w2_X2_weigh, w ∈ w2_X6_climbFrom := fun w h => List.mem_cons_of_mem _ (List.mem_append_right _ (List.mem_append_right _ (List.mem_append_left _ (h))))
theorem w2i_X6_climbFrom_X6_bestNear : ∀ w ∈ w2_X6_bestNear, w ∈ w2_X6_climbFrom := fun w h => List.mem_cons_of_mem _ (List.mem_append_right _ (List.mem_append_right _ (List.mem_append_right _ (h))))
theorem gd_X6_climbFrom_X6_bestNear : GoodIn w2_X6_climbFrom (wsV RX6 66 RX6 yX6_bestNear w2_X6_bestNear) := goodIn_app (goodIn_of _ (by decide +kernel)) (fun w h => ⟨w2i_X6_climbFrom_X6_bestNear w h, w2g_X6_bestNear w h⟩)
theorem gd_X6_climbFrom_X2_weigh : GoodIn w2_X6_climbFrom (wsV RX6 41 RX2 yX2_weigh w2_X2_weigh) := goodIn_app (goodIn_of _ (by decide +kernel)) (fun w h => ⟨w2i_X6_climbFrom_X2_weigh w h, w2g_X2_weigh w h⟩)
def w2t_X7_init : List Cond := [.methodLink RX7 5 objectInit, .fieldLink RX7 11 "StructureSearch$Shares" "sheet" "LStructureSearch$Sheet;", .fieldLink RX7 15 "StructureSearch$Shares" "powers" "LStructureSearch$Powers;", .classLink RX7 19 RX5, .fieldLink RX7 22 "StructureSearch$Shares" "least" "LStructureSearch$Powers;", .classLink RX7 25 RX1, .fieldLink RX7 27 "StructureSearch$Shares" "weights" "[LStructureSearch$Big;", .fieldLink RX7 40 "StructureSearch$Shares" "sums" "[LStructureSearch$Big;", .fieldLink RX7 43 "StructureSearch$Shares" "none" "LStructureSearch$Big;", .fieldLink RX7 47 "StructureSearch$Shares" "term" "LStructureSearch$Big;", .fieldLink RX7 50 "StructureSearch$Shares" "rest" "LStructureSearch$Big;", .fieldLink RX7 53 "StructureSearch$Shares" "divisor" "LStructureSearch$Big;", .classLink RX7 56 RX3, .fieldLink RX7 61 "StructureSearch$Shares" "share" "LStructureSearch$Fraction;", .fieldLink RX7 65 "StructureSearch$Shares" "shareFrom" "I", .fieldLink RX7 69 "StructureSearch$Shares" "shareTo" "I", .methodLink RX7 21 yX5_init, .methodLink RX7 31 yX0_isIn, .methodLink RX7 37 yX1_init, .methodLink RX7 58 yX3_init, .instanceMethod objectInit, .code objectInit ⟨#[0xb1]⟩ 1 none, .instantiable RX5 2, .initialized RX5, .instantiable RX1 2, .initialized RX1, .instantiable RX3 3, .initialized RX3, .instanceMethod yX5_init, .arrayClass .int, .static yX0_isIn, .initialized RX0, .instanceMethod yX1_init, .arrayClass .long, .instanceMethod yX3_init]
def w2_X7_init : List Cond := .code yX7_init cX7_init 4 none :: (w2t_X7_init ++ (wsX10 ++ (wsX30 ++ (wsX50 ++ (wsX70 ++ (w2_X0_isIn ++ (w2_X1_init ++ (w2_X3_init ++ (w2_X5_init)))))))))
set_option maxRecDepth 20000 in
theorem w2g_X7_init : ∀ w ∈ w2_X7_init, ((w.onTables && w.keeps) = true ∨ ∃ ty, w = .arrayClass ty) := by
  intro w h
  rcases List.mem_cons.mp h with rfl | h
  · exact good_of_word (by decide +kernel)
  rcases List.mem_append.mp h with h | h
  · exact good_of_word (List.all_eq_true.mp (show List.all w2t_X7_init goodWord = true by decide +kernel) w h)
  rcases List.mem_append.mp h with h | h
  · exact good_of_word (List.all_eq_true.mp (show List.all wsX10 goodWord = true by decide +kernel) w h)
  rcases List.mem_append.mp h with h | h
  · exact good_of_word (List.all_eq_true.mp (show List.all wsX30 goodWord = true by decide +kernel) w h)
  rcases List.mem_append.mp h with h | h
  · exact good_of_word (List.all_eq_true.mp (show List.all wsX50 goodWord = true by decide +kernel) w h)
  rcases List.mem_append.mp h with h | h
  · exact good_of_word (List.all_eq_true.mp (show List.all wsX70 goodWord = true by decide +kernel) w h)
  rcases List.mem_append.mp h with h | h
  · exact w2g_X0_isIn w h
  rcases List.mem_append.mp h with h | h
  · exact w2g_X1_init w h
  rcases List.mem_append.mp h with h | h
  · exact w2g_X3_init w h
  exact w2g_X5_init w h
theorem w2i_X7_init_X10 : ∀ w ∈ wsX10, w ∈ w2_X7_init := fun w h => List.mem_cons_of_mem _ (List.mem_append_right _ (List.mem_append_left _ (h)))
theorem w2i_X7_init_X30 : ∀ w ∈ wsX30, w ∈ w2_X7_init := fun w h => List.mem_cons_of_mem _ (List.mem_append_right _ (List.mem_append_right _ (List.mem_append_left _ (h))))
theorem w2i_X7_init_X50 : ∀ w ∈ wsX50, w ∈ w2_X7_init := fun w h => List.mem_cons_of_mem _ (List.mem_append_right _ (List.mem_append_right _ (List.mem_append_right _ (List.mem_append_left _ (h)))))
theorem w2i_X7_init_X70 : ∀ w ∈ wsX70, w ∈ w2_X7_init := fun w h => List.mem_cons_of_mem _ (List.mem_append_right _ (List.mem_append_right _ (List.mem_append_right _ (List.mem_append_right _ (List.mem_append_left _ (h))))))
theorem w2i_X7_init_X0_isIn : ∀ w ∈ w2_X0_isIn, w ∈ w2_X7_init := fun w h => List.mem_cons_of_mem _ (List.mem_append_right _ (List.mem_append_right _ (List.mem_append_right _ (List.mem_append_right _ (List.mem_append_right _ (List.mem_append_left _ (h)))))))
theorem w2i_X7_init_X1_init : ∀ w ∈ w2_X1_init, w ∈ w2_X7_init := fun w h => List.mem_cons_of_mem _ (List.mem_append_right _ (List.mem_append_right _ (List.mem_append_right _ (List.mem_append_right _ (List.mem_append_right _ (List.mem_append_right _ (List.mem_append_left _ (h))))))))
theorem w2i_X7_init_X3_init : ∀ w ∈ w2_X3_init, w ∈ w2_X7_init := fun w h => List.mem_cons_of_mem _ (List.mem_append_right _ (List.mem_append_right _ (List.mem_append_right _ (List.mem_append_right _ (List.mem_append_right _ (List.mem_append_right _ (List.mem_append_right _ (List.mem_append_left _ (h)))))))))
theorem w2i_X7_init_X5_init : ∀ w ∈ w2_X5_init, w ∈ w2_X7_init := fun w h => List.mem_cons_of_mem _ (List.mem_append_right _ (List.mem_append_right _ (List.mem_append_right _ (List.mem_append_right _ (List.mem_append_right _ (List.mem_append_right _ (List.mem_append_right _ (List.mem_append_right _ (h)))))))))
theorem gd_X7_init_X5_init : GoodIn w2_X7_init (w2_X5_init) := fun w h => ⟨w2i_X7_init_X5_init w h, w2g_X5_init w h⟩
theorem gd_X7_init_X0_isIn : GoodIn w2_X7_init (va_wsS RX7 31 yX0_isIn w2_X0_isIn) := goodIn_app (goodIn_of _ (by decide +kernel)) (fun w h => ⟨w2i_X7_init_X0_isIn w h, w2g_X0_isIn w h⟩)
theorem gd_X7_init_X1_init : GoodIn w2_X7_init (w2_X1_init) := fun w h => ⟨w2i_X7_init_X1_init w h, w2g_X1_init w h⟩
theorem gd_X7_init_X3_init : GoodIn w2_X7_init (w2_X3_init) := fun w h => ⟨w2i_X7_init_X3_init w h, w2g_X3_init w h⟩
def w2t_X7_forget : List Cond := [.fieldLink RX7 61 "StructureSearch$Shares" "share" "LStructureSearch$Fraction;", .fieldLink RX7 72 "StructureSearch$Fraction" "ready" "Z"]
def w2_X7_forget : List Cond := .code yX7_forget cX7_forget 1 none :: (w2t_X7_forget ++ (wsX30 ++ (wsX70)))
set_option maxRecDepth 20000 in
theorem w2g_X7_forget : ∀ w ∈ w2_X7_forget, ((w.onTables && w.keeps) = true ∨ ∃ ty, w = .arrayClass ty) := by
  intro w h
  rcases List.mem_cons.mp h with rfl | h
  · exact good_of_word (by decide +kernel)
  rcases List.mem_append.mp h with h | h
  · exact good_of_word (List.all_eq_true.mp (show List.all w2t_X7_forget goodWord = true by decide +kernel) w h)
  rcases List.mem_append.mp h with h | h
  · exact good_of_word (List.all_eq_true.mp (show List.all wsX30 goodWord = true by decide +kernel) w h)
  exact good_of_word (List.all_eq_true.mp (show List.all wsX70 goodWord = true by decide +kernel) w h)
theorem w2i_X7_forget_X30 : ∀ w ∈ wsX30, w ∈ w2_X7_forget := fun w h => List.mem_cons_of_mem _ (List.mem_append_right _ (List.mem_append_left _ (h)))
theorem w2i_X7_forget_X70 : ∀ w ∈ wsX70, w ∈ w2_X7_forget := fun w h => List.mem_cons_of_mem _ (List.mem_append_right _ (List.mem_append_right _ (h)))
def w2t_X7_weight : List Cond := [.fieldLink RX7 27 "StructureSearch$Shares" "weights" "[LStructureSearch$Big;", .fieldLink RX7 43 "StructureSearch$Shares" "none" "LStructureSearch$Big;"]
def w2_X7_weight : List Cond := .code yX7_weight cX7_weight 4 (some (.object "StructureSearch$Big")) :: (w2t_X7_weight ++ (wsX70))
set_option maxRecDepth 20000 in
theorem w2g_X7_weight : ∀ w ∈ w2_X7_weight, ((w.onTables && w.keeps) = true ∨ ∃ ty, w = .arrayClass ty) := by
  intro w h
  rcases List.mem_cons.mp h with rfl | h
  · exact good_of_word (by decide +kernel)
  rcases List.mem_append.mp h with h | h
  · exact good_of_word (List.all_eq_true.mp (show List.all w2t_X7_weight goodWord = true by decide +kernel) w h)
  exact good_of_word (List.all_eq_true.mp (show List.all wsX70 goodWord = true by decide +kernel) w h)
theorem w2i_X7_weight_X70 : ∀ w ∈ wsX70, w ∈ w2_X7_weight := fun w h => List.mem_cons_of_mem _ (List.mem_append_right _ (h))
def w2t_X7_keepArc : List Cond := [.fieldLink RX7 11 "StructureSearch$Shares" "sheet" "LStructureSearch$Sheet;", .fieldLink RX7 76 "StructureSearch$Sheet" "names" "I", .methodLink RX7 31 yX0_isIn, .methodLink RX7 124 yX7_weight, .methodLink RX7 153 yX1_minus, .methodLink RX7 128 yX1_become, .static yX0_isIn, .initialized RX0, .instanceMethod yX7_weight, .selects RX7 yX7_weight yX7_weight, .initialized RX7, .instanceMethod yX1_minus, .selects RX1 yX1_minus yX1_minus, .initialized RX1, .instanceMethod yX1_become, .selects RX1 yX1_become yX1_become]
def w2_X7_keepArc : List Cond := .code yX7_keepArc cX7_keepArc 5 none :: (w2t_X7_keepArc ++ (wsX70 ++ (wsX80 ++ (w2_X0_isIn ++ (w2_X1_become ++ (w2_X1_minus ++ (w2_X7_weight)))))))
set_option maxRecDepth 20000 in
theorem w2g_X7_keepArc : ∀ w ∈ w2_X7_keepArc, ((w.onTables && w.keeps) = true ∨ ∃ ty, w = .arrayClass ty) := by
  intro w h
  rcases List.mem_cons.mp h with rfl | h
  · exact good_of_word (by decide +kernel)
  rcases List.mem_append.mp h with h | h
  · exact good_of_word (List.all_eq_true.mp (show List.all w2t_X7_keepArc goodWord = true by decide +kernel) w h)
  rcases List.mem_append.mp h with h | h
  · exact good_of_word (List.all_eq_true.mp (show List.all wsX70 goodWord = true by decide +kernel) w h)
  rcases List.mem_append.mp h with h | h
  · exact good_of_word (List.all_eq_true.mp (show List.all wsX80 goodWord = true by decide +kernel) w h)
  rcases List.mem_append.mp h with h | h
  · exact w2g_X0_isIn w h
  rcases List.mem_append.mp h with h | h
  · exact w2g_X1_become w h
  rcases List.mem_append.mp h with h | h
  · exact w2g_X1_minus w h
  exact w2g_X7_weight w h
theorem w2i_X7_keepArc_X70 : ∀ w ∈ wsX70, w ∈ w2_X7_keepArc := fun w h => List.mem_cons_of_mem _ (List.mem_append_right _ (List.mem_append_left _ (h)))
theorem w2i_X7_keepArc_X80 : ∀ w ∈ wsX80, w ∈ w2_X7_keepArc := fun w h => List.mem_cons_of_mem _ (List.mem_append_right _ (List.mem_append_right _ (List.mem_append_left _ (h))))
theorem w2i_X7_keepArc_X0_isIn : ∀ w ∈ w2_X0_isIn, w ∈ w2_X7_keepArc := fun w h => List.mem_cons_of_mem _ (List.mem_append_right _ (List.mem_append_right _ (List.mem_append_right _ (List.mem_append_left _ (h)))))
theorem w2i_X7_keepArc_X1_become : ∀ w ∈ w2_X1_become, w ∈ w2_X7_keepArc := fun w h => List.mem_cons_of_mem _ (List.mem_append_right _ (List.mem_append_right _ (List.mem_append_right _ (List.mem_append_right _ (List.mem_append_left _ (h))))))
theorem w2i_X7_keepArc_X1_minus : ∀ w ∈ w2_X1_minus, w ∈ w2_X7_keepArc := fun w h => List.mem_cons_of_mem _ (List.mem_append_right _ (List.mem_append_right _ (List.mem_append_right _ (List.mem_append_right _ (List.mem_append_right _ (List.mem_append_left _ (h)))))))
theorem w2i_X7_keepArc_X7_weight : ∀ w ∈ w2_X7_weight, w ∈ w2_X7_keepArc := fun w h => List.mem_cons_of_mem _ (List.mem_append_right _ (List.mem_append_right _ (List.mem_append_right _ (List.mem_append_right _ (List.mem_append_right _ (List.mem_append_right _ (h)))))))
theorem gd_X7_keepArc_X0_isIn : GoodIn w2_X7_keepArc (va_wsS RX7 31 yX0_isIn w2_X0_isIn) := goodIn_app (goodIn_of _ (by decide +kernel)) (fun w h => ⟨w2i_X7_keepArc_X0_isIn w h, w2g_X0_isIn w h⟩)
theorem gd_X7_keepArc_X7_weight : GoodIn w2_X7_keepArc (wsV RX7 124 RX7 yX7_weight w2_X7_weight) := goodIn_app (goodIn_of _ (by decide +kernel)) (fun w h => ⟨w2i_X7_keepArc_X7_weight w h, w2g_X7_weight w h⟩)
theorem gd_X7_keepArc_X1_minus : GoodIn w2_X7_keepArc (wsV RX7 153 RX1 yX1_minus w2_X1_minus) := goodIn_app (goodIn_of _ (by decide +kernel)) (fun w h => ⟨w2i_X7_keepArc_X1_minus w h, w2g_X1_minus w h⟩)
theorem gd_X7_keepArc_X1_become : GoodIn w2_X7_keepArc (wsV RX7 128 RX1 yX1_become w2_X1_become) := goodIn_app (goodIn_of _ (by decide +kernel)) (fun w h => ⟨w2i_X7_keepArc_X1_become w h, w2g_X1_become w h⟩)
def w2t_X7_divide : List Cond := [.fieldLink RX7 47 "StructureSearch$Shares" "term" "LStructureSearch$Big;", .fieldLink RX7 53 "StructureSearch$Shares" "divisor" "LStructureSearch$Big;", .methodLink RX7 128 yX1_become, .methodLink RX7 171 yX1_reduceBy, .methodLink RX7 94 yX1_copy, .instanceMethod yX1_become, .selects RX1 yX1_become yX1_become, .initialized RX1, .instanceMethod yX1_reduceBy, .selects RX1 yX1_reduceBy yX1_reduceBy, .instanceMethod yX1_copy, .selects RX1 yX1_copy yX1_copy]
def w2_X7_divide : List Cond := .code yX7_divide cX7_divide 2 none :: (w2t_X7_divide ++ (wsX70 ++ (w2_X1_become ++ (w2_X1_copy ++ (w2_X1_reduceBy)))))
set_option maxRecDepth 20000 in
theorem w2g_X7_divide : ∀ w ∈ w2_X7_divide, ((w.onTables && w.keeps) = true ∨ ∃ ty, w = .arrayClass ty) := by
  intro w h
  rcases List.mem_cons.mp h with rfl | h
  · exact good_of_word (by decide +kernel)
  rcases List.mem_append.mp h with h | h
  · exact good_of_word (List.all_eq_true.mp (show List.all w2t_X7_divide goodWord = true by decide +kernel) w h)
  rcases List.mem_append.mp h with h | h
  · exact good_of_word (List.all_eq_true.mp (show List.all wsX70 goodWord = true by decide +kernel) w h)
  rcases List.mem_append.mp h with h | h
  · exact w2g_X1_become w h
  rcases List.mem_append.mp h with h | h
  · exact w2g_X1_copy w h
  exact w2g_X1_reduceBy w h
theorem w2i_X7_divide_X70 : ∀ w ∈ wsX70, w ∈ w2_X7_divide := fun w h => List.mem_cons_of_mem _ (List.mem_append_right _ (List.mem_append_left _ (h)))
theorem w2i_X7_divide_X1_become : ∀ w ∈ w2_X1_become, w ∈ w2_X7_divide := fun w h => List.mem_cons_of_mem _ (List.mem_append_right _ (List.mem_append_right _ (List.mem_append_left _ (h))))
theorem w2i_X7_divide_X1_copy : ∀ w ∈ w2_X1_copy, w ∈ w2_X7_divide := fun w h => List.mem_cons_of_mem _ (List.mem_append_right _ (List.mem_append_right _ (List.mem_append_right _ (List.mem_append_left _ (h)))))
theorem w2i_X7_divide_X1_reduceBy : ∀ w ∈ w2_X1_reduceBy, w ∈ w2_X7_divide := fun w h => List.mem_cons_of_mem _ (List.mem_append_right _ (List.mem_append_right _ (List.mem_append_right _ (List.mem_append_right _ (h)))))
theorem gd_X7_divide_X1_become : GoodIn w2_X7_divide (wsV RX7 128 RX1 yX1_become w2_X1_become) := goodIn_app (goodIn_of _ (by decide +kernel)) (fun w h => ⟨w2i_X7_divide_X1_become w h, w2g_X1_become w h⟩)
theorem gd_X7_divide_X1_reduceBy : GoodIn w2_X7_divide (wsV RX7 171 RX1 yX1_reduceBy w2_X1_reduceBy) := goodIn_app (goodIn_of _ (by decide +kernel)) (fun w h => ⟨w2i_X7_divide_X1_reduceBy w h, w2g_X1_reduceBy w h⟩)
theorem gd_X7_divide_X1_copy : GoodIn w2_X7_divide (wsV RX7 94 RX1 yX1_copy w2_X1_copy) := goodIn_app (goodIn_of _ (by decide +kernel)) (fun w h => ⟨w2i_X7_divide_X1_copy w h, w2g_X1_copy w h⟩)
def w2t_X7_lower : List Cond := [.fieldLink RX7 47 "StructureSearch$Shares" "term" "LStructureSearch$Big;", .fieldLink RX7 61 "StructureSearch$Shares" "share" "LStructureSearch$Fraction;", .fieldLink RX7 87 "StructureSearch$Fraction" "below" "LStructureSearch$Big;", .fieldLink RX7 50 "StructureSearch$Shares" "rest" "LStructureSearch$Big;", .fieldLink RX7 102 "StructureSearch$Fraction" "above" "LStructureSearch$Big;", .fieldLink RX7 53 "StructureSearch$Shares" "divisor" "LStructureSearch$Big;", .methodLink RX7 94 yX1_copy, .methodLink RX7 165 yX1_commonDivisor, .methodLink RX7 169 yX7_divide, .instanceMethod yX1_copy, .selects RX1 yX1_copy yX1_copy, .initialized RX1, .static yX1_commonDivisor, .instanceMethod yX7_divide, .selects RX7 yX7_divide yX7_divide, .initialized RX7]
def w2_X7_lower : List Cond := .code yX7_lower cX7_lower 1 none :: (w2t_X7_lower ++ (wsX30 ++ (wsX70 ++ (w2_X1_commonDivisor ++ (w2_X1_copy ++ (w2_X7_divide))))))
set_option maxRecDepth 20000 in
theorem w2g_X7_lower : ∀ w ∈ w2_X7_lower, ((w.onTables && w.keeps) = true ∨ ∃ ty, w = .arrayClass ty) := by
  intro w h
  rcases List.mem_cons.mp h with rfl | h
  · exact good_of_word (by decide +kernel)
  rcases List.mem_append.mp h with h | h
  · exact good_of_word (List.all_eq_true.mp (show List.all w2t_X7_lower goodWord = true by decide +kernel) w h)
  rcases List.mem_append.mp h with h | h
  · exact good_of_word (List.all_eq_true.mp (show List.all wsX30 goodWord = true by decide +kernel) w h)
  rcases List.mem_append.mp h with h | h
  · exact good_of_word (List.all_eq_true.mp (show List.all wsX70 goodWord = true by decide +kernel) w h)
  rcases List.mem_append.mp h with h | h
  · exact w2g_X1_commonDivisor w h
  rcases List.mem_append.mp h with h | h
  · exact w2g_X1_copy w h
  exact w2g_X7_divide w h
theorem w2i_X7_lower_X30 : ∀ w ∈ wsX30, w ∈ w2_X7_lower := fun w h => List.mem_cons_of_mem _ (List.mem_append_right _ (List.mem_append_left _ (h)))
theorem w2i_X7_lower_X70 : ∀ w ∈ wsX70, w ∈ w2_X7_lower := fun w h => List.mem_cons_of_mem _ (List.mem_append_right _ (List.mem_append_right _ (List.mem_append_left _ (h))))
theorem w2i_X7_lower_X1_commonDivisor : ∀ w ∈ w2_X1_commonDivisor, w ∈ w2_X7_lower := fun w h => List.mem_cons_of_mem _ (List.mem_append_right _ (List.mem_append_right _ (List.mem_append_right _ (List.mem_append_left _ (h)))))
theorem w2i_X7_lower_X1_copy : ∀ w ∈ w2_X1_copy, w ∈ w2_X7_lower := fun w h => List.mem_cons_of_mem _ (List.mem_append_right _ (List.mem_append_right _ (List.mem_append_right _ (List.mem_append_right _ (List.mem_append_left _ (h))))))
theorem w2i_X7_lower_X7_divide : ∀ w ∈ w2_X7_divide, w ∈ w2_X7_lower := fun w h => List.mem_cons_of_mem _ (List.mem_append_right _ (List.mem_append_right _ (List.mem_append_right _ (List.mem_append_right _ (List.mem_append_right _ (h))))))
theorem gd_X7_lower_X1_copy : GoodIn w2_X7_lower (wsV RX7 94 RX1 yX1_copy w2_X1_copy) := goodIn_app (goodIn_of _ (by decide +kernel)) (fun w h => ⟨w2i_X7_lower_X1_copy w h, w2g_X1_copy w h⟩)
theorem gd_X7_lower_X1_commonDivisor : GoodIn w2_X7_lower (va_wsS RX7 165 yX1_commonDivisor w2_X1_commonDivisor) := goodIn_app (goodIn_of _ (by decide +kernel)) (fun w h => ⟨w2i_X7_lower_X1_commonDivisor w h, w2g_X1_commonDivisor w h⟩)
theorem gd_X7_lower_X7_divide : GoodIn w2_X7_lower (wsV RX7 169 RX7 yX7_divide w2_X7_divide) := goodIn_app (goodIn_of _ (by decide +kernel)) (fun w h => ⟨w2i_X7_lower_X7_divide w h, w2g_X7_divide w h⟩)
def w2t_X7_sum : List Cond := [.fieldLink RX7 40 "StructureSearch$Shares" "sums" "[LStructureSearch$Big;", .fieldLink RX7 43 "StructureSearch$Shares" "none" "LStructureSearch$Big;"]
def w2_X7_sum : List Cond := .code yX7_sum cX7_sum 2 (some (.object "StructureSearch$Big")) :: (w2t_X7_sum ++ (wsX70))
set_option maxRecDepth 20000 in
theorem w2g_X7_sum : ∀ w ∈ w2_X7_sum, ((w.onTables && w.keeps) = true ∨ ∃ ty, w = .arrayClass ty) := by
  intro w h
  rcases List.mem_cons.mp h with rfl | h
  · exact good_of_word (by decide +kernel)
  rcases List.mem_append.mp h with h | h
  · exact good_of_word (List.all_eq_true.mp (show List.all w2t_X7_sum goodWord = true by decide +kernel) w h)
  exact good_of_word (List.all_eq_true.mp (show List.all wsX70 goodWord = true by decide +kernel) w h)
theorem w2i_X7_sum_X70 : ∀ w ∈ wsX70, w ∈ w2_X7_sum := fun w h => List.mem_cons_of_mem _ (List.mem_append_right _ (h))
def w2t_X7_multiplyOut : List Cond := [.fieldLink RX7 47 "StructureSearch$Shares" "term" "LStructureSearch$Big;", .fieldLink RX7 11 "StructureSearch$Shares" "sheet" "LStructureSearch$Sheet;", .fieldLink RX7 76 "StructureSearch$Sheet" "names" "I", .methodLink RX7 90 yX7_sum, .methodLink RX7 94 yX1_copy, .methodLink RX7 31 yX0_isIn, .methodLink RX7 124 yX7_weight, .methodLink RX7 162 yX1_times, .instanceMethod yX7_sum, .selects RX7 yX7_sum yX7_sum, .initialized RX7, .instanceMethod yX1_copy, .selects RX1 yX1_copy yX1_copy, .initialized RX1, .static yX0_isIn, .initialized RX0, .instanceMethod yX7_weight, .selects RX7 yX7_weight yX7_weight, .instanceMethod yX1_times, .selects RX1 yX1_times yX1_times]
def w2_X7_multiplyOut : List Cond := .code yX7_multiplyOut cX7_multiplyOut 4 none :: (w2t_X7_multiplyOut ++ (wsX70 ++ (wsX80 ++ (w2_X0_isIn ++ (w2_X1_copy ++ (w2_X1_times ++ (w2_X7_sum ++ (w2_X7_weight))))))))
set_option maxRecDepth 20000 in
theorem w2g_X7_multiplyOut : ∀ w ∈ w2_X7_multiplyOut, ((w.onTables && w.keeps) = true ∨ ∃ ty, w = .arrayClass ty) := by
  intro w h
  rcases List.mem_cons.mp h with rfl | h
  · exact good_of_word (by decide +kernel)
  rcases List.mem_append.mp h with h | h
  · exact good_of_word (List.all_eq_true.mp (show List.all w2t_X7_multiplyOut goodWord = true by decide +kernel) w h)
  rcases List.mem_append.mp h with h | h
  · exact good_of_word (List.all_eq_true.mp (show List.all wsX70 goodWord = true by decide +kernel) w h)
  rcases List.mem_append.mp h with h | h
  · exact good_of_word (List.all_eq_true.mp (show List.all wsX80 goodWord = true by decide +kernel) w h)
  rcases List.mem_append.mp h with h | h
  · exact w2g_X0_isIn w h
  rcases List.mem_append.mp h with h | h
  · exact w2g_X1_copy w h
  rcases List.mem_append.mp h with h | h
  · exact w2g_X1_times w h
  rcases List.mem_append.mp h with h | h
  · exact w2g_X7_sum w h
  exact w2g_X7_weight w h
theorem w2i_X7_multiplyOut_X70 : ∀ w ∈ wsX70, w ∈ w2_X7_multiplyOut := fun w h => List.mem_cons_of_mem _ (List.mem_append_right _ (List.mem_append_left _ (h)))
theorem w2i_X7_multiplyOut_X80 : ∀ w ∈ wsX80, w ∈ w2_X7_multiplyOut := fun w h => List.mem_cons_of_mem _ (List.mem_append_right _ (List.mem_append_right _ (List.mem_append_left _ (h))))
theorem w2i_X7_multiplyOut_X0_isIn : ∀ w ∈ w2_X0_isIn, w ∈ w2_X7_multiplyOut := fun w h => List.mem_cons_of_mem _ (List.mem_append_right _ (List.mem_append_right _ (List.mem_append_right _ (List.mem_append_left _ (h)))))
theorem w2i_X7_multiplyOut_X1_copy : ∀ w ∈ w2_X1_copy, w ∈ w2_X7_multiplyOut := fun w h => List.mem_cons_of_mem _ (List.mem_append_right _ (List.mem_append_right _ (List.mem_append_right _ (List.mem_append_right _ (List.mem_append_left _ (h))))))
theorem w2i_X7_multiplyOut_X1_times : ∀ w ∈ w2_X1_times, w ∈ w2_X7_multiplyOut := fun w h => List.mem_cons_of_mem _ (List.mem_append_right _ (List.mem_append_right _ (List.mem_append_right _ (List.mem_append_right _ (List.mem_append_right _ (List.mem_append_left _ (h)))))))
theorem w2i_X7_multiplyOut_X7_sum : ∀ w ∈ w2_X7_sum, w ∈ w2_X7_multiplyOut := fun w h => List.mem_cons_of_mem _ (List.mem_append_right _ (List.mem_append_right _ (List.mem_append_right _ (List.mem_append_right _ (List.mem_append_right _ (List.mem_append_right _ (List.mem_append_left _ (h))))))))
theorem w2i_X7_multiplyOut_X7_weight : ∀ w ∈ w2_X7_weight, w ∈ w2_X7_multiplyOut := fun w h => List.mem_cons_of_mem _ (List.mem_append_right _ (List.mem_append_right _ (List.mem_append_right _ (List.mem_append_right _ (List.mem_append_right _ (List.mem_append_right _ (List.mem_append_right _ (h))))))))
theorem gd_X7_multiplyOut_X7_sum : GoodIn w2_X7_multiplyOut (wsV RX7 90 RX7 yX7_sum w2_X7_sum) := goodIn_app (goodIn_of _ (by decide +kernel)) (fun w h => ⟨w2i_X7_multiplyOut_X7_sum w h, w2g_X7_sum w h⟩)
theorem gd_X7_multiplyOut_X1_copy : GoodIn w2_X7_multiplyOut (wsV RX7 94 RX1 yX1_copy w2_X1_copy) := goodIn_app (goodIn_of _ (by decide +kernel)) (fun w h => ⟨w2i_X7_multiplyOut_X1_copy w h, w2g_X1_copy w h⟩)
theorem gd_X7_multiplyOut_X0_isIn : GoodIn w2_X7_multiplyOut (va_wsS RX7 31 yX0_isIn w2_X0_isIn) := goodIn_app (goodIn_of _ (by decide +kernel)) (fun w h => ⟨w2i_X7_multiplyOut_X0_isIn w h, w2g_X0_isIn w h⟩)
theorem gd_X7_multiplyOut_X7_weight : GoodIn w2_X7_multiplyOut (wsV RX7 124 RX7 yX7_weight w2_X7_weight) := goodIn_app (goodIn_of _ (by decide +kernel)) (fun w h => ⟨w2i_X7_multiplyOut_X7_weight w h, w2g_X7_weight w h⟩)
theorem gd_X7_multiplyOut_X1_times : GoodIn w2_X7_multiplyOut (wsV RX7 162 RX1 yX1_times w2_X1_times) := goodIn_app (goodIn_of _ (by decide +kernel)) (fun w h => ⟨w2i_X7_multiplyOut_X1_times w h, w2g_X1_times w h⟩)
def w2t_X7_sumGraphsOf : List Cond := [.fieldLink RX7 47 "StructureSearch$Shares" "term" "LStructureSearch$Big;", .methodLink RX7 90 yX7_sum, .methodLink RX7 128 yX1_become, .methodLink RX7 144 yJ6_bitCount_0f7a4, .methodLink RX7 159 yX7_multiplyOut, .methodLink RX7 141 yX1_plus, .methodLink RX7 153 yX1_minus, .instanceMethod yX7_sum, .selects RX7 yX7_sum yX7_sum, .initialized RX7, .instanceMethod yX1_become, .selects RX1 yX1_become yX1_become, .initialized RX1, .static yJ6_bitCount_0f7a4, .initialized RJ6, .instanceMethod yX7_multiplyOut, .selects RX7 yX7_multiplyOut yX7_multiplyOut, .instanceMethod yX1_plus, .selects RX1 yX1_plus yX1_plus, .instanceMethod yX1_minus, .selects RX1 yX1_minus yX1_minus]
def w2_X7_sumGraphsOf : List Cond := .code yX7_sumGraphsOf cX7_sumGraphsOf 5 none :: (w2t_X7_sumGraphsOf ++ (wsX70 ++ (w2_J6_bitCount_0f7a4 ++ (w2_X1_become ++ (w2_X1_minus ++ (w2_X1_plus ++ (w2_X7_multiplyOut ++ (w2_X7_sum))))))))
set_option maxRecDepth 20000 in
theorem w2g_X7_sumGraphsOf : ∀ w ∈ w2_X7_sumGraphsOf, ((w.onTables && w.keeps) = true ∨ ∃ ty, w = .arrayClass ty) := by
  intro w h
  rcases List.mem_cons.mp h with rfl | h
  · exact good_of_word (by decide +kernel)
  rcases List.mem_append.mp h with h | h
  · exact good_of_word (List.all_eq_true.mp (show List.all w2t_X7_sumGraphsOf goodWord = true by decide +kernel) w h)
  rcases List.mem_append.mp h with h | h
  · exact good_of_word (List.all_eq_true.mp (show List.all wsX70 goodWord = true by decide +kernel) w h)
  rcases List.mem_append.mp h with h | h
  · exact w2g_J6_bitCount_0f7a4 w h
  rcases List.mem_append.mp h with h | h
  · exact w2g_X1_become w h
  rcases List.mem_append.mp h with h | h
  · exact w2g_X1_minus w h
  rcases List.mem_append.mp h with h | h
  · exact w2g_X1_plus w h
  rcases List.mem_append.mp h with h | h
  · exact w2g_X7_multiplyOut w h
  exact w2g_X7_sum w h
theorem w2i_X7_sumGraphsOf_X70 : ∀ w ∈ wsX70, w ∈ w2_X7_sumGraphsOf := fun w h => List.mem_cons_of_mem _ (List.mem_append_right _ (List.mem_append_left _ (h)))
theorem w2i_X7_sumGraphsOf_J6_bitCount_0f7a4 : ∀ w ∈ w2_J6_bitCount_0f7a4, w ∈ w2_X7_sumGraphsOf := fun w h => List.mem_cons_of_mem _ (List.mem_append_right _ (List.mem_append_right _ (List.mem_append_left _ (h))))
theorem w2i_X7_sumGraphsOf_X1_become : ∀ w ∈ w2_X1_become, w ∈ w2_X7_sumGraphsOf := fun w h => List.mem_cons_of_mem _ (List.mem_append_right _ (List.mem_append_right _ (List.mem_append_right _ (List.mem_append_left _ (h)))))
theorem w2i_X7_sumGraphsOf_X1_minus : ∀ w ∈ w2_X1_minus, w ∈ w2_X7_sumGraphsOf := fun w h => List.mem_cons_of_mem _ (List.mem_append_right _ (List.mem_append_right _ (List.mem_append_right _ (List.mem_append_right _ (List.mem_append_left _ (h))))))
theorem w2i_X7_sumGraphsOf_X1_plus : ∀ w ∈ w2_X1_plus, w ∈ w2_X7_sumGraphsOf := fun w h => List.mem_cons_of_mem _ (List.mem_append_right _ (List.mem_append_right _ (List.mem_append_right _ (List.mem_append_right _ (List.mem_append_right _ (List.mem_append_left _ (h)))))))
theorem w2i_X7_sumGraphsOf_X7_multiplyOut : ∀ w ∈ w2_X7_multiplyOut, w ∈ w2_X7_sumGraphsOf := fun w h => List.mem_cons_of_mem _ (List.mem_append_right _ (List.mem_append_right _ (List.mem_append_right _ (List.mem_append_right _ (List.mem_append_right _ (List.mem_append_right _ (List.mem_append_left _ (h))))))))
theorem w2i_X7_sumGraphsOf_X7_sum : ∀ w ∈ w2_X7_sum, w ∈ w2_X7_sumGraphsOf := fun w h => List.mem_cons_of_mem _ (List.mem_append_right _ (List.mem_append_right _ (List.mem_append_right _ (List.mem_append_right _ (List.mem_append_right _ (List.mem_append_right _ (List.mem_append_right _ (h))))))))
theorem gd_X7_sumGraphsOf_X7_sum : GoodIn w2_X7_sumGraphsOf (wsV RX7 90 RX7 yX7_sum w2_X7_sum) := goodIn_app (goodIn_of _ (by decide +kernel)) (fun w h => ⟨w2i_X7_sumGraphsOf_X7_sum w h, w2g_X7_sum w h⟩)
theorem gd_X7_sumGraphsOf_X1_become : GoodIn w2_X7_sumGraphsOf (wsV RX7 128 RX1 yX1_become w2_X1_become) := goodIn_app (goodIn_of _ (by decide +kernel)) (fun w h => ⟨w2i_X7_sumGraphsOf_X1_become w h, w2g_X1_become w h⟩)
theorem gd_X7_sumGraphsOf_J6_bitCount_0f7a4 : GoodIn w2_X7_sumGraphsOf (va_wsS RX7 144 yJ6_bitCount_0f7a4 w2_J6_bitCount_0f7a4) := goodIn_app (goodIn_of _ (by decide +kernel)) (fun w h => ⟨w2i_X7_sumGraphsOf_J6_bitCount_0f7a4 w h, w2g_J6_bitCount_0f7a4 w h⟩)
theorem gd_X7_sumGraphsOf_X7_multiplyOut : GoodIn w2_X7_sumGraphsOf (wsV RX7 159 RX7 yX7_multiplyOut w2_X7_multiplyOut) := goodIn_app (goodIn_of _ (by decide +kernel)) (fun w h => ⟨w2i_X7_sumGraphsOf_X7_multiplyOut w h, w2g_X7_multiplyOut w h⟩)
theorem gd_X7_sumGraphsOf_X1_plus : GoodIn w2_X7_sumGraphsOf (wsV RX7 141 RX1 yX1_plus w2_X1_plus) := goodIn_app (goodIn_of _ (by decide +kernel)) (fun w h => ⟨w2i_X7_sumGraphsOf_X1_plus w h, w2g_X1_plus w h⟩)
theorem gd_X7_sumGraphsOf_X1_minus : GoodIn w2_X7_sumGraphsOf (wsV RX7 153 RX1 yX1_minus w2_X1_minus) := goodIn_app (goodIn_of _ (by decide +kernel)) (fun w h => ⟨w2i_X7_sumGraphsOf_X1_minus w h, w2g_X1_minus w h⟩)
def w2t_X7_sumGraphs : List Cond := [.fieldLink RX7 11 "StructureSearch$Shares" "sheet" "LStructureSearch$Sheet;", .fieldLink RX7 76 "StructureSearch$Sheet" "names" "I", .methodLink RX7 156 yX7_sumGraphsOf, .instanceMethod yX7_sumGraphsOf, .selects RX7 yX7_sumGraphsOf yX7_sumGraphsOf, .initialized RX7]
def w2_X7_sumGraphs : List Cond := .code yX7_sumGraphs cX7_sumGraphs 3 none :: (w2t_X7_sumGraphs ++ (wsX70 ++ (wsX80 ++ (w2_X7_sumGraphsOf))))
set_option maxRecDepth 20000 in
theorem w2g_X7_sumGraphs : ∀ w ∈ w2_X7_sumGraphs, ((w.onTables && w.keeps) = true ∨ ∃ ty, w = .arrayClass ty) := by
  intro w h
  rcases List.mem_cons.mp h with rfl | h
  · exact good_of_word (by decide +kernel)
  rcases List.mem_append.mp h with h | h
  · exact good_of_word (List.all_eq_true.mp (show List.all w2t_X7_sumGraphs goodWord = true by decide +kernel) w h)
  rcases List.mem_append.mp h with h | h
  · exact good_of_word (List.all_eq_true.mp (show List.all wsX70 goodWord = true by decide +kernel) w h)
  rcases List.mem_append.mp h with h | h
  · exact good_of_word (List.all_eq_true.mp (show List.all wsX80 goodWord = true by decide +kernel) w h)
  exact w2g_X7_sumGraphsOf w h
theorem w2i_X7_sumGraphs_X70 : ∀ w ∈ wsX70, w ∈ w2_X7_sumGraphs := fun w h => List.mem_cons_of_mem _ (List.mem_append_right _ (List.mem_append_left _ (h)))
theorem w2i_X7_sumGraphs_X80 : ∀ w ∈ wsX80, w ∈ w2_X7_sumGraphs := fun w h => List.mem_cons_of_mem _ (List.mem_append_right _ (List.mem_append_right _ (List.mem_append_left _ (h))))
theorem w2i_X7_sumGraphs_X7_sumGraphsOf : ∀ w ∈ w2_X7_sumGraphsOf, w ∈ w2_X7_sumGraphs := fun w h => List.mem_cons_of_mem _ (List.mem_append_right _ (List.mem_append_right _ (List.mem_append_right _ (h))))
theorem gd_X7_sumGraphs_X7_sumGraphsOf : GoodIn w2_X7_sumGraphs (wsV RX7 156 RX7 yX7_sumGraphsOf w2_X7_sumGraphsOf) := goodIn_app (goodIn_of _ (by decide +kernel)) (fun w h => ⟨w2i_X7_sumGraphs_X7_sumGraphsOf w h, w2g_X7_sumGraphsOf w h⟩)
def w2t_X7_addSmaller : List Cond := [.fieldLink RX7 11 "StructureSearch$Shares" "sheet" "LStructureSearch$Sheet;", .fieldLink RX7 76 "StructureSearch$Sheet" "names" "I", .methodLink RX7 31 yX0_isIn, .methodLink RX7 124 yX7_weight, .methodLink RX7 141 yX1_plus, .static yX0_isIn, .initialized RX0, .instanceMethod yX7_weight, .selects RX7 yX7_weight yX7_weight, .initialized RX7, .instanceMethod yX1_plus, .selects RX1 yX1_plus yX1_plus, .initialized RX1]
def w2_X7_addSmaller : List Cond := .code yX7_addSmaller cX7_addSmaller 5 none :: (w2t_X7_addSmaller ++ (wsX70 ++ (wsX80 ++ (w2_X0_isIn ++ (w2_X1_plus ++ (w2_X7_weight))))))
set_option maxRecDepth 20000 in
theorem w2g_X7_addSmaller : ∀ w ∈ w2_X7_addSmaller, ((w.onTables && w.keeps) = true ∨ ∃ ty, w = .arrayClass ty) := by
  intro w h
  rcases List.mem_cons.mp h with rfl | h
  · exact good_of_word (by decide +kernel)
  rcases List.mem_append.mp h with h | h
  · exact good_of_word (List.all_eq_true.mp (show List.all w2t_X7_addSmaller goodWord = true by decide +kernel) w h)
  rcases List.mem_append.mp h with h | h
  · exact good_of_word (List.all_eq_true.mp (show List.all wsX70 goodWord = true by decide +kernel) w h)
  rcases List.mem_append.mp h with h | h
  · exact good_of_word (List.all_eq_true.mp (show List.all wsX80 goodWord = true by decide +kernel) w h)
  rcases List.mem_append.mp h with h | h
  · exact w2g_X0_isIn w h
  rcases List.mem_append.mp h with h | h
  · exact w2g_X1_plus w h
  exact w2g_X7_weight w h
theorem w2i_X7_addSmaller_X70 : ∀ w ∈ wsX70, w ∈ w2_X7_addSmaller := fun w h => List.mem_cons_of_mem _ (List.mem_append_right _ (List.mem_append_left _ (h)))
theorem w2i_X7_addSmaller_X80 : ∀ w ∈ wsX80, w ∈ w2_X7_addSmaller := fun w h => List.mem_cons_of_mem _ (List.mem_append_right _ (List.mem_append_right _ (List.mem_append_left _ (h))))
theorem w2i_X7_addSmaller_X0_isIn : ∀ w ∈ w2_X0_isIn, w ∈ w2_X7_addSmaller := fun w h => List.mem_cons_of_mem _ (List.mem_append_right _ (List.mem_append_right _ (List.mem_append_right _ (List.mem_append_left _ (h)))))
theorem w2i_X7_addSmaller_X1_plus : ∀ w ∈ w2_X1_plus, w ∈ w2_X7_addSmaller := fun w h => List.mem_cons_of_mem _ (List.mem_append_right _ (List.mem_append_right _ (List.mem_append_right _ (List.mem_append_right _ (List.mem_append_left _ (h))))))
theorem w2i_X7_addSmaller_X7_weight : ∀ w ∈ w2_X7_weight, w ∈ w2_X7_addSmaller := fun w h => List.mem_cons_of_mem _ (List.mem_append_right _ (List.mem_append_right _ (List.mem_append_right _ (List.mem_append_right _ (List.mem_append_right _ (h))))))
theorem gd_X7_addSmaller_X0_isIn : GoodIn w2_X7_addSmaller (va_wsS RX7 31 yX0_isIn w2_X0_isIn) := goodIn_app (goodIn_of _ (by decide +kernel)) (fun w h => ⟨w2i_X7_addSmaller_X0_isIn w h, w2g_X0_isIn w h⟩)
theorem gd_X7_addSmaller_X7_weight : GoodIn w2_X7_addSmaller (wsV RX7 124 RX7 yX7_weight w2_X7_weight) := goodIn_app (goodIn_of _ (by decide +kernel)) (fun w h => ⟨w2i_X7_addSmaller_X7_weight w h, w2g_X7_weight w h⟩)
theorem gd_X7_addSmaller_X1_plus : GoodIn w2_X7_addSmaller (wsV RX7 141 RX1 yX1_plus w2_X1_plus) := goodIn_app (goodIn_of _ (by decide +kernel)) (fun w h => ⟨w2i_X7_addSmaller_X1_plus w h, w2g_X1_plus w h⟩)
def w2t_X7_isOpen : List Cond := [.fieldLink RX7 11 "StructureSearch$Shares" "sheet" "LStructureSearch$Sheet;", .fieldLink RX7 150 "StructureSearch$Sheet" "most" "I", .methodLink RX7 31 yX0_isIn, .methodLink RX7 144 yJ6_bitCount_0f7a4, .static yX0_isIn, .initialized RX0, .static yJ6_bitCount_0f7a4, .initialized RJ6]
def w2_X7_isOpen : List Cond := .code yX7_isOpen cX7_isOpen 3 (some .boolean) :: (w2t_X7_isOpen ++ (wsX70 ++ (wsX80 ++ (w2_J6_bitCount_0f7a4 ++ (w2_X0_isIn)))))
set_option maxRecDepth 20000 in
theorem w2g_X7_isOpen : ∀ w ∈ w2_X7_isOpen, ((w.onTables && w.keeps) = true ∨ ∃ ty, w = .arrayClass ty) := by
  intro w h
  rcases List.mem_cons.mp h with rfl | h
  · exact good_of_word (by decide +kernel)
  rcases List.mem_append.mp h with h | h
  · exact good_of_word (List.all_eq_true.mp (show List.all w2t_X7_isOpen goodWord = true by decide +kernel) w h)
  rcases List.mem_append.mp h with h | h
  · exact good_of_word (List.all_eq_true.mp (show List.all wsX70 goodWord = true by decide +kernel) w h)
  rcases List.mem_append.mp h with h | h
  · exact good_of_word (List.all_eq_true.mp (show List.all wsX80 goodWord = true by decide +kernel) w h)
  rcases List.mem_append.mp h with h | h
  · exact w2g_J6_bitCount_0f7a4 w h
  exact w2g_X0_isIn w h
theorem w2i_X7_isOpen_X70 : ∀ w ∈ wsX70, w ∈ w2_X7_isOpen := fun w h => List.mem_cons_of_mem _ (List.mem_append_right _ (List.mem_append_left _ (h)))
theorem w2i_X7_isOpen_X80 : ∀ w ∈ wsX80, w ∈ w2_X7_isOpen := fun w h => List.mem_cons_of_mem _ (List.mem_append_right _ (List.mem_append_right _ (List.mem_append_left _ (h))))
theorem w2i_X7_isOpen_J6_bitCount_0f7a4 : ∀ w ∈ w2_J6_bitCount_0f7a4, w ∈ w2_X7_isOpen := fun w h => List.mem_cons_of_mem _ (List.mem_append_right _ (List.mem_append_right _ (List.mem_append_right _ (List.mem_append_left _ (h)))))
theorem w2i_X7_isOpen_X0_isIn : ∀ w ∈ w2_X0_isIn, w ∈ w2_X7_isOpen := fun w h => List.mem_cons_of_mem _ (List.mem_append_right _ (List.mem_append_right _ (List.mem_append_right _ (List.mem_append_right _ (h)))))
theorem gd_X7_isOpen_X0_isIn : GoodIn w2_X7_isOpen (va_wsS RX7 31 yX0_isIn w2_X0_isIn) := goodIn_app (goodIn_of _ (by decide +kernel)) (fun w h => ⟨w2i_X7_isOpen_X0_isIn w h, w2g_X0_isIn w h⟩)
theorem gd_X7_isOpen_J6_bitCount_0f7a4 : GoodIn w2_X7_isOpen (va_wsS RX7 144 yJ6_bitCount_0f7a4 w2_J6_bitCount_0f7a4) := goodIn_app (goodIn_of _ (by decide +kernel)) (fun w h => ⟨w2i_X7_isOpen_J6_bitCount_0f7a4 w h, w2g_J6_bitCount_0f7a4 w h⟩)
def w2t_X7_weigh : List Cond := [.fieldLink RX7 11 "StructureSearch$Shares" "sheet" "LStructureSearch$Sheet;", .fieldLink RX7 76 "StructureSearch$Sheet" "names" "I", .fieldLink RX7 15 "StructureSearch$Shares" "powers" "LStructureSearch$Powers;", .fieldLink RX7 22 "StructureSearch$Shares" "least" "LStructureSearch$Powers;", .methodLink RX7 108 yX7_isOpen, .methodLink RX7 111 yX5_forget, .methodLink RX7 114 yX8_pourFit, .methodLink RX7 118 yX5_copy, .methodLink RX7 121 yX5_lowerTo, .methodLink RX7 124 yX7_weight, .methodLink RX7 128 yX1_become, .methodLink RX7 131 yX5_divide, .methodLink RX7 134 yX5_write, .methodLink RX7 138 yX7_addSmaller, .instanceMethod yX7_isOpen, .selects RX7 yX7_isOpen yX7_isOpen, .initialized RX7, .instanceMethod yX5_forget, .selects RX5 yX5_forget yX5_forget, .initialized RX5, .instanceMethod yX8_pourFit, .selects RX8 yX8_pourFit yX8_pourFit, .initialized RX8, .instanceMethod yX5_copy, .selects RX5 yX5_copy yX5_copy, .instanceMethod yX5_lowerTo, .selects RX5 yX5_lowerTo yX5_lowerTo, .instanceMethod yX7_weight, .selects RX7 yX7_weight yX7_weight, .instanceMethod yX1_become, .selects RX1 yX1_become yX1_become, .initialized RX1, .instanceMethod yX5_divide, .selects RX5 yX5_divide yX5_divide, .instanceMethod yX5_write, .selects RX5 yX5_write yX5_write, .instanceMethod yX7_addSmaller, .selects RX7 yX7_addSmaller yX7_addSmaller]
def w2_X7_weigh : List Cond := .code yX7_weigh cX7_weigh 3 none :: (w2t_X7_weigh ++ (wsX70 ++ (wsX80 ++ (w2_X1_become ++ (w2_X5_copy ++ (w2_X5_divide ++ (w2_X5_forget ++ (w2_X5_lowerTo ++ (w2_X5_write ++ (w2_X7_addSmaller ++ (w2_X7_isOpen ++ (w2_X7_weight ++ (w2_X8_pourFit)))))))))))))
set_option maxRecDepth 20000 in
theorem w2g_X7_weigh : ∀ w ∈ w2_X7_weigh, ((w.onTables && w.keeps) = true ∨ ∃ ty, w = .arrayClass ty) := by
  intro w h
  rcases List.mem_cons.mp h with rfl | h
  · exact good_of_word (by decide +kernel)
  rcases List.mem_append.mp h with h | h
  · exact good_of_word (List.all_eq_true.mp (show List.all w2t_X7_weigh goodWord = true by decide +kernel) w h)
  rcases List.mem_append.mp h with h | h
  · exact good_of_word (List.all_eq_true.mp (show List.all wsX70 goodWord = true by decide +kernel) w h)
  rcases List.mem_append.mp h with h | h
  · exact good_of_word (List.all_eq_true.mp (show List.all wsX80 goodWord = true by decide +kernel) w h)
  rcases List.mem_append.mp h with h | h
  · exact w2g_X1_become w h
  rcases List.mem_append.mp h with h | h
  · exact w2g_X5_copy w h
  rcases List.mem_append.mp h with h | h
  · exact w2g_X5_divide w h
  rcases List.mem_append.mp h with h | h
  · exact w2g_X5_forget w h
  rcases List.mem_append.mp h with h | h
  · exact w2g_X5_lowerTo w h
  rcases List.mem_append.mp h with h | h
  · exact w2g_X5_write w h
  rcases List.mem_append.mp h with h | h
  · exact w2g_X7_addSmaller w h
  rcases List.mem_append.mp h with h | h
  · exact w2g_X7_isOpen w h
  rcases List.mem_append.mp h with h | h
  · exact w2g_X7_weight w h
  exact w2g_X8_pourFit w h
theorem w2i_X7_weigh_X70 : ∀ w ∈ wsX70, w ∈ w2_X7_weigh := fun w h => List.mem_cons_of_mem _ (List.mem_append_right _ (List.mem_append_left _ (h)))
theorem w2i_X7_weigh_X80 : ∀ w ∈ wsX80, w ∈ w2_X7_weigh := fun w h => List.mem_cons_of_mem _ (List.mem_append_right _ (List.mem_append_right _ (List.mem_append_left _ (h))))
theorem w2i_X7_weigh_X1_become : ∀ w ∈ w2_X1_become, w ∈ w2_X7_weigh := fun w h => List.mem_cons_of_mem _ (List.mem_append_right _ (List.mem_append_right _ (List.mem_append_right _ (List.mem_append_left _ (h)))))
theorem w2i_X7_weigh_X5_copy : ∀ w ∈ w2_X5_copy, w ∈ w2_X7_weigh := fun w h => List.mem_cons_of_mem _ (List.mem_append_right _ (List.mem_append_right _ (List.mem_append_right _ (List.mem_append_right _ (List.mem_append_left _ (h))))))
theorem w2i_X7_weigh_X5_divide : ∀ w ∈ w2_X5_divide, w ∈ w2_X7_weigh := fun w h => List.mem_cons_of_mem _ (List.mem_append_right _ (List.mem_append_right _ (List.mem_append_right _ (List.mem_append_right _ (List.mem_append_right _ (List.mem_append_left _ (h)))))))
theorem w2i_X7_weigh_X5_forget : ∀ w ∈ w2_X5_forget, w ∈ w2_X7_weigh := fun w h => List.mem_cons_of_mem _ (List.mem_append_right _ (List.mem_append_right _ (List.mem_append_right _ (List.mem_append_right _ (List.mem_append_right _ (List.mem_append_right _ (List.mem_append_left _ (h))))))))
theorem w2i_X7_weigh_X5_lowerTo : ∀ w ∈ w2_X5_lowerTo, w ∈ w2_X7_weigh := fun w h => List.mem_cons_of_mem _ (List.mem_append_right _ (List.mem_append_right _ (List.mem_append_right _ (List.mem_append_right _ (List.mem_append_right _ (List.mem_append_right _ (List.mem_append_right _ (List.mem_append_left _ (h)))))))))
theorem w2i_X7_weigh_X5_write : ∀ w ∈ w2_X5_write, w ∈ w2_X7_weigh := fun w h => List.mem_cons_of_mem _ (List.mem_append_right _ (List.mem_append_right _ (List.mem_append_right _ (List.mem_append_right _ (List.mem_append_right _ (List.mem_append_right _ (List.mem_append_right _ (List.mem_append_right _ (List.mem_append_left _ (h))))))))))
theorem w2i_X7_weigh_X7_addSmaller : ∀ w ∈ w2_X7_addSmaller, w ∈ w2_X7_weigh := fun w h => List.mem_cons_of_mem _ (List.mem_append_right _ (List.mem_append_right _ (List.mem_append_right _ (List.mem_append_right _ (List.mem_append_right _ (List.mem_append_right _ (List.mem_append_right _ (List.mem_append_right _ (List.mem_append_right _ (List.mem_append_left _ (h)))))))))))
theorem w2i_X7_weigh_X7_isOpen : ∀ w ∈ w2_X7_isOpen, w ∈ w2_X7_weigh := fun w h => List.mem_cons_of_mem _ (List.mem_append_right _ (List.mem_append_right _ (List.mem_append_right _ (List.mem_append_right _ (List.mem_append_right _ (List.mem_append_right _ (List.mem_append_right _ (List.mem_append_right _ (List.mem_append_right _ (List.mem_append_right _ (List.mem_append_left _ (h))))))))))))
theorem w2i_X7_weigh_X7_weight : ∀ w ∈ w2_X7_weight, w ∈ w2_X7_weigh := fun w h => List.mem_cons_of_mem _ (List.mem_append_right _ (List.mem_append_right _ (List.mem_append_right _ (List.mem_append_right _ (List.mem_append_right _ (List.mem_append_right _ (List.mem_append_right _ (List.mem_append_right _ (List.mem_append_right _ (List.mem_append_right _ (List.mem_append_right _ (List.mem_append_left _ (h)))))))))))))
theorem w2i_X7_weigh_X8_pourFit : ∀ w ∈ w2_X8_pourFit, w ∈ w2_X7_weigh := fun w h => List.mem_cons_of_mem _ (List.mem_append_right _ (List.mem_append_right _ (List.mem_append_right _ (List.mem_append_right _ (List.mem_append_right _ (List.mem_append_right _ (List.mem_append_right _ (List.mem_append_right _ (List.mem_append_right _ (List.mem_append_right _ (List.mem_append_right _ (List.mem_append_right _ (h)))))))))))))
theorem gd_X7_weigh_X7_isOpen : GoodIn w2_X7_weigh (wsV RX7 108 RX7 yX7_isOpen w2_X7_isOpen) := goodIn_app (goodIn_of _ (by decide +kernel)) (fun w h => ⟨w2i_X7_weigh_X7_isOpen w h, w2g_X7_isOpen w h⟩)
theorem gd_X7_weigh_X5_forget : GoodIn w2_X7_weigh (wsV RX7 111 RX5 yX5_forget w2_X5_forget) := goodIn_app (goodIn_of _ (by decide +kernel)) (fun w h => ⟨w2i_X7_weigh_X5_forget w h, w2g_X5_forget w h⟩)
theorem gd_X7_weigh_X8_pourFit : GoodIn w2_X7_weigh (wsV RX7 114 RX8 yX8_pourFit w2_X8_pourFit) := goodIn_app (goodIn_of _ (by decide +kernel)) (fun w h => ⟨w2i_X7_weigh_X8_pourFit w h, w2g_X8_pourFit w h⟩)
theorem gd_X7_weigh_X5_copy : GoodIn w2_X7_weigh (wsV RX7 118 RX5 yX5_copy w2_X5_copy) := goodIn_app (goodIn_of _ (by decide +kernel)) (fun w h => ⟨w2i_X7_weigh_X5_copy w h, w2g_X5_copy w h⟩)
theorem gd_X7_weigh_X5_lowerTo : GoodIn w2_X7_weigh (wsV RX7 121 RX5 yX5_lowerTo w2_X5_lowerTo) := goodIn_app (goodIn_of _ (by decide +kernel)) (fun w h => ⟨w2i_X7_weigh_X5_lowerTo w h, w2g_X5_lowerTo w h⟩)
theorem gd_X7_weigh_X7_weight : GoodIn w2_X7_weigh (wsV RX7 124 RX7 yX7_weight w2_X7_weight) := goodIn_app (goodIn_of _ (by decide +kernel)) (fun w h => ⟨w2i_X7_weigh_X7_weight w h, w2g_X7_weight w h⟩)
theorem gd_X7_weigh_X1_become : GoodIn w2_X7_weigh (wsV RX7 128 RX1 yX1_become w2_X1_become) := goodIn_app (goodIn_of _ (by decide +kernel)) (fun w h => ⟨w2i_X7_weigh_X1_become w h, w2g_X1_become w h⟩)
theorem gd_X7_weigh_X5_divide : GoodIn w2_X7_weigh (wsV RX7 131 RX5 yX5_divide w2_X5_divide) := goodIn_app (goodIn_of _ (by decide +kernel)) (fun w h => ⟨w2i_X7_weigh_X5_divide w h, w2g_X5_divide w h⟩)
theorem gd_X7_weigh_X5_write : GoodIn w2_X7_weigh (wsV RX7 134 RX5 yX5_write w2_X5_write) := goodIn_app (goodIn_of _ (by decide +kernel)) (fun w h => ⟨w2i_X7_weigh_X5_write w h, w2g_X5_write w h⟩)
theorem gd_X7_weigh_X7_addSmaller : GoodIn w2_X7_weigh (wsV RX7 138 RX7 yX7_addSmaller w2_X7_addSmaller) := goodIn_app (goodIn_of _ (by decide +kernel)) (fun w h => ⟨w2i_X7_weigh_X7_addSmaller w h, w2g_X7_addSmaller w h⟩)
def w2t_X7_of : List Cond := [.fieldLink RX7 61 "StructureSearch$Shares" "share" "LStructureSearch$Fraction;", .fieldLink RX7 72 "StructureSearch$Fraction" "ready" "Z", .fieldLink RX7 65 "StructureSearch$Shares" "shareFrom" "I", .fieldLink RX7 69 "StructureSearch$Shares" "shareTo" "I", .fieldLink RX7 11 "StructureSearch$Shares" "sheet" "LStructureSearch$Sheet;", .fieldLink RX7 76 "StructureSearch$Sheet" "names" "I", .fieldLink RX7 87 "StructureSearch$Fraction" "below" "LStructureSearch$Big;", .fieldLink RX7 102 "StructureSearch$Fraction" "above" "LStructureSearch$Big;", .methodLink RX7 81 yX7_weigh, .methodLink RX7 84 yX7_sumGraphs, .methodLink RX7 90 yX7_sum, .methodLink RX7 94 yX1_copy, .methodLink RX7 98 yX7_keepArc, .methodLink RX7 105 yX7_lower, .instanceMethod yX7_weigh, .selects RX7 yX7_weigh yX7_weigh, .initialized RX7, .initialized RX1, .instanceMethod yX7_sumGraphs, .selects RX7 yX7_sumGraphs yX7_sumGraphs, .instanceMethod yX7_sum, .selects RX7 yX7_sum yX7_sum, .instanceMethod yX1_copy, .selects RX1 yX1_copy yX1_copy, .instanceMethod yX7_keepArc, .selects RX7 yX7_keepArc yX7_keepArc, .instanceMethod yX7_lower, .selects RX7 yX7_lower yX7_lower]
def w2_X7_of : List Cond := .code yX7_of cX7_of 5 (some (.object "StructureSearch$Fraction")) :: (w2t_X7_of ++ (wsX30 ++ (wsX70 ++ (wsX80 ++ (w2_X1_copy ++ (w2_X7_keepArc ++ (w2_X7_lower ++ (w2_X7_sum ++ (w2_X7_sumGraphs ++ (w2_X7_weigh))))))))))
set_option maxRecDepth 20000 in
theorem w2g_X7_of : ∀ w ∈ w2_X7_of, ((w.onTables && w.keeps) = true ∨ ∃ ty, w = .arrayClass ty) := by
  intro w h
  rcases List.mem_cons.mp h with rfl | h
  · exact good_of_word (by decide +kernel)
  rcases List.mem_append.mp h with h | h
  · exact good_of_word (List.all_eq_true.mp (show List.all w2t_X7_of goodWord = true by decide +kernel) w h)
  rcases List.mem_append.mp h with h | h
  · exact good_of_word (List.all_eq_true.mp (show List.all wsX30 goodWord = true by decide +kernel) w h)
  rcases List.mem_append.mp h with h | h
  · exact good_of_word (List.all_eq_true.mp (show List.all wsX70 goodWord = true by decide +kernel) w h)
  rcases List.mem_append.mp h with h | h
  · exact good_of_word (List.all_eq_true.mp (show List.all wsX80 goodWord = true by decide +kernel) w h)
  rcases List.mem_append.mp h with h | h
  · exact w2g_X1_copy w h
  rcases List.mem_append.mp h with h | h
  · exact w2g_X7_keepArc w h
  rcases List.mem_append.mp h with h | h
  · exact w2g_X7_lower w h
  rcases List.mem_append.mp h with h | h
  · exact w2g_X7_sum w h
  rcases List.mem_append.mp h with h | h
  · exact w2g_X7_sumGraphs w h
  exact w2g_X7_weigh w h
theorem w2i_X7_of_X30 : ∀ w ∈ wsX30, w ∈ w2_X7_of := fun w h => List.mem_cons_of_mem _ (List.mem_append_right _ (List.mem_append_left _ (h)))
theorem w2i_X7_of_X70 : ∀ w ∈ wsX70, w ∈ w2_X7_of := fun w h => List.mem_cons_of_mem _ (List.mem_append_right _ (List.mem_append_right _ (List.mem_append_left _ (h))))
theorem w2i_X7_of_X80 : ∀ w ∈ wsX80, w ∈ w2_X7_of := fun w h => List.mem_cons_of_mem _ (List.mem_append_right _ (List.mem_append_right _ (List.mem_append_right _ (List.mem_append_left _ (h)))))
theorem w2i_X7_of_X1_copy : ∀ w ∈ w2_X1_copy, w ∈ w2_X7_of := fun w h => List.mem_cons_of_mem _ (List.mem_append_right _ (List.mem_append_right _ (List.mem_append_right _ (List.mem_append_right _ (List.mem_append_left _ (h))))))
theorem w2i_X7_of_X7_keepArc : ∀ w ∈ w2_X7_keepArc, w ∈ w2_X7_of := fun w h => List.mem_cons_of_mem _ (List.mem_append_right _ (List.mem_append_right _ (List.mem_append_right _ (List.mem_append_right _ (List.mem_append_right _ (List.mem_append_left _ (h)))))))
theorem w2i_X7_of_X7_lower : ∀ w ∈ w2_X7_lower, w ∈ w2_X7_of := fun w h => List.mem_cons_of_mem _ (List.mem_append_right _ (List.mem_append_right _ (List.mem_append_right _ (List.mem_append_right _ (List.mem_append_right _ (List.mem_append_right _ (List.mem_append_left _ (h))))))))
theorem w2i_X7_of_X7_sum : ∀ w ∈ w2_X7_sum, w ∈ w2_X7_of := fun w h => List.mem_cons_of_mem _ (List.mem_append_right _ (List.mem_append_right _ (List.mem_append_right _ (List.mem_append_right _ (List.mem_append_right _ (List.mem_append_right _ (List.mem_append_right _ (List.mem_append_left _ (h)))))))))
theorem w2i_X7_of_X7_sumGraphs : ∀ w ∈ w2_X7_sumGraphs, w ∈ w2_X7_of := fun w h => List.mem_cons_of_mem _ (List.mem_append_right _ (List.mem_append_right _ (List.mem_append_right _ (List.mem_append_right _ (List.mem_append_right _ (List.mem_append_right _ (List.mem_append_right _ (List.mem_append_right _ (List.mem_append_left _ (h))))))))))
theorem w2i_X7_of_X7_weigh : ∀ w ∈ w2_X7_weigh, w ∈ w2_X7_of := fun w h => List.mem_cons_of_mem _ (List.mem_append_right _ (List.mem_append_right _ (List.mem_append_right _ (List.mem_append_right _ (List.mem_append_right _ (List.mem_append_right _ (List.mem_append_right _ (List.mem_append_right _ (List.mem_append_right _ (h))))))))))
theorem gd_X7_of_X7_weigh : GoodIn w2_X7_of (wsV RX7 81 RX7 yX7_weigh w2_X7_weigh) := goodIn_app (goodIn_of _ (by decide +kernel)) (fun w h => ⟨w2i_X7_of_X7_weigh w h, w2g_X7_weigh w h⟩)
theorem gd_X7_of_X7_sumGraphs : GoodIn w2_X7_of (wsV RX7 84 RX7 yX7_sumGraphs w2_X7_sumGraphs) := goodIn_app (goodIn_of _ (by decide +kernel)) (fun w h => ⟨w2i_X7_of_X7_sumGraphs w h, w2g_X7_sumGraphs w h⟩)
theorem gd_X7_of_X7_sum : GoodIn w2_X7_of (wsV RX7 90 RX7 yX7_sum w2_X7_sum) := goodIn_app (goodIn_of _ (by decide +kernel)) (fun w h => ⟨w2i_X7_of_X7_sum w h, w2g_X7_sum w h⟩)
theorem gd_X7_of_X1_copy : GoodIn w2_X7_of (wsV RX7 94 RX1 yX1_copy w2_X1_copy) := goodIn_app (goodIn_of _ (by decide +kernel)) (fun w h => ⟨w2i_X7_of_X1_copy w h, w2g_X1_copy w h⟩)
theorem gd_X7_of_X7_keepArc : GoodIn w2_X7_of (wsV RX7 98 RX7 yX7_keepArc w2_X7_keepArc) := goodIn_app (goodIn_of _ (by decide +kernel)) (fun w h => ⟨w2i_X7_of_X7_keepArc w h, w2g_X7_keepArc w h⟩)
theorem gd_X7_of_X7_lower : GoodIn w2_X7_of (wsV RX7 105 RX7 yX7_lower w2_X7_lower) := goodIn_app (goodIn_of _ (by decide +kernel)) (fun w h => ⟨w2i_X7_of_X7_lower w h, w2g_X7_lower w h⟩)
def w2t_X8_startAnew : List Cond := [.fieldLink RX8 21 "StructureSearch$Sheet" "names" "I", .fieldLink RX8 25 "StructureSearch$Sheet" "rows" "I", .fieldLink RX8 28 "StructureSearch$Sheet" "strength" "I", .fieldLink RX8 31 "StructureSearch$Sheet" "most" "I"]
def w2_X8_startAnew : List Cond := .code yX8_startAnew cX8_startAnew 1 none :: (w2t_X8_startAnew ++ (wsX80))
set_option maxRecDepth 20000 in
theorem w2g_X8_startAnew : ∀ w ∈ w2_X8_startAnew, ((w.onTables && w.keeps) = true ∨ ∃ ty, w = .arrayClass ty) := by
  intro w h
  rcases List.mem_cons.mp h with rfl | h
  · exact good_of_word (by decide +kernel)
  rcases List.mem_append.mp h with h | h
  · exact good_of_word (List.all_eq_true.mp (show List.all w2t_X8_startAnew goodWord = true by decide +kernel) w h)
  exact good_of_word (List.all_eq_true.mp (show List.all wsX80 goodWord = true by decide +kernel) w h)
theorem w2i_X8_startAnew_X80 : ∀ w ∈ wsX80, w ∈ w2_X8_startAnew := fun w h => List.mem_cons_of_mem _ (List.mem_append_right _ (h))
def w2t_X8_init : List Cond := [.methodLink RX8 3 objectInit, .fieldLink RX8 9 "StructureSearch$Sheet" "values" "[I", .fieldLink RX8 15 "StructureSearch$Sheet" "codes" "[I", .methodLink RX8 18 yX8_startAnew, .instanceMethod objectInit, .code objectInit ⟨#[0xb1]⟩ 1 none, .arrayClass .int, .instanceMethod yX8_startAnew, .selects RX8 yX8_startAnew yX8_startAnew, .initialized RX8]
def w2_X8_init : List Cond := .code yX8_init cX8_init 1 none :: (w2t_X8_init ++ (wsX80 ++ (w2_X8_startAnew)))
set_option maxRecDepth 20000 in
theorem w2g_X8_init : ∀ w ∈ w2_X8_init, ((w.onTables && w.keeps) = true ∨ ∃ ty, w = .arrayClass ty) := by
  intro w h
  rcases List.mem_cons.mp h with rfl | h
  · exact good_of_word (by decide +kernel)
  rcases List.mem_append.mp h with h | h
  · exact good_of_word (List.all_eq_true.mp (show List.all w2t_X8_init goodWord = true by decide +kernel) w h)
  rcases List.mem_append.mp h with h | h
  · exact good_of_word (List.all_eq_true.mp (show List.all wsX80 goodWord = true by decide +kernel) w h)
  exact w2g_X8_startAnew w h
theorem w2i_X8_init_X80 : ∀ w ∈ wsX80, w ∈ w2_X8_init := fun w h => List.mem_cons_of_mem _ (List.mem_append_right _ (List.mem_append_left _ (h)))
theorem w2i_X8_init_X8_startAnew : ∀ w ∈ w2_X8_startAnew, w ∈ w2_X8_init := fun w h => List.mem_cons_of_mem _ (List.mem_append_right _ (List.mem_append_right _ (h)))
theorem gd_X8_init_X8_startAnew : GoodIn w2_X8_init (wsV RX8 18 RX8 yX8_startAnew w2_X8_startAnew) := goodIn_app (goodIn_of _ (by decide +kernel)) (fun w h => ⟨w2i_X8_init_X8_startAnew w h, w2g_X8_startAnew w h⟩)
def w2t_X8_addName : List Cond := [.fieldLink RX8 21 "StructureSearch$Sheet" "names" "I", .fieldLink RX8 9 "StructureSearch$Sheet" "values" "[I"]
def w2_X8_addName : List Cond := .code yX8_addName cX8_addName 2 (some .int) :: (w2t_X8_addName ++ (wsX80))
set_option maxRecDepth 20000 in
theorem w2g_X8_addName : ∀ w ∈ w2_X8_addName, ((w.onTables && w.keeps) = true ∨ ∃ ty, w = .arrayClass ty) := by
  intro w h
  rcases List.mem_cons.mp h with rfl | h
  · exact good_of_word (by decide +kernel)
  rcases List.mem_append.mp h with h | h
  · exact good_of_word (List.all_eq_true.mp (show List.all w2t_X8_addName goodWord = true by decide +kernel) w h)
  exact good_of_word (List.all_eq_true.mp (show List.all wsX80 goodWord = true by decide +kernel) w h)
theorem w2i_X8_addName_X80 : ∀ w ∈ wsX80, w ∈ w2_X8_addName := fun w h => List.mem_cons_of_mem _ (List.mem_append_right _ (h))
def w2t_X8_addRow : List Cond := [.fieldLink RX8 25 "StructureSearch$Sheet" "rows" "I", .fieldLink RX8 15 "StructureSearch$Sheet" "codes" "[I"]
def w2_X8_addRow : List Cond := .code yX8_addRow cX8_addRow 2 (some .int) :: (w2t_X8_addRow ++ (wsX80))
set_option maxRecDepth 20000 in
theorem w2g_X8_addRow : ∀ w ∈ w2_X8_addRow, ((w.onTables && w.keeps) = true ∨ ∃ ty, w = .arrayClass ty) := by
  intro w h
  rcases List.mem_cons.mp h with rfl | h
  · exact good_of_word (by decide +kernel)
  rcases List.mem_append.mp h with h | h
  · exact good_of_word (List.all_eq_true.mp (show List.all w2t_X8_addRow goodWord = true by decide +kernel) w h)
  exact good_of_word (List.all_eq_true.mp (show List.all wsX80 goodWord = true by decide +kernel) w h)
theorem w2i_X8_addRow_X80 : ∀ w ∈ wsX80, w ∈ w2_X8_addRow := fun w h => List.mem_cons_of_mem _ (List.mem_append_right _ (h))
def w2t_X8_removeRow : List Cond := [.fieldLink RX8 25 "StructureSearch$Sheet" "rows" "I", .fieldLink RX8 15 "StructureSearch$Sheet" "codes" "[I"]
def w2_X8_removeRow : List Cond := .code yX8_removeRow cX8_removeRow 3 (some .int) :: (w2t_X8_removeRow ++ (wsX80))
set_option maxRecDepth 20000 in
theorem w2g_X8_removeRow : ∀ w ∈ w2_X8_removeRow, ((w.onTables && w.keeps) = true ∨ ∃ ty, w = .arrayClass ty) := by
  intro w h
  rcases List.mem_cons.mp h with rfl | h
  · exact good_of_word (by decide +kernel)
  rcases List.mem_append.mp h with h | h
  · exact good_of_word (List.all_eq_true.mp (show List.all w2t_X8_removeRow goodWord = true by decide +kernel) w h)
  exact good_of_word (List.all_eq_true.mp (show List.all wsX80 goodWord = true by decide +kernel) w h)
theorem w2i_X8_removeRow_X80 : ∀ w ∈ wsX80, w ∈ w2_X8_removeRow := fun w h => List.mem_cons_of_mem _ (List.mem_append_right _ (h))
def w2t_X8_valueIn : List Cond := [.methodLink RX8 34 yX8_codeOf, .instanceMethod yX8_codeOf, .selects RX8 yX8_codeOf yX8_codeOf, .initialized RX8]
def w2_X8_valueIn : List Cond := .code yX8_valueIn cX8_valueIn 3 (some .int) :: (w2t_X8_valueIn ++ (w2_X8_codeOf))
set_option maxRecDepth 20000 in
theorem w2g_X8_valueIn : ∀ w ∈ w2_X8_valueIn, ((w.onTables && w.keeps) = true ∨ ∃ ty, w = .arrayClass ty) := by
  intro w h
  rcases List.mem_cons.mp h with rfl | h
  · exact good_of_word (by decide +kernel)
  rcases List.mem_append.mp h with h | h
  · exact good_of_word (List.all_eq_true.mp (show List.all w2t_X8_valueIn goodWord = true by decide +kernel) w h)
  exact w2g_X8_codeOf w h
theorem w2i_X8_valueIn_X8_codeOf : ∀ w ∈ w2_X8_codeOf, w ∈ w2_X8_valueIn := fun w h => List.mem_cons_of_mem _ (List.mem_append_right _ (h))
theorem gd_X8_valueIn_X8_codeOf : GoodIn w2_X8_valueIn (wsV RX8 34 RX8 yX8_codeOf w2_X8_codeOf) := goodIn_app (goodIn_of _ (by decide +kernel)) (fun w h => ⟨w2i_X8_valueIn_X8_codeOf w h, w2g_X8_codeOf w h⟩)
def w2t_X9_init : List Cond := [.methodLink RX9 1 objectInit, .fieldLink RX9 7 "StructureSearch$Tables" "sheet" "LStructureSearch$Sheet;", .fieldLink RX9 13 "StructureSearch$Tables" "cells" "[I", .fieldLink RX9 17 "StructureSearch$Tables" "ofFirst" "[I", .fieldLink RX9 20 "StructureSearch$Tables" "ofSecond" "[I", .instanceMethod objectInit, .code objectInit ⟨#[0xb1]⟩ 1 none, .arrayClass .int]
def w2_X9_init : List Cond := .code yX9_init cX9_init 2 none :: (w2t_X9_init ++ (wsX90))
set_option maxRecDepth 20000 in
theorem w2g_X9_init : ∀ w ∈ w2_X9_init, ((w.onTables && w.keeps) = true ∨ ∃ ty, w = .arrayClass ty) := by
  intro w h
  rcases List.mem_cons.mp h with rfl | h
  · exact good_of_word (by decide +kernel)
  rcases List.mem_append.mp h with h | h
  · exact good_of_word (List.all_eq_true.mp (show List.all w2t_X9_init goodWord = true by decide +kernel) w h)
  exact good_of_word (List.all_eq_true.mp (show List.all wsX90 goodWord = true by decide +kernel) w h)
theorem w2i_X9_init_X90 : ∀ w ∈ wsX90, w ∈ w2_X9_init := fun w h => List.mem_cons_of_mem _ (List.mem_append_right _ (h))
def w2t_X9_cell : List Cond := [.fieldLink RX9 13 "StructureSearch$Tables" "cells" "[I"]
def w2_X9_cell : List Cond := .code yX9_cell cX9_cell 4 (some .int) :: (w2t_X9_cell ++ (wsX90))
set_option maxRecDepth 20000 in
theorem w2g_X9_cell : ∀ w ∈ w2_X9_cell, ((w.onTables && w.keeps) = true ∨ ∃ ty, w = .arrayClass ty) := by
  intro w h
  rcases List.mem_cons.mp h with rfl | h
  · exact good_of_word (by decide +kernel)
  rcases List.mem_append.mp h with h | h
  · exact good_of_word (List.all_eq_true.mp (show List.all w2t_X9_cell goodWord = true by decide +kernel) w h)
  exact good_of_word (List.all_eq_true.mp (show List.all wsX90 goodWord = true by decide +kernel) w h)
theorem w2i_X9_cell_X90 : ∀ w ∈ wsX90, w ∈ w2_X9_cell := fun w h => List.mem_cons_of_mem _ (List.mem_append_right _ (h))
def w2t_X9_count : List Cond := [.fieldLink RX9 13 "StructureSearch$Tables" "cells" "[I", .fieldLink RX9 7 "StructureSearch$Tables" "sheet" "LStructureSearch$Sheet;", .fieldLink RX9 23 "StructureSearch$Sheet" "rows" "I", .fieldLink RX9 17 "StructureSearch$Tables" "ofFirst" "[I", .fieldLink RX9 20 "StructureSearch$Tables" "ofSecond" "[I", .methodLink RX9 29 yX8_valueIn, .methodLink RX9 33 yX9_cell, .instanceMethod yX8_valueIn, .selects RX8 yX8_valueIn yX8_valueIn, .initialized RX8, .instanceMethod yX9_cell, .selects RX9 yX9_cell yX9_cell, .initialized RX9]
def w2_X9_count : List Cond := .code yX9_count cX9_count 7 none :: (w2t_X9_count ++ (wsX80 ++ (wsX90 ++ (w2_X8_valueIn ++ (w2_X9_cell)))))
set_option maxRecDepth 20000 in
theorem w2g_X9_count : ∀ w ∈ w2_X9_count, ((w.onTables && w.keeps) = true ∨ ∃ ty, w = .arrayClass ty) := by
  intro w h
  rcases List.mem_cons.mp h with rfl | h
  · exact good_of_word (by decide +kernel)
  rcases List.mem_append.mp h with h | h
  · exact good_of_word (List.all_eq_true.mp (show List.all w2t_X9_count goodWord = true by decide +kernel) w h)
  rcases List.mem_append.mp h with h | h
  · exact good_of_word (List.all_eq_true.mp (show List.all wsX80 goodWord = true by decide +kernel) w h)
  rcases List.mem_append.mp h with h | h
  · exact good_of_word (List.all_eq_true.mp (show List.all wsX90 goodWord = true by decide +kernel) w h)
  rcases List.mem_append.mp h with h | h
  · exact w2g_X8_valueIn w h
  exact w2g_X9_cell w h
theorem w2i_X9_count_X80 : ∀ w ∈ wsX80, w ∈ w2_X9_count := fun w h => List.mem_cons_of_mem _ (List.mem_append_right _ (List.mem_append_left _ (h)))
theorem w2i_X9_count_X90 : ∀ w ∈ wsX90, w ∈ w2_X9_count := fun w h => List.mem_cons_of_mem _ (List.mem_append_right _ (List.mem_append_right _ (List.mem_append_left _ (h))))
theorem w2i_X9_count_X8_valueIn : ∀ w ∈ w2_X8_valueIn, w ∈ w2_X9_count := fun w h => List.mem_cons_of_mem _ (List.mem_append_right _ (List.mem_append_right _ (List.mem_append_right _ (List.mem_append_left _ (h)))))
theorem w2i_X9_count_X9_cell : ∀ w ∈ w2_X9_cell, w ∈ w2_X9_count := fun w h => List.mem_cons_of_mem _ (List.mem_append_right _ (List.mem_append_right _ (List.mem_append_right _ (List.mem_append_right _ (h)))))
theorem gd_X9_count_X8_valueIn : GoodIn w2_X9_count (wsV RX9 29 RX8 yX8_valueIn w2_X8_valueIn) := goodIn_app (goodIn_of _ (by decide +kernel)) (fun w h => ⟨w2i_X9_count_X8_valueIn w h, w2g_X8_valueIn w h⟩)
theorem gd_X9_count_X9_cell : GoodIn w2_X9_count (wsV RX9 33 RX9 yX9_cell w2_X9_cell) := goodIn_app (goodIn_of _ (by decide +kernel)) (fun w h => ⟨w2i_X9_count_X9_cell w h, w2g_X9_cell w h⟩)
def w2t_X9_factorial : List Cond := [.fieldLink RX9 51 "StructureSearch$Tables" "FACTORIALS" "[J"]
def w2_X9_factorial : List Cond := .code yX9_factorial cX9_factorial 1 (some .long) :: (w2t_X9_factorial)
set_option maxRecDepth 20000 in
theorem w2g_X9_factorial : ∀ w ∈ w2_X9_factorial, ((w.onTables && w.keeps) = true ∨ ∃ ty, w = .arrayClass ty) := by
  intro w h
  rcases List.mem_cons.mp h with rfl | h
  · exact good_of_word (by decide +kernel)
  exact good_of_word (List.all_eq_true.mp (show List.all w2t_X9_factorial goodWord = true by decide +kernel) w h)
def w2t_X9_deals : List Cond := [.fieldLink RX9 51 "StructureSearch$Tables" "FACTORIALS" "[J", .methodLink RX9 55 yX9_factorial, .static yX9_factorial, .initialized RX9]
def w2_X9_deals : List Cond := .code yX9_deals cX9_deals 5 (some .long) :: (w2t_X9_deals ++ (w2_X9_factorial))
set_option maxRecDepth 20000 in
theorem w2g_X9_deals : ∀ w ∈ w2_X9_deals, ((w.onTables && w.keeps) = true ∨ ∃ ty, w = .arrayClass ty) := by
  intro w h
  rcases List.mem_cons.mp h with rfl | h
  · exact good_of_word (by decide +kernel)
  rcases List.mem_append.mp h with h | h
  · exact good_of_word (List.all_eq_true.mp (show List.all w2t_X9_deals goodWord = true by decide +kernel) w h)
  exact w2g_X9_factorial w h
theorem w2i_X9_deals_X9_factorial : ∀ w ∈ w2_X9_factorial, w ∈ w2_X9_deals := fun w h => List.mem_cons_of_mem _ (List.mem_append_right _ (h))
theorem gd_X9_deals_X9_factorial : GoodIn w2_X9_deals (va_wsS RX9 55 yX9_factorial w2_X9_factorial) := goodIn_app (goodIn_of _ (by decide +kernel)) (fun w h => ⟨w2i_X9_deals_X9_factorial w h, w2g_X9_factorial w h⟩)
def w2t_X9_second : List Cond := [.fieldLink RX9 20 "StructureSearch$Tables" "ofSecond" "[I"]
def w2_X9_second : List Cond := .code yX9_second cX9_second 2 (some .int) :: (w2t_X9_second ++ (wsX90))
set_option maxRecDepth 20000 in
theorem w2g_X9_second : ∀ w ∈ w2_X9_second, ((w.onTables && w.keeps) = true ∨ ∃ ty, w = .arrayClass ty) := by
  intro w h
  rcases List.mem_cons.mp h with rfl | h
  · exact good_of_word (by decide +kernel)
  rcases List.mem_append.mp h with h | h
  · exact good_of_word (List.all_eq_true.mp (show List.all w2t_X9_second goodWord = true by decide +kernel) w h)
  exact good_of_word (List.all_eq_true.mp (show List.all wsX90 goodWord = true by decide +kernel) w h)
theorem w2i_X9_second_X90 : ∀ w ∈ wsX90, w ∈ w2_X9_second := fun w h => List.mem_cons_of_mem _ (List.mem_append_right _ (h))
def w2t_X9_allWays : List Cond := [.methodLink RX9 36 yX9_second, .methodLink RX9 40 yX9_deals, .instanceMethod yX9_second, .selects RX9 yX9_second yX9_second, .initialized RX9, .static yX9_deals]
def w2_X9_allWays : List Cond := .code yX9_allWays cX9_allWays 1 (some .long) :: (w2t_X9_allWays ++ (w2_X9_deals ++ (w2_X9_second)))
set_option maxRecDepth 20000 in
theorem w2g_X9_allWays : ∀ w ∈ w2_X9_allWays, ((w.onTables && w.keeps) = true ∨ ∃ ty, w = .arrayClass ty) := by
  intro w h
  rcases List.mem_cons.mp h with rfl | h
  · exact good_of_word (by decide +kernel)
  rcases List.mem_append.mp h with h | h
  · exact good_of_word (List.all_eq_true.mp (show List.all w2t_X9_allWays goodWord = true by decide +kernel) w h)
  rcases List.mem_append.mp h with h | h
  · exact w2g_X9_deals w h
  exact w2g_X9_second w h
theorem w2i_X9_allWays_X9_deals : ∀ w ∈ w2_X9_deals, w ∈ w2_X9_allWays := fun w h => List.mem_cons_of_mem _ (List.mem_append_right _ (List.mem_append_left _ (h)))
theorem w2i_X9_allWays_X9_second : ∀ w ∈ w2_X9_second, w ∈ w2_X9_allWays := fun w h => List.mem_cons_of_mem _ (List.mem_append_right _ (List.mem_append_right _ (h)))
theorem gd_X9_allWays_X9_second : GoodIn w2_X9_allWays (wsV RX9 36 RX9 yX9_second w2_X9_second) := goodIn_app (goodIn_of _ (by decide +kernel)) (fun w h => ⟨w2i_X9_allWays_X9_second w h, w2g_X9_second w h⟩)
theorem gd_X9_allWays_X9_deals : GoodIn w2_X9_allWays (va_wsS RX9 40 yX9_deals w2_X9_deals) := goodIn_app (goodIn_of _ (by decide +kernel)) (fun w h => ⟨w2i_X9_allWays_X9_deals w h, w2g_X9_deals w h⟩)
def w2t_X9_first : List Cond := [.fieldLink RX9 17 "StructureSearch$Tables" "ofFirst" "[I"]
def w2_X9_first : List Cond := .code yX9_first cX9_first 2 (some .int) :: (w2t_X9_first ++ (wsX90))
set_option maxRecDepth 20000 in
theorem w2g_X9_first : ∀ w ∈ w2_X9_first, ((w.onTables && w.keeps) = true ∨ ∃ ty, w = .arrayClass ty) := by
  intro w h
  rcases List.mem_cons.mp h with rfl | h
  · exact good_of_word (by decide +kernel)
  rcases List.mem_append.mp h with h | h
  · exact good_of_word (List.all_eq_true.mp (show List.all w2t_X9_first goodWord = true by decide +kernel) w h)
  exact good_of_word (List.all_eq_true.mp (show List.all wsX90 goodWord = true by decide +kernel) w h)
theorem w2i_X9_first_X90 : ∀ w ∈ wsX90, w ∈ w2_X9_first := fun w h => List.mem_cons_of_mem _ (List.mem_append_right _ (h))
def w2t_X9_waysWith : List Cond := [.methodLink RX9 36 yX9_second, .methodLink RX9 44 yX9_first, .methodLink RX9 40 yX9_deals, .instanceMethod yX9_second, .selects RX9 yX9_second yX9_second, .initialized RX9, .instanceMethod yX9_first, .selects RX9 yX9_first yX9_first, .static yX9_deals]
def w2_X9_waysWith : List Cond := .code yX9_waysWith cX9_waysWith 17 (some .long) :: (w2t_X9_waysWith ++ (w2_X9_deals ++ (w2_X9_first ++ (w2_X9_second))))
set_option maxRecDepth 20000 in
theorem w2g_X9_waysWith : ∀ w ∈ w2_X9_waysWith, ((w.onTables && w.keeps) = true ∨ ∃ ty, w = .arrayClass ty) := by
  intro w h
  rcases List.mem_cons.mp h with rfl | h
  · exact good_of_word (by decide +kernel)
  rcases List.mem_append.mp h with h | h
  · exact good_of_word (List.all_eq_true.mp (show List.all w2t_X9_waysWith goodWord = true by decide +kernel) w h)
  rcases List.mem_append.mp h with h | h
  · exact w2g_X9_deals w h
  rcases List.mem_append.mp h with h | h
  · exact w2g_X9_first w h
  exact w2g_X9_second w h
theorem w2i_X9_waysWith_X9_deals : ∀ w ∈ w2_X9_deals, w ∈ w2_X9_waysWith := fun w h => List.mem_cons_of_mem _ (List.mem_append_right _ (List.mem_append_left _ (h)))
theorem w2i_X9_waysWith_X9_first : ∀ w ∈ w2_X9_first, w ∈ w2_X9_waysWith := fun w h => List.mem_cons_of_mem _ (List.mem_append_right _ (List.mem_append_right _ (List.mem_append_left _ (h))))
theorem w2i_X9_waysWith_X9_second : ∀ w ∈ w2_X9_second, w ∈ w2_X9_waysWith := fun w h => List.mem_cons_of_mem _ (List.mem_append_right _ (List.mem_append_right _ (List.mem_append_right _ (h))))
theorem gd_X9_waysWith_X9_second : GoodIn w2_X9_waysWith (wsV RX9 36 RX9 yX9_second w2_X9_second) := goodIn_app (goodIn_of _ (by decide +kernel)) (fun w h => ⟨w2i_X9_waysWith_X9_second w h, w2g_X9_second w h⟩)
theorem gd_X9_waysWith_X9_first : GoodIn w2_X9_waysWith (wsV RX9 44 RX9 yX9_first w2_X9_first) := goodIn_app (goodIn_of _ (by decide +kernel)) (fun w h => ⟨w2i_X9_waysWith_X9_first w h, w2g_X9_first w h⟩)
theorem gd_X9_waysWith_X9_deals : GoodIn w2_X9_waysWith (va_wsS RX9 40 yX9_deals w2_X9_deals) := goodIn_app (goodIn_of _ (by decide +kernel)) (fun w h => ⟨w2i_X9_waysWith_X9_deals w h, w2g_X9_deals w h⟩)
def w2t_X9_waysNotAbove : List Cond := [.methodLink RX9 33 yX9_cell, .methodLink RX9 40 yX9_deals, .methodLink RX9 44 yX9_first, .methodLink RX9 47 yX9_waysWith, .instanceMethod yX9_cell, .selects RX9 yX9_cell yX9_cell, .initialized RX9, .static yX9_deals, .instanceMethod yX9_first, .selects RX9 yX9_first yX9_first, .instanceMethod yX9_waysWith, .selects RX9 yX9_waysWith yX9_waysWith]
def w2_X9_waysNotAbove : List Cond := .code yX9_waysNotAbove cX9_waysNotAbove 7 (some .long) :: (w2t_X9_waysNotAbove ++ (w2_X9_cell ++ (w2_X9_deals ++ (w2_X9_first ++ (w2_X9_waysWith)))))
set_option maxRecDepth 20000 in
theorem w2g_X9_waysNotAbove : ∀ w ∈ w2_X9_waysNotAbove, ((w.onTables && w.keeps) = true ∨ ∃ ty, w = .arrayClass ty) := by
  intro w h
  rcases List.mem_cons.mp h with rfl | h
  · exact good_of_word (by decide +kernel)
  rcases List.mem_append.mp h with h | h
  · exact good_of_word (List.all_eq_true.mp (show List.all w2t_X9_waysNotAbove goodWord = true by decide +kernel) w h)
  rcases List.mem_append.mp h with h | h
  · exact w2g_X9_cell w h
  rcases List.mem_append.mp h with h | h
  · exact w2g_X9_deals w h
  rcases List.mem_append.mp h with h | h
  · exact w2g_X9_first w h
  exact w2g_X9_waysWith w h
theorem w2i_X9_waysNotAbove_X9_cell : ∀ w ∈ w2_X9_cell, w ∈ w2_X9_waysNotAbove := fun w h => List.mem_cons_of_mem _ (List.mem_append_right _ (List.mem_append_left _ (h)))
theorem w2i_X9_waysNotAbove_X9_deals : ∀ w ∈ w2_X9_deals, w ∈ w2_X9_waysNotAbove := fun w h => List.mem_cons_of_mem _ (List.mem_append_right _ (List.mem_append_right _ (List.mem_append_left _ (h))))
theorem w2i_X9_waysNotAbove_X9_first : ∀ w ∈ w2_X9_first, w ∈ w2_X9_waysNotAbove := fun w h => List.mem_cons_of_mem _ (List.mem_append_right _ (List.mem_append_right _ (List.mem_append_right _ (List.mem_append_left _ (h)))))
theorem w2i_X9_waysNotAbove_X9_waysWith : ∀ w ∈ w2_X9_waysWith, w ∈ w2_X9_waysNotAbove := fun w h => List.mem_cons_of_mem _ (List.mem_append_right _ (List.mem_append_right _ (List.mem_append_right _ (List.mem_append_right _ (h)))))
theorem gd_X9_waysNotAbove_X9_cell : GoodIn w2_X9_waysNotAbove (wsV RX9 33 RX9 yX9_cell w2_X9_cell) := goodIn_app (goodIn_of _ (by decide +kernel)) (fun w h => ⟨w2i_X9_waysNotAbove_X9_cell w h, w2g_X9_cell w h⟩)
theorem gd_X9_waysNotAbove_X9_deals : GoodIn w2_X9_waysNotAbove (va_wsS RX9 40 yX9_deals w2_X9_deals) := goodIn_app (goodIn_of _ (by decide +kernel)) (fun w h => ⟨w2i_X9_waysNotAbove_X9_deals w h, w2g_X9_deals w h⟩)
theorem gd_X9_waysNotAbove_X9_first : GoodIn w2_X9_waysNotAbove (wsV RX9 44 RX9 yX9_first w2_X9_first) := goodIn_app (goodIn_of _ (by decide +kernel)) (fun w h => ⟨w2i_X9_waysNotAbove_X9_first w h, w2g_X9_first w h⟩)
theorem gd_X9_waysNotAbove_X9_waysWith : GoodIn w2_X9_waysNotAbove (wsV RX9 47 RX9 yX9_waysWith w2_X9_waysWith) := goodIn_app (goodIn_of _ (by decide +kernel)) (fun w h => ⟨w2i_X9_waysNotAbove_X9_waysWith w h, w2g_X9_waysWith w h⟩)
def w2t_X10_init : List Cond := [.methodLink RX10 3 objectInit, .classLink RX10 9 RX8, .fieldLink RX10 12 "StructureSearch" "sheet" "LStructureSearch$Sheet;", .classLink RX10 16 RX5, .fieldLink RX10 19 "StructureSearch" "powers" "LStructureSearch$Powers;", .classLink RX10 23 RX2, .fieldLink RX10 28 "StructureSearch" "fits" "LStructureSearch$Fits;", .classLink RX10 32 RX6, .fieldLink RX10 37 "StructureSearch" "search" "LStructureSearch$Search;", .classLink RX10 41 RX9, .fieldLink RX10 46 "StructureSearch" "tables" "LStructureSearch$Tables;", .fieldLink RX10 50 "StructureSearch" "shares" "LStructureSearch$Shares;", .methodLink RX10 11 yX8_init, .methodLink RX10 18 yX5_init, .methodLink RX10 25 yX2_init, .methodLink RX10 34 yX6_init, .methodLink RX10 43 yX9_init, .instanceMethod objectInit, .code objectInit ⟨#[0xb1]⟩ 1 none, .instantiable RX8 6, .initialized RX8, .instantiable RX5 2, .initialized RX5, .instantiable RX2 8, .initialized RX2, .instantiable RX6 3, .initialized RX6, .instantiable RX9 4, .initialized RX9, .instanceMethod yX8_init, .instanceMethod yX5_init, .instanceMethod yX2_init, .instanceMethod yX6_init, .instanceMethod yX9_init]
def w2_X10_init : List Cond := .code yX10_init cX10_init 1 none :: (w2t_X10_init ++ (wsX100 ++ (wsX20 ++ (wsX50 ++ (wsX60 ++ (wsX80 ++ (wsX90 ++ (w2_X2_init ++ (w2_X5_init ++ (w2_X6_init ++ (w2_X8_init ++ (w2_X9_init))))))))))))
set_option maxRecDepth 20000 in
theorem w2g_X10_init : ∀ w ∈ w2_X10_init, ((w.onTables && w.keeps) = true ∨ ∃ ty, w = .arrayClass ty) := by
  intro w h
  rcases List.mem_cons.mp h with rfl | h
  · exact good_of_word (by decide +kernel)
  rcases List.mem_append.mp h with h | h
  · exact good_of_word (List.all_eq_true.mp (show List.all w2t_X10_init goodWord = true by decide +kernel) w h)
  rcases List.mem_append.mp h with h | h
  · exact good_of_word (List.all_eq_true.mp (show List.all wsX100 goodWord = true by decide +kernel) w h)
  rcases List.mem_append.mp h with h | h
  · exact good_of_word (List.all_eq_true.mp (show List.all wsX20 goodWord = true by decide +kernel) w h)
  rcases List.mem_append.mp h with h | h
  · exact good_of_word (List.all_eq_true.mp (show List.all wsX50 goodWord = true by decide +kernel) w h)
  rcases List.mem_append.mp h with h | h
  · exact good_of_word (List.all_eq_true.mp (show List.all wsX60 goodWord = true by decide +kernel) w h)
  rcases List.mem_append.mp h with h | h
  · exact good_of_word (List.all_eq_true.mp (show List.all wsX80 goodWord = true by decide +kernel) w h)
  rcases List.mem_append.mp h with h | h
  · exact good_of_word (List.all_eq_true.mp (show List.all wsX90 goodWord = true by decide +kernel) w h)
  rcases List.mem_append.mp h with h | h
  · exact w2g_X2_init w h
  rcases List.mem_append.mp h with h | h
  · exact w2g_X5_init w h
  rcases List.mem_append.mp h with h | h
  · exact w2g_X6_init w h
  rcases List.mem_append.mp h with h | h
  · exact w2g_X8_init w h
  exact w2g_X9_init w h
theorem w2i_X10_init_X100 : ∀ w ∈ wsX100, w ∈ w2_X10_init := fun w h => List.mem_cons_of_mem _ (List.mem_append_right _ (List.mem_append_left _ (h)))
theorem w2i_X10_init_X20 : ∀ w ∈ wsX20, w ∈ w2_X10_init := fun w h => List.mem_cons_of_mem _ (List.mem_append_right _ (List.mem_append_right _ (List.mem_append_left _ (h))))
theorem w2i_X10_init_X50 : ∀ w ∈ wsX50, w ∈ w2_X10_init := fun w h => List.mem_cons_of_mem _ (List.mem_append_right _ (List.mem_append_right _ (List.mem_append_right _ (List.mem_append_left _ (h)))))
theorem w2i_X10_init_X60 : ∀ w ∈ wsX60, w ∈ w2_X10_init := fun w h => List.mem_cons_of_mem _ (List.mem_append_right _ (List.mem_append_right _ (List.mem_append_right _ (List.mem_append_right _ (List.mem_append_left _ (h))))))
theorem w2i_X10_init_X80 : ∀ w ∈ wsX80, w ∈ w2_X10_init := fun w h => List.mem_cons_of_mem _ (List.mem_append_right _ (List.mem_append_right _ (List.mem_append_right _ (List.mem_append_right _ (List.mem_append_right _ (List.mem_append_left _ (h)))))))
theorem w2i_X10_init_X90 : ∀ w ∈ wsX90, w ∈ w2_X10_init := fun w h => List.mem_cons_of_mem _ (List.mem_append_right _ (List.mem_append_right _ (List.mem_append_right _ (List.mem_append_right _ (List.mem_append_right _ (List.mem_append_right _ (List.mem_append_left _ (h))))))))
theorem w2i_X10_init_X2_init : ∀ w ∈ w2_X2_init, w ∈ w2_X10_init := fun w h => List.mem_cons_of_mem _ (List.mem_append_right _ (List.mem_append_right _ (List.mem_append_right _ (List.mem_append_right _ (List.mem_append_right _ (List.mem_append_right _ (List.mem_append_right _ (List.mem_append_left _ (h)))))))))
theorem w2i_X10_init_X5_init : ∀ w ∈ w2_X5_init, w ∈ w2_X10_init := fun w h => List.mem_cons_of_mem _ (List.mem_append_right _ (List.mem_append_right _ (List.mem_append_right _ (List.mem_append_right _ (List.mem_append_right _ (List.mem_append_right _ (List.mem_append_right _ (List.mem_append_right _ (List.mem_append_left _ (h))))))))))
theorem w2i_X10_init_X6_init : ∀ w ∈ w2_X6_init, w ∈ w2_X10_init := fun w h => List.mem_cons_of_mem _ (List.mem_append_right _ (List.mem_append_right _ (List.mem_append_right _ (List.mem_append_right _ (List.mem_append_right _ (List.mem_append_right _ (List.mem_append_right _ (List.mem_append_right _ (List.mem_append_right _ (List.mem_append_left _ (h)))))))))))
theorem w2i_X10_init_X8_init : ∀ w ∈ w2_X8_init, w ∈ w2_X10_init := fun w h => List.mem_cons_of_mem _ (List.mem_append_right _ (List.mem_append_right _ (List.mem_append_right _ (List.mem_append_right _ (List.mem_append_right _ (List.mem_append_right _ (List.mem_append_right _ (List.mem_append_right _ (List.mem_append_right _ (List.mem_append_right _ (List.mem_append_left _ (h))))))))))))
theorem w2i_X10_init_X9_init : ∀ w ∈ w2_X9_init, w ∈ w2_X10_init := fun w h => List.mem_cons_of_mem _ (List.mem_append_right _ (List.mem_append_right _ (List.mem_append_right _ (List.mem_append_right _ (List.mem_append_right _ (List.mem_append_right _ (List.mem_append_right _ (List.mem_append_right _ (List.mem_append_right _ (List.mem_append_right _ (List.mem_append_right _ (h))))))))))))
theorem gd_X10_init_X8_init : GoodIn w2_X10_init (w2_X8_init) := fun w h => ⟨w2i_X10_init_X8_init w h, w2g_X8_init w h⟩
theorem gd_X10_init_X5_init : GoodIn w2_X10_init (w2_X5_init) := fun w h => ⟨w2i_X10_init_X5_init w h, w2g_X5_init w h⟩
theorem gd_X10_init_X2_init : GoodIn w2_X10_init (w2_X2_init) := fun w h => ⟨w2i_X10_init_X2_init w h, w2g_X2_init w h⟩
theorem gd_X10_init_X6_init : GoodIn w2_X10_init (w2_X6_init) := fun w h => ⟨w2i_X10_init_X6_init w h, w2g_X6_init w h⟩
theorem gd_X10_init_X9_init : GoodIn w2_X10_init (w2_X9_init) := fun w h => ⟨w2i_X10_init_X9_init w h, w2g_X9_init w h⟩
def w2t_X10_forgetShares : List Cond := [.fieldLink RX10 50 "StructureSearch" "shares" "LStructureSearch$Shares;", .methodLink RX10 223 yX7_forget, .instanceMethod yX7_forget, .selects RX7 yX7_forget yX7_forget, .initialized RX7]
def w2_X10_forgetShares : List Cond := .code yX10_forgetShares cX10_forgetShares 1 none :: (w2t_X10_forgetShares ++ (wsX100 ++ (w2_X7_forget)))
set_option maxRecDepth 20000 in
theorem w2g_X10_forgetShares : ∀ w ∈ w2_X10_forgetShares, ((w.onTables && w.keeps) = true ∨ ∃ ty, w = .arrayClass ty) := by
  intro w h
  rcases List.mem_cons.mp h with rfl | h
  · exact good_of_word (by decide +kernel)
  rcases List.mem_append.mp h with h | h
  · exact good_of_word (List.all_eq_true.mp (show List.all w2t_X10_forgetShares goodWord = true by decide +kernel) w h)
  rcases List.mem_append.mp h with h | h
  · exact good_of_word (List.all_eq_true.mp (show List.all wsX100 goodWord = true by decide +kernel) w h)
  exact w2g_X7_forget w h
theorem w2i_X10_forgetShares_X100 : ∀ w ∈ wsX100, w ∈ w2_X10_forgetShares := fun w h => List.mem_cons_of_mem _ (List.mem_append_right _ (List.mem_append_left _ (h)))
theorem w2i_X10_forgetShares_X7_forget : ∀ w ∈ w2_X7_forget, w ∈ w2_X10_forgetShares := fun w h => List.mem_cons_of_mem _ (List.mem_append_right _ (List.mem_append_right _ (h)))
theorem gd_X10_forgetShares_X7_forget : GoodIn w2_X10_forgetShares (wsV RX10 223 RX7 yX7_forget w2_X7_forget) := goodIn_app (goodIn_of _ (by decide +kernel)) (fun w h => ⟨w2i_X10_forgetShares_X7_forget w h, w2g_X7_forget w h⟩)
def w2t_X10_forgetFits : List Cond := [.fieldLink RX10 28 "StructureSearch" "fits" "LStructureSearch$Fits;", .methodLink RX10 220 yX2_forget, .methodLink RX10 101 yX10_forgetShares, .instanceMethod yX2_forget, .selects RX2 yX2_forget yX2_forget, .initialized RX2, .instanceMethod yX10_forgetShares, .selects RX10 yX10_forgetShares yX10_forgetShares, .initialized RX10]
def w2_X10_forgetFits : List Cond := .code yX10_forgetFits cX10_forgetFits 1 none :: (w2t_X10_forgetFits ++ (wsX100 ++ (w2_X10_forgetShares ++ (w2_X2_forget))))
set_option maxRecDepth 20000 in
theorem w2g_X10_forgetFits : ∀ w ∈ w2_X10_forgetFits, ((w.onTables && w.keeps) = true ∨ ∃ ty, w = .arrayClass ty) := by
  intro w h
  rcases List.mem_cons.mp h with rfl | h
  · exact good_of_word (by decide +kernel)
  rcases List.mem_append.mp h with h | h
  · exact good_of_word (List.all_eq_true.mp (show List.all w2t_X10_forgetFits goodWord = true by decide +kernel) w h)
  rcases List.mem_append.mp h with h | h
  · exact good_of_word (List.all_eq_true.mp (show List.all wsX100 goodWord = true by decide +kernel) w h)
  rcases List.mem_append.mp h with h | h
  · exact w2g_X10_forgetShares w h
  exact w2g_X2_forget w h
theorem w2i_X10_forgetFits_X100 : ∀ w ∈ wsX100, w ∈ w2_X10_forgetFits := fun w h => List.mem_cons_of_mem _ (List.mem_append_right _ (List.mem_append_left _ (h)))
theorem w2i_X10_forgetFits_X10_forgetShares : ∀ w ∈ w2_X10_forgetShares, w ∈ w2_X10_forgetFits := fun w h => List.mem_cons_of_mem _ (List.mem_append_right _ (List.mem_append_right _ (List.mem_append_left _ (h))))
theorem w2i_X10_forgetFits_X2_forget : ∀ w ∈ w2_X2_forget, w ∈ w2_X10_forgetFits := fun w h => List.mem_cons_of_mem _ (List.mem_append_right _ (List.mem_append_right _ (List.mem_append_right _ (h))))
theorem gd_X10_forgetFits_X2_forget : GoodIn w2_X10_forgetFits (wsV RX10 220 RX2 yX2_forget w2_X2_forget) := goodIn_app (goodIn_of _ (by decide +kernel)) (fun w h => ⟨w2i_X10_forgetFits_X2_forget w h, w2g_X2_forget w h⟩)
theorem gd_X10_forgetFits_X10_forgetShares : GoodIn w2_X10_forgetFits (wsV RX10 101 RX10 yX10_forgetShares w2_X10_forgetShares) := goodIn_app (goodIn_of _ (by decide +kernel)) (fun w h => ⟨w2i_X10_forgetFits_X10_forgetShares w h, w2g_X10_forgetShares w h⟩)
def w2t_X10_clear : List Cond := [.fieldLink RX10 12 "StructureSearch" "sheet" "LStructureSearch$Sheet;", .fieldLink RX10 54 "StructureSearch$Sheet" "rows" "I", .methodLink RX10 58 yX8_startAnew, .methodLink RX10 61 yX10_forgetFits, .instanceMethod yX8_startAnew, .selects RX8 yX8_startAnew yX8_startAnew, .initialized RX8, .instanceMethod yX10_forgetFits, .selects RX10 yX10_forgetFits yX10_forgetFits, .initialized RX10]
def w2_X10_clear : List Cond := .code yX10_clear cX10_clear 2 (some .int) :: (w2t_X10_clear ++ (wsX100 ++ (wsX80 ++ (w2_X10_forgetFits ++ (w2_X8_startAnew)))))
set_option maxRecDepth 20000 in
theorem w2g_X10_clear : ∀ w ∈ w2_X10_clear, ((w.onTables && w.keeps) = true ∨ ∃ ty, w = .arrayClass ty) := by
  intro w h
  rcases List.mem_cons.mp h with rfl | h
  · exact good_of_word (by decide +kernel)
  rcases List.mem_append.mp h with h | h
  · exact good_of_word (List.all_eq_true.mp (show List.all w2t_X10_clear goodWord = true by decide +kernel) w h)
  rcases List.mem_append.mp h with h | h
  · exact good_of_word (List.all_eq_true.mp (show List.all wsX100 goodWord = true by decide +kernel) w h)
  rcases List.mem_append.mp h with h | h
  · exact good_of_word (List.all_eq_true.mp (show List.all wsX80 goodWord = true by decide +kernel) w h)
  rcases List.mem_append.mp h with h | h
  · exact w2g_X10_forgetFits w h
  exact w2g_X8_startAnew w h
theorem w2i_X10_clear_X100 : ∀ w ∈ wsX100, w ∈ w2_X10_clear := fun w h => List.mem_cons_of_mem _ (List.mem_append_right _ (List.mem_append_left _ (h)))
theorem w2i_X10_clear_X80 : ∀ w ∈ wsX80, w ∈ w2_X10_clear := fun w h => List.mem_cons_of_mem _ (List.mem_append_right _ (List.mem_append_right _ (List.mem_append_left _ (h))))
theorem w2i_X10_clear_X10_forgetFits : ∀ w ∈ w2_X10_forgetFits, w ∈ w2_X10_clear := fun w h => List.mem_cons_of_mem _ (List.mem_append_right _ (List.mem_append_right _ (List.mem_append_right _ (List.mem_append_left _ (h)))))
theorem w2i_X10_clear_X8_startAnew : ∀ w ∈ w2_X8_startAnew, w ∈ w2_X10_clear := fun w h => List.mem_cons_of_mem _ (List.mem_append_right _ (List.mem_append_right _ (List.mem_append_right _ (List.mem_append_right _ (h)))))
theorem gd_X10_clear_X8_startAnew : GoodIn w2_X10_clear (wsV RX10 58 RX8 yX8_startAnew w2_X8_startAnew) := goodIn_app (goodIn_of _ (by decide +kernel)) (fun w h => ⟨w2i_X10_clear_X8_startAnew w h, w2g_X8_startAnew w h⟩)
theorem gd_X10_clear_X10_forgetFits : GoodIn w2_X10_clear (wsV RX10 61 RX10 yX10_forgetFits w2_X10_forgetFits) := goodIn_app (goodIn_of _ (by decide +kernel)) (fun w h => ⟨w2i_X10_clear_X10_forgetFits w h, w2g_X10_forgetFits w h⟩)
def w2t_X10_name : List Cond := [.fieldLink RX10 12 "StructureSearch" "sheet" "LStructureSearch$Sheet;", .fieldLink RX10 54 "StructureSearch$Sheet" "rows" "I", .fieldLink RX10 64 "StructureSearch$Sheet" "names" "I", .methodLink RX10 61 yX10_forgetFits, .methodLink RX10 67 yX8_addName, .instanceMethod yX10_forgetFits, .selects RX10 yX10_forgetFits yX10_forgetFits, .initialized RX10, .instanceMethod yX8_addName, .selects RX8 yX8_addName yX8_addName, .initialized RX8]
def w2_X10_name : List Cond := .code yX10_name cX10_name 2 (some .int) :: (w2t_X10_name ++ (wsX100 ++ (wsX80 ++ (w2_X10_forgetFits ++ (w2_X8_addName)))))
set_option maxRecDepth 20000 in
theorem w2g_X10_name : ∀ w ∈ w2_X10_name, ((w.onTables && w.keeps) = true ∨ ∃ ty, w = .arrayClass ty) := by
  intro w h
  rcases List.mem_cons.mp h with rfl | h
  · exact good_of_word (by decide +kernel)
  rcases List.mem_append.mp h with h | h
  · exact good_of_word (List.all_eq_true.mp (show List.all w2t_X10_name goodWord = true by decide +kernel) w h)
  rcases List.mem_append.mp h with h | h
  · exact good_of_word (List.all_eq_true.mp (show List.all wsX100 goodWord = true by decide +kernel) w h)
  rcases List.mem_append.mp h with h | h
  · exact good_of_word (List.all_eq_true.mp (show List.all wsX80 goodWord = true by decide +kernel) w h)
  rcases List.mem_append.mp h with h | h
  · exact w2g_X10_forgetFits w h
  exact w2g_X8_addName w h
theorem w2i_X10_name_X100 : ∀ w ∈ wsX100, w ∈ w2_X10_name := fun w h => List.mem_cons_of_mem _ (List.mem_append_right _ (List.mem_append_left _ (h)))
theorem w2i_X10_name_X80 : ∀ w ∈ wsX80, w ∈ w2_X10_name := fun w h => List.mem_cons_of_mem _ (List.mem_append_right _ (List.mem_append_right _ (List.mem_append_left _ (h))))
theorem w2i_X10_name_X10_forgetFits : ∀ w ∈ w2_X10_forgetFits, w ∈ w2_X10_name := fun w h => List.mem_cons_of_mem _ (List.mem_append_right _ (List.mem_append_right _ (List.mem_append_right _ (List.mem_append_left _ (h)))))
theorem w2i_X10_name_X8_addName : ∀ w ∈ w2_X8_addName, w ∈ w2_X10_name := fun w h => List.mem_cons_of_mem _ (List.mem_append_right _ (List.mem_append_right _ (List.mem_append_right _ (List.mem_append_right _ (h)))))
theorem gd_X10_name_X10_forgetFits : GoodIn w2_X10_name (wsV RX10 61 RX10 yX10_forgetFits w2_X10_forgetFits) := goodIn_app (goodIn_of _ (by decide +kernel)) (fun w h => ⟨w2i_X10_name_X10_forgetFits w h, w2g_X10_forgetFits w h⟩)
theorem gd_X10_name_X8_addName : GoodIn w2_X10_name (wsV RX10 67 RX8 yX8_addName w2_X8_addName) := goodIn_app (goodIn_of _ (by decide +kernel)) (fun w h => ⟨w2i_X10_name_X8_addName w h, w2g_X8_addName w h⟩)
def w2t_X10_isName : List Cond := [.fieldLink RX10 12 "StructureSearch" "sheet" "LStructureSearch$Sheet;", .fieldLink RX10 64 "StructureSearch$Sheet" "names" "I"]
def w2_X10_isName : List Cond := .code yX10_isName cX10_isName 2 (some .boolean) :: (w2t_X10_isName ++ (wsX100 ++ (wsX80)))
set_option maxRecDepth 20000 in
theorem w2g_X10_isName : ∀ w ∈ w2_X10_isName, ((w.onTables && w.keeps) = true ∨ ∃ ty, w = .arrayClass ty) := by
  intro w h
  rcases List.mem_cons.mp h with rfl | h
  · exact good_of_word (by decide +kernel)
  rcases List.mem_append.mp h with h | h
  · exact good_of_word (List.all_eq_true.mp (show List.all w2t_X10_isName goodWord = true by decide +kernel) w h)
  rcases List.mem_append.mp h with h | h
  · exact good_of_word (List.all_eq_true.mp (show List.all wsX100 goodWord = true by decide +kernel) w h)
  exact good_of_word (List.all_eq_true.mp (show List.all wsX80 goodWord = true by decide +kernel) w h)
theorem w2i_X10_isName_X100 : ∀ w ∈ wsX100, w ∈ w2_X10_isName := fun w h => List.mem_cons_of_mem _ (List.mem_append_right _ (List.mem_append_left _ (h)))
theorem w2i_X10_isName_X80 : ∀ w ∈ wsX80, w ∈ w2_X10_isName := fun w h => List.mem_cons_of_mem _ (List.mem_append_right _ (List.mem_append_right _ (h)))
def w2t_X10_coded : List Cond := [.methodLink RX10 89 yX10_isName, .instanceMethod yX10_isName, .selects RX10 yX10_isName yX10_isName, .initialized RX10]
def w2_X10_coded : List Cond := .code yX10_coded cX10_coded 3 (some .int) :: (w2t_X10_coded ++ (w2_X10_isName))
set_option maxRecDepth 20000 in
theorem w2g_X10_coded : ∀ w ∈ w2_X10_coded, ((w.onTables && w.keeps) = true ∨ ∃ ty, w = .arrayClass ty) := by
  intro w h
  rcases List.mem_cons.mp h with rfl | h
  · exact good_of_word (by decide +kernel)
  rcases List.mem_append.mp h with h | h
  · exact good_of_word (List.all_eq_true.mp (show List.all w2t_X10_coded goodWord = true by decide +kernel) w h)
  exact w2g_X10_isName w h
theorem w2i_X10_coded_X10_isName : ∀ w ∈ w2_X10_isName, w ∈ w2_X10_coded := fun w h => List.mem_cons_of_mem _ (List.mem_append_right _ (h))
theorem gd_X10_coded_X10_isName : GoodIn w2_X10_coded (wsV RX10 89 RX10 yX10_isName w2_X10_isName) := goodIn_app (goodIn_of _ (by decide +kernel)) (fun w h => ⟨w2i_X10_coded_X10_isName w h, w2g_X10_isName w h⟩)
def w2t_X10_isValue : List Cond := [.fieldLink RX10 12 "StructureSearch" "sheet" "LStructureSearch$Sheet;", .methodLink RX10 104 yX8_valuesOf, .instanceMethod yX8_valuesOf, .selects RX8 yX8_valuesOf yX8_valuesOf, .initialized RX8]
def w2_X10_isValue : List Cond := .code yX10_isValue cX10_isValue 3 (some .boolean) :: (w2t_X10_isValue ++ (wsX100 ++ (w2_X8_valuesOf)))
set_option maxRecDepth 20000 in
theorem w2g_X10_isValue : ∀ w ∈ w2_X10_isValue, ((w.onTables && w.keeps) = true ∨ ∃ ty, w = .arrayClass ty) := by
  intro w h
  rcases List.mem_cons.mp h with rfl | h
  · exact good_of_word (by decide +kernel)
  rcases List.mem_append.mp h with h | h
  · exact good_of_word (List.all_eq_true.mp (show List.all w2t_X10_isValue goodWord = true by decide +kernel) w h)
  rcases List.mem_append.mp h with h | h
  · exact good_of_word (List.all_eq_true.mp (show List.all wsX100 goodWord = true by decide +kernel) w h)
  exact w2g_X8_valuesOf w h
theorem w2i_X10_isValue_X100 : ∀ w ∈ wsX100, w ∈ w2_X10_isValue := fun w h => List.mem_cons_of_mem _ (List.mem_append_right _ (List.mem_append_left _ (h)))
theorem w2i_X10_isValue_X8_valuesOf : ∀ w ∈ w2_X8_valuesOf, w ∈ w2_X10_isValue := fun w h => List.mem_cons_of_mem _ (List.mem_append_right _ (List.mem_append_right _ (h)))
theorem gd_X10_isValue_X8_valuesOf : GoodIn w2_X10_isValue (wsV RX10 104 RX8 yX8_valuesOf w2_X8_valuesOf) := goodIn_app (goodIn_of _ (by decide +kernel)) (fun w h => ⟨w2i_X10_isValue_X8_valuesOf w h, w2g_X8_valuesOf w h⟩)
def w2t_X10_fitsName : List Cond := [.methodLink RX10 89 yX10_isName, .methodLink RX10 203 yX10_isValue, .instanceMethod yX10_isName, .selects RX10 yX10_isName yX10_isName, .initialized RX10, .instanceMethod yX10_isValue, .selects RX10 yX10_isValue yX10_isValue]
def w2_X10_fitsName : List Cond := .code yX10_fitsName cX10_fitsName 3 (some .boolean) :: (w2t_X10_fitsName ++ (w2_X10_isName ++ (w2_X10_isValue)))
set_option maxRecDepth 20000 in
theorem w2g_X10_fitsName : ∀ w ∈ w2_X10_fitsName, ((w.onTables && w.keeps) = true ∨ ∃ ty, w = .arrayClass ty) := by
  intro w h
  rcases List.mem_cons.mp h with rfl | h
  · exact good_of_word (by decide +kernel)
  rcases List.mem_append.mp h with h | h
  · exact good_of_word (List.all_eq_true.mp (show List.all w2t_X10_fitsName goodWord = true by decide +kernel) w h)
  rcases List.mem_append.mp h with h | h
  · exact w2g_X10_isName w h
  exact w2g_X10_isValue w h
theorem w2i_X10_fitsName_X10_isName : ∀ w ∈ w2_X10_isName, w ∈ w2_X10_fitsName := fun w h => List.mem_cons_of_mem _ (List.mem_append_right _ (List.mem_append_left _ (h)))
theorem w2i_X10_fitsName_X10_isValue : ∀ w ∈ w2_X10_isValue, w ∈ w2_X10_fitsName := fun w h => List.mem_cons_of_mem _ (List.mem_append_right _ (List.mem_append_right _ (h)))
theorem gd_X10_fitsName_X10_isName : GoodIn w2_X10_fitsName (wsV RX10 89 RX10 yX10_isName w2_X10_isName) := goodIn_app (goodIn_of _ (by decide +kernel)) (fun w h => ⟨w2i_X10_fitsName_X10_isName w h, w2g_X10_isName w h⟩)
theorem gd_X10_fitsName_X10_isValue : GoodIn w2_X10_fitsName (wsV RX10 203 RX10 yX10_isValue w2_X10_isValue) := goodIn_app (goodIn_of _ (by decide +kernel)) (fun w h => ⟨w2i_X10_fitsName_X10_isValue w h, w2g_X10_isValue w h⟩)
def w2t_X10_row : List Cond := [.fieldLink RX10 12 "StructureSearch" "sheet" "LStructureSearch$Sheet;", .fieldLink RX10 64 "StructureSearch$Sheet" "names" "I", .fieldLink RX10 54 "StructureSearch$Sheet" "rows" "I", .methodLink RX10 71 yX10_fitsName, .methodLink RX10 61 yX10_forgetFits, .methodLink RX10 75 yX10_coded, .methodLink RX10 79 yX8_addRow, .instanceMethod yX10_fitsName, .selects RX10 yX10_fitsName yX10_fitsName, .initialized RX10, .initialized RX8, .instanceMethod yX10_forgetFits, .selects RX10 yX10_forgetFits yX10_forgetFits, .instanceMethod yX10_coded, .selects RX10 yX10_coded yX10_coded, .instanceMethod yX8_addRow, .selects RX8 yX8_addRow yX8_addRow]
def w2_X10_row : List Cond := .code yX10_row cX10_row 7 (some .int) :: (w2t_X10_row ++ (wsX100 ++ (wsX80 ++ (w2_X10_coded ++ (w2_X10_fitsName ++ (w2_X10_forgetFits ++ (w2_X8_addRow)))))))
set_option maxRecDepth 20000 in
theorem w2g_X10_row : ∀ w ∈ w2_X10_row, ((w.onTables && w.keeps) = true ∨ ∃ ty, w = .arrayClass ty) := by
  intro w h
  rcases List.mem_cons.mp h with rfl | h
  · exact good_of_word (by decide +kernel)
  rcases List.mem_append.mp h with h | h
  · exact good_of_word (List.all_eq_true.mp (show List.all w2t_X10_row goodWord = true by decide +kernel) w h)
  rcases List.mem_append.mp h with h | h
  · exact good_of_word (List.all_eq_true.mp (show List.all wsX100 goodWord = true by decide +kernel) w h)
  rcases List.mem_append.mp h with h | h
  · exact good_of_word (List.all_eq_true.mp (show List.all wsX80 goodWord = true by decide +kernel) w h)
  rcases List.mem_append.mp h with h | h
  · exact w2g_X10_coded w h
  rcases List.mem_append.mp h with h | h
  · exact w2g_X10_fitsName w h
  rcases List.mem_append.mp h with h | h
  · exact w2g_X10_forgetFits w h
  exact w2g_X8_addRow w h
theorem w2i_X10_row_X100 : ∀ w ∈ wsX100, w ∈ w2_X10_row := fun w h => List.mem_cons_of_mem _ (List.mem_append_right _ (List.mem_append_left _ (h)))
theorem w2i_X10_row_X80 : ∀ w ∈ wsX80, w ∈ w2_X10_row := fun w h => List.mem_cons_of_mem _ (List.mem_append_right _ (List.mem_append_right _ (List.mem_append_left _ (h))))
theorem w2i_X10_row_X10_coded : ∀ w ∈ w2_X10_coded, w ∈ w2_X10_row := fun w h => List.mem_cons_of_mem _ (List.mem_append_right _ (List.mem_append_right _ (List.mem_append_right _ (List.mem_append_left _ (h)))))
theorem w2i_X10_row_X10_fitsName : ∀ w ∈ w2_X10_fitsName, w ∈ w2_X10_row := fun w h => List.mem_cons_of_mem _ (List.mem_append_right _ (List.mem_append_right _ (List.mem_append_right _ (List.mem_append_right _ (List.mem_append_left _ (h))))))
theorem w2i_X10_row_X10_forgetFits : ∀ w ∈ w2_X10_forgetFits, w ∈ w2_X10_row := fun w h => List.mem_cons_of_mem _ (List.mem_append_right _ (List.mem_append_right _ (List.mem_append_right _ (List.mem_append_right _ (List.mem_append_right _ (List.mem_append_left _ (h)))))))
theorem w2i_X10_row_X8_addRow : ∀ w ∈ w2_X8_addRow, w ∈ w2_X10_row := fun w h => List.mem_cons_of_mem _ (List.mem_append_right _ (List.mem_append_right _ (List.mem_append_right _ (List.mem_append_right _ (List.mem_append_right _ (List.mem_append_right _ (h)))))))
theorem gd_X10_row_X10_fitsName : GoodIn w2_X10_row (wsV RX10 71 RX10 yX10_fitsName w2_X10_fitsName) := goodIn_app (goodIn_of _ (by decide +kernel)) (fun w h => ⟨w2i_X10_row_X10_fitsName w h, w2g_X10_fitsName w h⟩)
theorem gd_X10_row_X10_forgetFits : GoodIn w2_X10_row (wsV RX10 61 RX10 yX10_forgetFits w2_X10_forgetFits) := goodIn_app (goodIn_of _ (by decide +kernel)) (fun w h => ⟨w2i_X10_row_X10_forgetFits w h, w2g_X10_forgetFits w h⟩)
theorem gd_X10_row_X10_coded : GoodIn w2_X10_row (wsV RX10 75 RX10 yX10_coded w2_X10_coded) := goodIn_app (goodIn_of _ (by decide +kernel)) (fun w h => ⟨w2i_X10_row_X10_coded w h, w2g_X10_coded w h⟩)
theorem gd_X10_row_X8_addRow : GoodIn w2_X10_row (wsV RX10 79 RX8 yX8_addRow w2_X8_addRow) := goodIn_app (goodIn_of _ (by decide +kernel)) (fun w h => ⟨w2i_X10_row_X8_addRow w h, w2g_X8_addRow w h⟩)
def w2t_X10_isRow : List Cond := [.fieldLink RX10 12 "StructureSearch" "sheet" "LStructureSearch$Sheet;", .fieldLink RX10 54 "StructureSearch$Sheet" "rows" "I"]
def w2_X10_isRow : List Cond := .code yX10_isRow cX10_isRow 2 (some .boolean) :: (w2t_X10_isRow ++ (wsX100 ++ (wsX80)))
set_option maxRecDepth 20000 in
theorem w2g_X10_isRow : ∀ w ∈ w2_X10_isRow, ((w.onTables && w.keeps) = true ∨ ∃ ty, w = .arrayClass ty) := by
  intro w h
  rcases List.mem_cons.mp h with rfl | h
  · exact good_of_word (by decide +kernel)
  rcases List.mem_append.mp h with h | h
  · exact good_of_word (List.all_eq_true.mp (show List.all w2t_X10_isRow goodWord = true by decide +kernel) w h)
  rcases List.mem_append.mp h with h | h
  · exact good_of_word (List.all_eq_true.mp (show List.all wsX100 goodWord = true by decide +kernel) w h)
  exact good_of_word (List.all_eq_true.mp (show List.all wsX80 goodWord = true by decide +kernel) w h)
theorem w2i_X10_isRow_X100 : ∀ w ∈ wsX100, w ∈ w2_X10_isRow := fun w h => List.mem_cons_of_mem _ (List.mem_append_right _ (List.mem_append_left _ (h)))
theorem w2i_X10_isRow_X80 : ∀ w ∈ wsX80, w ∈ w2_X10_isRow := fun w h => List.mem_cons_of_mem _ (List.mem_append_right _ (List.mem_append_right _ (h)))
def w2t_X10_drop : List Cond := [.fieldLink RX10 12 "StructureSearch" "sheet" "LStructureSearch$Sheet;", .methodLink RX10 82 yX10_isRow, .methodLink RX10 61 yX10_forgetFits, .methodLink RX10 86 yX8_removeRow, .instanceMethod yX10_isRow, .selects RX10 yX10_isRow yX10_isRow, .initialized RX10, .instanceMethod yX10_forgetFits, .selects RX10 yX10_forgetFits yX10_forgetFits, .instanceMethod yX8_removeRow, .selects RX8 yX8_removeRow yX8_removeRow, .initialized RX8]
def w2_X10_drop : List Cond := .code yX10_drop cX10_drop 2 (some .int) :: (w2t_X10_drop ++ (wsX100 ++ (w2_X10_forgetFits ++ (w2_X10_isRow ++ (w2_X8_removeRow)))))
set_option maxRecDepth 20000 in
theorem w2g_X10_drop : ∀ w ∈ w2_X10_drop, ((w.onTables && w.keeps) = true ∨ ∃ ty, w = .arrayClass ty) := by
  intro w h
  rcases List.mem_cons.mp h with rfl | h
  · exact good_of_word (by decide +kernel)
  rcases List.mem_append.mp h with h | h
  · exact good_of_word (List.all_eq_true.mp (show List.all w2t_X10_drop goodWord = true by decide +kernel) w h)
  rcases List.mem_append.mp h with h | h
  · exact good_of_word (List.all_eq_true.mp (show List.all wsX100 goodWord = true by decide +kernel) w h)
  rcases List.mem_append.mp h with h | h
  · exact w2g_X10_forgetFits w h
  rcases List.mem_append.mp h with h | h
  · exact w2g_X10_isRow w h
  exact w2g_X8_removeRow w h
theorem w2i_X10_drop_X100 : ∀ w ∈ wsX100, w ∈ w2_X10_drop := fun w h => List.mem_cons_of_mem _ (List.mem_append_right _ (List.mem_append_left _ (h)))
theorem w2i_X10_drop_X10_forgetFits : ∀ w ∈ w2_X10_forgetFits, w ∈ w2_X10_drop := fun w h => List.mem_cons_of_mem _ (List.mem_append_right _ (List.mem_append_right _ (List.mem_append_left _ (h))))
theorem w2i_X10_drop_X10_isRow : ∀ w ∈ w2_X10_isRow, w ∈ w2_X10_drop := fun w h => List.mem_cons_of_mem _ (List.mem_append_right _ (List.mem_append_right _ (List.mem_append_right _ (List.mem_append_left _ (h)))))
theorem w2i_X10_drop_X8_removeRow : ∀ w ∈ w2_X8_removeRow, w ∈ w2_X10_drop := fun w h => List.mem_cons_of_mem _ (List.mem_append_right _ (List.mem_append_right _ (List.mem_append_right _ (List.mem_append_right _ (h)))))
theorem gd_X10_drop_X10_isRow : GoodIn w2_X10_drop (wsV RX10 82 RX10 yX10_isRow w2_X10_isRow) := goodIn_app (goodIn_of _ (by decide +kernel)) (fun w h => ⟨w2i_X10_drop_X10_isRow w h, w2g_X10_isRow w h⟩)
theorem gd_X10_drop_X10_forgetFits : GoodIn w2_X10_drop (wsV RX10 61 RX10 yX10_forgetFits w2_X10_forgetFits) := goodIn_app (goodIn_of _ (by decide +kernel)) (fun w h => ⟨w2i_X10_drop_X10_forgetFits w h, w2g_X10_forgetFits w h⟩)
theorem gd_X10_drop_X8_removeRow : GoodIn w2_X10_drop (wsV RX10 86 RX8 yX8_removeRow w2_X8_removeRow) := goodIn_app (goodIn_of _ (by decide +kernel)) (fun w h => ⟨w2i_X10_drop_X8_removeRow w h, w2g_X8_removeRow w h⟩)
def w2t_X10_value : List Cond := [.fieldLink RX10 12 "StructureSearch" "sheet" "LStructureSearch$Sheet;", .methodLink RX10 82 yX10_isRow, .methodLink RX10 89 yX10_isName, .methodLink RX10 92 yX8_valueIn, .instanceMethod yX10_isRow, .selects RX10 yX10_isRow yX10_isRow, .initialized RX10, .instanceMethod yX10_isName, .selects RX10 yX10_isName yX10_isName, .instanceMethod yX8_valueIn, .selects RX8 yX8_valueIn yX8_valueIn, .initialized RX8]
def w2_X10_value : List Cond := .code yX10_value cX10_value 3 (some .int) :: (w2t_X10_value ++ (wsX100 ++ (w2_X10_isName ++ (w2_X10_isRow ++ (w2_X8_valueIn)))))
set_option maxRecDepth 20000 in
theorem w2g_X10_value : ∀ w ∈ w2_X10_value, ((w.onTables && w.keeps) = true ∨ ∃ ty, w = .arrayClass ty) := by
  intro w h
  rcases List.mem_cons.mp h with rfl | h
  · exact good_of_word (by decide +kernel)
  rcases List.mem_append.mp h with h | h
  · exact good_of_word (List.all_eq_true.mp (show List.all w2t_X10_value goodWord = true by decide +kernel) w h)
  rcases List.mem_append.mp h with h | h
  · exact good_of_word (List.all_eq_true.mp (show List.all wsX100 goodWord = true by decide +kernel) w h)
  rcases List.mem_append.mp h with h | h
  · exact w2g_X10_isName w h
  rcases List.mem_append.mp h with h | h
  · exact w2g_X10_isRow w h
  exact w2g_X8_valueIn w h
theorem w2i_X10_value_X100 : ∀ w ∈ wsX100, w ∈ w2_X10_value := fun w h => List.mem_cons_of_mem _ (List.mem_append_right _ (List.mem_append_left _ (h)))
theorem w2i_X10_value_X10_isName : ∀ w ∈ w2_X10_isName, w ∈ w2_X10_value := fun w h => List.mem_cons_of_mem _ (List.mem_append_right _ (List.mem_append_right _ (List.mem_append_left _ (h))))
theorem w2i_X10_value_X10_isRow : ∀ w ∈ w2_X10_isRow, w ∈ w2_X10_value := fun w h => List.mem_cons_of_mem _ (List.mem_append_right _ (List.mem_append_right _ (List.mem_append_right _ (List.mem_append_left _ (h)))))
theorem w2i_X10_value_X8_valueIn : ∀ w ∈ w2_X8_valueIn, w ∈ w2_X10_value := fun w h => List.mem_cons_of_mem _ (List.mem_append_right _ (List.mem_append_right _ (List.mem_append_right _ (List.mem_append_right _ (h)))))
theorem gd_X10_value_X10_isRow : GoodIn w2_X10_value (wsV RX10 82 RX10 yX10_isRow w2_X10_isRow) := goodIn_app (goodIn_of _ (by decide +kernel)) (fun w h => ⟨w2i_X10_value_X10_isRow w h, w2g_X10_isRow w h⟩)
theorem gd_X10_value_X10_isName : GoodIn w2_X10_value (wsV RX10 89 RX10 yX10_isName w2_X10_isName) := goodIn_app (goodIn_of _ (by decide +kernel)) (fun w h => ⟨w2i_X10_value_X10_isName w h, w2g_X10_isName w h⟩)
theorem gd_X10_value_X8_valueIn : GoodIn w2_X10_value (wsV RX10 92 RX8 yX8_valueIn w2_X8_valueIn) := goodIn_app (goodIn_of _ (by decide +kernel)) (fun w h => ⟨w2i_X10_value_X8_valueIn w h, w2g_X8_valueIn w h⟩)
def w2t_X10_set : List Cond := [.fieldLink RX10 12 "StructureSearch" "sheet" "LStructureSearch$Sheet;", .fieldLink RX10 95 "StructureSearch$Sheet" "strength" "I", .fieldLink RX10 98 "StructureSearch$Sheet" "most" "I", .methodLink RX10 61 yX10_forgetFits, .methodLink RX10 101 yX10_forgetShares, .instanceMethod yX10_forgetFits, .selects RX10 yX10_forgetFits yX10_forgetFits, .initialized RX10, .instanceMethod yX10_forgetShares, .selects RX10 yX10_forgetShares yX10_forgetShares]
def w2_X10_set : List Cond := .code yX10_set cX10_set 4 (some .int) :: (w2t_X10_set ++ (wsX100 ++ (wsX80 ++ (w2_X10_forgetFits ++ (w2_X10_forgetShares)))))
set_option maxRecDepth 20000 in
theorem w2g_X10_set : ∀ w ∈ w2_X10_set, ((w.onTables && w.keeps) = true ∨ ∃ ty, w = .arrayClass ty) := by
  intro w h
  rcases List.mem_cons.mp h with rfl | h
  · exact good_of_word (by decide +kernel)
  rcases List.mem_append.mp h with h | h
  · exact good_of_word (List.all_eq_true.mp (show List.all w2t_X10_set goodWord = true by decide +kernel) w h)
  rcases List.mem_append.mp h with h | h
  · exact good_of_word (List.all_eq_true.mp (show List.all wsX100 goodWord = true by decide +kernel) w h)
  rcases List.mem_append.mp h with h | h
  · exact good_of_word (List.all_eq_true.mp (show List.all wsX80 goodWord = true by decide +kernel) w h)
  rcases List.mem_append.mp h with h | h
  · exact w2g_X10_forgetFits w h
  exact w2g_X10_forgetShares w h
theorem w2i_X10_set_X100 : ∀ w ∈ wsX100, w ∈ w2_X10_set := fun w h => List.mem_cons_of_mem _ (List.mem_append_right _ (List.mem_append_left _ (h)))
theorem w2i_X10_set_X80 : ∀ w ∈ wsX80, w ∈ w2_X10_set := fun w h => List.mem_cons_of_mem _ (List.mem_append_right _ (List.mem_append_right _ (List.mem_append_left _ (h))))
theorem w2i_X10_set_X10_forgetFits : ∀ w ∈ w2_X10_forgetFits, w ∈ w2_X10_set := fun w h => List.mem_cons_of_mem _ (List.mem_append_right _ (List.mem_append_right _ (List.mem_append_right _ (List.mem_append_left _ (h)))))
theorem w2i_X10_set_X10_forgetShares : ∀ w ∈ w2_X10_forgetShares, w ∈ w2_X10_set := fun w h => List.mem_cons_of_mem _ (List.mem_append_right _ (List.mem_append_right _ (List.mem_append_right _ (List.mem_append_right _ (h)))))
theorem gd_X10_set_X10_forgetFits : GoodIn w2_X10_set (wsV RX10 61 RX10 yX10_forgetFits w2_X10_forgetFits) := goodIn_app (goodIn_of _ (by decide +kernel)) (fun w h => ⟨w2i_X10_set_X10_forgetFits w h, w2g_X10_forgetFits w h⟩)
theorem gd_X10_set_X10_forgetShares : GoodIn w2_X10_set (wsV RX10 101 RX10 yX10_forgetShares w2_X10_forgetShares) := goodIn_app (goodIn_of _ (by decide +kernel)) (fun w h => ⟨w2i_X10_set_X10_forgetShares w h, w2g_X10_forgetShares w h⟩)
def w2t_X10_about : List Cond := [.fieldLink RX10 12 "StructureSearch" "sheet" "LStructureSearch$Sheet;", .fieldLink RX10 64 "StructureSearch$Sheet" "names" "I", .fieldLink RX10 54 "StructureSearch$Sheet" "rows" "I", .fieldLink RX10 95 "StructureSearch$Sheet" "strength" "I", .fieldLink RX10 98 "StructureSearch$Sheet" "most" "I", .methodLink RX10 89 yX10_isName, .methodLink RX10 104 yX8_valuesOf, .instanceMethod yX10_isName, .selects RX10 yX10_isName yX10_isName, .initialized RX10, .instanceMethod yX8_valuesOf, .selects RX8 yX8_valuesOf yX8_valuesOf, .initialized RX8]
def w2_X10_about : List Cond := .code yX10_about cX10_about 2 (some .int) :: (w2t_X10_about ++ (wsX100 ++ (wsX80 ++ (w2_X10_isName ++ (w2_X8_valuesOf)))))
set_option maxRecDepth 20000 in
theorem w2g_X10_about : ∀ w ∈ w2_X10_about, ((w.onTables && w.keeps) = true ∨ ∃ ty, w = .arrayClass ty) := by
  intro w h
  rcases List.mem_cons.mp h with rfl | h
  · exact good_of_word (by decide +kernel)
  rcases List.mem_append.mp h with h | h
  · exact good_of_word (List.all_eq_true.mp (show List.all w2t_X10_about goodWord = true by decide +kernel) w h)
  rcases List.mem_append.mp h with h | h
  · exact good_of_word (List.all_eq_true.mp (show List.all wsX100 goodWord = true by decide +kernel) w h)
  rcases List.mem_append.mp h with h | h
  · exact good_of_word (List.all_eq_true.mp (show List.all wsX80 goodWord = true by decide +kernel) w h)
  rcases List.mem_append.mp h with h | h
  · exact w2g_X10_isName w h
  exact w2g_X8_valuesOf w h
theorem w2i_X10_about_X100 : ∀ w ∈ wsX100, w ∈ w2_X10_about := fun w h => List.mem_cons_of_mem _ (List.mem_append_right _ (List.mem_append_left _ (h)))
theorem w2i_X10_about_X80 : ∀ w ∈ wsX80, w ∈ w2_X10_about := fun w h => List.mem_cons_of_mem _ (List.mem_append_right _ (List.mem_append_right _ (List.mem_append_left _ (h))))
theorem w2i_X10_about_X10_isName : ∀ w ∈ w2_X10_isName, w ∈ w2_X10_about := fun w h => List.mem_cons_of_mem _ (List.mem_append_right _ (List.mem_append_right _ (List.mem_append_right _ (List.mem_append_left _ (h)))))
theorem w2i_X10_about_X8_valuesOf : ∀ w ∈ w2_X8_valuesOf, w ∈ w2_X10_about := fun w h => List.mem_cons_of_mem _ (List.mem_append_right _ (List.mem_append_right _ (List.mem_append_right _ (List.mem_append_right _ (h)))))
theorem gd_X10_about_X10_isName : GoodIn w2_X10_about (wsV RX10 89 RX10 yX10_isName w2_X10_isName) := goodIn_app (goodIn_of _ (by decide +kernel)) (fun w h => ⟨w2i_X10_about_X10_isName w h, w2g_X10_isName w h⟩)
theorem gd_X10_about_X8_valuesOf : GoodIn w2_X10_about (wsV RX10 104 RX8 yX8_valuesOf w2_X8_valuesOf) := goodIn_app (goodIn_of _ (by decide +kernel)) (fun w h => ⟨w2i_X10_about_X8_valuesOf w h, w2g_X8_valuesOf w h⟩)
def w2t_X10_isGraph : List Cond := [.fieldLink RX10 12 "StructureSearch" "sheet" "LStructureSearch$Sheet;", .fieldLink RX10 64 "StructureSearch$Sheet" "names" "I", .methodLink RX10 107 yX0_areGraph, .static yX0_areGraph, .initialized RX0]
def w2_X10_isGraph : List Cond := .code yX10_isGraph cX10_isGraph 2 (some .boolean) :: (w2t_X10_isGraph ++ (wsX100 ++ (wsX80 ++ (w2_X0_areGraph))))
set_option maxRecDepth 20000 in
theorem w2g_X10_isGraph : ∀ w ∈ w2_X10_isGraph, ((w.onTables && w.keeps) = true ∨ ∃ ty, w = .arrayClass ty) := by
  intro w h
  rcases List.mem_cons.mp h with rfl | h
  · exact good_of_word (by decide +kernel)
  rcases List.mem_append.mp h with h | h
  · exact good_of_word (List.all_eq_true.mp (show List.all w2t_X10_isGraph goodWord = true by decide +kernel) w h)
  rcases List.mem_append.mp h with h | h
  · exact good_of_word (List.all_eq_true.mp (show List.all wsX100 goodWord = true by decide +kernel) w h)
  rcases List.mem_append.mp h with h | h
  · exact good_of_word (List.all_eq_true.mp (show List.all wsX80 goodWord = true by decide +kernel) w h)
  exact w2g_X0_areGraph w h
theorem w2i_X10_isGraph_X100 : ∀ w ∈ wsX100, w ∈ w2_X10_isGraph := fun w h => List.mem_cons_of_mem _ (List.mem_append_right _ (List.mem_append_left _ (h)))
theorem w2i_X10_isGraph_X80 : ∀ w ∈ wsX80, w ∈ w2_X10_isGraph := fun w h => List.mem_cons_of_mem _ (List.mem_append_right _ (List.mem_append_right _ (List.mem_append_left _ (h))))
theorem w2i_X10_isGraph_X0_areGraph : ∀ w ∈ w2_X0_areGraph, w ∈ w2_X10_isGraph := fun w h => List.mem_cons_of_mem _ (List.mem_append_right _ (List.mem_append_right _ (List.mem_append_right _ (h))))
theorem gd_X10_isGraph_X0_areGraph : GoodIn w2_X10_isGraph (va_wsS RX10 107 yX0_areGraph w2_X0_areGraph) := goodIn_app (goodIn_of _ (by decide +kernel)) (fun w h => ⟨w2i_X10_isGraph_X0_areGraph w h, w2g_X0_areGraph w h⟩)
def w2t_X10_order : List Cond := [.fieldLink RX10 12 "StructureSearch" "sheet" "LStructureSearch$Sheet;", .fieldLink RX10 64 "StructureSearch$Sheet" "names" "I", .methodLink RX10 112 yX10_isGraph, .methodLink RX10 89 yX10_isName, .methodLink RX10 115 yX0_nextAfter, .instanceMethod yX10_isGraph, .selects RX10 yX10_isGraph yX10_isGraph, .initialized RX10, .initialized RX0, .static yX0_nextAfter, .instanceMethod yX10_isName, .selects RX10 yX10_isName yX10_isName]
def w2_X10_order : List Cond := .code yX10_order cX10_order 6 (some .int) :: (w2t_X10_order ++ (wsX100 ++ (wsX80 ++ (w2_X0_nextAfter ++ (w2_X10_isGraph ++ (w2_X10_isName))))))
set_option maxRecDepth 20000 in
theorem w2g_X10_order : ∀ w ∈ w2_X10_order, ((w.onTables && w.keeps) = true ∨ ∃ ty, w = .arrayClass ty) := by
  intro w h
  rcases List.mem_cons.mp h with rfl | h
  · exact good_of_word (by decide +kernel)
  rcases List.mem_append.mp h with h | h
  · exact good_of_word (List.all_eq_true.mp (show List.all w2t_X10_order goodWord = true by decide +kernel) w h)
  rcases List.mem_append.mp h with h | h
  · exact good_of_word (List.all_eq_true.mp (show List.all wsX100 goodWord = true by decide +kernel) w h)
  rcases List.mem_append.mp h with h | h
  · exact good_of_word (List.all_eq_true.mp (show List.all wsX80 goodWord = true by decide +kernel) w h)
  rcases List.mem_append.mp h with h | h
  · exact w2g_X0_nextAfter w h
  rcases List.mem_append.mp h with h | h
  · exact w2g_X10_isGraph w h
  exact w2g_X10_isName w h
theorem w2i_X10_order_X100 : ∀ w ∈ wsX100, w ∈ w2_X10_order := fun w h => List.mem_cons_of_mem _ (List.mem_append_right _ (List.mem_append_left _ (h)))
theorem w2i_X10_order_X80 : ∀ w ∈ wsX80, w ∈ w2_X10_order := fun w h => List.mem_cons_of_mem _ (List.mem_append_right _ (List.mem_append_right _ (List.mem_append_left _ (h))))
theorem w2i_X10_order_X0_nextAfter : ∀ w ∈ w2_X0_nextAfter, w ∈ w2_X10_order := fun w h => List.mem_cons_of_mem _ (List.mem_append_right _ (List.mem_append_right _ (List.mem_append_right _ (List.mem_append_left _ (h)))))
theorem w2i_X10_order_X10_isGraph : ∀ w ∈ w2_X10_isGraph, w ∈ w2_X10_order := fun w h => List.mem_cons_of_mem _ (List.mem_append_right _ (List.mem_append_right _ (List.mem_append_right _ (List.mem_append_right _ (List.mem_append_left _ (h))))))
theorem w2i_X10_order_X10_isName : ∀ w ∈ w2_X10_isName, w ∈ w2_X10_order := fun w h => List.mem_cons_of_mem _ (List.mem_append_right _ (List.mem_append_right _ (List.mem_append_right _ (List.mem_append_right _ (List.mem_append_right _ (h))))))
theorem gd_X10_order_X10_isGraph : GoodIn w2_X10_order (wsV RX10 112 RX10 yX10_isGraph w2_X10_isGraph) := goodIn_app (goodIn_of _ (by decide +kernel)) (fun w h => ⟨w2i_X10_order_X10_isGraph w h, w2g_X10_isGraph w h⟩)
theorem gd_X10_order_X10_isName : GoodIn w2_X10_order (wsV RX10 89 RX10 yX10_isName w2_X10_isName) := goodIn_app (goodIn_of _ (by decide +kernel)) (fun w h => ⟨w2i_X10_order_X10_isName w h, w2g_X10_isName w h⟩)
theorem gd_X10_order_X0_nextAfter : GoodIn w2_X10_order (va_wsS RX10 115 yX0_nextAfter w2_X0_nextAfter) := goodIn_app (goodIn_of _ (by decide +kernel)) (fun w h => ⟨w2i_X10_order_X0_nextAfter w h, w2g_X0_nextAfter w h⟩)
def w2t_X10_isPart : List Cond := []
def w2_X10_isPart : List Cond := .code yX10_isPart cX10_isPart 1 (some .boolean) :: (w2t_X10_isPart)
set_option maxRecDepth 20000 in
theorem w2g_X10_isPart : ∀ w ∈ w2_X10_isPart, ((w.onTables && w.keeps) = true ∨ ∃ ty, w = .arrayClass ty) := by
  intro w h
  rcases List.mem_cons.mp h with rfl | h
  · exact good_of_word (by decide +kernel)
  exact good_of_word (List.all_eq_true.mp (show List.all w2t_X10_isPart goodWord = true by decide +kernel) w h)
def w2t_X10_size : List Cond := [.fieldLink RX10 28 "StructureSearch" "fits" "LStructureSearch$Fits;", .methodLink RX10 112 yX10_isGraph, .methodLink RX10 119 yX10_isPart, .methodLink RX10 122 yX2_ofGraph, .methodLink RX10 126 yX3_side, .methodLink RX10 132 yX1_length, .instanceMethod yX10_isGraph, .selects RX10 yX10_isGraph yX10_isGraph, .initialized RX10, .static yX10_isPart, .instanceMethod yX2_ofGraph, .selects RX2 yX2_ofGraph yX2_ofGraph, .initialized RX2, .initialized RX1, .instanceMethod yX3_side, .selects RX3 yX3_side yX3_side, .initialized RX3, .instanceMethod yX1_length, .selects RX1 yX1_length yX1_length]
def w2_X10_size : List Cond := .code yX10_size cX10_size 3 (some .int) :: (w2t_X10_size ++ (wsX100 ++ (w2_X10_isGraph ++ (w2_X10_isPart ++ (w2_X1_length ++ (w2_X2_ofGraph ++ (w2_X3_side)))))))
set_option maxRecDepth 20000 in
theorem w2g_X10_size : ∀ w ∈ w2_X10_size, ((w.onTables && w.keeps) = true ∨ ∃ ty, w = .arrayClass ty) := by
  intro w h
  rcases List.mem_cons.mp h with rfl | h
  · exact good_of_word (by decide +kernel)
  rcases List.mem_append.mp h with h | h
  · exact good_of_word (List.all_eq_true.mp (show List.all w2t_X10_size goodWord = true by decide +kernel) w h)
  rcases List.mem_append.mp h with h | h
  · exact good_of_word (List.all_eq_true.mp (show List.all wsX100 goodWord = true by decide +kernel) w h)
  rcases List.mem_append.mp h with h | h
  · exact w2g_X10_isGraph w h
  rcases List.mem_append.mp h with h | h
  · exact w2g_X10_isPart w h
  rcases List.mem_append.mp h with h | h
  · exact w2g_X1_length w h
  rcases List.mem_append.mp h with h | h
  · exact w2g_X2_ofGraph w h
  exact w2g_X3_side w h
theorem w2i_X10_size_X100 : ∀ w ∈ wsX100, w ∈ w2_X10_size := fun w h => List.mem_cons_of_mem _ (List.mem_append_right _ (List.mem_append_left _ (h)))
theorem w2i_X10_size_X10_isGraph : ∀ w ∈ w2_X10_isGraph, w ∈ w2_X10_size := fun w h => List.mem_cons_of_mem _ (List.mem_append_right _ (List.mem_append_right _ (List.mem_append_left _ (h))))
theorem w2i_X10_size_X10_isPart : ∀ w ∈ w2_X10_isPart, w ∈ w2_X10_size := fun w h => List.mem_cons_of_mem _ (List.mem_append_right _ (List.mem_append_right _ (List.mem_append_right _ (List.mem_append_left _ (h)))))
theorem w2i_X10_size_X1_length : ∀ w ∈ w2_X1_length, w ∈ w2_X10_size := fun w h => List.mem_cons_of_mem _ (List.mem_append_right _ (List.mem_append_right _ (List.mem_append_right _ (List.mem_append_right _ (List.mem_append_left _ (h))))))
theorem w2i_X10_size_X2_ofGraph : ∀ w ∈ w2_X2_ofGraph, w ∈ w2_X10_size := fun w h => List.mem_cons_of_mem _ (List.mem_append_right _ (List.mem_append_right _ (List.mem_append_right _ (List.mem_append_right _ (List.mem_append_right _ (List.mem_append_left _ (h)))))))
theorem w2i_X10_size_X3_side : ∀ w ∈ w2_X3_side, w ∈ w2_X10_size := fun w h => List.mem_cons_of_mem _ (List.mem_append_right _ (List.mem_append_right _ (List.mem_append_right _ (List.mem_append_right _ (List.mem_append_right _ (List.mem_append_right _ (h)))))))
theorem gd_X10_size_X10_isGraph : GoodIn w2_X10_size (wsV RX10 112 RX10 yX10_isGraph w2_X10_isGraph) := goodIn_app (goodIn_of _ (by decide +kernel)) (fun w h => ⟨w2i_X10_size_X10_isGraph w h, w2g_X10_isGraph w h⟩)
theorem gd_X10_size_X10_isPart : GoodIn w2_X10_size (va_wsS RX10 119 yX10_isPart w2_X10_isPart) := goodIn_app (goodIn_of _ (by decide +kernel)) (fun w h => ⟨w2i_X10_size_X10_isPart w h, w2g_X10_isPart w h⟩)
theorem gd_X10_size_X2_ofGraph : GoodIn w2_X10_size (wsV RX10 122 RX2 yX2_ofGraph w2_X2_ofGraph) := goodIn_app (goodIn_of _ (by decide +kernel)) (fun w h => ⟨w2i_X10_size_X2_ofGraph w h, w2g_X2_ofGraph w h⟩)
theorem gd_X10_size_X3_side : GoodIn w2_X10_size (wsV RX10 126 RX3 yX3_side w2_X3_side) := goodIn_app (goodIn_of _ (by decide +kernel)) (fun w h => ⟨w2i_X10_size_X3_side w h, w2g_X3_side w h⟩)
theorem gd_X10_size_X1_length : GoodIn w2_X10_size (wsV RX10 132 RX1 yX1_length w2_X1_length) := goodIn_app (goodIn_of _ (by decide +kernel)) (fun w h => ⟨w2i_X10_size_X1_length w h, w2g_X1_length w h⟩)
def w2t_X10_wordOf : List Cond := [.constantLong RX10 138 (-1), .methodLink RX10 132 yX1_length, .methodLink RX10 216 yX1_at, .instanceMethod yX1_length, .selects RX1 yX1_length yX1_length, .initialized RX1, .instanceMethod yX1_at, .selects RX1 yX1_at yX1_at]
def w2_X10_wordOf : List Cond := .code yX10_wordOf cX10_wordOf 2 (some .long) :: (w2t_X10_wordOf ++ (w2_X1_at ++ (w2_X1_length)))
set_option maxRecDepth 20000 in
theorem w2g_X10_wordOf : ∀ w ∈ w2_X10_wordOf, ((w.onTables && w.keeps) = true ∨ ∃ ty, w = .arrayClass ty) := by
  intro w h
  rcases List.mem_cons.mp h with rfl | h
  · exact good_of_word (by decide +kernel)
  rcases List.mem_append.mp h with h | h
  · exact good_of_word (List.all_eq_true.mp (show List.all w2t_X10_wordOf goodWord = true by decide +kernel) w h)
  rcases List.mem_append.mp h with h | h
  · exact w2g_X1_at w h
  exact w2g_X1_length w h
theorem w2i_X10_wordOf_X1_at : ∀ w ∈ w2_X1_at, w ∈ w2_X10_wordOf := fun w h => List.mem_cons_of_mem _ (List.mem_append_right _ (List.mem_append_left _ (h)))
theorem w2i_X10_wordOf_X1_length : ∀ w ∈ w2_X1_length, w ∈ w2_X10_wordOf := fun w h => List.mem_cons_of_mem _ (List.mem_append_right _ (List.mem_append_right _ (h)))
theorem gd_X10_wordOf_X1_length : GoodIn w2_X10_wordOf (wsV RX10 132 RX1 yX1_length w2_X1_length) := goodIn_app (goodIn_of _ (by decide +kernel)) (fun w h => ⟨w2i_X10_wordOf_X1_length w h, w2g_X1_length w h⟩)
theorem gd_X10_wordOf_X1_at : GoodIn w2_X10_wordOf (wsV RX10 216 RX1 yX1_at w2_X1_at) := goodIn_app (goodIn_of _ (by decide +kernel)) (fun w h => ⟨w2i_X10_wordOf_X1_at w h, w2g_X1_at w h⟩)
def w2t_X10_word : List Cond := [.constantLong RX10 138 (-1), .fieldLink RX10 28 "StructureSearch" "fits" "LStructureSearch$Fits;", .methodLink RX10 112 yX10_isGraph, .methodLink RX10 119 yX10_isPart, .methodLink RX10 122 yX2_ofGraph, .methodLink RX10 126 yX3_side, .methodLink RX10 140 yX10_wordOf, .instanceMethod yX10_isGraph, .selects RX10 yX10_isGraph yX10_isGraph, .initialized RX10, .static yX10_isPart, .instanceMethod yX2_ofGraph, .selects RX2 yX2_ofGraph yX2_ofGraph, .initialized RX2, .instanceMethod yX3_side, .selects RX3 yX3_side yX3_side, .initialized RX3, .static yX10_wordOf]
def w2_X10_word : List Cond := .code yX10_word cX10_word 4 (some .long) :: (w2t_X10_word ++ (wsX100 ++ (w2_X10_isGraph ++ (w2_X10_isPart ++ (w2_X10_wordOf ++ (w2_X2_ofGraph ++ (w2_X3_side)))))))
set_option maxRecDepth 20000 in
theorem w2g_X10_word : ∀ w ∈ w2_X10_word, ((w.onTables && w.keeps) = true ∨ ∃ ty, w = .arrayClass ty) := by
  intro w h
  rcases List.mem_cons.mp h with rfl | h
  · exact good_of_word (by decide +kernel)
  rcases List.mem_append.mp h with h | h
  · exact good_of_word (List.all_eq_true.mp (show List.all w2t_X10_word goodWord = true by decide +kernel) w h)
  rcases List.mem_append.mp h with h | h
  · exact good_of_word (List.all_eq_true.mp (show List.all wsX100 goodWord = true by decide +kernel) w h)
  rcases List.mem_append.mp h with h | h
  · exact w2g_X10_isGraph w h
  rcases List.mem_append.mp h with h | h
  · exact w2g_X10_isPart w h
  rcases List.mem_append.mp h with h | h
  · exact w2g_X10_wordOf w h
  rcases List.mem_append.mp h with h | h
  · exact w2g_X2_ofGraph w h
  exact w2g_X3_side w h
theorem w2i_X10_word_X100 : ∀ w ∈ wsX100, w ∈ w2_X10_word := fun w h => List.mem_cons_of_mem _ (List.mem_append_right _ (List.mem_append_left _ (h)))
theorem w2i_X10_word_X10_isGraph : ∀ w ∈ w2_X10_isGraph, w ∈ w2_X10_word := fun w h => List.mem_cons_of_mem _ (List.mem_append_right _ (List.mem_append_right _ (List.mem_append_left _ (h))))
theorem w2i_X10_word_X10_isPart : ∀ w ∈ w2_X10_isPart, w ∈ w2_X10_word := fun w h => List.mem_cons_of_mem _ (List.mem_append_right _ (List.mem_append_right _ (List.mem_append_right _ (List.mem_append_left _ (h)))))
theorem w2i_X10_word_X10_wordOf : ∀ w ∈ w2_X10_wordOf, w ∈ w2_X10_word := fun w h => List.mem_cons_of_mem _ (List.mem_append_right _ (List.mem_append_right _ (List.mem_append_right _ (List.mem_append_right _ (List.mem_append_left _ (h))))))
theorem w2i_X10_word_X2_ofGraph : ∀ w ∈ w2_X2_ofGraph, w ∈ w2_X10_word := fun w h => List.mem_cons_of_mem _ (List.mem_append_right _ (List.mem_append_right _ (List.mem_append_right _ (List.mem_append_right _ (List.mem_append_right _ (List.mem_append_left _ (h)))))))
theorem w2i_X10_word_X3_side : ∀ w ∈ w2_X3_side, w ∈ w2_X10_word := fun w h => List.mem_cons_of_mem _ (List.mem_append_right _ (List.mem_append_right _ (List.mem_append_right _ (List.mem_append_right _ (List.mem_append_right _ (List.mem_append_right _ (h)))))))
theorem gd_X10_word_X10_isGraph : GoodIn w2_X10_word (wsV RX10 112 RX10 yX10_isGraph w2_X10_isGraph) := goodIn_app (goodIn_of _ (by decide +kernel)) (fun w h => ⟨w2i_X10_word_X10_isGraph w h, w2g_X10_isGraph w h⟩)
theorem gd_X10_word_X10_isPart : GoodIn w2_X10_word (va_wsS RX10 119 yX10_isPart w2_X10_isPart) := goodIn_app (goodIn_of _ (by decide +kernel)) (fun w h => ⟨w2i_X10_word_X10_isPart w h, w2g_X10_isPart w h⟩)
theorem gd_X10_word_X2_ofGraph : GoodIn w2_X10_word (wsV RX10 122 RX2 yX2_ofGraph w2_X2_ofGraph) := goodIn_app (goodIn_of _ (by decide +kernel)) (fun w h => ⟨w2i_X10_word_X2_ofGraph w h, w2g_X2_ofGraph w h⟩)
theorem gd_X10_word_X3_side : GoodIn w2_X10_word (wsV RX10 126 RX3 yX3_side w2_X3_side) := goodIn_app (goodIn_of _ (by decide +kernel)) (fun w h => ⟨w2i_X10_word_X3_side w h, w2g_X3_side w h⟩)
theorem gd_X10_word_X10_wordOf : GoodIn w2_X10_word (va_wsS RX10 140 yX10_wordOf w2_X10_wordOf) := goodIn_app (goodIn_of _ (by decide +kernel)) (fun w h => ⟨w2i_X10_word_X10_wordOf w h, w2g_X10_wordOf w h⟩)
def w2t_X10_compare : List Cond := [.fieldLink RX10 28 "StructureSearch" "fits" "LStructureSearch$Fits;", .methodLink RX10 112 yX10_isGraph, .methodLink RX10 144 yX2_weigh, .instanceMethod yX10_isGraph, .selects RX10 yX10_isGraph yX10_isGraph, .initialized RX10, .instanceMethod yX2_weigh, .selects RX2 yX2_weigh yX2_weigh, .initialized RX2]
def w2_X10_compare : List Cond := .code yX10_compare cX10_compare 3 (some .int) :: (w2t_X10_compare ++ (wsX100 ++ (w2_X10_isGraph ++ (w2_X2_weigh))))
set_option maxRecDepth 20000 in
theorem w2g_X10_compare : ∀ w ∈ w2_X10_compare, ((w.onTables && w.keeps) = true ∨ ∃ ty, w = .arrayClass ty) := by
  intro w h
  rcases List.mem_cons.mp h with rfl | h
  · exact good_of_word (by decide +kernel)
  rcases List.mem_append.mp h with h | h
  · exact good_of_word (List.all_eq_true.mp (show List.all w2t_X10_compare goodWord = true by decide +kernel) w h)
  rcases List.mem_append.mp h with h | h
  · exact good_of_word (List.all_eq_true.mp (show List.all wsX100 goodWord = true by decide +kernel) w h)
  rcases List.mem_append.mp h with h | h
  · exact w2g_X10_isGraph w h
  exact w2g_X2_weigh w h
theorem w2i_X10_compare_X100 : ∀ w ∈ wsX100, w ∈ w2_X10_compare := fun w h => List.mem_cons_of_mem _ (List.mem_append_right _ (List.mem_append_left _ (h)))
theorem w2i_X10_compare_X10_isGraph : ∀ w ∈ w2_X10_isGraph, w ∈ w2_X10_compare := fun w h => List.mem_cons_of_mem _ (List.mem_append_right _ (List.mem_append_right _ (List.mem_append_left _ (h))))
theorem w2i_X10_compare_X2_weigh : ∀ w ∈ w2_X2_weigh, w ∈ w2_X10_compare := fun w h => List.mem_cons_of_mem _ (List.mem_append_right _ (List.mem_append_right _ (List.mem_append_right _ (h))))
theorem gd_X10_compare_X10_isGraph : GoodIn w2_X10_compare (wsV RX10 112 RX10 yX10_isGraph w2_X10_isGraph) := goodIn_app (goodIn_of _ (by decide +kernel)) (fun w h => ⟨w2i_X10_compare_X10_isGraph w h, w2g_X10_isGraph w h⟩)
theorem gd_X10_compare_X2_weigh : GoodIn w2_X10_compare (wsV RX10 144 RX2 yX2_weigh w2_X2_weigh) := goodIn_app (goodIn_of _ (by decide +kernel)) (fun w h => ⟨w2i_X10_compare_X2_weigh w h, w2g_X2_weigh w h⟩)
def w2t_X10_parents : List Cond := [.fieldLink RX10 12 "StructureSearch" "sheet" "LStructureSearch$Sheet;", .fieldLink RX10 64 "StructureSearch$Sheet" "names" "I", .fieldLink RX10 37 "StructureSearch" "search" "LStructureSearch$Search;", .methodLink RX10 89 yX10_isName, .methodLink RX10 147 yX0_isIn, .methodLink RX10 150 yX6_bestParents, .instanceMethod yX10_isName, .selects RX10 yX10_isName yX10_isName, .initialized RX10, .static yX0_isIn, .initialized RX0, .instanceMethod yX6_bestParents, .selects RX6 yX6_bestParents yX6_bestParents, .initialized RX6]
def w2_X10_parents : List Cond := .code yX10_parents cX10_parents 3 (some .int) :: (w2t_X10_parents ++ (wsX100 ++ (wsX80 ++ (w2_X0_isIn ++ (w2_X10_isName ++ (w2_X6_bestParents))))))
set_option maxRecDepth 20000 in
theorem w2g_X10_parents : ∀ w ∈ w2_X10_parents, ((w.onTables && w.keeps) = true ∨ ∃ ty, w = .arrayClass ty) := by
  intro w h
  rcases List.mem_cons.mp h with rfl | h
  · exact good_of_word (by decide +kernel)
  rcases List.mem_append.mp h with h | h
  · exact good_of_word (List.all_eq_true.mp (show List.all w2t_X10_parents goodWord = true by decide +kernel) w h)
  rcases List.mem_append.mp h with h | h
  · exact good_of_word (List.all_eq_true.mp (show List.all wsX100 goodWord = true by decide +kernel) w h)
  rcases List.mem_append.mp h with h | h
  · exact good_of_word (List.all_eq_true.mp (show List.all wsX80 goodWord = true by decide +kernel) w h)
  rcases List.mem_append.mp h with h | h
  · exact w2g_X0_isIn w h
  rcases List.mem_append.mp h with h | h
  · exact w2g_X10_isName w h
  exact w2g_X6_bestParents w h
theorem w2i_X10_parents_X100 : ∀ w ∈ wsX100, w ∈ w2_X10_parents := fun w h => List.mem_cons_of_mem _ (List.mem_append_right _ (List.mem_append_left _ (h)))
theorem w2i_X10_parents_X80 : ∀ w ∈ wsX80, w ∈ w2_X10_parents := fun w h => List.mem_cons_of_mem _ (List.mem_append_right _ (List.mem_append_right _ (List.mem_append_left _ (h))))
theorem w2i_X10_parents_X0_isIn : ∀ w ∈ w2_X0_isIn, w ∈ w2_X10_parents := fun w h => List.mem_cons_of_mem _ (List.mem_append_right _ (List.mem_append_right _ (List.mem_append_right _ (List.mem_append_left _ (h)))))
theorem w2i_X10_parents_X10_isName : ∀ w ∈ w2_X10_isName, w ∈ w2_X10_parents := fun w h => List.mem_cons_of_mem _ (List.mem_append_right _ (List.mem_append_right _ (List.mem_append_right _ (List.mem_append_right _ (List.mem_append_left _ (h))))))
theorem w2i_X10_parents_X6_bestParents : ∀ w ∈ w2_X6_bestParents, w ∈ w2_X10_parents := fun w h => List.mem_cons_of_mem _ (List.mem_append_right _ (List.mem_append_right _ (List.mem_append_right _ (List.mem_append_right _ (List.mem_append_right _ (h))))))
theorem gd_X10_parents_X10_isName : GoodIn w2_X10_parents (wsV RX10 89 RX10 yX10_isName w2_X10_isName) := goodIn_app (goodIn_of _ (by decide +kernel)) (fun w h => ⟨w2i_X10_parents_X10_isName w h, w2g_X10_isName w h⟩)
theorem gd_X10_parents_X0_isIn : GoodIn w2_X10_parents (va_wsS RX10 147 yX0_isIn w2_X0_isIn) := goodIn_app (goodIn_of _ (by decide +kernel)) (fun w h => ⟨w2i_X10_parents_X0_isIn w h, w2g_X0_isIn w h⟩)
theorem gd_X10_parents_X6_bestParents : GoodIn w2_X10_parents (wsV RX10 150 RX6 yX6_bestParents w2_X6_bestParents) := goodIn_app (goodIn_of _ (by decide +kernel)) (fun w h => ⟨w2i_X10_parents_X6_bestParents w h, w2g_X6_bestParents w h⟩)
def w2t_X10_best : List Cond := [.fieldLink RX10 37 "StructureSearch" "search" "LStructureSearch$Search;", .methodLink RX10 153 yX6_bestGraph, .instanceMethod yX6_bestGraph, .selects RX6 yX6_bestGraph yX6_bestGraph, .initialized RX6]
def w2_X10_best : List Cond := .code yX10_best cX10_best 1 (some .int) :: (w2t_X10_best ++ (wsX100 ++ (w2_X6_bestGraph)))
set_option maxRecDepth 20000 in
theorem w2g_X10_best : ∀ w ∈ w2_X10_best, ((w.onTables && w.keeps) = true ∨ ∃ ty, w = .arrayClass ty) := by
  intro w h
  rcases List.mem_cons.mp h with rfl | h
  · exact good_of_word (by decide +kernel)
  rcases List.mem_append.mp h with h | h
  · exact good_of_word (List.all_eq_true.mp (show List.all w2t_X10_best goodWord = true by decide +kernel) w h)
  rcases List.mem_append.mp h with h | h
  · exact good_of_word (List.all_eq_true.mp (show List.all wsX100 goodWord = true by decide +kernel) w h)
  exact w2g_X6_bestGraph w h
theorem w2i_X10_best_X100 : ∀ w ∈ wsX100, w ∈ w2_X10_best := fun w h => List.mem_cons_of_mem _ (List.mem_append_right _ (List.mem_append_left _ (h)))
theorem w2i_X10_best_X6_bestGraph : ∀ w ∈ w2_X6_bestGraph, w ∈ w2_X10_best := fun w h => List.mem_cons_of_mem _ (List.mem_append_right _ (List.mem_append_right _ (h)))
theorem gd_X10_best_X6_bestGraph : GoodIn w2_X10_best (wsV RX10 153 RX6 yX6_bestGraph w2_X6_bestGraph) := goodIn_app (goodIn_of _ (by decide +kernel)) (fun w h => ⟨w2i_X10_best_X6_bestGraph w h, w2g_X6_bestGraph w h⟩)
def w2t_X10_climb : List Cond := [.fieldLink RX10 12 "StructureSearch" "sheet" "LStructureSearch$Sheet;", .fieldLink RX10 98 "StructureSearch$Sheet" "most" "I", .fieldLink RX10 37 "StructureSearch" "search" "LStructureSearch$Search;", .methodLink RX10 112 yX10_isGraph, .methodLink RX10 156 yX0_areBounded, .methodLink RX10 159 yX6_climbFrom, .instanceMethod yX10_isGraph, .selects RX10 yX10_isGraph yX10_isGraph, .initialized RX10, .initialized RX0, .static yX0_areBounded, .instanceMethod yX6_climbFrom, .selects RX6 yX6_climbFrom yX6_climbFrom, .initialized RX6]
def w2_X10_climb : List Cond := .code yX10_climb cX10_climb 3 (some .int) :: (w2t_X10_climb ++ (wsX100 ++ (wsX80 ++ (w2_X0_areBounded ++ (w2_X10_isGraph ++ (w2_X6_climbFrom))))))
set_option maxRecDepth 20000 in
theorem w2g_X10_climb : ∀ w ∈ w2_X10_climb, ((w.onTables && w.keeps) = true ∨ ∃ ty, w = .arrayClass ty) := by
  intro w h
  rcases List.mem_cons.mp h with rfl | h
  · exact good_of_word (by decide +kernel)
  rcases List.mem_append.mp h with h | h
  · exact good_of_word (List.all_eq_true.mp (show List.all w2t_X10_climb goodWord = true by decide +kernel) w h)
  rcases List.mem_append.mp h with h | h
  · exact good_of_word (List.all_eq_true.mp (show List.all wsX100 goodWord = true by decide +kernel) w h)
  rcases List.mem_append.mp h with h | h
  · exact good_of_word (List.all_eq_true.mp (show List.all wsX80 goodWord = true by decide +kernel) w h)
  rcases List.mem_append.mp h with h | h
  · exact w2g_X0_areBounded w h
  rcases List.mem_append.mp h with h | h
  · exact w2g_X10_isGraph w h
  exact w2g_X6_climbFrom w h
theorem w2i_X10_climb_X100 : ∀ w ∈ wsX100, w ∈ w2_X10_climb := fun w h => List.mem_cons_of_mem _ (List.mem_append_right _ (List.mem_append_left _ (h)))
theorem w2i_X10_climb_X80 : ∀ w ∈ wsX80, w ∈ w2_X10_climb := fun w h => List.mem_cons_of_mem _ (List.mem_append_right _ (List.mem_append_right _ (List.mem_append_left _ (h))))
theorem w2i_X10_climb_X0_areBounded : ∀ w ∈ w2_X0_areBounded, w ∈ w2_X10_climb := fun w h => List.mem_cons_of_mem _ (List.mem_append_right _ (List.mem_append_right _ (List.mem_append_right _ (List.mem_append_left _ (h)))))
theorem w2i_X10_climb_X10_isGraph : ∀ w ∈ w2_X10_isGraph, w ∈ w2_X10_climb := fun w h => List.mem_cons_of_mem _ (List.mem_append_right _ (List.mem_append_right _ (List.mem_append_right _ (List.mem_append_right _ (List.mem_append_left _ (h))))))
theorem w2i_X10_climb_X6_climbFrom : ∀ w ∈ w2_X6_climbFrom, w ∈ w2_X10_climb := fun w h => List.mem_cons_of_mem _ (List.mem_append_right _ (List.mem_append_right _ (List.mem_append_right _ (List.mem_append_right _ (List.mem_append_right _ (h))))))
theorem gd_X10_climb_X10_isGraph : GoodIn w2_X10_climb (wsV RX10 112 RX10 yX10_isGraph w2_X10_isGraph) := goodIn_app (goodIn_of _ (by decide +kernel)) (fun w h => ⟨w2i_X10_climb_X10_isGraph w h, w2g_X10_isGraph w h⟩)
theorem gd_X10_climb_X0_areBounded : GoodIn w2_X10_climb (va_wsS RX10 156 yX0_areBounded w2_X0_areBounded) := goodIn_app (goodIn_of _ (by decide +kernel)) (fun w h => ⟨w2i_X10_climb_X0_areBounded w h, w2g_X0_areBounded w h⟩)
theorem gd_X10_climb_X6_climbFrom : GoodIn w2_X10_climb (wsV RX10 159 RX6 yX6_climbFrom w2_X6_climbFrom) := goodIn_app (goodIn_of _ (by decide +kernel)) (fun w h => ⟨w2i_X10_climb_X6_climbFrom w h, w2g_X6_climbFrom w h⟩)
def w2t_X10_alike : List Cond := [.methodLink RX10 112 yX10_isGraph, .methodLink RX10 162 yX4_ties, .methodLink RX10 167 yX4_meetings, .instanceMethod yX10_isGraph, .selects RX10 yX10_isGraph yX10_isGraph, .initialized RX10, .static yX4_ties, .initialized RX4, .static yX4_meetings]
def w2_X10_alike : List Cond := .code yX10_alike cX10_alike 4 (some .int) :: (w2t_X10_alike ++ (w2_X10_isGraph ++ (w2_X4_meetings ++ (w2_X4_ties))))
set_option maxRecDepth 20000 in
theorem w2g_X10_alike : ∀ w ∈ w2_X10_alike, ((w.onTables && w.keeps) = true ∨ ∃ ty, w = .arrayClass ty) := by
  intro w h
  rcases List.mem_cons.mp h with rfl | h
  · exact good_of_word (by decide +kernel)
  rcases List.mem_append.mp h with h | h
  · exact good_of_word (List.all_eq_true.mp (show List.all w2t_X10_alike goodWord = true by decide +kernel) w h)
  rcases List.mem_append.mp h with h | h
  · exact w2g_X10_isGraph w h
  rcases List.mem_append.mp h with h | h
  · exact w2g_X4_meetings w h
  exact w2g_X4_ties w h
theorem w2i_X10_alike_X10_isGraph : ∀ w ∈ w2_X10_isGraph, w ∈ w2_X10_alike := fun w h => List.mem_cons_of_mem _ (List.mem_append_right _ (List.mem_append_left _ (h)))
theorem w2i_X10_alike_X4_meetings : ∀ w ∈ w2_X4_meetings, w ∈ w2_X10_alike := fun w h => List.mem_cons_of_mem _ (List.mem_append_right _ (List.mem_append_right _ (List.mem_append_left _ (h))))
theorem w2i_X10_alike_X4_ties : ∀ w ∈ w2_X4_ties, w ∈ w2_X10_alike := fun w h => List.mem_cons_of_mem _ (List.mem_append_right _ (List.mem_append_right _ (List.mem_append_right _ (h))))
theorem gd_X10_alike_X10_isGraph : GoodIn w2_X10_alike (wsV RX10 112 RX10 yX10_isGraph w2_X10_isGraph) := goodIn_app (goodIn_of _ (by decide +kernel)) (fun w h => ⟨w2i_X10_alike_X10_isGraph w h, w2g_X10_isGraph w h⟩)
theorem gd_X10_alike_X4_ties : GoodIn w2_X10_alike (va_wsS RX10 162 yX4_ties w2_X4_ties) := goodIn_app (goodIn_of _ (by decide +kernel)) (fun w h => ⟨w2i_X10_alike_X4_ties w h, w2g_X4_ties w h⟩)
theorem gd_X10_alike_X4_meetings : GoodIn w2_X10_alike (va_wsS RX10 167 yX4_meetings w2_X4_meetings) := goodIn_app (goodIn_of _ (by decide +kernel)) (fun w h => ⟨w2i_X10_alike_X4_meetings w h, w2g_X4_meetings w h⟩)
def w2t_X10_kin : List Cond := [.classLink RX10 163 RX4, .fieldLink RX10 12 "StructureSearch" "sheet" "LStructureSearch$Sheet;", .fieldLink RX10 64 "StructureSearch$Sheet" "names" "I", .fieldLink RX10 176 "StructureSearch$Kin" "count" "I", .fieldLink RX10 179 "StructureSearch$Kin" "least" "I", .fieldLink RX10 182 "StructureSearch$Kin" "greatest" "I", .fieldLink RX10 185 "StructureSearch$Kin" "common" "I", .methodLink RX10 112 yX10_isGraph, .methodLink RX10 171 yX4_init, .methodLink RX10 172 yX4_gather, .instantiable RX4 4, .initialized RX4, .instanceMethod yX10_isGraph, .selects RX10 yX10_isGraph yX10_isGraph, .initialized RX10, .instanceMethod yX4_init, .instanceMethod yX4_gather, .selects RX4 yX4_gather yX4_gather]
def w2_X10_kin : List Cond := .code yX10_kin cX10_kin 4 (some .int) :: (w2t_X10_kin ++ (wsX100 ++ (wsX40 ++ (wsX80 ++ (w2_X10_isGraph ++ (w2_X4_gather ++ (w2_X4_init)))))))
set_option maxRecDepth 20000 in
theorem w2g_X10_kin : ∀ w ∈ w2_X10_kin, ((w.onTables && w.keeps) = true ∨ ∃ ty, w = .arrayClass ty) := by
  intro w h
  rcases List.mem_cons.mp h with rfl | h
  · exact good_of_word (by decide +kernel)
  rcases List.mem_append.mp h with h | h
  · exact good_of_word (List.all_eq_true.mp (show List.all w2t_X10_kin goodWord = true by decide +kernel) w h)
  rcases List.mem_append.mp h with h | h
  · exact good_of_word (List.all_eq_true.mp (show List.all wsX100 goodWord = true by decide +kernel) w h)
  rcases List.mem_append.mp h with h | h
  · exact good_of_word (List.all_eq_true.mp (show List.all wsX40 goodWord = true by decide +kernel) w h)
  rcases List.mem_append.mp h with h | h
  · exact good_of_word (List.all_eq_true.mp (show List.all wsX80 goodWord = true by decide +kernel) w h)
  rcases List.mem_append.mp h with h | h
  · exact w2g_X10_isGraph w h
  rcases List.mem_append.mp h with h | h
  · exact w2g_X4_gather w h
  exact w2g_X4_init w h
theorem w2i_X10_kin_X100 : ∀ w ∈ wsX100, w ∈ w2_X10_kin := fun w h => List.mem_cons_of_mem _ (List.mem_append_right _ (List.mem_append_left _ (h)))
theorem w2i_X10_kin_X40 : ∀ w ∈ wsX40, w ∈ w2_X10_kin := fun w h => List.mem_cons_of_mem _ (List.mem_append_right _ (List.mem_append_right _ (List.mem_append_left _ (h))))
theorem w2i_X10_kin_X80 : ∀ w ∈ wsX80, w ∈ w2_X10_kin := fun w h => List.mem_cons_of_mem _ (List.mem_append_right _ (List.mem_append_right _ (List.mem_append_right _ (List.mem_append_left _ (h)))))
theorem w2i_X10_kin_X10_isGraph : ∀ w ∈ w2_X10_isGraph, w ∈ w2_X10_kin := fun w h => List.mem_cons_of_mem _ (List.mem_append_right _ (List.mem_append_right _ (List.mem_append_right _ (List.mem_append_right _ (List.mem_append_left _ (h))))))
theorem w2i_X10_kin_X4_gather : ∀ w ∈ w2_X4_gather, w ∈ w2_X10_kin := fun w h => List.mem_cons_of_mem _ (List.mem_append_right _ (List.mem_append_right _ (List.mem_append_right _ (List.mem_append_right _ (List.mem_append_right _ (List.mem_append_left _ (h)))))))
theorem w2i_X10_kin_X4_init : ∀ w ∈ w2_X4_init, w ∈ w2_X10_kin := fun w h => List.mem_cons_of_mem _ (List.mem_append_right _ (List.mem_append_right _ (List.mem_append_right _ (List.mem_append_right _ (List.mem_append_right _ (List.mem_append_right _ (h)))))))
theorem gd_X10_kin_X10_isGraph : GoodIn w2_X10_kin (wsV RX10 112 RX10 yX10_isGraph w2_X10_isGraph) := goodIn_app (goodIn_of _ (by decide +kernel)) (fun w h => ⟨w2i_X10_kin_X10_isGraph w h, w2g_X10_isGraph w h⟩)
theorem gd_X10_kin_X4_init : GoodIn w2_X10_kin (w2_X4_init) := fun w h => ⟨w2i_X10_kin_X4_init w h, w2g_X4_init w h⟩
theorem gd_X10_kin_X4_gather : GoodIn w2_X10_kin (wsV RX10 172 RX4 yX4_gather w2_X4_gather) := goodIn_app (goodIn_of _ (by decide +kernel)) (fun w h => ⟨w2i_X10_kin_X4_gather w h, w2g_X4_gather w h⟩)
def w2t_X10_isPair : List Cond := [.methodLink RX10 89 yX10_isName, .instanceMethod yX10_isName, .selects RX10 yX10_isName yX10_isName, .initialized RX10]
def w2_X10_isPair : List Cond := .code yX10_isPair cX10_isPair 3 (some .boolean) :: (w2t_X10_isPair ++ (w2_X10_isName))
set_option maxRecDepth 20000 in
theorem w2g_X10_isPair : ∀ w ∈ w2_X10_isPair, ((w.onTables && w.keeps) = true ∨ ∃ ty, w = .arrayClass ty) := by
  intro w h
  rcases List.mem_cons.mp h with rfl | h
  · exact good_of_word (by decide +kernel)
  rcases List.mem_append.mp h with h | h
  · exact good_of_word (List.all_eq_true.mp (show List.all w2t_X10_isPair goodWord = true by decide +kernel) w h)
  exact w2g_X10_isName w h
theorem w2i_X10_isPair_X10_isName : ∀ w ∈ w2_X10_isName, w ∈ w2_X10_isPair := fun w h => List.mem_cons_of_mem _ (List.mem_append_right _ (h))
theorem gd_X10_isPair_X10_isName : GoodIn w2_X10_isPair (wsV RX10 89 RX10 yX10_isName w2_X10_isName) := goodIn_app (goodIn_of _ (by decide +kernel)) (fun w h => ⟨w2i_X10_isPair_X10_isName w h, w2g_X10_isName w h⟩)
def w2t_X10_readyShares : List Cond := [.fieldLink RX10 50 "StructureSearch" "shares" "LStructureSearch$Shares;", .classLink RX10 196 RX7, .fieldLink RX10 12 "StructureSearch" "sheet" "LStructureSearch$Sheet;", .fieldLink RX10 19 "StructureSearch" "powers" "LStructureSearch$Powers;", .methodLink RX10 219 yX7_init, .instantiable RX7 12, .initialized RX7, .instanceMethod yX7_init]
def w2_X10_readyShares : List Cond := .code yX10_readyShares cX10_readyShares 1 (some (.object "StructureSearch$Shares")) :: (w2t_X10_readyShares ++ (wsX100 ++ (wsX70 ++ (w2_X7_init))))
set_option maxRecDepth 20000 in
theorem w2g_X10_readyShares : ∀ w ∈ w2_X10_readyShares, ((w.onTables && w.keeps) = true ∨ ∃ ty, w = .arrayClass ty) := by
  intro w h
  rcases List.mem_cons.mp h with rfl | h
  · exact good_of_word (by decide +kernel)
  rcases List.mem_append.mp h with h | h
  · exact good_of_word (List.all_eq_true.mp (show List.all w2t_X10_readyShares goodWord = true by decide +kernel) w h)
  rcases List.mem_append.mp h with h | h
  · exact good_of_word (List.all_eq_true.mp (show List.all wsX100 goodWord = true by decide +kernel) w h)
  rcases List.mem_append.mp h with h | h
  · exact good_of_word (List.all_eq_true.mp (show List.all wsX70 goodWord = true by decide +kernel) w h)
  exact w2g_X7_init w h
theorem w2i_X10_readyShares_X100 : ∀ w ∈ wsX100, w ∈ w2_X10_readyShares := fun w h => List.mem_cons_of_mem _ (List.mem_append_right _ (List.mem_append_left _ (h)))
theorem w2i_X10_readyShares_X70 : ∀ w ∈ wsX70, w ∈ w2_X10_readyShares := fun w h => List.mem_cons_of_mem _ (List.mem_append_right _ (List.mem_append_right _ (List.mem_append_left _ (h))))
theorem w2i_X10_readyShares_X7_init : ∀ w ∈ w2_X7_init, w ∈ w2_X10_readyShares := fun w h => List.mem_cons_of_mem _ (List.mem_append_right _ (List.mem_append_right _ (List.mem_append_right _ (h))))
theorem gd_X10_readyShares_X7_init : GoodIn w2_X10_readyShares (w2_X7_init) := fun w h => ⟨w2i_X10_readyShares_X7_init w h, w2g_X7_init w h⟩
def w2t_X10_shareSize : List Cond := [.fieldLink RX10 12 "StructureSearch" "sheet" "LStructureSearch$Sheet;", .fieldLink RX10 64 "StructureSearch$Sheet" "names" "I", .methodLink RX10 188 yX10_isPair, .methodLink RX10 119 yX10_isPart, .methodLink RX10 191 yX10_readyShares, .methodLink RX10 195 yX7_of, .methodLink RX10 126 yX3_side, .methodLink RX10 132 yX1_length, .instanceMethod yX10_isPair, .selects RX10 yX10_isPair yX10_isPair, .initialized RX10, .static yX10_isPart, .instanceMethod yX10_readyShares, .selects RX10 yX10_readyShares yX10_readyShares, .initialized RX7, .initialized RX1, .initialized RX3, .instanceMethod yX7_of, .selects RX7 yX7_of yX7_of, .instanceMethod yX3_side, .selects RX3 yX3_side yX3_side, .instanceMethod yX1_length, .selects RX1 yX1_length yX1_length]
def w2_X10_shareSize : List Cond := .code yX10_shareSize cX10_shareSize 4 (some .int) :: (w2t_X10_shareSize ++ (wsX100 ++ (wsX80 ++ (w2_X10_isPair ++ (w2_X10_isPart ++ (w2_X10_readyShares ++ (w2_X1_length ++ (w2_X3_side ++ (w2_X7_of)))))))))
set_option maxRecDepth 20000 in
theorem w2g_X10_shareSize : ∀ w ∈ w2_X10_shareSize, ((w.onTables && w.keeps) = true ∨ ∃ ty, w = .arrayClass ty) := by
  intro w h
  rcases List.mem_cons.mp h with rfl | h
  · exact good_of_word (by decide +kernel)
  rcases List.mem_append.mp h with h | h
  · exact good_of_word (List.all_eq_true.mp (show List.all w2t_X10_shareSize goodWord = true by decide +kernel) w h)
  rcases List.mem_append.mp h with h | h
  · exact good_of_word (List.all_eq_true.mp (show List.all wsX100 goodWord = true by decide +kernel) w h)
  rcases List.mem_append.mp h with h | h
  · exact good_of_word (List.all_eq_true.mp (show List.all wsX80 goodWord = true by decide +kernel) w h)
  rcases List.mem_append.mp h with h | h
  · exact w2g_X10_isPair w h
  rcases List.mem_append.mp h with h | h
  · exact w2g_X10_isPart w h
  rcases List.mem_append.mp h with h | h
  · exact w2g_X10_readyShares w h
  rcases List.mem_append.mp h with h | h
  · exact w2g_X1_length w h
  rcases List.mem_append.mp h with h | h
  · exact w2g_X3_side w h
  exact w2g_X7_of w h
theorem w2i_X10_shareSize_X100 : ∀ w ∈ wsX100, w ∈ w2_X10_shareSize := fun w h => List.mem_cons_of_mem _ (List.mem_append_right _ (List.mem_append_left _ (h)))
theorem w2i_X10_shareSize_X80 : ∀ w ∈ wsX80, w ∈ w2_X10_shareSize := fun w h => List.mem_cons_of_mem _ (List.mem_append_right _ (List.mem_append_right _ (List.mem_append_left _ (h))))
theorem w2i_X10_shareSize_X10_isPair : ∀ w ∈ w2_X10_isPair, w ∈ w2_X10_shareSize := fun w h => List.mem_cons_of_mem _ (List.mem_append_right _ (List.mem_append_right _ (List.mem_append_right _ (List.mem_append_left _ (h)))))
theorem w2i_X10_shareSize_X10_isPart : ∀ w ∈ w2_X10_isPart, w ∈ w2_X10_shareSize := fun w h => List.mem_cons_of_mem _ (List.mem_append_right _ (List.mem_append_right _ (List.mem_append_right _ (List.mem_append_right _ (List.mem_append_left _ (h))))))
theorem w2i_X10_shareSize_X10_readyShares : ∀ w ∈ w2_X10_readyShares, w ∈ w2_X10_shareSize := fun w h => List.mem_cons_of_mem _ (List.mem_append_right _ (List.mem_append_right _ (List.mem_append_right _ (List.mem_append_right _ (List.mem_append_right _ (List.mem_append_left _ (h)))))))
theorem w2i_X10_shareSize_X1_length : ∀ w ∈ w2_X1_length, w ∈ w2_X10_shareSize := fun w h => List.mem_cons_of_mem _ (List.mem_append_right _ (List.mem_append_right _ (List.mem_append_right _ (List.mem_append_right _ (List.mem_append_right _ (List.mem_append_right _ (List.mem_append_left _ (h))))))))
theorem w2i_X10_shareSize_X3_side : ∀ w ∈ w2_X3_side, w ∈ w2_X10_shareSize := fun w h => List.mem_cons_of_mem _ (List.mem_append_right _ (List.mem_append_right _ (List.mem_append_right _ (List.mem_append_right _ (List.mem_append_right _ (List.mem_append_right _ (List.mem_append_right _ (List.mem_append_left _ (h)))))))))
theorem w2i_X10_shareSize_X7_of : ∀ w ∈ w2_X7_of, w ∈ w2_X10_shareSize := fun w h => List.mem_cons_of_mem _ (List.mem_append_right _ (List.mem_append_right _ (List.mem_append_right _ (List.mem_append_right _ (List.mem_append_right _ (List.mem_append_right _ (List.mem_append_right _ (List.mem_append_right _ (h)))))))))
theorem gd_X10_shareSize_X10_isPair : GoodIn w2_X10_shareSize (wsV RX10 188 RX10 yX10_isPair w2_X10_isPair) := goodIn_app (goodIn_of _ (by decide +kernel)) (fun w h => ⟨w2i_X10_shareSize_X10_isPair w h, w2g_X10_isPair w h⟩)
theorem gd_X10_shareSize_X10_isPart : GoodIn w2_X10_shareSize (va_wsS RX10 119 yX10_isPart w2_X10_isPart) := goodIn_app (goodIn_of _ (by decide +kernel)) (fun w h => ⟨w2i_X10_shareSize_X10_isPart w h, w2g_X10_isPart w h⟩)
theorem gd_X10_shareSize_X10_readyShares : GoodIn w2_X10_shareSize (wsV RX10 191 RX10 yX10_readyShares w2_X10_readyShares) := goodIn_app (goodIn_of _ (by decide +kernel)) (fun w h => ⟨w2i_X10_shareSize_X10_readyShares w h, w2g_X10_readyShares w h⟩)
theorem gd_X10_shareSize_X7_of : GoodIn w2_X10_shareSize (wsV RX10 195 RX7 yX7_of w2_X7_of) := goodIn_app (goodIn_of _ (by decide +kernel)) (fun w h => ⟨w2i_X10_shareSize_X7_of w h, w2g_X7_of w h⟩)
theorem gd_X10_shareSize_X3_side : GoodIn w2_X10_shareSize (wsV RX10 126 RX3 yX3_side w2_X3_side) := goodIn_app (goodIn_of _ (by decide +kernel)) (fun w h => ⟨w2i_X10_shareSize_X3_side w h, w2g_X3_side w h⟩)
theorem gd_X10_shareSize_X1_length : GoodIn w2_X10_shareSize (wsV RX10 132 RX1 yX1_length w2_X1_length) := goodIn_app (goodIn_of _ (by decide +kernel)) (fun w h => ⟨w2i_X10_shareSize_X1_length w h, w2g_X1_length w h⟩)
def w2t_X10_shareWord : List Cond := [.constantLong RX10 138 (-1), .fieldLink RX10 12 "StructureSearch" "sheet" "LStructureSearch$Sheet;", .fieldLink RX10 64 "StructureSearch$Sheet" "names" "I", .constantLong RX10 201 (-2), .methodLink RX10 188 yX10_isPair, .methodLink RX10 119 yX10_isPart, .methodLink RX10 191 yX10_readyShares, .methodLink RX10 195 yX7_of, .methodLink RX10 126 yX3_side, .methodLink RX10 140 yX10_wordOf, .instanceMethod yX10_isPair, .selects RX10 yX10_isPair yX10_isPair, .initialized RX10, .static yX10_isPart, .instanceMethod yX10_readyShares, .selects RX10 yX10_readyShares yX10_readyShares, .initialized RX7, .initialized RX3, .instanceMethod yX7_of, .selects RX7 yX7_of yX7_of, .instanceMethod yX3_side, .selects RX3 yX3_side yX3_side, .static yX10_wordOf]
def w2_X10_shareWord : List Cond := .code yX10_shareWord cX10_shareWord 5 (some .long) :: (w2t_X10_shareWord ++ (wsX100 ++ (wsX80 ++ (w2_X10_isPair ++ (w2_X10_isPart ++ (w2_X10_readyShares ++ (w2_X10_wordOf ++ (w2_X3_side ++ (w2_X7_of)))))))))
set_option maxRecDepth 20000 in
theorem w2g_X10_shareWord : ∀ w ∈ w2_X10_shareWord, ((w.onTables && w.keeps) = true ∨ ∃ ty, w = .arrayClass ty) := by
  intro w h
  rcases List.mem_cons.mp h with rfl | h
  · exact good_of_word (by decide +kernel)
  rcases List.mem_append.mp h with h | h
  · exact good_of_word (List.all_eq_true.mp (show List.all w2t_X10_shareWord goodWord = true by decide +kernel) w h)
  rcases List.mem_append.mp h with h | h
  · exact good_of_word (List.all_eq_true.mp (show List.all wsX100 goodWord = true by decide +kernel) w h)
  rcases List.mem_append.mp h with h | h
  · exact good_of_word (List.all_eq_true.mp (show List.all wsX80 goodWord = true by decide +kernel) w h)
  rcases List.mem_append.mp h with h | h
  · exact w2g_X10_isPair w h
  rcases List.mem_append.mp h with h | h
  · exact w2g_X10_isPart w h
  rcases List.mem_append.mp h with h | h
  · exact w2g_X10_readyShares w h
  rcases List.mem_append.mp h with h | h
  · exact w2g_X10_wordOf w h
  rcases List.mem_append.mp h with h | h
  · exact w2g_X3_side w h
  exact w2g_X7_of w h
theorem w2i_X10_shareWord_X100 : ∀ w ∈ wsX100, w ∈ w2_X10_shareWord := fun w h => List.mem_cons_of_mem _ (List.mem_append_right _ (List.mem_append_left _ (h)))
theorem w2i_X10_shareWord_X80 : ∀ w ∈ wsX80, w ∈ w2_X10_shareWord := fun w h => List.mem_cons_of_mem _ (List.mem_append_right _ (List.mem_append_right _ (List.mem_append_left _ (h))))
theorem w2i_X10_shareWord_X10_isPair : ∀ w ∈ w2_X10_isPair, w ∈ w2_X10_shareWord := fun w h => List.mem_cons_of_mem _ (List.mem_append_right _ (List.mem_append_right _ (List.mem_append_right _ (List.mem_append_left _ (h)))))
theorem w2i_X10_shareWord_X10_isPart : ∀ w ∈ w2_X10_isPart, w ∈ w2_X10_shareWord := fun w h => List.mem_cons_of_mem _ (List.mem_append_right _ (List.mem_append_right _ (List.mem_append_right _ (List.mem_append_right _ (List.mem_append_left _ (h))))))
theorem w2i_X10_shareWord_X10_readyShares : ∀ w ∈ w2_X10_readyShares, w ∈ w2_X10_shareWord := fun w h => List.mem_cons_of_mem _ (List.mem_append_right _ (List.mem_append_right _ (List.mem_append_right _ (List.mem_append_right _ (List.mem_append_right _ (List.mem_append_left _ (h)))))))
theorem w2i_X10_shareWord_X10_wordOf : ∀ w ∈ w2_X10_wordOf, w ∈ w2_X10_shareWord := fun w h => List.mem_cons_of_mem _ (List.mem_append_right _ (List.mem_append_right _ (List.mem_append_right _ (List.mem_append_right _ (List.mem_append_right _ (List.mem_append_right _ (List.mem_append_left _ (h))))))))
theorem w2i_X10_shareWord_X3_side : ∀ w ∈ w2_X3_side, w ∈ w2_X10_shareWord := fun w h => List.mem_cons_of_mem _ (List.mem_append_right _ (List.mem_append_right _ (List.mem_append_right _ (List.mem_append_right _ (List.mem_append_right _ (List.mem_append_right _ (List.mem_append_right _ (List.mem_append_left _ (h)))))))))
theorem w2i_X10_shareWord_X7_of : ∀ w ∈ w2_X7_of, w ∈ w2_X10_shareWord := fun w h => List.mem_cons_of_mem _ (List.mem_append_right _ (List.mem_append_right _ (List.mem_append_right _ (List.mem_append_right _ (List.mem_append_right _ (List.mem_append_right _ (List.mem_append_right _ (List.mem_append_right _ (h)))))))))
theorem gd_X10_shareWord_X10_isPair : GoodIn w2_X10_shareWord (wsV RX10 188 RX10 yX10_isPair w2_X10_isPair) := goodIn_app (goodIn_of _ (by decide +kernel)) (fun w h => ⟨w2i_X10_shareWord_X10_isPair w h, w2g_X10_isPair w h⟩)
theorem gd_X10_shareWord_X10_isPart : GoodIn w2_X10_shareWord (va_wsS RX10 119 yX10_isPart w2_X10_isPart) := goodIn_app (goodIn_of _ (by decide +kernel)) (fun w h => ⟨w2i_X10_shareWord_X10_isPart w h, w2g_X10_isPart w h⟩)
theorem gd_X10_shareWord_X10_readyShares : GoodIn w2_X10_shareWord (wsV RX10 191 RX10 yX10_readyShares w2_X10_readyShares) := goodIn_app (goodIn_of _ (by decide +kernel)) (fun w h => ⟨w2i_X10_shareWord_X10_readyShares w h, w2g_X10_readyShares w h⟩)
theorem gd_X10_shareWord_X7_of : GoodIn w2_X10_shareWord (wsV RX10 195 RX7 yX7_of w2_X7_of) := goodIn_app (goodIn_of _ (by decide +kernel)) (fun w h => ⟨w2i_X10_shareWord_X7_of w h, w2g_X7_of w h⟩)
theorem gd_X10_shareWord_X3_side : GoodIn w2_X10_shareWord (wsV RX10 126 RX3 yX3_side w2_X3_side) := goodIn_app (goodIn_of _ (by decide +kernel)) (fun w h => ⟨w2i_X10_shareWord_X3_side w h, w2g_X3_side w h⟩)
theorem gd_X10_shareWord_X10_wordOf : GoodIn w2_X10_shareWord (va_wsS RX10 140 yX10_wordOf w2_X10_wordOf) := goodIn_app (goodIn_of _ (by decide +kernel)) (fun w h => ⟨w2i_X10_shareWord_X10_wordOf w h, w2g_X10_wordOf w h⟩)
def w2t_X10_test : List Cond := [.constantLong RX10 138 (-1), .fieldLink RX10 46 "StructureSearch" "tables" "LStructureSearch$Tables;", .methodLink RX10 188 yX10_isPair, .methodLink RX10 119 yX10_isPart, .methodLink RX10 203 yX10_isValue, .methodLink RX10 206 yX9_count, .methodLink RX10 209 yX9_waysNotAbove, .methodLink RX10 213 yX9_allWays, .instanceMethod yX10_isPair, .selects RX10 yX10_isPair yX10_isPair, .initialized RX10, .static yX10_isPart, .instanceMethod yX10_isValue, .selects RX10 yX10_isValue yX10_isValue, .instanceMethod yX9_count, .selects RX9 yX9_count yX9_count, .initialized RX9, .instanceMethod yX9_waysNotAbove, .selects RX9 yX9_waysNotAbove yX9_waysNotAbove, .instanceMethod yX9_allWays, .selects RX9 yX9_allWays yX9_allWays]
def w2_X10_test : List Cond := .code yX10_test cX10_test 6 (some .long) :: (w2t_X10_test ++ (wsX100 ++ (w2_X10_isPair ++ (w2_X10_isPart ++ (w2_X10_isValue ++ (w2_X9_allWays ++ (w2_X9_count ++ (w2_X9_waysNotAbove))))))))
set_option maxRecDepth 20000 in
theorem w2g_X10_test : ∀ w ∈ w2_X10_test, ((w.onTables && w.keeps) = true ∨ ∃ ty, w = .arrayClass ty) := by
  intro w h
  rcases List.mem_cons.mp h with rfl | h
  · exact good_of_word (by decide +kernel)
  rcases List.mem_append.mp h with h | h
  · exact good_of_word (List.all_eq_true.mp (show List.all w2t_X10_test goodWord = true by decide +kernel) w h)
  rcases List.mem_append.mp h with h | h
  · exact good_of_word (List.all_eq_true.mp (show List.all wsX100 goodWord = true by decide +kernel) w h)
  rcases List.mem_append.mp h with h | h
  · exact w2g_X10_isPair w h
  rcases List.mem_append.mp h with h | h
  · exact w2g_X10_isPart w h
  rcases List.mem_append.mp h with h | h
  · exact w2g_X10_isValue w h
  rcases List.mem_append.mp h with h | h
  · exact w2g_X9_allWays w h
  rcases List.mem_append.mp h with h | h
  · exact w2g_X9_count w h
  exact w2g_X9_waysNotAbove w h
theorem w2i_X10_test_X100 : ∀ w ∈ wsX100, w ∈ w2_X10_test := fun w h => List.mem_cons_of_mem _ (List.mem_append_right _ (List.mem_append_left _ (h)))
theorem w2i_X10_test_X10_isPair : ∀ w ∈ w2_X10_isPair, w ∈ w2_X10_test := fun w h => List.mem_cons_of_mem _ (List.mem_append_right _ (List.mem_append_right _ (List.mem_append_left _ (h))))
theorem w2i_X10_test_X10_isPart : ∀ w ∈ w2_X10_isPart, w ∈ w2_X10_test := fun w h => List.mem_cons_of_mem _ (List.mem_append_right _ (List.mem_append_right _ (List.mem_append_right _ (List.mem_append_left _ (h)))))
theorem w2i_X10_test_X10_isValue : ∀ w ∈ w2_X10_isValue, w ∈ w2_X10_test := fun w h => List.mem_cons_of_mem _ (List.mem_append_right _ (List.mem_append_right _ (List.mem_append_right _ (List.mem_append_right _ (List.mem_append_left _ (h))))))
theorem w2i_X10_test_X9_allWays : ∀ w ∈ w2_X9_allWays, w ∈ w2_X10_test := fun w h => List.mem_cons_of_mem _ (List.mem_append_right _ (List.mem_append_right _ (List.mem_append_right _ (List.mem_append_right _ (List.mem_append_right _ (List.mem_append_left _ (h)))))))
theorem w2i_X10_test_X9_count : ∀ w ∈ w2_X9_count, w ∈ w2_X10_test := fun w h => List.mem_cons_of_mem _ (List.mem_append_right _ (List.mem_append_right _ (List.mem_append_right _ (List.mem_append_right _ (List.mem_append_right _ (List.mem_append_right _ (List.mem_append_left _ (h))))))))
theorem w2i_X10_test_X9_waysNotAbove : ∀ w ∈ w2_X9_waysNotAbove, w ∈ w2_X10_test := fun w h => List.mem_cons_of_mem _ (List.mem_append_right _ (List.mem_append_right _ (List.mem_append_right _ (List.mem_append_right _ (List.mem_append_right _ (List.mem_append_right _ (List.mem_append_right _ (h))))))))
theorem gd_X10_test_X10_isPair : GoodIn w2_X10_test (wsV RX10 188 RX10 yX10_isPair w2_X10_isPair) := goodIn_app (goodIn_of _ (by decide +kernel)) (fun w h => ⟨w2i_X10_test_X10_isPair w h, w2g_X10_isPair w h⟩)
theorem gd_X10_test_X10_isPart : GoodIn w2_X10_test (va_wsS RX10 119 yX10_isPart w2_X10_isPart) := goodIn_app (goodIn_of _ (by decide +kernel)) (fun w h => ⟨w2i_X10_test_X10_isPart w h, w2g_X10_isPart w h⟩)
theorem gd_X10_test_X10_isValue : GoodIn w2_X10_test (wsV RX10 203 RX10 yX10_isValue w2_X10_isValue) := goodIn_app (goodIn_of _ (by decide +kernel)) (fun w h => ⟨w2i_X10_test_X10_isValue w h, w2g_X10_isValue w h⟩)
theorem gd_X10_test_X9_count : GoodIn w2_X10_test (wsV RX10 206 RX9 yX9_count w2_X9_count) := goodIn_app (goodIn_of _ (by decide +kernel)) (fun w h => ⟨w2i_X10_test_X9_count w h, w2g_X9_count w h⟩)
theorem gd_X10_test_X9_waysNotAbove : GoodIn w2_X10_test (wsV RX10 209 RX9 yX9_waysNotAbove w2_X9_waysNotAbove) := goodIn_app (goodIn_of _ (by decide +kernel)) (fun w h => ⟨w2i_X10_test_X9_waysNotAbove w h, w2g_X9_waysNotAbove w h⟩)
theorem gd_X10_test_X9_allWays : GoodIn w2_X10_test (wsV RX10 213 RX9 yX9_allWays w2_X9_allWays) := goodIn_app (goodIn_of _ (by decide +kernel)) (fun w h => ⟨w2i_X10_test_X9_allWays w h, w2g_X9_allWays w h⟩)
def w2t_X11_init : List Cond := [.methodLink RX11 1 objectInit, .fieldLink RX11 7 "StructureSearchModel" "values" "[I", .fieldLink RX11 13 "StructureSearchModel" "cells" "[I", .fieldLink RX11 16 "StructureSearchModel" "strength" "I", .fieldLink RX11 20 "StructureSearchModel" "most" "I", .fieldLink RX11 23 "StructureSearchModel" "one" "[I", .fieldLink RX11 26 "StructureSearchModel" "two" "[I", .fieldLink RX11 29 "StructureSearchModel" "rest" "[I", .fieldLink RX11 32 "StructureSearchModel" "above" "[I", .fieldLink RX11 35 "StructureSearchModel" "below" "[I", .fieldLink RX11 38 "StructureSearchModel" "isKnown" "[Z", .fieldLink RX11 42 "StructureSearchModel" "tops" "[I", .fieldLink RX11 45 "StructureSearchModel" "lows" "[I", .fieldLink RX11 48 "StructureSearchModel" "small" "[I", .fieldLink RX11 51 "StructureSearchModel" "large" "[I", .fieldLink RX11 54 "StructureSearchModel" "factor" "[I", .fieldLink RX11 57 "StructureSearchModel" "made" "[I", .fieldLink RX11 60 "StructureSearchModel" "topA" "[I", .fieldLink RX11 63 "StructureSearchModel" "lowA" "[I", .fieldLink RX11 66 "StructureSearchModel" "topB" "[I", .fieldLink RX11 69 "StructureSearchModel" "lowB" "[I", .fieldLink RX11 72 "StructureSearchModel" "left" "[I", .fieldLink RX11 75 "StructureSearchModel" "right" "[I", .fieldLink RX11 78 "StructureSearchModel" "toldGraph" "I", .fieldLink RX11 81 "StructureSearchModel" "toldArc" "I", .fieldLink RX11 84 "StructureSearchModel" "bests" "[I", .fieldLink RX11 87 "StructureSearchModel" "first" "[I", .fieldLink RX11 90 "StructureSearchModel" "second" "[I", .fieldLink RX11 93 "StructureSearchModel" "sums" "[I", .fieldLink RX11 96 "StructureSearchModel" "terms" "[I", .fieldLink RX11 99 "StructureSearchModel" "wholes" "[I", .fieldLink RX11 102 "StructureSearchModel" "term" "[I", .fieldLink RX11 105 "StructureSearchModel" "more" "[I", .fieldLink RX11 108 "StructureSearchModel" "fewer" "[I", .fieldLink RX11 111 "StructureSearchModel" "sum" "[I", .fieldLink RX11 114 "StructureSearchModel" "ofA" "[I", .fieldLink RX11 117 "StructureSearchModel" "ofB" "[I", .fieldLink RX11 120 "StructureSearchModel" "both" "[I", .instanceMethod objectInit, .code objectInit ⟨#[0xb1]⟩ 1 none, .arrayClass .int, .arrayClass .boolean]
def w2_X11_init : List Cond := .code yX11_init cX11_init 1 none :: (w2t_X11_init ++ (wsX110))
set_option maxRecDepth 20000 in
theorem w2g_X11_init : ∀ w ∈ w2_X11_init, ((w.onTables && w.keeps) = true ∨ ∃ ty, w = .arrayClass ty) := by
  intro w h
  rcases List.mem_cons.mp h with rfl | h
  · exact good_of_word (by decide +kernel)
  rcases List.mem_append.mp h with h | h
  · exact good_of_word (List.all_eq_true.mp (show List.all w2t_X11_init goodWord = true by decide +kernel) w h)
  exact good_of_word (List.all_eq_true.mp (show List.all wsX110 goodWord = true by decide +kernel) w h)
theorem w2i_X11_init_X110 : ∀ w ∈ wsX110, w ∈ w2_X11_init := fun w h => List.mem_cons_of_mem _ (List.mem_append_right _ (h))
def w2t_X11_put : List Cond := []
def w2_X11_put : List Cond := .code yX11_put cX11_put 2 none :: (w2t_X11_put)
set_option maxRecDepth 20000 in
theorem w2g_X11_put : ∀ w ∈ w2_X11_put, ((w.onTables && w.keeps) = true ∨ ∃ ty, w = .arrayClass ty) := by
  intro w h
  rcases List.mem_cons.mp h with rfl | h
  · exact good_of_word (by decide +kernel)
  exact good_of_word (List.all_eq_true.mp (show List.all w2t_X11_put goodWord = true by decide +kernel) w h)
def w2t_X11_copy : List Cond := []
def w2_X11_copy : List Cond := .code yX11_copy cX11_copy 3 none :: (w2t_X11_copy)
set_option maxRecDepth 20000 in
theorem w2g_X11_copy : ∀ w ∈ w2_X11_copy, ((w.onTables && w.keeps) = true ∨ ∃ ty, w = .arrayClass ty) := by
  intro w h
  rcases List.mem_cons.mp h with rfl | h
  · exact good_of_word (by decide +kernel)
  exact good_of_word (List.all_eq_true.mp (show List.all w2t_X11_copy goodWord = true by decide +kernel) w h)
def w2t_X11_compareTo : List Cond := [.constantLong RX11 123 (4294967295)]
def w2_X11_compareTo : List Cond := .code yX11_compareTo cX11_compareTo 6 (some .int) :: (w2t_X11_compareTo)
set_option maxRecDepth 20000 in
theorem w2g_X11_compareTo : ∀ w ∈ w2_X11_compareTo, ((w.onTables && w.keeps) = true ∨ ∃ ty, w = .arrayClass ty) := by
  intro w h
  rcases List.mem_cons.mp h with rfl | h
  · exact good_of_word (by decide +kernel)
  exact good_of_word (List.all_eq_true.mp (show List.all w2t_X11_compareTo goodWord = true by decide +kernel) w h)
def w2t_X11_trim : List Cond := []
def w2_X11_trim : List Cond := .code yX11_trim cX11_trim 3 none :: (w2t_X11_trim)
set_option maxRecDepth 20000 in
theorem w2g_X11_trim : ∀ w ∈ w2_X11_trim, ((w.onTables && w.keeps) = true ∨ ∃ ty, w = .arrayClass ty) := by
  intro w h
  rcases List.mem_cons.mp h with rfl | h
  · exact good_of_word (by decide +kernel)
  exact good_of_word (List.all_eq_true.mp (show List.all w2t_X11_trim goodWord = true by decide +kernel) w h)
def w2t_X11_times : List Cond := [.constantLong RX11 123 (4294967295), .methodLink RX11 125 yX11_trim, .static yX11_trim, .initialized RX11]
def w2_X11_times : List Cond := .code yX11_times cX11_times 10 none :: (w2t_X11_times ++ (w2_X11_trim))
set_option maxRecDepth 20000 in
theorem w2g_X11_times : ∀ w ∈ w2_X11_times, ((w.onTables && w.keeps) = true ∨ ∃ ty, w = .arrayClass ty) := by
  intro w h
  rcases List.mem_cons.mp h with rfl | h
  · exact good_of_word (by decide +kernel)
  rcases List.mem_append.mp h with h | h
  · exact good_of_word (List.all_eq_true.mp (show List.all w2t_X11_times goodWord = true by decide +kernel) w h)
  exact w2g_X11_trim w h
theorem w2i_X11_times_X11_trim : ∀ w ∈ w2_X11_trim, w ∈ w2_X11_times := fun w h => List.mem_cons_of_mem _ (List.mem_append_right _ (h))
theorem gd_X11_times_X11_trim : GoodIn w2_X11_times (va_wsS RX11 125 yX11_trim w2_X11_trim) := goodIn_app (goodIn_of _ (by decide +kernel)) (fun w h => ⟨w2i_X11_times_X11_trim w h, w2g_X11_trim w h⟩)
def w2t_X11_plus : List Cond := [.constantLong RX11 123 (4294967295), .methodLink RX11 125 yX11_trim, .static yX11_trim, .initialized RX11]
def w2_X11_plus : List Cond := .code yX11_plus cX11_plus 6 none :: (w2t_X11_plus ++ (w2_X11_trim))
set_option maxRecDepth 20000 in
theorem w2g_X11_plus : ∀ w ∈ w2_X11_plus, ((w.onTables && w.keeps) = true ∨ ∃ ty, w = .arrayClass ty) := by
  intro w h
  rcases List.mem_cons.mp h with rfl | h
  · exact good_of_word (by decide +kernel)
  rcases List.mem_append.mp h with h | h
  · exact good_of_word (List.all_eq_true.mp (show List.all w2t_X11_plus goodWord = true by decide +kernel) w h)
  exact w2g_X11_trim w h
theorem w2i_X11_plus_X11_trim : ∀ w ∈ w2_X11_trim, w ∈ w2_X11_plus := fun w h => List.mem_cons_of_mem _ (List.mem_append_right _ (h))
theorem gd_X11_plus_X11_trim : GoodIn w2_X11_plus (va_wsS RX11 125 yX11_trim w2_X11_trim) := goodIn_app (goodIn_of _ (by decide +kernel)) (fun w h => ⟨w2i_X11_plus_X11_trim w h, w2g_X11_trim w h⟩)
def w2t_X11_less : List Cond := [.constantLong RX11 123 (4294967295), .methodLink RX11 125 yX11_trim, .static yX11_trim, .initialized RX11]
def w2_X11_less : List Cond := .code yX11_less cX11_less 7 none :: (w2t_X11_less ++ (w2_X11_trim))
set_option maxRecDepth 20000 in
theorem w2g_X11_less : ∀ w ∈ w2_X11_less, ((w.onTables && w.keeps) = true ∨ ∃ ty, w = .arrayClass ty) := by
  intro w h
  rcases List.mem_cons.mp h with rfl | h
  · exact good_of_word (by decide +kernel)
  rcases List.mem_append.mp h with h | h
  · exact good_of_word (List.all_eq_true.mp (show List.all w2t_X11_less goodWord = true by decide +kernel) w h)
  exact w2g_X11_trim w h
theorem w2i_X11_less_X11_trim : ∀ w ∈ w2_X11_trim, w ∈ w2_X11_less := fun w h => List.mem_cons_of_mem _ (List.mem_append_right _ (h))
theorem gd_X11_less_X11_trim : GoodIn w2_X11_less (va_wsS RX11 125 yX11_trim w2_X11_trim) := goodIn_app (goodIn_of _ (by decide +kernel)) (fun w h => ⟨w2i_X11_less_X11_trim w h, w2g_X11_trim w h⟩)
def w2t_X11_halve : List Cond := [.methodLink RX11 125 yX11_trim, .static yX11_trim, .initialized RX11]
def w2_X11_halve : List Cond := .code yX11_halve cX11_halve 2 none :: (w2t_X11_halve ++ (w2_X11_trim))
set_option maxRecDepth 20000 in
theorem w2g_X11_halve : ∀ w ∈ w2_X11_halve, ((w.onTables && w.keeps) = true ∨ ∃ ty, w = .arrayClass ty) := by
  intro w h
  rcases List.mem_cons.mp h with rfl | h
  · exact good_of_word (by decide +kernel)
  rcases List.mem_append.mp h with h | h
  · exact good_of_word (List.all_eq_true.mp (show List.all w2t_X11_halve goodWord = true by decide +kernel) w h)
  exact w2g_X11_trim w h
theorem w2i_X11_halve_X11_trim : ∀ w ∈ w2_X11_trim, w ∈ w2_X11_halve := fun w h => List.mem_cons_of_mem _ (List.mem_append_right _ (h))
theorem gd_X11_halve_X11_trim : GoodIn w2_X11_halve (va_wsS RX11 125 yX11_trim w2_X11_trim) := goodIn_app (goodIn_of _ (by decide +kernel)) (fun w h => ⟨w2i_X11_halve_X11_trim w h, w2g_X11_trim w h⟩)
def w2t_X11_twice : List Cond := [.methodLink RX11 125 yX11_trim, .static yX11_trim, .initialized RX11]
def w2_X11_twice : List Cond := .code yX11_twice cX11_twice 5 none :: (w2t_X11_twice ++ (w2_X11_trim))
set_option maxRecDepth 20000 in
theorem w2g_X11_twice : ∀ w ∈ w2_X11_twice, ((w.onTables && w.keeps) = true ∨ ∃ ty, w = .arrayClass ty) := by
  intro w h
  rcases List.mem_cons.mp h with rfl | h
  · exact good_of_word (by decide +kernel)
  rcases List.mem_append.mp h with h | h
  · exact good_of_word (List.all_eq_true.mp (show List.all w2t_X11_twice goodWord = true by decide +kernel) w h)
  exact w2g_X11_trim w h
theorem w2i_X11_twice_X11_trim : ∀ w ∈ w2_X11_trim, w ∈ w2_X11_twice := fun w h => List.mem_cons_of_mem _ (List.mem_append_right _ (h))
theorem gd_X11_twice_X11_trim : GoodIn w2_X11_twice (va_wsS RX11 125 yX11_trim w2_X11_trim) := goodIn_app (goodIn_of _ (by decide +kernel)) (fun w h => ⟨w2i_X11_twice_X11_trim w h, w2g_X11_trim w h⟩)
def w2t_X11_isEven : List Cond := []
def w2_X11_isEven : List Cond := .code yX11_isEven cX11_isEven 1 (some .boolean) :: (w2t_X11_isEven)
set_option maxRecDepth 20000 in
theorem w2g_X11_isEven : ∀ w ∈ w2_X11_isEven, ((w.onTables && w.keeps) = true ∨ ∃ ty, w = .arrayClass ty) := by
  intro w h
  rcases List.mem_cons.mp h with rfl | h
  · exact good_of_word (by decide +kernel)
  exact good_of_word (List.all_eq_true.mp (show List.all w2t_X11_isEven goodWord = true by decide +kernel) w h)
def w2t_X11_common : List Cond := [.fieldLink RX11 23 "StructureSearchModel" "one" "[I", .fieldLink RX11 26 "StructureSearchModel" "two" "[I", .fieldLink RX11 29 "StructureSearchModel" "rest" "[I", .methodLink RX11 129 yX11_copy, .methodLink RX11 133 yX11_isEven, .methodLink RX11 137 yX11_halve, .methodLink RX11 141 yX11_compareTo, .methodLink RX11 145 yX11_less, .methodLink RX11 148 yX11_twice, .static yX11_copy, .initialized RX11, .static yX11_isEven, .static yX11_halve, .static yX11_compareTo, .static yX11_less, .static yX11_twice]
def w2_X11_common : List Cond := .code yX11_common cX11_common 5 none :: (w2t_X11_common ++ (wsX110 ++ (w2_X11_compareTo ++ (w2_X11_copy ++ (w2_X11_halve ++ (w2_X11_isEven ++ (w2_X11_less ++ (w2_X11_twice))))))))
set_option maxRecDepth 20000 in
theorem w2g_X11_common : ∀ w ∈ w2_X11_common, ((w.onTables && w.keeps) = true ∨ ∃ ty, w = .arrayClass ty) := by
  intro w h
  rcases List.mem_cons.mp h with rfl | h
  · exact good_of_word (by decide +kernel)
  rcases List.mem_append.mp h with h | h
  · exact good_of_word (List.all_eq_true.mp (show List.all w2t_X11_common goodWord = true by decide +kernel) w h)
  rcases List.mem_append.mp h with h | h
  · exact good_of_word (List.all_eq_true.mp (show List.all wsX110 goodWord = true by decide +kernel) w h)
  rcases List.mem_append.mp h with h | h
  · exact w2g_X11_compareTo w h
  rcases List.mem_append.mp h with h | h
  · exact w2g_X11_copy w h
  rcases List.mem_append.mp h with h | h
  · exact w2g_X11_halve w h
  rcases List.mem_append.mp h with h | h
  · exact w2g_X11_isEven w h
  rcases List.mem_append.mp h with h | h
  · exact w2g_X11_less w h
  exact w2g_X11_twice w h
theorem w2i_X11_common_X110 : ∀ w ∈ wsX110, w ∈ w2_X11_common := fun w h => List.mem_cons_of_mem _ (List.mem_append_right _ (List.mem_append_left _ (h)))
theorem w2i_X11_common_X11_compareTo : ∀ w ∈ w2_X11_compareTo, w ∈ w2_X11_common := fun w h => List.mem_cons_of_mem _ (List.mem_append_right _ (List.mem_append_right _ (List.mem_append_left _ (h))))
theorem w2i_X11_common_X11_copy : ∀ w ∈ w2_X11_copy, w ∈ w2_X11_common := fun w h => List.mem_cons_of_mem _ (List.mem_append_right _ (List.mem_append_right _ (List.mem_append_right _ (List.mem_append_left _ (h)))))
theorem w2i_X11_common_X11_halve : ∀ w ∈ w2_X11_halve, w ∈ w2_X11_common := fun w h => List.mem_cons_of_mem _ (List.mem_append_right _ (List.mem_append_right _ (List.mem_append_right _ (List.mem_append_right _ (List.mem_append_left _ (h))))))
theorem w2i_X11_common_X11_isEven : ∀ w ∈ w2_X11_isEven, w ∈ w2_X11_common := fun w h => List.mem_cons_of_mem _ (List.mem_append_right _ (List.mem_append_right _ (List.mem_append_right _ (List.mem_append_right _ (List.mem_append_right _ (List.mem_append_left _ (h)))))))
theorem w2i_X11_common_X11_less : ∀ w ∈ w2_X11_less, w ∈ w2_X11_common := fun w h => List.mem_cons_of_mem _ (List.mem_append_right _ (List.mem_append_right _ (List.mem_append_right _ (List.mem_append_right _ (List.mem_append_right _ (List.mem_append_right _ (List.mem_append_left _ (h))))))))
theorem w2i_X11_common_X11_twice : ∀ w ∈ w2_X11_twice, w ∈ w2_X11_common := fun w h => List.mem_cons_of_mem _ (List.mem_append_right _ (List.mem_append_right _ (List.mem_append_right _ (List.mem_append_right _ (List.mem_append_right _ (List.mem_append_right _ (List.mem_append_right _ (h))))))))
theorem gd_X11_common_X11_copy : GoodIn w2_X11_common (va_wsS RX11 129 yX11_copy w2_X11_copy) := goodIn_app (goodIn_of _ (by decide +kernel)) (fun w h => ⟨w2i_X11_common_X11_copy w h, w2g_X11_copy w h⟩)
theorem gd_X11_common_X11_isEven : GoodIn w2_X11_common (va_wsS RX11 133 yX11_isEven w2_X11_isEven) := goodIn_app (goodIn_of _ (by decide +kernel)) (fun w h => ⟨w2i_X11_common_X11_isEven w h, w2g_X11_isEven w h⟩)
theorem gd_X11_common_X11_halve : GoodIn w2_X11_common (va_wsS RX11 137 yX11_halve w2_X11_halve) := goodIn_app (goodIn_of _ (by decide +kernel)) (fun w h => ⟨w2i_X11_common_X11_halve w h, w2g_X11_halve w h⟩)
theorem gd_X11_common_X11_compareTo : GoodIn w2_X11_common (va_wsS RX11 141 yX11_compareTo w2_X11_compareTo) := goodIn_app (goodIn_of _ (by decide +kernel)) (fun w h => ⟨w2i_X11_common_X11_compareTo w h, w2g_X11_compareTo w h⟩)
theorem gd_X11_common_X11_less : GoodIn w2_X11_common (va_wsS RX11 145 yX11_less w2_X11_less) := goodIn_app (goodIn_of _ (by decide +kernel)) (fun w h => ⟨w2i_X11_common_X11_less w h, w2g_X11_less w h⟩)
theorem gd_X11_common_X11_twice : GoodIn w2_X11_common (va_wsS RX11 148 yX11_twice w2_X11_twice) := goodIn_app (goodIn_of _ (by decide +kernel)) (fun w h => ⟨w2i_X11_common_X11_twice w h, w2g_X11_twice w h⟩)
def w2t_X11_divide : List Cond := [.fieldLink RX11 29 "StructureSearchModel" "rest" "[I", .fieldLink RX11 23 "StructureSearchModel" "one" "[I", .methodLink RX11 148 yX11_twice, .methodLink RX11 125 yX11_trim, .methodLink RX11 141 yX11_compareTo, .methodLink RX11 145 yX11_less, .static yX11_twice, .initialized RX11, .static yX11_trim, .static yX11_compareTo, .static yX11_less]
def w2_X11_divide : List Cond := .code yX11_divide cX11_divide 7 none :: (w2t_X11_divide ++ (wsX110 ++ (w2_X11_compareTo ++ (w2_X11_less ++ (w2_X11_trim ++ (w2_X11_twice))))))
set_option maxRecDepth 20000 in
theorem w2g_X11_divide : ∀ w ∈ w2_X11_divide, ((w.onTables && w.keeps) = true ∨ ∃ ty, w = .arrayClass ty) := by
  intro w h
  rcases List.mem_cons.mp h with rfl | h
  · exact good_of_word (by decide +kernel)
  rcases List.mem_append.mp h with h | h
  · exact good_of_word (List.all_eq_true.mp (show List.all w2t_X11_divide goodWord = true by decide +kernel) w h)
  rcases List.mem_append.mp h with h | h
  · exact good_of_word (List.all_eq_true.mp (show List.all wsX110 goodWord = true by decide +kernel) w h)
  rcases List.mem_append.mp h with h | h
  · exact w2g_X11_compareTo w h
  rcases List.mem_append.mp h with h | h
  · exact w2g_X11_less w h
  rcases List.mem_append.mp h with h | h
  · exact w2g_X11_trim w h
  exact w2g_X11_twice w h
theorem w2i_X11_divide_X110 : ∀ w ∈ wsX110, w ∈ w2_X11_divide := fun w h => List.mem_cons_of_mem _ (List.mem_append_right _ (List.mem_append_left _ (h)))
theorem w2i_X11_divide_X11_compareTo : ∀ w ∈ w2_X11_compareTo, w ∈ w2_X11_divide := fun w h => List.mem_cons_of_mem _ (List.mem_append_right _ (List.mem_append_right _ (List.mem_append_left _ (h))))
theorem w2i_X11_divide_X11_less : ∀ w ∈ w2_X11_less, w ∈ w2_X11_divide := fun w h => List.mem_cons_of_mem _ (List.mem_append_right _ (List.mem_append_right _ (List.mem_append_right _ (List.mem_append_left _ (h)))))
theorem w2i_X11_divide_X11_trim : ∀ w ∈ w2_X11_trim, w ∈ w2_X11_divide := fun w h => List.mem_cons_of_mem _ (List.mem_append_right _ (List.mem_append_right _ (List.mem_append_right _ (List.mem_append_right _ (List.mem_append_left _ (h))))))
theorem w2i_X11_divide_X11_twice : ∀ w ∈ w2_X11_twice, w ∈ w2_X11_divide := fun w h => List.mem_cons_of_mem _ (List.mem_append_right _ (List.mem_append_right _ (List.mem_append_right _ (List.mem_append_right _ (List.mem_append_right _ (h))))))
theorem gd_X11_divide_X11_twice : GoodIn w2_X11_divide (va_wsS RX11 148 yX11_twice w2_X11_twice) := goodIn_app (goodIn_of _ (by decide +kernel)) (fun w h => ⟨w2i_X11_divide_X11_twice w h, w2g_X11_twice w h⟩)
theorem gd_X11_divide_X11_compareTo : GoodIn w2_X11_divide (va_wsS RX11 141 yX11_compareTo w2_X11_compareTo) := goodIn_app (goodIn_of _ (by decide +kernel)) (fun w h => ⟨w2i_X11_divide_X11_compareTo w h, w2g_X11_compareTo w h⟩)
theorem gd_X11_divide_X11_less : GoodIn w2_X11_divide (va_wsS RX11 145 yX11_less w2_X11_less) := goodIn_app (goodIn_of _ (by decide +kernel)) (fun w h => ⟨w2i_X11_divide_X11_less w h, w2g_X11_less w h⟩)
theorem gd_X11_divide_X11_trim : GoodIn w2_X11_divide (va_wsS RX11 125 yX11_trim w2_X11_trim) := goodIn_app (goodIn_of _ (by decide +kernel)) (fun w h => ⟨w2i_X11_divide_X11_trim w h, w2g_X11_trim w h⟩)
def w2t_X11_least : List Cond := [.fieldLink RX11 32 "StructureSearchModel" "above" "[I", .fieldLink RX11 35 "StructureSearchModel" "below" "[I", .methodLink RX11 151 yX11_put, .methodLink RX11 154 yX11_common, .methodLink RX11 157 yX11_divide, .static yX11_put, .initialized RX11, .instanceMethod yX11_common, .selects RX11 yX11_common yX11_common, .instanceMethod yX11_divide, .selects RX11 yX11_divide yX11_divide]
def w2_X11_least : List Cond := .code yX11_least cX11_least 1 none :: (w2t_X11_least ++ (wsX110 ++ (w2_X11_common ++ (w2_X11_divide ++ (w2_X11_put)))))
set_option maxRecDepth 20000 in
theorem w2g_X11_least : ∀ w ∈ w2_X11_least, ((w.onTables && w.keeps) = true ∨ ∃ ty, w = .arrayClass ty) := by
  intro w h
  rcases List.mem_cons.mp h with rfl | h
  · exact good_of_word (by decide +kernel)
  rcases List.mem_append.mp h with h | h
  · exact good_of_word (List.all_eq_true.mp (show List.all w2t_X11_least goodWord = true by decide +kernel) w h)
  rcases List.mem_append.mp h with h | h
  · exact good_of_word (List.all_eq_true.mp (show List.all wsX110 goodWord = true by decide +kernel) w h)
  rcases List.mem_append.mp h with h | h
  · exact w2g_X11_common w h
  rcases List.mem_append.mp h with h | h
  · exact w2g_X11_divide w h
  exact w2g_X11_put w h
theorem w2i_X11_least_X110 : ∀ w ∈ wsX110, w ∈ w2_X11_least := fun w h => List.mem_cons_of_mem _ (List.mem_append_right _ (List.mem_append_left _ (h)))
theorem w2i_X11_least_X11_common : ∀ w ∈ w2_X11_common, w ∈ w2_X11_least := fun w h => List.mem_cons_of_mem _ (List.mem_append_right _ (List.mem_append_right _ (List.mem_append_left _ (h))))
theorem w2i_X11_least_X11_divide : ∀ w ∈ w2_X11_divide, w ∈ w2_X11_least := fun w h => List.mem_cons_of_mem _ (List.mem_append_right _ (List.mem_append_right _ (List.mem_append_right _ (List.mem_append_left _ (h)))))
theorem w2i_X11_least_X11_put : ∀ w ∈ w2_X11_put, w ∈ w2_X11_least := fun w h => List.mem_cons_of_mem _ (List.mem_append_right _ (List.mem_append_right _ (List.mem_append_right _ (List.mem_append_right _ (h)))))
theorem gd_X11_least_X11_put : GoodIn w2_X11_least (va_wsS RX11 151 yX11_put w2_X11_put) := goodIn_app (goodIn_of _ (by decide +kernel)) (fun w h => ⟨w2i_X11_least_X11_put w h, w2g_X11_put w h⟩)
theorem gd_X11_least_X11_common : GoodIn w2_X11_least (wsV RX11 154 RX11 yX11_common w2_X11_common) := goodIn_app (goodIn_of _ (by decide +kernel)) (fun w h => ⟨w2i_X11_least_X11_common w h, w2g_X11_common w h⟩)
theorem gd_X11_least_X11_divide : GoodIn w2_X11_least (wsV RX11 157 RX11 yX11_divide w2_X11_divide) := goodIn_app (goodIn_of _ (by decide +kernel)) (fun w h => ⟨w2i_X11_least_X11_divide w h, w2g_X11_divide w h⟩)
def w2t_X11_grow : List Cond := [.constantLong RX11 123 (4294967295)]
def w2_X11_grow : List Cond := .code yX11_grow cX11_grow 7 none :: (w2t_X11_grow)
set_option maxRecDepth 20000 in
theorem w2g_X11_grow : ∀ w ∈ w2_X11_grow, ((w.onTables && w.keeps) = true ∨ ∃ ty, w = .arrayClass ty) := by
  intro w h
  rcases List.mem_cons.mp h with rfl | h
  · exact good_of_word (by decide +kernel)
  exact good_of_word (List.all_eq_true.mp (show List.all w2t_X11_grow goodWord = true by decide +kernel) w h)
def w2t_X11_place : List Cond := []
def w2_X11_place : List Cond := .code yX11_place cX11_place 2 (some .int) :: (w2t_X11_place)
set_option maxRecDepth 20000 in
theorem w2g_X11_place : ∀ w ∈ w2_X11_place, ((w.onTables && w.keeps) = true ∨ ∃ ty, w = .arrayClass ty) := by
  intro w h
  rcases List.mem_cons.mp h with rfl | h
  · exact good_of_word (by decide +kernel)
  exact good_of_word (List.all_eq_true.mp (show List.all w2t_X11_place goodWord = true by decide +kernel) w h)
def w2t_X11_agree : List Cond := [.fieldLink RX11 160 "StructureSearchModel" "names" "I", .fieldLink RX11 13 "StructureSearchModel" "cells" "[I"]
def w2_X11_agree : List Cond := .code yX11_agree cX11_agree 6 (some .boolean) :: (w2t_X11_agree ++ (wsX110))
set_option maxRecDepth 20000 in
theorem w2g_X11_agree : ∀ w ∈ w2_X11_agree, ((w.onTables && w.keeps) = true ∨ ∃ ty, w = .arrayClass ty) := by
  intro w h
  rcases List.mem_cons.mp h with rfl | h
  · exact good_of_word (by decide +kernel)
  rcases List.mem_append.mp h with h | h
  · exact good_of_word (List.all_eq_true.mp (show List.all w2t_X11_agree goodWord = true by decide +kernel) w h)
  exact good_of_word (List.all_eq_true.mp (show List.all wsX110 goodWord = true by decide +kernel) w h)
theorem w2i_X11_agree_X110 : ∀ w ∈ wsX110, w ∈ w2_X11_agree := fun w h => List.mem_cons_of_mem _ (List.mem_append_right _ (h))
def w2t_X11_load : List Cond := []
def w2_X11_load : List Cond := .code yX11_load cX11_load 4 none :: (w2t_X11_load)
set_option maxRecDepth 20000 in
theorem w2g_X11_load : ∀ w ∈ w2_X11_load, ((w.onTables && w.keeps) = true ∨ ∃ ty, w = .arrayClass ty) := by
  intro w h
  rcases List.mem_cons.mp h with rfl | h
  · exact good_of_word (by decide +kernel)
  exact good_of_word (List.all_eq_true.mp (show List.all w2t_X11_load goodWord = true by decide +kernel) w h)
def w2t_X11_store : List Cond := []
def w2_X11_store : List Cond := .code yX11_store cX11_store 4 none :: (w2t_X11_store)
set_option maxRecDepth 20000 in
theorem w2g_X11_store : ∀ w ∈ w2_X11_store, ((w.onTables && w.keeps) = true ∨ ∃ ty, w = .arrayClass ty) := by
  intro w h
  rcases List.mem_cons.mp h with rfl | h
  · exact good_of_word (by decide +kernel)
  exact good_of_word (List.all_eq_true.mp (show List.all w2t_X11_store goodWord = true by decide +kernel) w h)
def w2t_X11_work : List Cond := [.fieldLink RX11 42 "StructureSearchModel" "tops" "[I", .fieldLink RX11 45 "StructureSearchModel" "lows" "[I", .fieldLink RX11 7 "StructureSearchModel" "values" "[I", .fieldLink RX11 160 "StructureSearchModel" "names" "I", .fieldLink RX11 179 "StructureSearchModel" "rows" "I", .fieldLink RX11 13 "StructureSearchModel" "cells" "[I", .fieldLink RX11 16 "StructureSearchModel" "strength" "I", .methodLink RX11 163 yX11_place, .methodLink RX11 182 yX11_agree, .methodLink RX11 186 yX11_grow, .static yX11_place, .initialized RX11, .instanceMethod yX11_agree, .selects RX11 yX11_agree yX11_agree, .static yX11_grow]
def w2_X11_work : List Cond := .code yX11_work cX11_work 9 none :: (w2t_X11_work ++ (wsX110 ++ (w2_X11_agree ++ (w2_X11_grow ++ (w2_X11_place)))))
set_option maxRecDepth 20000 in
theorem w2g_X11_work : ∀ w ∈ w2_X11_work, ((w.onTables && w.keeps) = true ∨ ∃ ty, w = .arrayClass ty) := by
  intro w h
  rcases List.mem_cons.mp h with rfl | h
  · exact good_of_word (by decide +kernel)
  rcases List.mem_append.mp h with h | h
  · exact good_of_word (List.all_eq_true.mp (show List.all w2t_X11_work goodWord = true by decide +kernel) w h)
  rcases List.mem_append.mp h with h | h
  · exact good_of_word (List.all_eq_true.mp (show List.all wsX110 goodWord = true by decide +kernel) w h)
  rcases List.mem_append.mp h with h | h
  · exact w2g_X11_agree w h
  rcases List.mem_append.mp h with h | h
  · exact w2g_X11_grow w h
  exact w2g_X11_place w h
theorem w2i_X11_work_X110 : ∀ w ∈ wsX110, w ∈ w2_X11_work := fun w h => List.mem_cons_of_mem _ (List.mem_append_right _ (List.mem_append_left _ (h)))
theorem w2i_X11_work_X11_agree : ∀ w ∈ w2_X11_agree, w ∈ w2_X11_work := fun w h => List.mem_cons_of_mem _ (List.mem_append_right _ (List.mem_append_right _ (List.mem_append_left _ (h))))
theorem w2i_X11_work_X11_grow : ∀ w ∈ w2_X11_grow, w ∈ w2_X11_work := fun w h => List.mem_cons_of_mem _ (List.mem_append_right _ (List.mem_append_right _ (List.mem_append_right _ (List.mem_append_left _ (h)))))
theorem w2i_X11_work_X11_place : ∀ w ∈ w2_X11_place, w ∈ w2_X11_work := fun w h => List.mem_cons_of_mem _ (List.mem_append_right _ (List.mem_append_right _ (List.mem_append_right _ (List.mem_append_right _ (h)))))
theorem gd_X11_work_X11_place : GoodIn w2_X11_work (va_wsS RX11 163 yX11_place w2_X11_place) := goodIn_app (goodIn_of _ (by decide +kernel)) (fun w h => ⟨w2i_X11_work_X11_place w h, w2g_X11_place w h⟩)
theorem gd_X11_work_X11_agree : GoodIn w2_X11_work (wsV RX11 182 RX11 yX11_agree w2_X11_agree) := goodIn_app (goodIn_of _ (by decide +kernel)) (fun w h => ⟨w2i_X11_work_X11_agree w h, w2g_X11_agree w h⟩)
theorem gd_X11_work_X11_grow : GoodIn w2_X11_work (va_wsS RX11 186 yX11_grow w2_X11_grow) := goodIn_app (goodIn_of _ (by decide +kernel)) (fun w h => ⟨w2i_X11_work_X11_grow w h, w2g_X11_grow w h⟩)
def w2t_X11_family : List Cond := [.fieldLink RX11 38 "StructureSearchModel" "isKnown" "[Z", .fieldLink RX11 42 "StructureSearchModel" "tops" "[I", .fieldLink RX11 48 "StructureSearchModel" "small" "[I", .fieldLink RX11 45 "StructureSearchModel" "lows" "[I", .fieldLink RX11 51 "StructureSearchModel" "large" "[I", .methodLink RX11 163 yX11_place, .methodLink RX11 167 yX11_work, .methodLink RX11 171 yX11_load, .methodLink RX11 154 yX11_common, .methodLink RX11 157 yX11_divide, .methodLink RX11 175 yX11_store, .static yX11_place, .initialized RX11, .instanceMethod yX11_work, .selects RX11 yX11_work yX11_work, .static yX11_load, .instanceMethod yX11_common, .selects RX11 yX11_common yX11_common, .instanceMethod yX11_divide, .selects RX11 yX11_divide yX11_divide, .static yX11_store]
def w2_X11_family : List Cond := .code yX11_family cX11_family 4 (some .int) :: (w2t_X11_family ++ (wsX110 ++ (w2_X11_common ++ (w2_X11_divide ++ (w2_X11_load ++ (w2_X11_place ++ (w2_X11_store ++ (w2_X11_work))))))))
set_option maxRecDepth 20000 in
theorem w2g_X11_family : ∀ w ∈ w2_X11_family, ((w.onTables && w.keeps) = true ∨ ∃ ty, w = .arrayClass ty) := by
  intro w h
  rcases List.mem_cons.mp h with rfl | h
  · exact good_of_word (by decide +kernel)
  rcases List.mem_append.mp h with h | h
  · exact good_of_word (List.all_eq_true.mp (show List.all w2t_X11_family goodWord = true by decide +kernel) w h)
  rcases List.mem_append.mp h with h | h
  · exact good_of_word (List.all_eq_true.mp (show List.all wsX110 goodWord = true by decide +kernel) w h)
  rcases List.mem_append.mp h with h | h
  · exact w2g_X11_common w h
  rcases List.mem_append.mp h with h | h
  · exact w2g_X11_divide w h
  rcases List.mem_append.mp h with h | h
  · exact w2g_X11_load w h
  rcases List.mem_append.mp h with h | h
  · exact w2g_X11_place w h
  rcases List.mem_append.mp h with h | h
  · exact w2g_X11_store w h
  exact w2g_X11_work w h
theorem w2i_X11_family_X110 : ∀ w ∈ wsX110, w ∈ w2_X11_family := fun w h => List.mem_cons_of_mem _ (List.mem_append_right _ (List.mem_append_left _ (h)))
theorem w2i_X11_family_X11_common : ∀ w ∈ w2_X11_common, w ∈ w2_X11_family := fun w h => List.mem_cons_of_mem _ (List.mem_append_right _ (List.mem_append_right _ (List.mem_append_left _ (h))))
theorem w2i_X11_family_X11_divide : ∀ w ∈ w2_X11_divide, w ∈ w2_X11_family := fun w h => List.mem_cons_of_mem _ (List.mem_append_right _ (List.mem_append_right _ (List.mem_append_right _ (List.mem_append_left _ (h)))))
theorem w2i_X11_family_X11_load : ∀ w ∈ w2_X11_load, w ∈ w2_X11_family := fun w h => List.mem_cons_of_mem _ (List.mem_append_right _ (List.mem_append_right _ (List.mem_append_right _ (List.mem_append_right _ (List.mem_append_left _ (h))))))
theorem w2i_X11_family_X11_place : ∀ w ∈ w2_X11_place, w ∈ w2_X11_family := fun w h => List.mem_cons_of_mem _ (List.mem_append_right _ (List.mem_append_right _ (List.mem_append_right _ (List.mem_append_right _ (List.mem_append_right _ (List.mem_append_left _ (h)))))))
theorem w2i_X11_family_X11_store : ∀ w ∈ w2_X11_store, w ∈ w2_X11_family := fun w h => List.mem_cons_of_mem _ (List.mem_append_right _ (List.mem_append_right _ (List.mem_append_right _ (List.mem_append_right _ (List.mem_append_right _ (List.mem_append_right _ (List.mem_append_left _ (h))))))))
theorem w2i_X11_family_X11_work : ∀ w ∈ w2_X11_work, w ∈ w2_X11_family := fun w h => List.mem_cons_of_mem _ (List.mem_append_right _ (List.mem_append_right _ (List.mem_append_right _ (List.mem_append_right _ (List.mem_append_right _ (List.mem_append_right _ (List.mem_append_right _ (h))))))))
theorem gd_X11_family_X11_place : GoodIn w2_X11_family (va_wsS RX11 163 yX11_place w2_X11_place) := goodIn_app (goodIn_of _ (by decide +kernel)) (fun w h => ⟨w2i_X11_family_X11_place w h, w2g_X11_place w h⟩)
theorem gd_X11_family_X11_work : GoodIn w2_X11_family (wsV RX11 167 RX11 yX11_work w2_X11_work) := goodIn_app (goodIn_of _ (by decide +kernel)) (fun w h => ⟨w2i_X11_family_X11_work w h, w2g_X11_work w h⟩)
theorem gd_X11_family_X11_load : GoodIn w2_X11_family (va_wsS RX11 171 yX11_load w2_X11_load) := goodIn_app (goodIn_of _ (by decide +kernel)) (fun w h => ⟨w2i_X11_family_X11_load w h, w2g_X11_load w h⟩)
theorem gd_X11_family_X11_common : GoodIn w2_X11_family (wsV RX11 154 RX11 yX11_common w2_X11_common) := goodIn_app (goodIn_of _ (by decide +kernel)) (fun w h => ⟨w2i_X11_family_X11_common w h, w2g_X11_common w h⟩)
theorem gd_X11_family_X11_divide : GoodIn w2_X11_family (wsV RX11 157 RX11 yX11_divide w2_X11_divide) := goodIn_app (goodIn_of _ (by decide +kernel)) (fun w h => ⟨w2i_X11_family_X11_divide w h, w2g_X11_divide w h⟩)
theorem gd_X11_family_X11_store : GoodIn w2_X11_family (va_wsS RX11 175 yX11_store w2_X11_store) := goodIn_app (goodIn_of _ (by decide +kernel)) (fun w h => ⟨w2i_X11_family_X11_store w h, w2g_X11_store w h⟩)
def w2t_X11_multiply : List Cond := [.fieldLink RX11 54 "StructureSearchModel" "factor" "[I", .fieldLink RX11 57 "StructureSearchModel" "made" "[I", .methodLink RX11 171 yX11_load, .methodLink RX11 190 yX11_times, .methodLink RX11 129 yX11_copy, .static yX11_load, .initialized RX11, .static yX11_times, .static yX11_copy]
def w2_X11_multiply : List Cond := .code yX11_multiply cX11_multiply 4 none :: (w2t_X11_multiply ++ (wsX110 ++ (w2_X11_copy ++ (w2_X11_load ++ (w2_X11_times)))))
set_option maxRecDepth 20000 in
theorem w2g_X11_multiply : ∀ w ∈ w2_X11_multiply, ((w.onTables && w.keeps) = true ∨ ∃ ty, w = .arrayClass ty) := by
  intro w h
  rcases List.mem_cons.mp h with rfl | h
  · exact good_of_word (by decide +kernel)
  rcases List.mem_append.mp h with h | h
  · exact good_of_word (List.all_eq_true.mp (show List.all w2t_X11_multiply goodWord = true by decide +kernel) w h)
  rcases List.mem_append.mp h with h | h
  · exact good_of_word (List.all_eq_true.mp (show List.all wsX110 goodWord = true by decide +kernel) w h)
  rcases List.mem_append.mp h with h | h
  · exact w2g_X11_copy w h
  rcases List.mem_append.mp h with h | h
  · exact w2g_X11_load w h
  exact w2g_X11_times w h
theorem w2i_X11_multiply_X110 : ∀ w ∈ wsX110, w ∈ w2_X11_multiply := fun w h => List.mem_cons_of_mem _ (List.mem_append_right _ (List.mem_append_left _ (h)))
theorem w2i_X11_multiply_X11_copy : ∀ w ∈ w2_X11_copy, w ∈ w2_X11_multiply := fun w h => List.mem_cons_of_mem _ (List.mem_append_right _ (List.mem_append_right _ (List.mem_append_left _ (h))))
theorem w2i_X11_multiply_X11_load : ∀ w ∈ w2_X11_load, w ∈ w2_X11_multiply := fun w h => List.mem_cons_of_mem _ (List.mem_append_right _ (List.mem_append_right _ (List.mem_append_right _ (List.mem_append_left _ (h)))))
theorem w2i_X11_multiply_X11_times : ∀ w ∈ w2_X11_times, w ∈ w2_X11_multiply := fun w h => List.mem_cons_of_mem _ (List.mem_append_right _ (List.mem_append_right _ (List.mem_append_right _ (List.mem_append_right _ (h)))))
theorem gd_X11_multiply_X11_load : GoodIn w2_X11_multiply (va_wsS RX11 171 yX11_load w2_X11_load) := goodIn_app (goodIn_of _ (by decide +kernel)) (fun w h => ⟨w2i_X11_multiply_X11_load w h, w2g_X11_load w h⟩)
theorem gd_X11_multiply_X11_times : GoodIn w2_X11_multiply (va_wsS RX11 190 yX11_times w2_X11_times) := goodIn_app (goodIn_of _ (by decide +kernel)) (fun w h => ⟨w2i_X11_multiply_X11_times w h, w2g_X11_times w h⟩)
theorem gd_X11_multiply_X11_copy : GoodIn w2_X11_multiply (va_wsS RX11 129 yX11_copy w2_X11_copy) := goodIn_app (goodIn_of _ (by decide +kernel)) (fun w h => ⟨w2i_X11_multiply_X11_copy w h, w2g_X11_copy w h⟩)
def w2t_X11_bits : List Cond := []
def w2_X11_bits : List Cond := .code yX11_bits cX11_bits 3 (some .int) :: (w2t_X11_bits)
set_option maxRecDepth 20000 in
theorem w2g_X11_bits : ∀ w ∈ w2_X11_bits, ((w.onTables && w.keeps) = true ∨ ∃ ty, w = .arrayClass ty) := by
  intro w h
  rcases List.mem_cons.mp h with rfl | h
  · exact good_of_word (by decide +kernel)
  exact good_of_word (List.all_eq_true.mp (show List.all w2t_X11_bits goodWord = true by decide +kernel) w h)
def w2t_X11_parentsOf : List Cond := []
def w2_X11_parentsOf : List Cond := .code yX11_parentsOf cX11_parentsOf 4 (some .int) :: (w2t_X11_parentsOf)
set_option maxRecDepth 20000 in
theorem w2g_X11_parentsOf : ∀ w ∈ w2_X11_parentsOf, ((w.onTables && w.keeps) = true ∨ ∃ ty, w = .arrayClass ty) := by
  intro w h
  rcases List.mem_cons.mp h with rfl | h
  · exact good_of_word (by decide +kernel)
  exact good_of_word (List.all_eq_true.mp (show List.all w2t_X11_parentsOf goodWord = true by decide +kernel) w h)
def w2t_X11_fit : List Cond := [.fieldLink RX11 160 "StructureSearchModel" "names" "I", .fieldLink RX11 42 "StructureSearchModel" "tops" "[I", .fieldLink RX11 45 "StructureSearchModel" "lows" "[I", .methodLink RX11 151 yX11_put, .methodLink RX11 194 yX11_parentsOf, .methodLink RX11 197 yX11_family, .methodLink RX11 200 yX11_multiply, .static yX11_put, .initialized RX11, .static yX11_parentsOf, .instanceMethod yX11_family, .selects RX11 yX11_family yX11_family, .instanceMethod yX11_multiply, .selects RX11 yX11_multiply yX11_multiply]
def w2_X11_fit : List Cond := .code yX11_fit cX11_fit 6 none :: (w2t_X11_fit ++ (wsX110 ++ (w2_X11_family ++ (w2_X11_multiply ++ (w2_X11_parentsOf ++ (w2_X11_put))))))
set_option maxRecDepth 20000 in
theorem w2g_X11_fit : ∀ w ∈ w2_X11_fit, ((w.onTables && w.keeps) = true ∨ ∃ ty, w = .arrayClass ty) := by
  intro w h
  rcases List.mem_cons.mp h with rfl | h
  · exact good_of_word (by decide +kernel)
  rcases List.mem_append.mp h with h | h
  · exact good_of_word (List.all_eq_true.mp (show List.all w2t_X11_fit goodWord = true by decide +kernel) w h)
  rcases List.mem_append.mp h with h | h
  · exact good_of_word (List.all_eq_true.mp (show List.all wsX110 goodWord = true by decide +kernel) w h)
  rcases List.mem_append.mp h with h | h
  · exact w2g_X11_family w h
  rcases List.mem_append.mp h with h | h
  · exact w2g_X11_multiply w h
  rcases List.mem_append.mp h with h | h
  · exact w2g_X11_parentsOf w h
  exact w2g_X11_put w h
theorem w2i_X11_fit_X110 : ∀ w ∈ wsX110, w ∈ w2_X11_fit := fun w h => List.mem_cons_of_mem _ (List.mem_append_right _ (List.mem_append_left _ (h)))
theorem w2i_X11_fit_X11_family : ∀ w ∈ w2_X11_family, w ∈ w2_X11_fit := fun w h => List.mem_cons_of_mem _ (List.mem_append_right _ (List.mem_append_right _ (List.mem_append_left _ (h))))
theorem w2i_X11_fit_X11_multiply : ∀ w ∈ w2_X11_multiply, w ∈ w2_X11_fit := fun w h => List.mem_cons_of_mem _ (List.mem_append_right _ (List.mem_append_right _ (List.mem_append_right _ (List.mem_append_left _ (h)))))
theorem w2i_X11_fit_X11_parentsOf : ∀ w ∈ w2_X11_parentsOf, w ∈ w2_X11_fit := fun w h => List.mem_cons_of_mem _ (List.mem_append_right _ (List.mem_append_right _ (List.mem_append_right _ (List.mem_append_right _ (List.mem_append_left _ (h))))))
theorem w2i_X11_fit_X11_put : ∀ w ∈ w2_X11_put, w ∈ w2_X11_fit := fun w h => List.mem_cons_of_mem _ (List.mem_append_right _ (List.mem_append_right _ (List.mem_append_right _ (List.mem_append_right _ (List.mem_append_right _ (h))))))
theorem gd_X11_fit_X11_put : GoodIn w2_X11_fit (va_wsS RX11 151 yX11_put w2_X11_put) := goodIn_app (goodIn_of _ (by decide +kernel)) (fun w h => ⟨w2i_X11_fit_X11_put w h, w2g_X11_put w h⟩)
theorem gd_X11_fit_X11_parentsOf : GoodIn w2_X11_fit (va_wsS RX11 194 yX11_parentsOf w2_X11_parentsOf) := goodIn_app (goodIn_of _ (by decide +kernel)) (fun w h => ⟨w2i_X11_fit_X11_parentsOf w h, w2g_X11_parentsOf w h⟩)
theorem gd_X11_fit_X11_family : GoodIn w2_X11_fit (wsV RX11 197 RX11 yX11_family w2_X11_family) := goodIn_app (goodIn_of _ (by decide +kernel)) (fun w h => ⟨w2i_X11_fit_X11_family w h, w2g_X11_family w h⟩)
theorem gd_X11_fit_X11_multiply : GoodIn w2_X11_fit (wsV RX11 200 RX11 yX11_multiply w2_X11_multiply) := goodIn_app (goodIn_of _ (by decide +kernel)) (fun w h => ⟨w2i_X11_fit_X11_multiply w h, w2g_X11_multiply w h⟩)
def w2t_X11_sign : List Cond := [.fieldLink RX11 60 "StructureSearchModel" "topA" "[I", .fieldLink RX11 69 "StructureSearchModel" "lowB" "[I", .fieldLink RX11 72 "StructureSearchModel" "left" "[I", .fieldLink RX11 66 "StructureSearchModel" "topB" "[I", .fieldLink RX11 63 "StructureSearchModel" "lowA" "[I", .fieldLink RX11 75 "StructureSearchModel" "right" "[I", .methodLink RX11 190 yX11_times, .methodLink RX11 141 yX11_compareTo, .static yX11_times, .initialized RX11, .static yX11_compareTo]
def w2_X11_sign : List Cond := .code yX11_sign cX11_sign 1 (some .int) :: (w2t_X11_sign ++ (wsX110 ++ (w2_X11_compareTo ++ (w2_X11_times))))
set_option maxRecDepth 20000 in
theorem w2g_X11_sign : ∀ w ∈ w2_X11_sign, ((w.onTables && w.keeps) = true ∨ ∃ ty, w = .arrayClass ty) := by
  intro w h
  rcases List.mem_cons.mp h with rfl | h
  · exact good_of_word (by decide +kernel)
  rcases List.mem_append.mp h with h | h
  · exact good_of_word (List.all_eq_true.mp (show List.all w2t_X11_sign goodWord = true by decide +kernel) w h)
  rcases List.mem_append.mp h with h | h
  · exact good_of_word (List.all_eq_true.mp (show List.all wsX110 goodWord = true by decide +kernel) w h)
  rcases List.mem_append.mp h with h | h
  · exact w2g_X11_compareTo w h
  exact w2g_X11_times w h
theorem w2i_X11_sign_X110 : ∀ w ∈ wsX110, w ∈ w2_X11_sign := fun w h => List.mem_cons_of_mem _ (List.mem_append_right _ (List.mem_append_left _ (h)))
theorem w2i_X11_sign_X11_compareTo : ∀ w ∈ w2_X11_compareTo, w ∈ w2_X11_sign := fun w h => List.mem_cons_of_mem _ (List.mem_append_right _ (List.mem_append_right _ (List.mem_append_left _ (h))))
theorem w2i_X11_sign_X11_times : ∀ w ∈ w2_X11_times, w ∈ w2_X11_sign := fun w h => List.mem_cons_of_mem _ (List.mem_append_right _ (List.mem_append_right _ (List.mem_append_right _ (h))))
theorem gd_X11_sign_X11_times : GoodIn w2_X11_sign (va_wsS RX11 190 yX11_times w2_X11_times) := goodIn_app (goodIn_of _ (by decide +kernel)) (fun w h => ⟨w2i_X11_sign_X11_times w h, w2g_X11_times w h⟩)
theorem gd_X11_sign_X11_compareTo : GoodIn w2_X11_sign (va_wsS RX11 141 yX11_compareTo w2_X11_compareTo) := goodIn_app (goodIn_of _ (by decide +kernel)) (fun w h => ⟨w2i_X11_sign_X11_compareTo w h, w2g_X11_compareTo w h⟩)
def w2t_X11_signOf : List Cond := [.fieldLink RX11 60 "StructureSearchModel" "topA" "[I", .fieldLink RX11 63 "StructureSearchModel" "lowA" "[I", .fieldLink RX11 66 "StructureSearchModel" "topB" "[I", .fieldLink RX11 69 "StructureSearchModel" "lowB" "[I", .methodLink RX11 203 yX11_fit, .methodLink RX11 207 yX11_sign, .instanceMethod yX11_fit, .selects RX11 yX11_fit yX11_fit, .initialized RX11, .instanceMethod yX11_sign, .selects RX11 yX11_sign yX11_sign]
def w2_X11_signOf : List Cond := .code yX11_signOf cX11_signOf 3 (some .int) :: (w2t_X11_signOf ++ (wsX110 ++ (w2_X11_fit ++ (w2_X11_sign))))
set_option maxRecDepth 20000 in
theorem w2g_X11_signOf : ∀ w ∈ w2_X11_signOf, ((w.onTables && w.keeps) = true ∨ ∃ ty, w = .arrayClass ty) := by
  intro w h
  rcases List.mem_cons.mp h with rfl | h
  · exact good_of_word (by decide +kernel)
  rcases List.mem_append.mp h with h | h
  · exact good_of_word (List.all_eq_true.mp (show List.all w2t_X11_signOf goodWord = true by decide +kernel) w h)
  rcases List.mem_append.mp h with h | h
  · exact good_of_word (List.all_eq_true.mp (show List.all wsX110 goodWord = true by decide +kernel) w h)
  rcases List.mem_append.mp h with h | h
  · exact w2g_X11_fit w h
  exact w2g_X11_sign w h
theorem w2i_X11_signOf_X110 : ∀ w ∈ wsX110, w ∈ w2_X11_signOf := fun w h => List.mem_cons_of_mem _ (List.mem_append_right _ (List.mem_append_left _ (h)))
theorem w2i_X11_signOf_X11_fit : ∀ w ∈ w2_X11_fit, w ∈ w2_X11_signOf := fun w h => List.mem_cons_of_mem _ (List.mem_append_right _ (List.mem_append_right _ (List.mem_append_left _ (h))))
theorem w2i_X11_signOf_X11_sign : ∀ w ∈ w2_X11_sign, w ∈ w2_X11_signOf := fun w h => List.mem_cons_of_mem _ (List.mem_append_right _ (List.mem_append_right _ (List.mem_append_right _ (h))))
theorem gd_X11_signOf_X11_fit : GoodIn w2_X11_signOf (wsV RX11 203 RX11 yX11_fit w2_X11_fit) := goodIn_app (goodIn_of _ (by decide +kernel)) (fun w h => ⟨w2i_X11_signOf_X11_fit w h, w2g_X11_fit w h⟩)
theorem gd_X11_signOf_X11_sign : GoodIn w2_X11_signOf (wsV RX11 207 RX11 yX11_sign w2_X11_sign) := goodIn_app (goodIn_of _ (by decide +kernel)) (fun w h => ⟨w2i_X11_signOf_X11_sign w h, w2g_X11_sign w h⟩)
def w2t_X11_isSet : List Cond := [.fieldLink RX11 160 "StructureSearchModel" "names" "I"]
def w2_X11_isSet : List Cond := .code yX11_isSet cX11_isSet 2 (some .boolean) :: (w2t_X11_isSet ++ (wsX110))
set_option maxRecDepth 20000 in
theorem w2g_X11_isSet : ∀ w ∈ w2_X11_isSet, ((w.onTables && w.keeps) = true ∨ ∃ ty, w = .arrayClass ty) := by
  intro w h
  rcases List.mem_cons.mp h with rfl | h
  · exact good_of_word (by decide +kernel)
  rcases List.mem_append.mp h with h | h
  · exact good_of_word (List.all_eq_true.mp (show List.all w2t_X11_isSet goodWord = true by decide +kernel) w h)
  exact good_of_word (List.all_eq_true.mp (show List.all wsX110 goodWord = true by decide +kernel) w h)
theorem w2i_X11_isSet_X110 : ∀ w ∈ wsX110, w ∈ w2_X11_isSet := fun w h => List.mem_cons_of_mem _ (List.mem_append_right _ (h))
def w2t_X11_isName : List Cond := [.fieldLink RX11 160 "StructureSearchModel" "names" "I"]
def w2_X11_isName : List Cond := .code yX11_isName cX11_isName 2 (some .boolean) :: (w2t_X11_isName ++ (wsX110))
set_option maxRecDepth 20000 in
theorem w2g_X11_isName : ∀ w ∈ w2_X11_isName, ((w.onTables && w.keeps) = true ∨ ∃ ty, w = .arrayClass ty) := by
  intro w h
  rcases List.mem_cons.mp h with rfl | h
  · exact good_of_word (by decide +kernel)
  rcases List.mem_append.mp h with h | h
  · exact good_of_word (List.all_eq_true.mp (show List.all w2t_X11_isName goodWord = true by decide +kernel) w h)
  exact good_of_word (List.all_eq_true.mp (show List.all wsX110 goodWord = true by decide +kernel) w h)
theorem w2i_X11_isName_X110 : ∀ w ∈ wsX110, w ∈ w2_X11_isName := fun w h => List.mem_cons_of_mem _ (List.mem_append_right _ (h))
def w2t_X11_isGraph : List Cond := [.constant RX11 211 (33554432), .fieldLink RX11 160 "StructureSearchModel" "names" "I", .methodLink RX11 212 yX11_isSet, .methodLink RX11 194 yX11_parentsOf, .instanceMethod yX11_isSet, .selects RX11 yX11_isSet yX11_isSet, .initialized RX11, .static yX11_parentsOf]
def w2_X11_isGraph : List Cond := .code yX11_isGraph cX11_isGraph 5 (some .boolean) :: (w2t_X11_isGraph ++ (wsX110 ++ (w2_X11_isSet ++ (w2_X11_parentsOf))))
set_option maxRecDepth 20000 in
theorem w2g_X11_isGraph : ∀ w ∈ w2_X11_isGraph, ((w.onTables && w.keeps) = true ∨ ∃ ty, w = .arrayClass ty) := by
  intro w h
  rcases List.mem_cons.mp h with rfl | h
  · exact good_of_word (by decide +kernel)
  rcases List.mem_append.mp h with h | h
  · exact good_of_word (List.all_eq_true.mp (show List.all w2t_X11_isGraph goodWord = true by decide +kernel) w h)
  rcases List.mem_append.mp h with h | h
  · exact good_of_word (List.all_eq_true.mp (show List.all wsX110 goodWord = true by decide +kernel) w h)
  rcases List.mem_append.mp h with h | h
  · exact w2g_X11_isSet w h
  exact w2g_X11_parentsOf w h
theorem w2i_X11_isGraph_X110 : ∀ w ∈ wsX110, w ∈ w2_X11_isGraph := fun w h => List.mem_cons_of_mem _ (List.mem_append_right _ (List.mem_append_left _ (h)))
theorem w2i_X11_isGraph_X11_isSet : ∀ w ∈ w2_X11_isSet, w ∈ w2_X11_isGraph := fun w h => List.mem_cons_of_mem _ (List.mem_append_right _ (List.mem_append_right _ (List.mem_append_left _ (h))))
theorem w2i_X11_isGraph_X11_parentsOf : ∀ w ∈ w2_X11_parentsOf, w ∈ w2_X11_isGraph := fun w h => List.mem_cons_of_mem _ (List.mem_append_right _ (List.mem_append_right _ (List.mem_append_right _ (h))))
theorem gd_X11_isGraph_X11_isSet : GoodIn w2_X11_isGraph (wsV RX11 212 RX11 yX11_isSet w2_X11_isSet) := goodIn_app (goodIn_of _ (by decide +kernel)) (fun w h => ⟨w2i_X11_isGraph_X11_isSet w h, w2g_X11_isSet w h⟩)
theorem gd_X11_isGraph_X11_parentsOf : GoodIn w2_X11_isGraph (va_wsS RX11 194 yX11_parentsOf w2_X11_parentsOf) := goodIn_app (goodIn_of _ (by decide +kernel)) (fun w h => ⟨w2i_X11_isGraph_X11_parentsOf w h, w2g_X11_parentsOf w h⟩)
def w2t_X11_isBounded : List Cond := [.fieldLink RX11 160 "StructureSearchModel" "names" "I", .fieldLink RX11 20 "StructureSearchModel" "most" "I", .methodLink RX11 194 yX11_parentsOf, .methodLink RX11 216 yX11_bits, .static yX11_parentsOf, .initialized RX11, .static yX11_bits]
def w2_X11_isBounded : List Cond := .code yX11_isBounded cX11_isBounded 4 (some .boolean) :: (w2t_X11_isBounded ++ (wsX110 ++ (w2_X11_bits ++ (w2_X11_parentsOf))))
set_option maxRecDepth 20000 in
theorem w2g_X11_isBounded : ∀ w ∈ w2_X11_isBounded, ((w.onTables && w.keeps) = true ∨ ∃ ty, w = .arrayClass ty) := by
  intro w h
  rcases List.mem_cons.mp h with rfl | h
  · exact good_of_word (by decide +kernel)
  rcases List.mem_append.mp h with h | h
  · exact good_of_word (List.all_eq_true.mp (show List.all w2t_X11_isBounded goodWord = true by decide +kernel) w h)
  rcases List.mem_append.mp h with h | h
  · exact good_of_word (List.all_eq_true.mp (show List.all wsX110 goodWord = true by decide +kernel) w h)
  rcases List.mem_append.mp h with h | h
  · exact w2g_X11_bits w h
  exact w2g_X11_parentsOf w h
theorem w2i_X11_isBounded_X110 : ∀ w ∈ wsX110, w ∈ w2_X11_isBounded := fun w h => List.mem_cons_of_mem _ (List.mem_append_right _ (List.mem_append_left _ (h)))
theorem w2i_X11_isBounded_X11_bits : ∀ w ∈ w2_X11_bits, w ∈ w2_X11_isBounded := fun w h => List.mem_cons_of_mem _ (List.mem_append_right _ (List.mem_append_right _ (List.mem_append_left _ (h))))
theorem w2i_X11_isBounded_X11_parentsOf : ∀ w ∈ w2_X11_parentsOf, w ∈ w2_X11_isBounded := fun w h => List.mem_cons_of_mem _ (List.mem_append_right _ (List.mem_append_right _ (List.mem_append_right _ (h))))
theorem gd_X11_isBounded_X11_parentsOf : GoodIn w2_X11_isBounded (va_wsS RX11 194 yX11_parentsOf w2_X11_parentsOf) := goodIn_app (goodIn_of _ (by decide +kernel)) (fun w h => ⟨w2i_X11_isBounded_X11_parentsOf w h, w2g_X11_parentsOf w h⟩)
theorem gd_X11_isBounded_X11_bits : GoodIn w2_X11_isBounded (va_wsS RX11 216 yX11_bits w2_X11_bits) := goodIn_app (goodIn_of _ (by decide +kernel)) (fun w h => ⟨w2i_X11_isBounded_X11_bits w h, w2g_X11_bits w h⟩)
def w2t_X11_has : List Cond := []
def w2_X11_has : List Cond := .code yX11_has cX11_has 3 (some .boolean) :: (w2t_X11_has)
set_option maxRecDepth 20000 in
theorem w2g_X11_has : ∀ w ∈ w2_X11_has, ((w.onTables && w.keeps) = true ∨ ∃ ty, w = .arrayClass ty) := by
  intro w h
  rcases List.mem_cons.mp h with rfl | h
  · exact good_of_word (by decide +kernel)
  exact good_of_word (List.all_eq_true.mp (show List.all w2t_X11_has goodWord = true by decide +kernel) w h)
def w2t_X11_touch : List Cond := [.methodLink RX11 220 yX11_has, .static yX11_has, .initialized RX11]
def w2_X11_touch : List Cond := .code yX11_touch cX11_touch 3 (some .boolean) :: (w2t_X11_touch ++ (w2_X11_has))
set_option maxRecDepth 20000 in
theorem w2g_X11_touch : ∀ w ∈ w2_X11_touch, ((w.onTables && w.keeps) = true ∨ ∃ ty, w = .arrayClass ty) := by
  intro w h
  rcases List.mem_cons.mp h with rfl | h
  · exact good_of_word (by decide +kernel)
  rcases List.mem_append.mp h with h | h
  · exact good_of_word (List.all_eq_true.mp (show List.all w2t_X11_touch goodWord = true by decide +kernel) w h)
  exact w2g_X11_has w h
theorem w2i_X11_touch_X11_has : ∀ w ∈ w2_X11_has, w ∈ w2_X11_touch := fun w h => List.mem_cons_of_mem _ (List.mem_append_right _ (h))
theorem gd_X11_touch_X11_has : GoodIn w2_X11_touch (va_wsS RX11 220 yX11_has w2_X11_has) := goodIn_app (goodIn_of _ (by decide +kernel)) (fun w h => ⟨w2i_X11_touch_X11_has w h, w2g_X11_has w h⟩)
def w2t_X11_isAlike : List Cond := [.methodLink RX11 223 yX11_touch, .methodLink RX11 220 yX11_has, .static yX11_touch, .initialized RX11, .static yX11_has]
def w2_X11_isAlike : List Cond := .code yX11_isAlike cX11_isAlike 6 (some .boolean) :: (w2t_X11_isAlike ++ (w2_X11_has ++ (w2_X11_touch)))
set_option maxRecDepth 20000 in
theorem w2g_X11_isAlike : ∀ w ∈ w2_X11_isAlike, ((w.onTables && w.keeps) = true ∨ ∃ ty, w = .arrayClass ty) := by
  intro w h
  rcases List.mem_cons.mp h with rfl | h
  · exact good_of_word (by decide +kernel)
  rcases List.mem_append.mp h with h | h
  · exact good_of_word (List.all_eq_true.mp (show List.all w2t_X11_isAlike goodWord = true by decide +kernel) w h)
  rcases List.mem_append.mp h with h | h
  · exact w2g_X11_has w h
  exact w2g_X11_touch w h
theorem w2i_X11_isAlike_X11_has : ∀ w ∈ w2_X11_has, w ∈ w2_X11_isAlike := fun w h => List.mem_cons_of_mem _ (List.mem_append_right _ (List.mem_append_left _ (h)))
theorem w2i_X11_isAlike_X11_touch : ∀ w ∈ w2_X11_touch, w ∈ w2_X11_isAlike := fun w h => List.mem_cons_of_mem _ (List.mem_append_right _ (List.mem_append_right _ (h)))
theorem gd_X11_isAlike_X11_touch : GoodIn w2_X11_isAlike (va_wsS RX11 223 yX11_touch w2_X11_touch) := goodIn_app (goodIn_of _ (by decide +kernel)) (fun w h => ⟨w2i_X11_isAlike_X11_touch w h, w2g_X11_touch w h⟩)
theorem gd_X11_isAlike_X11_has : GoodIn w2_X11_isAlike (va_wsS RX11 220 yX11_has w2_X11_has) := goodIn_app (goodIn_of _ (by decide +kernel)) (fun w h => ⟨w2i_X11_isAlike_X11_has w h, w2g_X11_has w h⟩)
def w2t_X11_change : List Cond := [.fieldLink RX11 38 "StructureSearchModel" "isKnown" "[Z", .fieldLink RX11 78 "StructureSearchModel" "toldGraph" "I", .fieldLink RX11 81 "StructureSearchModel" "toldArc" "I"]
def w2_X11_change : List Cond := .code yX11_change cX11_change 2 none :: (w2t_X11_change ++ (wsX110))
set_option maxRecDepth 20000 in
theorem w2g_X11_change : ∀ w ∈ w2_X11_change, ((w.onTables && w.keeps) = true ∨ ∃ ty, w = .arrayClass ty) := by
  intro w h
  rcases List.mem_cons.mp h with rfl | h
  · exact good_of_word (by decide +kernel)
  rcases List.mem_append.mp h with h | h
  · exact good_of_word (List.all_eq_true.mp (show List.all w2t_X11_change goodWord = true by decide +kernel) w h)
  exact good_of_word (List.all_eq_true.mp (show List.all wsX110 goodWord = true by decide +kernel) w h)
theorem w2i_X11_change_X110 : ∀ w ∈ wsX110, w ∈ w2_X11_change := fun w h => List.mem_cons_of_mem _ (List.mem_append_right _ (h))
def w2t_X11_clear : List Cond := [.fieldLink RX11 179 "StructureSearchModel" "rows" "I", .fieldLink RX11 160 "StructureSearchModel" "names" "I", .fieldLink RX11 16 "StructureSearchModel" "strength" "I", .fieldLink RX11 20 "StructureSearchModel" "most" "I", .methodLink RX11 226 yX11_change, .instanceMethod yX11_change, .selects RX11 yX11_change yX11_change, .initialized RX11]
def w2_X11_clear : List Cond := .code yX11_clear cX11_clear 2 (some .int) :: (w2t_X11_clear ++ (wsX110 ++ (w2_X11_change)))
set_option maxRecDepth 20000 in
theorem w2g_X11_clear : ∀ w ∈ w2_X11_clear, ((w.onTables && w.keeps) = true ∨ ∃ ty, w = .arrayClass ty) := by
  intro w h
  rcases List.mem_cons.mp h with rfl | h
  · exact good_of_word (by decide +kernel)
  rcases List.mem_append.mp h with h | h
  · exact good_of_word (List.all_eq_true.mp (show List.all w2t_X11_clear goodWord = true by decide +kernel) w h)
  rcases List.mem_append.mp h with h | h
  · exact good_of_word (List.all_eq_true.mp (show List.all wsX110 goodWord = true by decide +kernel) w h)
  exact w2g_X11_change w h
theorem w2i_X11_clear_X110 : ∀ w ∈ wsX110, w ∈ w2_X11_clear := fun w h => List.mem_cons_of_mem _ (List.mem_append_right _ (List.mem_append_left _ (h)))
theorem w2i_X11_clear_X11_change : ∀ w ∈ w2_X11_change, w ∈ w2_X11_clear := fun w h => List.mem_cons_of_mem _ (List.mem_append_right _ (List.mem_append_right _ (h)))
theorem gd_X11_clear_X11_change : GoodIn w2_X11_clear (wsV RX11 226 RX11 yX11_change w2_X11_change) := goodIn_app (goodIn_of _ (by decide +kernel)) (fun w h => ⟨w2i_X11_clear_X11_change w h, w2g_X11_change w h⟩)
def w2t_X11_name : List Cond := [.fieldLink RX11 179 "StructureSearchModel" "rows" "I", .fieldLink RX11 160 "StructureSearchModel" "names" "I", .fieldLink RX11 7 "StructureSearchModel" "values" "[I", .methodLink RX11 226 yX11_change, .instanceMethod yX11_change, .selects RX11 yX11_change yX11_change, .initialized RX11]
def w2_X11_name : List Cond := .code yX11_name cX11_name 2 (some .int) :: (w2t_X11_name ++ (wsX110 ++ (w2_X11_change)))
set_option maxRecDepth 20000 in
theorem w2g_X11_name : ∀ w ∈ w2_X11_name, ((w.onTables && w.keeps) = true ∨ ∃ ty, w = .arrayClass ty) := by
  intro w h
  rcases List.mem_cons.mp h with rfl | h
  · exact good_of_word (by decide +kernel)
  rcases List.mem_append.mp h with h | h
  · exact good_of_word (List.all_eq_true.mp (show List.all w2t_X11_name goodWord = true by decide +kernel) w h)
  rcases List.mem_append.mp h with h | h
  · exact good_of_word (List.all_eq_true.mp (show List.all wsX110 goodWord = true by decide +kernel) w h)
  exact w2g_X11_change w h
theorem w2i_X11_name_X110 : ∀ w ∈ wsX110, w ∈ w2_X11_name := fun w h => List.mem_cons_of_mem _ (List.mem_append_right _ (List.mem_append_left _ (h)))
theorem w2i_X11_name_X11_change : ∀ w ∈ w2_X11_change, w ∈ w2_X11_name := fun w h => List.mem_cons_of_mem _ (List.mem_append_right _ (List.mem_append_right _ (h)))
theorem gd_X11_name_X11_change : GoodIn w2_X11_name (wsV RX11 226 RX11 yX11_change w2_X11_change) := goodIn_app (goodIn_of _ (by decide +kernel)) (fun w h => ⟨w2i_X11_name_X11_change w h, w2g_X11_change w h⟩)
def w2t_X11_isValue : List Cond := [.fieldLink RX11 160 "StructureSearchModel" "names" "I", .fieldLink RX11 7 "StructureSearchModel" "values" "[I"]
def w2_X11_isValue : List Cond := .code yX11_isValue cX11_isValue 3 (some .boolean) :: (w2t_X11_isValue ++ (wsX110))
set_option maxRecDepth 20000 in
theorem w2g_X11_isValue : ∀ w ∈ w2_X11_isValue, ((w.onTables && w.keeps) = true ∨ ∃ ty, w = .arrayClass ty) := by
  intro w h
  rcases List.mem_cons.mp h with rfl | h
  · exact good_of_word (by decide +kernel)
  rcases List.mem_append.mp h with h | h
  · exact good_of_word (List.all_eq_true.mp (show List.all w2t_X11_isValue goodWord = true by decide +kernel) w h)
  exact good_of_word (List.all_eq_true.mp (show List.all wsX110 goodWord = true by decide +kernel) w h)
theorem w2i_X11_isValue_X110 : ∀ w ∈ wsX110, w ∈ w2_X11_isValue := fun w h => List.mem_cons_of_mem _ (List.mem_append_right _ (h))
def w2t_X11_row : List Cond := [.fieldLink RX11 160 "StructureSearchModel" "names" "I", .fieldLink RX11 179 "StructureSearchModel" "rows" "I", .fieldLink RX11 13 "StructureSearchModel" "cells" "[I", .methodLink RX11 229 yX11_isValue, .methodLink RX11 226 yX11_change, .instanceMethod yX11_isValue, .selects RX11 yX11_isValue yX11_isValue, .initialized RX11, .instanceMethod yX11_change, .selects RX11 yX11_change yX11_change]
def w2_X11_row : List Cond := .code yX11_row cX11_row 7 (some .int) :: (w2t_X11_row ++ (wsX110 ++ (w2_X11_change ++ (w2_X11_isValue))))
set_option maxRecDepth 20000 in
theorem w2g_X11_row : ∀ w ∈ w2_X11_row, ((w.onTables && w.keeps) = true ∨ ∃ ty, w = .arrayClass ty) := by
  intro w h
  rcases List.mem_cons.mp h with rfl | h
  · exact good_of_word (by decide +kernel)
  rcases List.mem_append.mp h with h | h
  · exact good_of_word (List.all_eq_true.mp (show List.all w2t_X11_row goodWord = true by decide +kernel) w h)
  rcases List.mem_append.mp h with h | h
  · exact good_of_word (List.all_eq_true.mp (show List.all wsX110 goodWord = true by decide +kernel) w h)
  rcases List.mem_append.mp h with h | h
  · exact w2g_X11_change w h
  exact w2g_X11_isValue w h
theorem w2i_X11_row_X110 : ∀ w ∈ wsX110, w ∈ w2_X11_row := fun w h => List.mem_cons_of_mem _ (List.mem_append_right _ (List.mem_append_left _ (h)))
theorem w2i_X11_row_X11_change : ∀ w ∈ w2_X11_change, w ∈ w2_X11_row := fun w h => List.mem_cons_of_mem _ (List.mem_append_right _ (List.mem_append_right _ (List.mem_append_left _ (h))))
theorem w2i_X11_row_X11_isValue : ∀ w ∈ w2_X11_isValue, w ∈ w2_X11_row := fun w h => List.mem_cons_of_mem _ (List.mem_append_right _ (List.mem_append_right _ (List.mem_append_right _ (h))))
theorem gd_X11_row_X11_isValue : GoodIn w2_X11_row (wsV RX11 229 RX11 yX11_isValue w2_X11_isValue) := goodIn_app (goodIn_of _ (by decide +kernel)) (fun w h => ⟨w2i_X11_row_X11_isValue w h, w2g_X11_isValue w h⟩)
theorem gd_X11_row_X11_change : GoodIn w2_X11_row (wsV RX11 226 RX11 yX11_change w2_X11_change) := goodIn_app (goodIn_of _ (by decide +kernel)) (fun w h => ⟨w2i_X11_row_X11_change w h, w2g_X11_change w h⟩)
def w2t_X11_drop : List Cond := [.fieldLink RX11 179 "StructureSearchModel" "rows" "I", .fieldLink RX11 13 "StructureSearchModel" "cells" "[I", .methodLink RX11 226 yX11_change, .instanceMethod yX11_change, .selects RX11 yX11_change yX11_change, .initialized RX11]
def w2_X11_drop : List Cond := .code yX11_drop cX11_drop 3 (some .int) :: (w2t_X11_drop ++ (wsX110 ++ (w2_X11_change)))
set_option maxRecDepth 20000 in
theorem w2g_X11_drop : ∀ w ∈ w2_X11_drop, ((w.onTables && w.keeps) = true ∨ ∃ ty, w = .arrayClass ty) := by
  intro w h
  rcases List.mem_cons.mp h with rfl | h
  · exact good_of_word (by decide +kernel)
  rcases List.mem_append.mp h with h | h
  · exact good_of_word (List.all_eq_true.mp (show List.all w2t_X11_drop goodWord = true by decide +kernel) w h)
  rcases List.mem_append.mp h with h | h
  · exact good_of_word (List.all_eq_true.mp (show List.all wsX110 goodWord = true by decide +kernel) w h)
  exact w2g_X11_change w h
theorem w2i_X11_drop_X110 : ∀ w ∈ wsX110, w ∈ w2_X11_drop := fun w h => List.mem_cons_of_mem _ (List.mem_append_right _ (List.mem_append_left _ (h)))
theorem w2i_X11_drop_X11_change : ∀ w ∈ w2_X11_change, w ∈ w2_X11_drop := fun w h => List.mem_cons_of_mem _ (List.mem_append_right _ (List.mem_append_right _ (h)))
theorem gd_X11_drop_X11_change : GoodIn w2_X11_drop (wsV RX11 226 RX11 yX11_change w2_X11_change) := goodIn_app (goodIn_of _ (by decide +kernel)) (fun w h => ⟨w2i_X11_drop_X11_change w h, w2g_X11_change w h⟩)
def w2t_X11_value : List Cond := [.fieldLink RX11 179 "StructureSearchModel" "rows" "I", .fieldLink RX11 13 "StructureSearchModel" "cells" "[I", .methodLink RX11 233 yX11_isName, .instanceMethod yX11_isName, .selects RX11 yX11_isName yX11_isName, .initialized RX11]
def w2_X11_value : List Cond := .code yX11_value cX11_value 3 (some .int) :: (w2t_X11_value ++ (wsX110 ++ (w2_X11_isName)))
set_option maxRecDepth 20000 in
theorem w2g_X11_value : ∀ w ∈ w2_X11_value, ((w.onTables && w.keeps) = true ∨ ∃ ty, w = .arrayClass ty) := by
  intro w h
  rcases List.mem_cons.mp h with rfl | h
  · exact good_of_word (by decide +kernel)
  rcases List.mem_append.mp h with h | h
  · exact good_of_word (List.all_eq_true.mp (show List.all w2t_X11_value goodWord = true by decide +kernel) w h)
  rcases List.mem_append.mp h with h | h
  · exact good_of_word (List.all_eq_true.mp (show List.all wsX110 goodWord = true by decide +kernel) w h)
  exact w2g_X11_isName w h
theorem w2i_X11_value_X110 : ∀ w ∈ wsX110, w ∈ w2_X11_value := fun w h => List.mem_cons_of_mem _ (List.mem_append_right _ (List.mem_append_left _ (h)))
theorem w2i_X11_value_X11_isName : ∀ w ∈ w2_X11_isName, w ∈ w2_X11_value := fun w h => List.mem_cons_of_mem _ (List.mem_append_right _ (List.mem_append_right _ (h)))
theorem gd_X11_value_X11_isName : GoodIn w2_X11_value (wsV RX11 233 RX11 yX11_isName w2_X11_isName) := goodIn_app (goodIn_of _ (by decide +kernel)) (fun w h => ⟨w2i_X11_value_X11_isName w h, w2g_X11_isName w h⟩)
def w2t_X11_set : List Cond := [.fieldLink RX11 16 "StructureSearchModel" "strength" "I", .fieldLink RX11 20 "StructureSearchModel" "most" "I", .methodLink RX11 226 yX11_change, .instanceMethod yX11_change, .selects RX11 yX11_change yX11_change, .initialized RX11]
def w2_X11_set : List Cond := .code yX11_set cX11_set 4 (some .int) :: (w2t_X11_set ++ (wsX110 ++ (w2_X11_change)))
set_option maxRecDepth 20000 in
theorem w2g_X11_set : ∀ w ∈ w2_X11_set, ((w.onTables && w.keeps) = true ∨ ∃ ty, w = .arrayClass ty) := by
  intro w h
  rcases List.mem_cons.mp h with rfl | h
  · exact good_of_word (by decide +kernel)
  rcases List.mem_append.mp h with h | h
  · exact good_of_word (List.all_eq_true.mp (show List.all w2t_X11_set goodWord = true by decide +kernel) w h)
  rcases List.mem_append.mp h with h | h
  · exact good_of_word (List.all_eq_true.mp (show List.all wsX110 goodWord = true by decide +kernel) w h)
  exact w2g_X11_change w h
theorem w2i_X11_set_X110 : ∀ w ∈ wsX110, w ∈ w2_X11_set := fun w h => List.mem_cons_of_mem _ (List.mem_append_right _ (List.mem_append_left _ (h)))
theorem w2i_X11_set_X11_change : ∀ w ∈ w2_X11_change, w ∈ w2_X11_set := fun w h => List.mem_cons_of_mem _ (List.mem_append_right _ (List.mem_append_right _ (h)))
theorem gd_X11_set_X11_change : GoodIn w2_X11_set (wsV RX11 226 RX11 yX11_change w2_X11_change) := goodIn_app (goodIn_of _ (by decide +kernel)) (fun w h => ⟨w2i_X11_set_X11_change w h, w2g_X11_change w h⟩)
def w2t_X11_about : List Cond := [.fieldLink RX11 160 "StructureSearchModel" "names" "I", .fieldLink RX11 179 "StructureSearchModel" "rows" "I", .fieldLink RX11 16 "StructureSearchModel" "strength" "I", .fieldLink RX11 20 "StructureSearchModel" "most" "I", .fieldLink RX11 7 "StructureSearchModel" "values" "[I"]
def w2_X11_about : List Cond := .code yX11_about cX11_about 2 (some .int) :: (w2t_X11_about ++ (wsX110))
set_option maxRecDepth 20000 in
theorem w2g_X11_about : ∀ w ∈ w2_X11_about, ((w.onTables && w.keeps) = true ∨ ∃ ty, w = .arrayClass ty) := by
  intro w h
  rcases List.mem_cons.mp h with rfl | h
  · exact good_of_word (by decide +kernel)
  rcases List.mem_append.mp h with h | h
  · exact good_of_word (List.all_eq_true.mp (show List.all w2t_X11_about goodWord = true by decide +kernel) w h)
  exact good_of_word (List.all_eq_true.mp (show List.all wsX110 goodWord = true by decide +kernel) w h)
theorem w2i_X11_about_X110 : ∀ w ∈ wsX110, w ∈ w2_X11_about := fun w h => List.mem_cons_of_mem _ (List.mem_append_right _ (h))
def w2t_X11_order : List Cond := [.methodLink RX11 236 yX11_isGraph, .methodLink RX11 194 yX11_parentsOf, .methodLink RX11 233 yX11_isName, .instanceMethod yX11_isGraph, .selects RX11 yX11_isGraph yX11_isGraph, .initialized RX11, .static yX11_parentsOf, .instanceMethod yX11_isName, .selects RX11 yX11_isName yX11_isName]
def w2_X11_order : List Cond := .code yX11_order cX11_order 6 (some .int) :: (w2t_X11_order ++ (w2_X11_isGraph ++ (w2_X11_isName ++ (w2_X11_parentsOf))))
set_option maxRecDepth 20000 in
theorem w2g_X11_order : ∀ w ∈ w2_X11_order, ((w.onTables && w.keeps) = true ∨ ∃ ty, w = .arrayClass ty) := by
  intro w h
  rcases List.mem_cons.mp h with rfl | h
  · exact good_of_word (by decide +kernel)
  rcases List.mem_append.mp h with h | h
  · exact good_of_word (List.all_eq_true.mp (show List.all w2t_X11_order goodWord = true by decide +kernel) w h)
  rcases List.mem_append.mp h with h | h
  · exact w2g_X11_isGraph w h
  rcases List.mem_append.mp h with h | h
  · exact w2g_X11_isName w h
  exact w2g_X11_parentsOf w h
theorem w2i_X11_order_X11_isGraph : ∀ w ∈ w2_X11_isGraph, w ∈ w2_X11_order := fun w h => List.mem_cons_of_mem _ (List.mem_append_right _ (List.mem_append_left _ (h)))
theorem w2i_X11_order_X11_isName : ∀ w ∈ w2_X11_isName, w ∈ w2_X11_order := fun w h => List.mem_cons_of_mem _ (List.mem_append_right _ (List.mem_append_right _ (List.mem_append_left _ (h))))
theorem w2i_X11_order_X11_parentsOf : ∀ w ∈ w2_X11_parentsOf, w ∈ w2_X11_order := fun w h => List.mem_cons_of_mem _ (List.mem_append_right _ (List.mem_append_right _ (List.mem_append_right _ (h))))
theorem gd_X11_order_X11_isGraph : GoodIn w2_X11_order (wsV RX11 236 RX11 yX11_isGraph w2_X11_isGraph) := goodIn_app (goodIn_of _ (by decide +kernel)) (fun w h => ⟨w2i_X11_order_X11_isGraph w h, w2g_X11_isGraph w h⟩)
theorem gd_X11_order_X11_isName : GoodIn w2_X11_order (wsV RX11 233 RX11 yX11_isName w2_X11_isName) := goodIn_app (goodIn_of _ (by decide +kernel)) (fun w h => ⟨w2i_X11_order_X11_isName w h, w2g_X11_isName w h⟩)
theorem gd_X11_order_X11_parentsOf : GoodIn w2_X11_order (va_wsS RX11 194 yX11_parentsOf w2_X11_parentsOf) := goodIn_app (goodIn_of _ (by decide +kernel)) (fun w h => ⟨w2i_X11_order_X11_parentsOf w h, w2g_X11_parentsOf w h⟩)
def w2t_X11_tell : List Cond := [.fieldLink RX11 78 "StructureSearchModel" "toldGraph" "I", .fieldLink RX11 32 "StructureSearchModel" "above" "[I", .fieldLink RX11 35 "StructureSearchModel" "below" "[I", .fieldLink RX11 81 "StructureSearchModel" "toldArc" "I", .methodLink RX11 203 yX11_fit, .methodLink RX11 239 yX11_least, .instanceMethod yX11_fit, .selects RX11 yX11_fit yX11_fit, .initialized RX11, .instanceMethod yX11_least, .selects RX11 yX11_least yX11_least]
def w2_X11_tell : List Cond := .code yX11_tell cX11_tell 2 none :: (w2t_X11_tell ++ (wsX110 ++ (w2_X11_fit ++ (w2_X11_least))))
set_option maxRecDepth 20000 in
theorem w2g_X11_tell : ∀ w ∈ w2_X11_tell, ((w.onTables && w.keeps) = true ∨ ∃ ty, w = .arrayClass ty) := by
  intro w h
  rcases List.mem_cons.mp h with rfl | h
  · exact good_of_word (by decide +kernel)
  rcases List.mem_append.mp h with h | h
  · exact good_of_word (List.all_eq_true.mp (show List.all w2t_X11_tell goodWord = true by decide +kernel) w h)
  rcases List.mem_append.mp h with h | h
  · exact good_of_word (List.all_eq_true.mp (show List.all wsX110 goodWord = true by decide +kernel) w h)
  rcases List.mem_append.mp h with h | h
  · exact w2g_X11_fit w h
  exact w2g_X11_least w h
theorem w2i_X11_tell_X110 : ∀ w ∈ wsX110, w ∈ w2_X11_tell := fun w h => List.mem_cons_of_mem _ (List.mem_append_right _ (List.mem_append_left _ (h)))
theorem w2i_X11_tell_X11_fit : ∀ w ∈ w2_X11_fit, w ∈ w2_X11_tell := fun w h => List.mem_cons_of_mem _ (List.mem_append_right _ (List.mem_append_right _ (List.mem_append_left _ (h))))
theorem w2i_X11_tell_X11_least : ∀ w ∈ w2_X11_least, w ∈ w2_X11_tell := fun w h => List.mem_cons_of_mem _ (List.mem_append_right _ (List.mem_append_right _ (List.mem_append_right _ (h))))
theorem gd_X11_tell_X11_fit : GoodIn w2_X11_tell (wsV RX11 203 RX11 yX11_fit w2_X11_fit) := goodIn_app (goodIn_of _ (by decide +kernel)) (fun w h => ⟨w2i_X11_tell_X11_fit w h, w2g_X11_fit w h⟩)
theorem gd_X11_tell_X11_least : GoodIn w2_X11_tell (wsV RX11 239 RX11 yX11_least w2_X11_least) := goodIn_app (goodIn_of _ (by decide +kernel)) (fun w h => ⟨w2i_X11_tell_X11_least w h, w2g_X11_least w h⟩)
def w2t_X11_wordOf : List Cond := [.fieldLink RX11 32 "StructureSearchModel" "above" "[I", .fieldLink RX11 35 "StructureSearchModel" "below" "[I", .constantLong RX11 242 (-1), .constantLong RX11 123 (4294967295)]
def w2_X11_wordOf : List Cond := .code yX11_wordOf cX11_wordOf 4 (some .long) :: (w2t_X11_wordOf ++ (wsX110))
set_option maxRecDepth 20000 in
theorem w2g_X11_wordOf : ∀ w ∈ w2_X11_wordOf, ((w.onTables && w.keeps) = true ∨ ∃ ty, w = .arrayClass ty) := by
  intro w h
  rcases List.mem_cons.mp h with rfl | h
  · exact good_of_word (by decide +kernel)
  rcases List.mem_append.mp h with h | h
  · exact good_of_word (List.all_eq_true.mp (show List.all w2t_X11_wordOf goodWord = true by decide +kernel) w h)
  exact good_of_word (List.all_eq_true.mp (show List.all wsX110 goodWord = true by decide +kernel) w h)
theorem w2i_X11_wordOf_X110 : ∀ w ∈ wsX110, w ∈ w2_X11_wordOf := fun w h => List.mem_cons_of_mem _ (List.mem_append_right _ (h))
def w2t_X11_isPart : List Cond := []
def w2_X11_isPart : List Cond := .code yX11_isPart cX11_isPart 1 (some .boolean) :: (w2t_X11_isPart)
set_option maxRecDepth 20000 in
theorem w2g_X11_isPart : ∀ w ∈ w2_X11_isPart, ((w.onTables && w.keeps) = true ∨ ∃ ty, w = .arrayClass ty) := by
  intro w h
  rcases List.mem_cons.mp h with rfl | h
  · exact good_of_word (by decide +kernel)
  exact good_of_word (List.all_eq_true.mp (show List.all w2t_X11_isPart goodWord = true by decide +kernel) w h)
def w2t_X11_size : List Cond := [.fieldLink RX11 32 "StructureSearchModel" "above" "[I", .fieldLink RX11 35 "StructureSearchModel" "below" "[I", .methodLink RX11 236 yX11_isGraph, .methodLink RX11 244 yX11_isPart, .methodLink RX11 247 yX11_tell, .instanceMethod yX11_isGraph, .selects RX11 yX11_isGraph yX11_isGraph, .initialized RX11, .static yX11_isPart, .instanceMethod yX11_tell, .selects RX11 yX11_tell yX11_tell]
def w2_X11_size : List Cond := .code yX11_size cX11_size 3 (some .int) :: (w2t_X11_size ++ (wsX110 ++ (w2_X11_isGraph ++ (w2_X11_isPart ++ (w2_X11_tell)))))
set_option maxRecDepth 20000 in
theorem w2g_X11_size : ∀ w ∈ w2_X11_size, ((w.onTables && w.keeps) = true ∨ ∃ ty, w = .arrayClass ty) := by
  intro w h
  rcases List.mem_cons.mp h with rfl | h
  · exact good_of_word (by decide +kernel)
  rcases List.mem_append.mp h with h | h
  · exact good_of_word (List.all_eq_true.mp (show List.all w2t_X11_size goodWord = true by decide +kernel) w h)
  rcases List.mem_append.mp h with h | h
  · exact good_of_word (List.all_eq_true.mp (show List.all wsX110 goodWord = true by decide +kernel) w h)
  rcases List.mem_append.mp h with h | h
  · exact w2g_X11_isGraph w h
  rcases List.mem_append.mp h with h | h
  · exact w2g_X11_isPart w h
  exact w2g_X11_tell w h
theorem w2i_X11_size_X110 : ∀ w ∈ wsX110, w ∈ w2_X11_size := fun w h => List.mem_cons_of_mem _ (List.mem_append_right _ (List.mem_append_left _ (h)))
theorem w2i_X11_size_X11_isGraph : ∀ w ∈ w2_X11_isGraph, w ∈ w2_X11_size := fun w h => List.mem_cons_of_mem _ (List.mem_append_right _ (List.mem_append_right _ (List.mem_append_left _ (h))))
theorem w2i_X11_size_X11_isPart : ∀ w ∈ w2_X11_isPart, w ∈ w2_X11_size := fun w h => List.mem_cons_of_mem _ (List.mem_append_right _ (List.mem_append_right _ (List.mem_append_right _ (List.mem_append_left _ (h)))))
theorem w2i_X11_size_X11_tell : ∀ w ∈ w2_X11_tell, w ∈ w2_X11_size := fun w h => List.mem_cons_of_mem _ (List.mem_append_right _ (List.mem_append_right _ (List.mem_append_right _ (List.mem_append_right _ (h)))))
theorem gd_X11_size_X11_isGraph : GoodIn w2_X11_size (wsV RX11 236 RX11 yX11_isGraph w2_X11_isGraph) := goodIn_app (goodIn_of _ (by decide +kernel)) (fun w h => ⟨w2i_X11_size_X11_isGraph w h, w2g_X11_isGraph w h⟩)
theorem gd_X11_size_X11_isPart : GoodIn w2_X11_size (va_wsS RX11 244 yX11_isPart w2_X11_isPart) := goodIn_app (goodIn_of _ (by decide +kernel)) (fun w h => ⟨w2i_X11_size_X11_isPart w h, w2g_X11_isPart w h⟩)
theorem gd_X11_size_X11_tell : GoodIn w2_X11_size (wsV RX11 247 RX11 yX11_tell w2_X11_tell) := goodIn_app (goodIn_of _ (by decide +kernel)) (fun w h => ⟨w2i_X11_size_X11_tell w h, w2g_X11_tell w h⟩)
def w2t_X11_word : List Cond := [.constantLong RX11 242 (-1), .methodLink RX11 236 yX11_isGraph, .methodLink RX11 244 yX11_isPart, .methodLink RX11 247 yX11_tell, .methodLink RX11 251 yX11_wordOf, .instanceMethod yX11_isGraph, .selects RX11 yX11_isGraph yX11_isGraph, .initialized RX11, .static yX11_isPart, .instanceMethod yX11_tell, .selects RX11 yX11_tell yX11_tell, .instanceMethod yX11_wordOf, .selects RX11 yX11_wordOf yX11_wordOf]
def w2_X11_word : List Cond := .code yX11_word cX11_word 4 (some .long) :: (w2t_X11_word ++ (w2_X11_isGraph ++ (w2_X11_isPart ++ (w2_X11_tell ++ (w2_X11_wordOf)))))
set_option maxRecDepth 20000 in
theorem w2g_X11_word : ∀ w ∈ w2_X11_word, ((w.onTables && w.keeps) = true ∨ ∃ ty, w = .arrayClass ty) := by
  intro w h
  rcases List.mem_cons.mp h with rfl | h
  · exact good_of_word (by decide +kernel)
  rcases List.mem_append.mp h with h | h
  · exact good_of_word (List.all_eq_true.mp (show List.all w2t_X11_word goodWord = true by decide +kernel) w h)
  rcases List.mem_append.mp h with h | h
  · exact w2g_X11_isGraph w h
  rcases List.mem_append.mp h with h | h
  · exact w2g_X11_isPart w h
  rcases List.mem_append.mp h with h | h
  · exact w2g_X11_tell w h
  exact w2g_X11_wordOf w h
theorem w2i_X11_word_X11_isGraph : ∀ w ∈ w2_X11_isGraph, w ∈ w2_X11_word := fun w h => List.mem_cons_of_mem _ (List.mem_append_right _ (List.mem_append_left _ (h)))
theorem w2i_X11_word_X11_isPart : ∀ w ∈ w2_X11_isPart, w ∈ w2_X11_word := fun w h => List.mem_cons_of_mem _ (List.mem_append_right _ (List.mem_append_right _ (List.mem_append_left _ (h))))
theorem w2i_X11_word_X11_tell : ∀ w ∈ w2_X11_tell, w ∈ w2_X11_word := fun w h => List.mem_cons_of_mem _ (List.mem_append_right _ (List.mem_append_right _ (List.mem_append_right _ (List.mem_append_left _ (h)))))
theorem w2i_X11_word_X11_wordOf : ∀ w ∈ w2_X11_wordOf, w ∈ w2_X11_word := fun w h => List.mem_cons_of_mem _ (List.mem_append_right _ (List.mem_append_right _ (List.mem_append_right _ (List.mem_append_right _ (h)))))
theorem gd_X11_word_X11_isGraph : GoodIn w2_X11_word (wsV RX11 236 RX11 yX11_isGraph w2_X11_isGraph) := goodIn_app (goodIn_of _ (by decide +kernel)) (fun w h => ⟨w2i_X11_word_X11_isGraph w h, w2g_X11_isGraph w h⟩)
theorem gd_X11_word_X11_isPart : GoodIn w2_X11_word (va_wsS RX11 244 yX11_isPart w2_X11_isPart) := goodIn_app (goodIn_of _ (by decide +kernel)) (fun w h => ⟨w2i_X11_word_X11_isPart w h, w2g_X11_isPart w h⟩)
theorem gd_X11_word_X11_tell : GoodIn w2_X11_word (wsV RX11 247 RX11 yX11_tell w2_X11_tell) := goodIn_app (goodIn_of _ (by decide +kernel)) (fun w h => ⟨w2i_X11_word_X11_tell w h, w2g_X11_tell w h⟩)
theorem gd_X11_word_X11_wordOf : GoodIn w2_X11_word (wsV RX11 251 RX11 yX11_wordOf w2_X11_wordOf) := goodIn_app (goodIn_of _ (by decide +kernel)) (fun w h => ⟨w2i_X11_word_X11_wordOf w h, w2g_X11_wordOf w h⟩)
def w2t_X11_compare : List Cond := [.methodLink RX11 236 yX11_isGraph, .methodLink RX11 255 yX11_signOf, .instanceMethod yX11_isGraph, .selects RX11 yX11_isGraph yX11_isGraph, .initialized RX11, .instanceMethod yX11_signOf, .selects RX11 yX11_signOf yX11_signOf]
def w2_X11_compare : List Cond := .code yX11_compare cX11_compare 4 (some .int) :: (w2t_X11_compare ++ (w2_X11_isGraph ++ (w2_X11_signOf)))
set_option maxRecDepth 20000 in
theorem w2g_X11_compare : ∀ w ∈ w2_X11_compare, ((w.onTables && w.keeps) = true ∨ ∃ ty, w = .arrayClass ty) := by
  intro w h
  rcases List.mem_cons.mp h with rfl | h
  · exact good_of_word (by decide +kernel)
  rcases List.mem_append.mp h with h | h
  · exact good_of_word (List.all_eq_true.mp (show List.all w2t_X11_compare goodWord = true by decide +kernel) w h)
  rcases List.mem_append.mp h with h | h
  · exact w2g_X11_isGraph w h
  exact w2g_X11_signOf w h
theorem w2i_X11_compare_X11_isGraph : ∀ w ∈ w2_X11_isGraph, w ∈ w2_X11_compare := fun w h => List.mem_cons_of_mem _ (List.mem_append_right _ (List.mem_append_left _ (h)))
theorem w2i_X11_compare_X11_signOf : ∀ w ∈ w2_X11_signOf, w ∈ w2_X11_compare := fun w h => List.mem_cons_of_mem _ (List.mem_append_right _ (List.mem_append_right _ (h)))
theorem gd_X11_compare_X11_isGraph : GoodIn w2_X11_compare (wsV RX11 236 RX11 yX11_isGraph w2_X11_isGraph) := goodIn_app (goodIn_of _ (by decide +kernel)) (fun w h => ⟨w2i_X11_compare_X11_isGraph w h, w2g_X11_isGraph w h⟩)
theorem gd_X11_compare_X11_signOf : GoodIn w2_X11_compare (wsV RX11 255 RX11 yX11_signOf w2_X11_signOf) := goodIn_app (goodIn_of _ (by decide +kernel)) (fun w h => ⟨w2i_X11_compare_X11_signOf w h, w2g_X11_signOf w h⟩)
def w2t_X11_bestParents : List Cond := [.fieldLink RX11 42 "StructureSearchModel" "tops" "[I", .fieldLink RX11 66 "StructureSearchModel" "topB" "[I", .fieldLink RX11 45 "StructureSearchModel" "lows" "[I", .fieldLink RX11 69 "StructureSearchModel" "lowB" "[I", .fieldLink RX11 20 "StructureSearchModel" "most" "I", .fieldLink RX11 60 "StructureSearchModel" "topA" "[I", .fieldLink RX11 63 "StructureSearchModel" "lowA" "[I", .methodLink RX11 197 yX11_family, .methodLink RX11 171 yX11_load, .methodLink RX11 129 yX11_copy, .methodLink RX11 216 yX11_bits, .methodLink RX11 207 yX11_sign, .instanceMethod yX11_family, .selects RX11 yX11_family yX11_family, .initialized RX11, .static yX11_load, .static yX11_copy, .static yX11_bits, .instanceMethod yX11_sign, .selects RX11 yX11_sign yX11_sign]
def w2_X11_bestParents : List Cond := .code yX11_bestParents cX11_bestParents 5 (some .int) :: (w2t_X11_bestParents ++ (wsX110 ++ (w2_X11_bits ++ (w2_X11_copy ++ (w2_X11_family ++ (w2_X11_load ++ (w2_X11_sign)))))))
set_option maxRecDepth 20000 in
theorem w2g_X11_bestParents : ∀ w ∈ w2_X11_bestParents, ((w.onTables && w.keeps) = true ∨ ∃ ty, w = .arrayClass ty) := by
  intro w h
  rcases List.mem_cons.mp h with rfl | h
  · exact good_of_word (by decide +kernel)
  rcases List.mem_append.mp h with h | h
  · exact good_of_word (List.all_eq_true.mp (show List.all w2t_X11_bestParents goodWord = true by decide +kernel) w h)
  rcases List.mem_append.mp h with h | h
  · exact good_of_word (List.all_eq_true.mp (show List.all wsX110 goodWord = true by decide +kernel) w h)
  rcases List.mem_append.mp h with h | h
  · exact w2g_X11_bits w h
  rcases List.mem_append.mp h with h | h
  · exact w2g_X11_copy w h
  rcases List.mem_append.mp h with h | h
  · exact w2g_X11_family w h
  rcases List.mem_append.mp h with h | h
  · exact w2g_X11_load w h
  exact w2g_X11_sign w h
theorem w2i_X11_bestParents_X110 : ∀ w ∈ wsX110, w ∈ w2_X11_bestParents := fun w h => List.mem_cons_of_mem _ (List.mem_append_right _ (List.mem_append_left _ (h)))
theorem w2i_X11_bestParents_X11_bits : ∀ w ∈ w2_X11_bits, w ∈ w2_X11_bestParents := fun w h => List.mem_cons_of_mem _ (List.mem_append_right _ (List.mem_append_right _ (List.mem_append_left _ (h))))
theorem w2i_X11_bestParents_X11_copy : ∀ w ∈ w2_X11_copy, w ∈ w2_X11_bestParents := fun w h => List.mem_cons_of_mem _ (List.mem_append_right _ (List.mem_append_right _ (List.mem_append_right _ (List.mem_append_left _ (h)))))
theorem w2i_X11_bestParents_X11_family : ∀ w ∈ w2_X11_family, w ∈ w2_X11_bestParents := fun w h => List.mem_cons_of_mem _ (List.mem_append_right _ (List.mem_append_right _ (List.mem_append_right _ (List.mem_append_right _ (List.mem_append_left _ (h))))))
theorem w2i_X11_bestParents_X11_load : ∀ w ∈ w2_X11_load, w ∈ w2_X11_bestParents := fun w h => List.mem_cons_of_mem _ (List.mem_append_right _ (List.mem_append_right _ (List.mem_append_right _ (List.mem_append_right _ (List.mem_append_right _ (List.mem_append_left _ (h)))))))
theorem w2i_X11_bestParents_X11_sign : ∀ w ∈ w2_X11_sign, w ∈ w2_X11_bestParents := fun w h => List.mem_cons_of_mem _ (List.mem_append_right _ (List.mem_append_right _ (List.mem_append_right _ (List.mem_append_right _ (List.mem_append_right _ (List.mem_append_right _ (h)))))))
theorem gd_X11_bestParents_X11_family : GoodIn w2_X11_bestParents (wsV RX11 197 RX11 yX11_family w2_X11_family) := goodIn_app (goodIn_of _ (by decide +kernel)) (fun w h => ⟨w2i_X11_bestParents_X11_family w h, w2g_X11_family w h⟩)
theorem gd_X11_bestParents_X11_load : GoodIn w2_X11_bestParents (va_wsS RX11 171 yX11_load w2_X11_load) := goodIn_app (goodIn_of _ (by decide +kernel)) (fun w h => ⟨w2i_X11_bestParents_X11_load w h, w2g_X11_load w h⟩)
theorem gd_X11_bestParents_X11_bits : GoodIn w2_X11_bestParents (va_wsS RX11 216 yX11_bits w2_X11_bits) := goodIn_app (goodIn_of _ (by decide +kernel)) (fun w h => ⟨w2i_X11_bestParents_X11_bits w h, w2g_X11_bits w h⟩)
theorem gd_X11_bestParents_X11_sign : GoodIn w2_X11_bestParents (wsV RX11 207 RX11 yX11_sign w2_X11_sign) := goodIn_app (goodIn_of _ (by decide +kernel)) (fun w h => ⟨w2i_X11_bestParents_X11_sign w h, w2g_X11_sign w h⟩)
theorem gd_X11_bestParents_X11_copy : GoodIn w2_X11_bestParents (va_wsS RX11 129 yX11_copy w2_X11_copy) := goodIn_app (goodIn_of _ (by decide +kernel)) (fun w h => ⟨w2i_X11_bestParents_X11_copy w h, w2g_X11_copy w h⟩)
def w2t_X11_parents : List Cond := [.methodLink RX11 233 yX11_isName, .methodLink RX11 212 yX11_isSet, .methodLink RX11 258 yX11_bestParents, .instanceMethod yX11_isName, .selects RX11 yX11_isName yX11_isName, .initialized RX11, .instanceMethod yX11_isSet, .selects RX11 yX11_isSet yX11_isSet, .instanceMethod yX11_bestParents, .selects RX11 yX11_bestParents yX11_bestParents]
def w2_X11_parents : List Cond := .code yX11_parents cX11_parents 3 (some .int) :: (w2t_X11_parents ++ (w2_X11_bestParents ++ (w2_X11_isName ++ (w2_X11_isSet))))
set_option maxRecDepth 20000 in
theorem w2g_X11_parents : ∀ w ∈ w2_X11_parents, ((w.onTables && w.keeps) = true ∨ ∃ ty, w = .arrayClass ty) := by
  intro w h
  rcases List.mem_cons.mp h with rfl | h
  · exact good_of_word (by decide +kernel)
  rcases List.mem_append.mp h with h | h
  · exact good_of_word (List.all_eq_true.mp (show List.all w2t_X11_parents goodWord = true by decide +kernel) w h)
  rcases List.mem_append.mp h with h | h
  · exact w2g_X11_bestParents w h
  rcases List.mem_append.mp h with h | h
  · exact w2g_X11_isName w h
  exact w2g_X11_isSet w h
theorem w2i_X11_parents_X11_bestParents : ∀ w ∈ w2_X11_bestParents, w ∈ w2_X11_parents := fun w h => List.mem_cons_of_mem _ (List.mem_append_right _ (List.mem_append_left _ (h)))
theorem w2i_X11_parents_X11_isName : ∀ w ∈ w2_X11_isName, w ∈ w2_X11_parents := fun w h => List.mem_cons_of_mem _ (List.mem_append_right _ (List.mem_append_right _ (List.mem_append_left _ (h))))
theorem w2i_X11_parents_X11_isSet : ∀ w ∈ w2_X11_isSet, w ∈ w2_X11_parents := fun w h => List.mem_cons_of_mem _ (List.mem_append_right _ (List.mem_append_right _ (List.mem_append_right _ (h))))
theorem gd_X11_parents_X11_isName : GoodIn w2_X11_parents (wsV RX11 233 RX11 yX11_isName w2_X11_isName) := goodIn_app (goodIn_of _ (by decide +kernel)) (fun w h => ⟨w2i_X11_parents_X11_isName w h, w2g_X11_isName w h⟩)
theorem gd_X11_parents_X11_isSet : GoodIn w2_X11_parents (wsV RX11 212 RX11 yX11_isSet w2_X11_isSet) := goodIn_app (goodIn_of _ (by decide +kernel)) (fun w h => ⟨w2i_X11_parents_X11_isSet w h, w2g_X11_isSet w h⟩)
theorem gd_X11_parents_X11_bestParents : GoodIn w2_X11_parents (wsV RX11 258 RX11 yX11_bestParents w2_X11_bestParents) := goodIn_app (goodIn_of _ (by decide +kernel)) (fun w h => ⟨w2i_X11_parents_X11_bestParents w h, w2g_X11_bestParents w h⟩)
def w2t_X11_arcs : List Cond := []
def w2_X11_arcs : List Cond := .code yX11_arcs cX11_arcs 4 (some .int) :: (w2t_X11_arcs)
set_option maxRecDepth 20000 in
theorem w2g_X11_arcs : ∀ w ∈ w2_X11_arcs, ((w.onTables && w.keeps) = true ∨ ∃ ty, w = .arrayClass ty) := by
  intro w h
  rcases List.mem_cons.mp h with rfl | h
  · exact good_of_word (by decide +kernel)
  exact good_of_word (List.all_eq_true.mp (show List.all w2t_X11_arcs goodWord = true by decide +kernel) w h)
def w2t_X11_fitIn : List Cond := [.fieldLink RX11 160 "StructureSearchModel" "names" "I", .fieldLink RX11 42 "StructureSearchModel" "tops" "[I", .fieldLink RX11 45 "StructureSearchModel" "lows" "[I", .methodLink RX11 151 yX11_put, .methodLink RX11 194 yX11_parentsOf, .methodLink RX11 197 yX11_family, .methodLink RX11 200 yX11_multiply, .static yX11_put, .initialized RX11, .static yX11_parentsOf, .instanceMethod yX11_family, .selects RX11 yX11_family yX11_family, .instanceMethod yX11_multiply, .selects RX11 yX11_multiply yX11_multiply]
def w2_X11_fitIn : List Cond := .code yX11_fitIn cX11_fitIn 7 none :: (w2t_X11_fitIn ++ (wsX110 ++ (w2_X11_family ++ (w2_X11_multiply ++ (w2_X11_parentsOf ++ (w2_X11_put))))))
set_option maxRecDepth 20000 in
theorem w2g_X11_fitIn : ∀ w ∈ w2_X11_fitIn, ((w.onTables && w.keeps) = true ∨ ∃ ty, w = .arrayClass ty) := by
  intro w h
  rcases List.mem_cons.mp h with rfl | h
  · exact good_of_word (by decide +kernel)
  rcases List.mem_append.mp h with h | h
  · exact good_of_word (List.all_eq_true.mp (show List.all w2t_X11_fitIn goodWord = true by decide +kernel) w h)
  rcases List.mem_append.mp h with h | h
  · exact good_of_word (List.all_eq_true.mp (show List.all wsX110 goodWord = true by decide +kernel) w h)
  rcases List.mem_append.mp h with h | h
  · exact w2g_X11_family w h
  rcases List.mem_append.mp h with h | h
  · exact w2g_X11_multiply w h
  rcases List.mem_append.mp h with h | h
  · exact w2g_X11_parentsOf w h
  exact w2g_X11_put w h
theorem w2i_X11_fitIn_X110 : ∀ w ∈ wsX110, w ∈ w2_X11_fitIn := fun w h => List.mem_cons_of_mem _ (List.mem_append_right _ (List.mem_append_left _ (h)))
theorem w2i_X11_fitIn_X11_family : ∀ w ∈ w2_X11_family, w ∈ w2_X11_fitIn := fun w h => List.mem_cons_of_mem _ (List.mem_append_right _ (List.mem_append_right _ (List.mem_append_left _ (h))))
theorem w2i_X11_fitIn_X11_multiply : ∀ w ∈ w2_X11_multiply, w ∈ w2_X11_fitIn := fun w h => List.mem_cons_of_mem _ (List.mem_append_right _ (List.mem_append_right _ (List.mem_append_right _ (List.mem_append_left _ (h)))))
theorem w2i_X11_fitIn_X11_parentsOf : ∀ w ∈ w2_X11_parentsOf, w ∈ w2_X11_fitIn := fun w h => List.mem_cons_of_mem _ (List.mem_append_right _ (List.mem_append_right _ (List.mem_append_right _ (List.mem_append_right _ (List.mem_append_left _ (h))))))
theorem w2i_X11_fitIn_X11_put : ∀ w ∈ w2_X11_put, w ∈ w2_X11_fitIn := fun w h => List.mem_cons_of_mem _ (List.mem_append_right _ (List.mem_append_right _ (List.mem_append_right _ (List.mem_append_right _ (List.mem_append_right _ (h))))))
theorem gd_X11_fitIn_X11_put : GoodIn w2_X11_fitIn (va_wsS RX11 151 yX11_put w2_X11_put) := goodIn_app (goodIn_of _ (by decide +kernel)) (fun w h => ⟨w2i_X11_fitIn_X11_put w h, w2g_X11_put w h⟩)
theorem gd_X11_fitIn_X11_parentsOf : GoodIn w2_X11_fitIn (va_wsS RX11 194 yX11_parentsOf w2_X11_parentsOf) := goodIn_app (goodIn_of _ (by decide +kernel)) (fun w h => ⟨w2i_X11_fitIn_X11_parentsOf w h, w2g_X11_parentsOf w h⟩)
theorem gd_X11_fitIn_X11_family : GoodIn w2_X11_fitIn (wsV RX11 197 RX11 yX11_family w2_X11_family) := goodIn_app (goodIn_of _ (by decide +kernel)) (fun w h => ⟨w2i_X11_fitIn_X11_family w h, w2g_X11_family w h⟩)
theorem gd_X11_fitIn_X11_multiply : GoodIn w2_X11_fitIn (wsV RX11 200 RX11 yX11_multiply w2_X11_multiply) := goodIn_app (goodIn_of _ (by decide +kernel)) (fun w h => ⟨w2i_X11_fitIn_X11_multiply w h, w2g_X11_multiply w h⟩)
def w2t_X11_signIn : List Cond := [.fieldLink RX11 60 "StructureSearchModel" "topA" "[I", .fieldLink RX11 63 "StructureSearchModel" "lowA" "[I", .fieldLink RX11 66 "StructureSearchModel" "topB" "[I", .fieldLink RX11 69 "StructureSearchModel" "lowB" "[I", .methodLink RX11 268 yX11_fitIn, .methodLink RX11 207 yX11_sign, .instanceMethod yX11_fitIn, .selects RX11 yX11_fitIn yX11_fitIn, .initialized RX11, .instanceMethod yX11_sign, .selects RX11 yX11_sign yX11_sign]
def w2_X11_signIn : List Cond := .code yX11_signIn cX11_signIn 4 (some .int) :: (w2t_X11_signIn ++ (wsX110 ++ (w2_X11_fitIn ++ (w2_X11_sign))))
set_option maxRecDepth 20000 in
theorem w2g_X11_signIn : ∀ w ∈ w2_X11_signIn, ((w.onTables && w.keeps) = true ∨ ∃ ty, w = .arrayClass ty) := by
  intro w h
  rcases List.mem_cons.mp h with rfl | h
  · exact good_of_word (by decide +kernel)
  rcases List.mem_append.mp h with h | h
  · exact good_of_word (List.all_eq_true.mp (show List.all w2t_X11_signIn goodWord = true by decide +kernel) w h)
  rcases List.mem_append.mp h with h | h
  · exact good_of_word (List.all_eq_true.mp (show List.all wsX110 goodWord = true by decide +kernel) w h)
  rcases List.mem_append.mp h with h | h
  · exact w2g_X11_fitIn w h
  exact w2g_X11_sign w h
theorem w2i_X11_signIn_X110 : ∀ w ∈ wsX110, w ∈ w2_X11_signIn := fun w h => List.mem_cons_of_mem _ (List.mem_append_right _ (List.mem_append_left _ (h)))
theorem w2i_X11_signIn_X11_fitIn : ∀ w ∈ w2_X11_fitIn, w ∈ w2_X11_signIn := fun w h => List.mem_cons_of_mem _ (List.mem_append_right _ (List.mem_append_right _ (List.mem_append_left _ (h))))
theorem w2i_X11_signIn_X11_sign : ∀ w ∈ w2_X11_sign, w ∈ w2_X11_signIn := fun w h => List.mem_cons_of_mem _ (List.mem_append_right _ (List.mem_append_right _ (List.mem_append_right _ (h))))
theorem gd_X11_signIn_X11_fitIn : GoodIn w2_X11_signIn (wsV RX11 268 RX11 yX11_fitIn w2_X11_fitIn) := goodIn_app (goodIn_of _ (by decide +kernel)) (fun w h => ⟨w2i_X11_signIn_X11_fitIn w h, w2g_X11_fitIn w h⟩)
theorem gd_X11_signIn_X11_sign : GoodIn w2_X11_signIn (wsV RX11 207 RX11 yX11_sign w2_X11_sign) := goodIn_app (goodIn_of _ (by decide +kernel)) (fun w h => ⟨w2i_X11_signIn_X11_sign w h, w2g_X11_sign w h⟩)
def w2t_X11_best : List Cond := [.fieldLink RX11 84 "StructureSearchModel" "bests" "[I", .fieldLink RX11 160 "StructureSearchModel" "names" "I", .methodLink RX11 258 yX11_bestParents, .methodLink RX11 261 yX11_arcs, .methodLink RX11 264 yX11_signIn, .instanceMethod yX11_bestParents, .selects RX11 yX11_bestParents yX11_bestParents, .initialized RX11, .static yX11_arcs, .instanceMethod yX11_signIn, .selects RX11 yX11_signIn yX11_signIn]
def w2_X11_best : List Cond := .code yX11_best cX11_best 7 (some .int) :: (w2t_X11_best ++ (wsX110 ++ (w2_X11_arcs ++ (w2_X11_bestParents ++ (w2_X11_signIn)))))
set_option maxRecDepth 20000 in
theorem w2g_X11_best : ∀ w ∈ w2_X11_best, ((w.onTables && w.keeps) = true ∨ ∃ ty, w = .arrayClass ty) := by
  intro w h
  rcases List.mem_cons.mp h with rfl | h
  · exact good_of_word (by decide +kernel)
  rcases List.mem_append.mp h with h | h
  · exact good_of_word (List.all_eq_true.mp (show List.all w2t_X11_best goodWord = true by decide +kernel) w h)
  rcases List.mem_append.mp h with h | h
  · exact good_of_word (List.all_eq_true.mp (show List.all wsX110 goodWord = true by decide +kernel) w h)
  rcases List.mem_append.mp h with h | h
  · exact w2g_X11_arcs w h
  rcases List.mem_append.mp h with h | h
  · exact w2g_X11_bestParents w h
  exact w2g_X11_signIn w h
theorem w2i_X11_best_X110 : ∀ w ∈ wsX110, w ∈ w2_X11_best := fun w h => List.mem_cons_of_mem _ (List.mem_append_right _ (List.mem_append_left _ (h)))
theorem w2i_X11_best_X11_arcs : ∀ w ∈ w2_X11_arcs, w ∈ w2_X11_best := fun w h => List.mem_cons_of_mem _ (List.mem_append_right _ (List.mem_append_right _ (List.mem_append_left _ (h))))
theorem w2i_X11_best_X11_bestParents : ∀ w ∈ w2_X11_bestParents, w ∈ w2_X11_best := fun w h => List.mem_cons_of_mem _ (List.mem_append_right _ (List.mem_append_right _ (List.mem_append_right _ (List.mem_append_left _ (h)))))
theorem w2i_X11_best_X11_signIn : ∀ w ∈ w2_X11_signIn, w ∈ w2_X11_best := fun w h => List.mem_cons_of_mem _ (List.mem_append_right _ (List.mem_append_right _ (List.mem_append_right _ (List.mem_append_right _ (h)))))
theorem gd_X11_best_X11_bestParents : GoodIn w2_X11_best (wsV RX11 258 RX11 yX11_bestParents w2_X11_bestParents) := goodIn_app (goodIn_of _ (by decide +kernel)) (fun w h => ⟨w2i_X11_best_X11_bestParents w h, w2g_X11_bestParents w h⟩)
theorem gd_X11_best_X11_arcs : GoodIn w2_X11_best (va_wsS RX11 261 yX11_arcs w2_X11_arcs) := goodIn_app (goodIn_of _ (by decide +kernel)) (fun w h => ⟨w2i_X11_best_X11_arcs w h, w2g_X11_arcs w h⟩)
theorem gd_X11_best_X11_signIn : GoodIn w2_X11_best (wsV RX11 264 RX11 yX11_signIn w2_X11_signIn) := goodIn_app (goodIn_of _ (by decide +kernel)) (fun w h => ⟨w2i_X11_best_X11_signIn w h, w2g_X11_signIn w h⟩)
def w2t_X11_better : List Cond := [.methodLink RX11 236 yX11_isGraph, .methodLink RX11 272 yX11_isBounded, .methodLink RX11 255 yX11_signOf, .instanceMethod yX11_isGraph, .selects RX11 yX11_isGraph yX11_isGraph, .initialized RX11, .instanceMethod yX11_isBounded, .selects RX11 yX11_isBounded yX11_isBounded, .instanceMethod yX11_signOf, .selects RX11 yX11_signOf yX11_signOf]
def w2_X11_better : List Cond := .code yX11_better cX11_better 4 (some .int) :: (w2t_X11_better ++ (w2_X11_isBounded ++ (w2_X11_isGraph ++ (w2_X11_signOf))))
set_option maxRecDepth 20000 in
theorem w2g_X11_better : ∀ w ∈ w2_X11_better, ((w.onTables && w.keeps) = true ∨ ∃ ty, w = .arrayClass ty) := by
  intro w h
  rcases List.mem_cons.mp h with rfl | h
  · exact good_of_word (by decide +kernel)
  rcases List.mem_append.mp h with h | h
  · exact good_of_word (List.all_eq_true.mp (show List.all w2t_X11_better goodWord = true by decide +kernel) w h)
  rcases List.mem_append.mp h with h | h
  · exact w2g_X11_isBounded w h
  rcases List.mem_append.mp h with h | h
  · exact w2g_X11_isGraph w h
  exact w2g_X11_signOf w h
theorem w2i_X11_better_X11_isBounded : ∀ w ∈ w2_X11_isBounded, w ∈ w2_X11_better := fun w h => List.mem_cons_of_mem _ (List.mem_append_right _ (List.mem_append_left _ (h)))
theorem w2i_X11_better_X11_isGraph : ∀ w ∈ w2_X11_isGraph, w ∈ w2_X11_better := fun w h => List.mem_cons_of_mem _ (List.mem_append_right _ (List.mem_append_right _ (List.mem_append_left _ (h))))
theorem w2i_X11_better_X11_signOf : ∀ w ∈ w2_X11_signOf, w ∈ w2_X11_better := fun w h => List.mem_cons_of_mem _ (List.mem_append_right _ (List.mem_append_right _ (List.mem_append_right _ (h))))
theorem gd_X11_better_X11_isGraph : GoodIn w2_X11_better (wsV RX11 236 RX11 yX11_isGraph w2_X11_isGraph) := goodIn_app (goodIn_of _ (by decide +kernel)) (fun w h => ⟨w2i_X11_better_X11_isGraph w h, w2g_X11_isGraph w h⟩)
theorem gd_X11_better_X11_isBounded : GoodIn w2_X11_better (wsV RX11 272 RX11 yX11_isBounded w2_X11_isBounded) := goodIn_app (goodIn_of _ (by decide +kernel)) (fun w h => ⟨w2i_X11_better_X11_isBounded w h, w2g_X11_isBounded w h⟩)
theorem gd_X11_better_X11_signOf : GoodIn w2_X11_better (wsV RX11 255 RX11 yX11_signOf w2_X11_signOf) := goodIn_app (goodIn_of _ (by decide +kernel)) (fun w h => ⟨w2i_X11_better_X11_signOf w h, w2g_X11_signOf w h⟩)
def w2t_X11_climb : List Cond := [.fieldLink RX11 160 "StructureSearchModel" "names" "I", .methodLink RX11 236 yX11_isGraph, .methodLink RX11 272 yX11_isBounded, .methodLink RX11 275 yX11_better, .methodLink RX11 255 yX11_signOf, .instanceMethod yX11_isGraph, .selects RX11 yX11_isGraph yX11_isGraph, .initialized RX11, .instanceMethod yX11_isBounded, .selects RX11 yX11_isBounded yX11_isBounded, .instanceMethod yX11_better, .selects RX11 yX11_better yX11_better, .instanceMethod yX11_signOf, .selects RX11 yX11_signOf yX11_signOf]
def w2_X11_climb : List Cond := .code yX11_climb cX11_climb 11 (some .int) :: (w2t_X11_climb ++ (wsX110 ++ (w2_X11_better ++ (w2_X11_isBounded ++ (w2_X11_isGraph ++ (w2_X11_signOf))))))
set_option maxRecDepth 20000 in
theorem w2g_X11_climb : ∀ w ∈ w2_X11_climb, ((w.onTables && w.keeps) = true ∨ ∃ ty, w = .arrayClass ty) := by
  intro w h
  rcases List.mem_cons.mp h with rfl | h
  · exact good_of_word (by decide +kernel)
  rcases List.mem_append.mp h with h | h
  · exact good_of_word (List.all_eq_true.mp (show List.all w2t_X11_climb goodWord = true by decide +kernel) w h)
  rcases List.mem_append.mp h with h | h
  · exact good_of_word (List.all_eq_true.mp (show List.all wsX110 goodWord = true by decide +kernel) w h)
  rcases List.mem_append.mp h with h | h
  · exact w2g_X11_better w h
  rcases List.mem_append.mp h with h | h
  · exact w2g_X11_isBounded w h
  rcases List.mem_append.mp h with h | h
  · exact w2g_X11_isGraph w h
  exact w2g_X11_signOf w h
theorem w2i_X11_climb_X110 : ∀ w ∈ wsX110, w ∈ w2_X11_climb := fun w h => List.mem_cons_of_mem _ (List.mem_append_right _ (List.mem_append_left _ (h)))
theorem w2i_X11_climb_X11_better : ∀ w ∈ w2_X11_better, w ∈ w2_X11_climb := fun w h => List.mem_cons_of_mem _ (List.mem_append_right _ (List.mem_append_right _ (List.mem_append_left _ (h))))
theorem w2i_X11_climb_X11_isBounded : ∀ w ∈ w2_X11_isBounded, w ∈ w2_X11_climb := fun w h => List.mem_cons_of_mem _ (List.mem_append_right _ (List.mem_append_right _ (List.mem_append_right _ (List.mem_append_left _ (h)))))
theorem w2i_X11_climb_X11_isGraph : ∀ w ∈ w2_X11_isGraph, w ∈ w2_X11_climb := fun w h => List.mem_cons_of_mem _ (List.mem_append_right _ (List.mem_append_right _ (List.mem_append_right _ (List.mem_append_right _ (List.mem_append_left _ (h))))))
theorem w2i_X11_climb_X11_signOf : ∀ w ∈ w2_X11_signOf, w ∈ w2_X11_climb := fun w h => List.mem_cons_of_mem _ (List.mem_append_right _ (List.mem_append_right _ (List.mem_append_right _ (List.mem_append_right _ (List.mem_append_right _ (h))))))
theorem gd_X11_climb_X11_isGraph : GoodIn w2_X11_climb (wsV RX11 236 RX11 yX11_isGraph w2_X11_isGraph) := goodIn_app (goodIn_of _ (by decide +kernel)) (fun w h => ⟨w2i_X11_climb_X11_isGraph w h, w2g_X11_isGraph w h⟩)
theorem gd_X11_climb_X11_isBounded : GoodIn w2_X11_climb (wsV RX11 272 RX11 yX11_isBounded w2_X11_isBounded) := goodIn_app (goodIn_of _ (by decide +kernel)) (fun w h => ⟨w2i_X11_climb_X11_isBounded w h, w2g_X11_isBounded w h⟩)
theorem gd_X11_climb_X11_better : GoodIn w2_X11_climb (wsV RX11 275 RX11 yX11_better w2_X11_better) := goodIn_app (goodIn_of _ (by decide +kernel)) (fun w h => ⟨w2i_X11_climb_X11_better w h, w2g_X11_better w h⟩)
theorem gd_X11_climb_X11_signOf : GoodIn w2_X11_climb (wsV RX11 255 RX11 yX11_signOf w2_X11_signOf) := goodIn_app (goodIn_of _ (by decide +kernel)) (fun w h => ⟨w2i_X11_climb_X11_signOf w h, w2g_X11_signOf w h⟩)
def w2t_X11_alike : List Cond := [.methodLink RX11 236 yX11_isGraph, .methodLink RX11 278 yX11_isAlike, .instanceMethod yX11_isGraph, .selects RX11 yX11_isGraph yX11_isGraph, .initialized RX11, .static yX11_isAlike]
def w2_X11_alike : List Cond := .code yX11_alike cX11_alike 3 (some .int) :: (w2t_X11_alike ++ (w2_X11_isAlike ++ (w2_X11_isGraph)))
set_option maxRecDepth 20000 in
theorem w2g_X11_alike : ∀ w ∈ w2_X11_alike, ((w.onTables && w.keeps) = true ∨ ∃ ty, w = .arrayClass ty) := by
  intro w h
  rcases List.mem_cons.mp h with rfl | h
  · exact good_of_word (by decide +kernel)
  rcases List.mem_append.mp h with h | h
  · exact good_of_word (List.all_eq_true.mp (show List.all w2t_X11_alike goodWord = true by decide +kernel) w h)
  rcases List.mem_append.mp h with h | h
  · exact w2g_X11_isAlike w h
  exact w2g_X11_isGraph w h
theorem w2i_X11_alike_X11_isAlike : ∀ w ∈ w2_X11_isAlike, w ∈ w2_X11_alike := fun w h => List.mem_cons_of_mem _ (List.mem_append_right _ (List.mem_append_left _ (h)))
theorem w2i_X11_alike_X11_isGraph : ∀ w ∈ w2_X11_isGraph, w ∈ w2_X11_alike := fun w h => List.mem_cons_of_mem _ (List.mem_append_right _ (List.mem_append_right _ (h)))
theorem gd_X11_alike_X11_isGraph : GoodIn w2_X11_alike (wsV RX11 236 RX11 yX11_isGraph w2_X11_isGraph) := goodIn_app (goodIn_of _ (by decide +kernel)) (fun w h => ⟨w2i_X11_alike_X11_isGraph w h, w2g_X11_isGraph w h⟩)
theorem gd_X11_alike_X11_isAlike : GoodIn w2_X11_alike (va_wsS RX11 278 yX11_isAlike w2_X11_isAlike) := goodIn_app (goodIn_of _ (by decide +kernel)) (fun w h => ⟨w2i_X11_alike_X11_isAlike w h, w2g_X11_isAlike w h⟩)
def w2t_X11_kin : List Cond := [.fieldLink RX11 87 "StructureSearchModel" "first" "[I", .fieldLink RX11 90 "StructureSearchModel" "second" "[I", .constant RX11 211 (33554432), .constant RX11 281 (33554431), .methodLink RX11 236 yX11_isGraph, .methodLink RX11 223 yX11_touch, .methodLink RX11 278 yX11_isAlike, .instanceMethod yX11_isGraph, .selects RX11 yX11_isGraph yX11_isGraph, .initialized RX11, .static yX11_touch, .static yX11_isAlike]
def w2_X11_kin : List Cond := .code yX11_kin cX11_kin 11 (some .int) :: (w2t_X11_kin ++ (wsX110 ++ (w2_X11_isAlike ++ (w2_X11_isGraph ++ (w2_X11_touch)))))
set_option maxRecDepth 20000 in
theorem w2g_X11_kin : ∀ w ∈ w2_X11_kin, ((w.onTables && w.keeps) = true ∨ ∃ ty, w = .arrayClass ty) := by
  intro w h
  rcases List.mem_cons.mp h with rfl | h
  · exact good_of_word (by decide +kernel)
  rcases List.mem_append.mp h with h | h
  · exact good_of_word (List.all_eq_true.mp (show List.all w2t_X11_kin goodWord = true by decide +kernel) w h)
  rcases List.mem_append.mp h with h | h
  · exact good_of_word (List.all_eq_true.mp (show List.all wsX110 goodWord = true by decide +kernel) w h)
  rcases List.mem_append.mp h with h | h
  · exact w2g_X11_isAlike w h
  rcases List.mem_append.mp h with h | h
  · exact w2g_X11_isGraph w h
  exact w2g_X11_touch w h
theorem w2i_X11_kin_X110 : ∀ w ∈ wsX110, w ∈ w2_X11_kin := fun w h => List.mem_cons_of_mem _ (List.mem_append_right _ (List.mem_append_left _ (h)))
theorem w2i_X11_kin_X11_isAlike : ∀ w ∈ w2_X11_isAlike, w ∈ w2_X11_kin := fun w h => List.mem_cons_of_mem _ (List.mem_append_right _ (List.mem_append_right _ (List.mem_append_left _ (h))))
theorem w2i_X11_kin_X11_isGraph : ∀ w ∈ w2_X11_isGraph, w ∈ w2_X11_kin := fun w h => List.mem_cons_of_mem _ (List.mem_append_right _ (List.mem_append_right _ (List.mem_append_right _ (List.mem_append_left _ (h)))))
theorem w2i_X11_kin_X11_touch : ∀ w ∈ w2_X11_touch, w ∈ w2_X11_kin := fun w h => List.mem_cons_of_mem _ (List.mem_append_right _ (List.mem_append_right _ (List.mem_append_right _ (List.mem_append_right _ (h)))))
theorem gd_X11_kin_X11_isGraph : GoodIn w2_X11_kin (wsV RX11 236 RX11 yX11_isGraph w2_X11_isGraph) := goodIn_app (goodIn_of _ (by decide +kernel)) (fun w h => ⟨w2i_X11_kin_X11_isGraph w h, w2g_X11_isGraph w h⟩)
theorem gd_X11_kin_X11_touch : GoodIn w2_X11_kin (va_wsS RX11 223 yX11_touch w2_X11_touch) := goodIn_app (goodIn_of _ (by decide +kernel)) (fun w h => ⟨w2i_X11_kin_X11_touch w h, w2g_X11_touch w h⟩)
theorem gd_X11_kin_X11_isAlike : GoodIn w2_X11_kin (va_wsS RX11 278 yX11_isAlike w2_X11_isAlike) := goodIn_app (goodIn_of _ (by decide +kernel)) (fun w h => ⟨w2i_X11_kin_X11_isAlike w h, w2g_X11_isAlike w h⟩)
def w2t_X11_whole : List Cond := [.fieldLink RX11 42 "StructureSearchModel" "tops" "[I", .fieldLink RX11 102 "StructureSearchModel" "term" "[I", .fieldLink RX11 160 "StructureSearchModel" "names" "I", .fieldLink RX11 45 "StructureSearchModel" "lows" "[I", .fieldLink RX11 96 "StructureSearchModel" "terms" "[I", .methodLink RX11 197 yX11_family, .methodLink RX11 171 yX11_load, .methodLink RX11 175 yX11_store, .methodLink RX11 200 yX11_multiply, .instanceMethod yX11_family, .selects RX11 yX11_family yX11_family, .initialized RX11, .static yX11_load, .static yX11_store, .instanceMethod yX11_multiply, .selects RX11 yX11_multiply yX11_multiply]
def w2_X11_whole : List Cond := .code yX11_whole cX11_whole 4 none :: (w2t_X11_whole ++ (wsX110 ++ (w2_X11_family ++ (w2_X11_load ++ (w2_X11_multiply ++ (w2_X11_store))))))
set_option maxRecDepth 20000 in
theorem w2g_X11_whole : ∀ w ∈ w2_X11_whole, ((w.onTables && w.keeps) = true ∨ ∃ ty, w = .arrayClass ty) := by
  intro w h
  rcases List.mem_cons.mp h with rfl | h
  · exact good_of_word (by decide +kernel)
  rcases List.mem_append.mp h with h | h
  · exact good_of_word (List.all_eq_true.mp (show List.all w2t_X11_whole goodWord = true by decide +kernel) w h)
  rcases List.mem_append.mp h with h | h
  · exact good_of_word (List.all_eq_true.mp (show List.all wsX110 goodWord = true by decide +kernel) w h)
  rcases List.mem_append.mp h with h | h
  · exact w2g_X11_family w h
  rcases List.mem_append.mp h with h | h
  · exact w2g_X11_load w h
  rcases List.mem_append.mp h with h | h
  · exact w2g_X11_multiply w h
  exact w2g_X11_store w h
theorem w2i_X11_whole_X110 : ∀ w ∈ wsX110, w ∈ w2_X11_whole := fun w h => List.mem_cons_of_mem _ (List.mem_append_right _ (List.mem_append_left _ (h)))
theorem w2i_X11_whole_X11_family : ∀ w ∈ w2_X11_family, w ∈ w2_X11_whole := fun w h => List.mem_cons_of_mem _ (List.mem_append_right _ (List.mem_append_right _ (List.mem_append_left _ (h))))
theorem w2i_X11_whole_X11_load : ∀ w ∈ w2_X11_load, w ∈ w2_X11_whole := fun w h => List.mem_cons_of_mem _ (List.mem_append_right _ (List.mem_append_right _ (List.mem_append_right _ (List.mem_append_left _ (h)))))
theorem w2i_X11_whole_X11_multiply : ∀ w ∈ w2_X11_multiply, w ∈ w2_X11_whole := fun w h => List.mem_cons_of_mem _ (List.mem_append_right _ (List.mem_append_right _ (List.mem_append_right _ (List.mem_append_right _ (List.mem_append_left _ (h))))))
theorem w2i_X11_whole_X11_store : ∀ w ∈ w2_X11_store, w ∈ w2_X11_whole := fun w h => List.mem_cons_of_mem _ (List.mem_append_right _ (List.mem_append_right _ (List.mem_append_right _ (List.mem_append_right _ (List.mem_append_right _ (h))))))
theorem gd_X11_whole_X11_family : GoodIn w2_X11_whole (wsV RX11 197 RX11 yX11_family w2_X11_family) := goodIn_app (goodIn_of _ (by decide +kernel)) (fun w h => ⟨w2i_X11_whole_X11_family w h, w2g_X11_family w h⟩)
theorem gd_X11_whole_X11_load : GoodIn w2_X11_whole (va_wsS RX11 171 yX11_load w2_X11_load) := goodIn_app (goodIn_of _ (by decide +kernel)) (fun w h => ⟨w2i_X11_whole_X11_load w h, w2g_X11_load w h⟩)
theorem gd_X11_whole_X11_multiply : GoodIn w2_X11_whole (wsV RX11 200 RX11 yX11_multiply w2_X11_multiply) := goodIn_app (goodIn_of _ (by decide +kernel)) (fun w h => ⟨w2i_X11_whole_X11_multiply w h, w2g_X11_multiply w h⟩)
theorem gd_X11_whole_X11_store : GoodIn w2_X11_whole (va_wsS RX11 175 yX11_store w2_X11_store) := goodIn_app (goodIn_of _ (by decide +kernel)) (fun w h => ⟨w2i_X11_whole_X11_store w h, w2g_X11_store w h⟩)
def w2t_X11_sumUp : List Cond := [.fieldLink RX11 160 "StructureSearchModel" "names" "I", .fieldLink RX11 111 "StructureSearchModel" "sum" "[I", .fieldLink RX11 20 "StructureSearchModel" "most" "I", .fieldLink RX11 96 "StructureSearchModel" "terms" "[I", .fieldLink RX11 102 "StructureSearchModel" "term" "[I", .fieldLink RX11 93 "StructureSearchModel" "sums" "[I", .methodLink RX11 282 yX11_whole, .methodLink RX11 171 yX11_load, .methodLink RX11 151 yX11_put, .methodLink RX11 216 yX11_bits, .methodLink RX11 285 yX11_plus, .instanceMethod yX11_whole, .selects RX11 yX11_whole yX11_whole, .initialized RX11, .static yX11_load, .static yX11_put, .static yX11_bits, .static yX11_plus]
def w2_X11_sumUp : List Cond := .code yX11_sumUp cX11_sumUp 6 none :: (w2t_X11_sumUp ++ (wsX110 ++ (w2_X11_bits ++ (w2_X11_load ++ (w2_X11_plus ++ (w2_X11_put ++ (w2_X11_whole)))))))
set_option maxRecDepth 20000 in
theorem w2g_X11_sumUp : ∀ w ∈ w2_X11_sumUp, ((w.onTables && w.keeps) = true ∨ ∃ ty, w = .arrayClass ty) := by
  intro w h
  rcases List.mem_cons.mp h with rfl | h
  · exact good_of_word (by decide +kernel)
  rcases List.mem_append.mp h with h | h
  · exact good_of_word (List.all_eq_true.mp (show List.all w2t_X11_sumUp goodWord = true by decide +kernel) w h)
  rcases List.mem_append.mp h with h | h
  · exact good_of_word (List.all_eq_true.mp (show List.all wsX110 goodWord = true by decide +kernel) w h)
  rcases List.mem_append.mp h with h | h
  · exact w2g_X11_bits w h
  rcases List.mem_append.mp h with h | h
  · exact w2g_X11_load w h
  rcases List.mem_append.mp h with h | h
  · exact w2g_X11_plus w h
  rcases List.mem_append.mp h with h | h
  · exact w2g_X11_put w h
  exact w2g_X11_whole w h
theorem w2i_X11_sumUp_X110 : ∀ w ∈ wsX110, w ∈ w2_X11_sumUp := fun w h => List.mem_cons_of_mem _ (List.mem_append_right _ (List.mem_append_left _ (h)))
theorem w2i_X11_sumUp_X11_bits : ∀ w ∈ w2_X11_bits, w ∈ w2_X11_sumUp := fun w h => List.mem_cons_of_mem _ (List.mem_append_right _ (List.mem_append_right _ (List.mem_append_left _ (h))))
theorem w2i_X11_sumUp_X11_load : ∀ w ∈ w2_X11_load, w ∈ w2_X11_sumUp := fun w h => List.mem_cons_of_mem _ (List.mem_append_right _ (List.mem_append_right _ (List.mem_append_right _ (List.mem_append_left _ (h)))))
theorem w2i_X11_sumUp_X11_plus : ∀ w ∈ w2_X11_plus, w ∈ w2_X11_sumUp := fun w h => List.mem_cons_of_mem _ (List.mem_append_right _ (List.mem_append_right _ (List.mem_append_right _ (List.mem_append_right _ (List.mem_append_left _ (h))))))
theorem w2i_X11_sumUp_X11_put : ∀ w ∈ w2_X11_put, w ∈ w2_X11_sumUp := fun w h => List.mem_cons_of_mem _ (List.mem_append_right _ (List.mem_append_right _ (List.mem_append_right _ (List.mem_append_right _ (List.mem_append_right _ (List.mem_append_left _ (h)))))))
theorem w2i_X11_sumUp_X11_whole : ∀ w ∈ w2_X11_whole, w ∈ w2_X11_sumUp := fun w h => List.mem_cons_of_mem _ (List.mem_append_right _ (List.mem_append_right _ (List.mem_append_right _ (List.mem_append_right _ (List.mem_append_right _ (List.mem_append_right _ (h)))))))
theorem gd_X11_sumUp_X11_whole : GoodIn w2_X11_sumUp (wsV RX11 282 RX11 yX11_whole w2_X11_whole) := goodIn_app (goodIn_of _ (by decide +kernel)) (fun w h => ⟨w2i_X11_sumUp_X11_whole w h, w2g_X11_whole w h⟩)
theorem gd_X11_sumUp_X11_put : GoodIn w2_X11_sumUp (va_wsS RX11 151 yX11_put w2_X11_put) := goodIn_app (goodIn_of _ (by decide +kernel)) (fun w h => ⟨w2i_X11_sumUp_X11_put w h, w2g_X11_put w h⟩)
theorem gd_X11_sumUp_X11_bits : GoodIn w2_X11_sumUp (va_wsS RX11 216 yX11_bits w2_X11_bits) := goodIn_app (goodIn_of _ (by decide +kernel)) (fun w h => ⟨w2i_X11_sumUp_X11_bits w h, w2g_X11_bits w h⟩)
theorem gd_X11_sumUp_X11_load : GoodIn w2_X11_sumUp (va_wsS RX11 171 yX11_load w2_X11_load) := goodIn_app (goodIn_of _ (by decide +kernel)) (fun w h => ⟨w2i_X11_sumUp_X11_load w h, w2g_X11_load w h⟩)
theorem gd_X11_sumUp_X11_plus : GoodIn w2_X11_sumUp (va_wsS RX11 285 yX11_plus w2_X11_plus) := goodIn_app (goodIn_of _ (by decide +kernel)) (fun w h => ⟨w2i_X11_sumUp_X11_plus w h, w2g_X11_plus w h⟩)
def w2t_X11_total : List Cond := [.fieldLink RX11 99 "StructureSearchModel" "wholes" "[I", .fieldLink RX11 160 "StructureSearchModel" "names" "I", .fieldLink RX11 105 "StructureSearchModel" "more" "[I", .fieldLink RX11 108 "StructureSearchModel" "fewer" "[I", .fieldLink RX11 102 "StructureSearchModel" "term" "[I", .fieldLink RX11 93 "StructureSearchModel" "sums" "[I", .methodLink RX11 288 yX11_sumUp, .methodLink RX11 171 yX11_load, .methodLink RX11 145 yX11_less, .methodLink RX11 200 yX11_multiply, .methodLink RX11 151 yX11_put, .methodLink RX11 216 yX11_bits, .methodLink RX11 285 yX11_plus, .instanceMethod yX11_sumUp, .selects RX11 yX11_sumUp yX11_sumUp, .initialized RX11, .static yX11_load, .static yX11_less, .instanceMethod yX11_multiply, .selects RX11 yX11_multiply yX11_multiply, .static yX11_put, .static yX11_bits, .static yX11_plus]
def w2_X11_total : List Cond := .code yX11_total cX11_total 8 none :: (w2t_X11_total ++ (wsX110 ++ (w2_X11_bits ++ (w2_X11_less ++ (w2_X11_load ++ (w2_X11_multiply ++ (w2_X11_plus ++ (w2_X11_put ++ (w2_X11_sumUp)))))))))
set_option maxRecDepth 20000 in
theorem w2g_X11_total : ∀ w ∈ w2_X11_total, ((w.onTables && w.keeps) = true ∨ ∃ ty, w = .arrayClass ty) := by
  intro w h
  rcases List.mem_cons.mp h with rfl | h
  · exact good_of_word (by decide +kernel)
  rcases List.mem_append.mp h with h | h
  · exact good_of_word (List.all_eq_true.mp (show List.all w2t_X11_total goodWord = true by decide +kernel) w h)
  rcases List.mem_append.mp h with h | h
  · exact good_of_word (List.all_eq_true.mp (show List.all wsX110 goodWord = true by decide +kernel) w h)
  rcases List.mem_append.mp h with h | h
  · exact w2g_X11_bits w h
  rcases List.mem_append.mp h with h | h
  · exact w2g_X11_less w h
  rcases List.mem_append.mp h with h | h
  · exact w2g_X11_load w h
  rcases List.mem_append.mp h with h | h
  · exact w2g_X11_multiply w h
  rcases List.mem_append.mp h with h | h
  · exact w2g_X11_plus w h
  rcases List.mem_append.mp h with h | h
  · exact w2g_X11_put w h
  exact w2g_X11_sumUp w h
theorem w2i_X11_total_X110 : ∀ w ∈ wsX110, w ∈ w2_X11_total := fun w h => List.mem_cons_of_mem _ (List.mem_append_right _ (List.mem_append_left _ (h)))
theorem w2i_X11_total_X11_bits : ∀ w ∈ w2_X11_bits, w ∈ w2_X11_total := fun w h => List.mem_cons_of_mem _ (List.mem_append_right _ (List.mem_append_right _ (List.mem_append_left _ (h))))
theorem w2i_X11_total_X11_less : ∀ w ∈ w2_X11_less, w ∈ w2_X11_total := fun w h => List.mem_cons_of_mem _ (List.mem_append_right _ (List.mem_append_right _ (List.mem_append_right _ (List.mem_append_left _ (h)))))
theorem w2i_X11_total_X11_load : ∀ w ∈ w2_X11_load, w ∈ w2_X11_total := fun w h => List.mem_cons_of_mem _ (List.mem_append_right _ (List.mem_append_right _ (List.mem_append_right _ (List.mem_append_right _ (List.mem_append_left _ (h))))))
theorem w2i_X11_total_X11_multiply : ∀ w ∈ w2_X11_multiply, w ∈ w2_X11_total := fun w h => List.mem_cons_of_mem _ (List.mem_append_right _ (List.mem_append_right _ (List.mem_append_right _ (List.mem_append_right _ (List.mem_append_right _ (List.mem_append_left _ (h)))))))
theorem w2i_X11_total_X11_plus : ∀ w ∈ w2_X11_plus, w ∈ w2_X11_total := fun w h => List.mem_cons_of_mem _ (List.mem_append_right _ (List.mem_append_right _ (List.mem_append_right _ (List.mem_append_right _ (List.mem_append_right _ (List.mem_append_right _ (List.mem_append_left _ (h))))))))
theorem w2i_X11_total_X11_put : ∀ w ∈ w2_X11_put, w ∈ w2_X11_total := fun w h => List.mem_cons_of_mem _ (List.mem_append_right _ (List.mem_append_right _ (List.mem_append_right _ (List.mem_append_right _ (List.mem_append_right _ (List.mem_append_right _ (List.mem_append_right _ (List.mem_append_left _ (h)))))))))
theorem w2i_X11_total_X11_sumUp : ∀ w ∈ w2_X11_sumUp, w ∈ w2_X11_total := fun w h => List.mem_cons_of_mem _ (List.mem_append_right _ (List.mem_append_right _ (List.mem_append_right _ (List.mem_append_right _ (List.mem_append_right _ (List.mem_append_right _ (List.mem_append_right _ (List.mem_append_right _ (h)))))))))
theorem gd_X11_total_X11_sumUp : GoodIn w2_X11_total (wsV RX11 288 RX11 yX11_sumUp w2_X11_sumUp) := goodIn_app (goodIn_of _ (by decide +kernel)) (fun w h => ⟨w2i_X11_total_X11_sumUp w h, w2g_X11_sumUp w h⟩)
theorem gd_X11_total_X11_put : GoodIn w2_X11_total (va_wsS RX11 151 yX11_put w2_X11_put) := goodIn_app (goodIn_of _ (by decide +kernel)) (fun w h => ⟨w2i_X11_total_X11_put w h, w2g_X11_put w h⟩)
theorem gd_X11_total_X11_load : GoodIn w2_X11_total (va_wsS RX11 171 yX11_load w2_X11_load) := goodIn_app (goodIn_of _ (by decide +kernel)) (fun w h => ⟨w2i_X11_total_X11_load w h, w2g_X11_load w h⟩)
theorem gd_X11_total_X11_multiply : GoodIn w2_X11_total (wsV RX11 200 RX11 yX11_multiply w2_X11_multiply) := goodIn_app (goodIn_of _ (by decide +kernel)) (fun w h => ⟨w2i_X11_total_X11_multiply w h, w2g_X11_multiply w h⟩)
theorem gd_X11_total_X11_bits : GoodIn w2_X11_total (va_wsS RX11 216 yX11_bits w2_X11_bits) := goodIn_app (goodIn_of _ (by decide +kernel)) (fun w h => ⟨w2i_X11_total_X11_bits w h, w2g_X11_bits w h⟩)
theorem gd_X11_total_X11_plus : GoodIn w2_X11_total (va_wsS RX11 285 yX11_plus w2_X11_plus) := goodIn_app (goodIn_of _ (by decide +kernel)) (fun w h => ⟨w2i_X11_total_X11_plus w h, w2g_X11_plus w h⟩)
theorem gd_X11_total_X11_less : GoodIn w2_X11_total (va_wsS RX11 145 yX11_less w2_X11_less) := goodIn_app (goodIn_of _ (by decide +kernel)) (fun w h => ⟨w2i_X11_total_X11_less w h, w2g_X11_less w h⟩)
def w2t_X11_tellShare : List Cond := [.fieldLink RX11 81 "StructureSearchModel" "toldArc" "I", .fieldLink RX11 32 "StructureSearchModel" "above" "[I", .fieldLink RX11 35 "StructureSearchModel" "below" "[I", .fieldLink RX11 78 "StructureSearchModel" "toldGraph" "I", .methodLink RX11 291 yX11_total, .methodLink RX11 239 yX11_least, .instanceMethod yX11_total, .selects RX11 yX11_total yX11_total, .initialized RX11, .instanceMethod yX11_least, .selects RX11 yX11_least yX11_least]
def w2_X11_tellShare : List Cond := .code yX11_tellShare cX11_tellShare 3 none :: (w2t_X11_tellShare ++ (wsX110 ++ (w2_X11_least ++ (w2_X11_total))))
set_option maxRecDepth 20000 in
theorem w2g_X11_tellShare : ∀ w ∈ w2_X11_tellShare, ((w.onTables && w.keeps) = true ∨ ∃ ty, w = .arrayClass ty) := by
  intro w h
  rcases List.mem_cons.mp h with rfl | h
  · exact good_of_word (by decide +kernel)
  rcases List.mem_append.mp h with h | h
  · exact good_of_word (List.all_eq_true.mp (show List.all w2t_X11_tellShare goodWord = true by decide +kernel) w h)
  rcases List.mem_append.mp h with h | h
  · exact good_of_word (List.all_eq_true.mp (show List.all wsX110 goodWord = true by decide +kernel) w h)
  rcases List.mem_append.mp h with h | h
  · exact w2g_X11_least w h
  exact w2g_X11_total w h
theorem w2i_X11_tellShare_X110 : ∀ w ∈ wsX110, w ∈ w2_X11_tellShare := fun w h => List.mem_cons_of_mem _ (List.mem_append_right _ (List.mem_append_left _ (h)))
theorem w2i_X11_tellShare_X11_least : ∀ w ∈ w2_X11_least, w ∈ w2_X11_tellShare := fun w h => List.mem_cons_of_mem _ (List.mem_append_right _ (List.mem_append_right _ (List.mem_append_left _ (h))))
theorem w2i_X11_tellShare_X11_total : ∀ w ∈ w2_X11_total, w ∈ w2_X11_tellShare := fun w h => List.mem_cons_of_mem _ (List.mem_append_right _ (List.mem_append_right _ (List.mem_append_right _ (h))))
theorem gd_X11_tellShare_X11_total : GoodIn w2_X11_tellShare (wsV RX11 291 RX11 yX11_total w2_X11_total) := goodIn_app (goodIn_of _ (by decide +kernel)) (fun w h => ⟨w2i_X11_tellShare_X11_total w h, w2g_X11_total w h⟩)
theorem gd_X11_tellShare_X11_least : GoodIn w2_X11_tellShare (wsV RX11 239 RX11 yX11_least w2_X11_least) := goodIn_app (goodIn_of _ (by decide +kernel)) (fun w h => ⟨w2i_X11_tellShare_X11_least w h, w2g_X11_least w h⟩)
def w2t_X11_shareFault : List Cond := [.fieldLink RX11 160 "StructureSearchModel" "names" "I", .methodLink RX11 233 yX11_isName, .methodLink RX11 244 yX11_isPart, .instanceMethod yX11_isName, .selects RX11 yX11_isName yX11_isName, .initialized RX11, .static yX11_isPart]
def w2_X11_shareFault : List Cond := .code yX11_shareFault cX11_shareFault 4 (some .int) :: (w2t_X11_shareFault ++ (wsX110 ++ (w2_X11_isName ++ (w2_X11_isPart))))
set_option maxRecDepth 20000 in
theorem w2g_X11_shareFault : ∀ w ∈ w2_X11_shareFault, ((w.onTables && w.keeps) = true ∨ ∃ ty, w = .arrayClass ty) := by
  intro w h
  rcases List.mem_cons.mp h with rfl | h
  · exact good_of_word (by decide +kernel)
  rcases List.mem_append.mp h with h | h
  · exact good_of_word (List.all_eq_true.mp (show List.all w2t_X11_shareFault goodWord = true by decide +kernel) w h)
  rcases List.mem_append.mp h with h | h
  · exact good_of_word (List.all_eq_true.mp (show List.all wsX110 goodWord = true by decide +kernel) w h)
  rcases List.mem_append.mp h with h | h
  · exact w2g_X11_isName w h
  exact w2g_X11_isPart w h
theorem w2i_X11_shareFault_X110 : ∀ w ∈ wsX110, w ∈ w2_X11_shareFault := fun w h => List.mem_cons_of_mem _ (List.mem_append_right _ (List.mem_append_left _ (h)))
theorem w2i_X11_shareFault_X11_isName : ∀ w ∈ w2_X11_isName, w ∈ w2_X11_shareFault := fun w h => List.mem_cons_of_mem _ (List.mem_append_right _ (List.mem_append_right _ (List.mem_append_left _ (h))))
theorem w2i_X11_shareFault_X11_isPart : ∀ w ∈ w2_X11_isPart, w ∈ w2_X11_shareFault := fun w h => List.mem_cons_of_mem _ (List.mem_append_right _ (List.mem_append_right _ (List.mem_append_right _ (h))))
theorem gd_X11_shareFault_X11_isName : GoodIn w2_X11_shareFault (wsV RX11 233 RX11 yX11_isName w2_X11_isName) := goodIn_app (goodIn_of _ (by decide +kernel)) (fun w h => ⟨w2i_X11_shareFault_X11_isName w h, w2g_X11_isName w h⟩)
theorem gd_X11_shareFault_X11_isPart : GoodIn w2_X11_shareFault (va_wsS RX11 244 yX11_isPart w2_X11_isPart) := goodIn_app (goodIn_of _ (by decide +kernel)) (fun w h => ⟨w2i_X11_shareFault_X11_isPart w h, w2g_X11_isPart w h⟩)
def w2t_X11_shareSize : List Cond := [.fieldLink RX11 32 "StructureSearchModel" "above" "[I", .fieldLink RX11 35 "StructureSearchModel" "below" "[I", .methodLink RX11 295 yX11_shareFault, .methodLink RX11 298 yX11_tellShare, .instanceMethod yX11_shareFault, .selects RX11 yX11_shareFault yX11_shareFault, .initialized RX11, .instanceMethod yX11_tellShare, .selects RX11 yX11_tellShare yX11_tellShare]
def w2_X11_shareSize : List Cond := .code yX11_shareSize cX11_shareSize 5 (some .int) :: (w2t_X11_shareSize ++ (wsX110 ++ (w2_X11_shareFault ++ (w2_X11_tellShare))))
set_option maxRecDepth 20000 in
theorem w2g_X11_shareSize : ∀ w ∈ w2_X11_shareSize, ((w.onTables && w.keeps) = true ∨ ∃ ty, w = .arrayClass ty) := by
  intro w h
  rcases List.mem_cons.mp h with rfl | h
  · exact good_of_word (by decide +kernel)
  rcases List.mem_append.mp h with h | h
  · exact good_of_word (List.all_eq_true.mp (show List.all w2t_X11_shareSize goodWord = true by decide +kernel) w h)
  rcases List.mem_append.mp h with h | h
  · exact good_of_word (List.all_eq_true.mp (show List.all wsX110 goodWord = true by decide +kernel) w h)
  rcases List.mem_append.mp h with h | h
  · exact w2g_X11_shareFault w h
  exact w2g_X11_tellShare w h
theorem w2i_X11_shareSize_X110 : ∀ w ∈ wsX110, w ∈ w2_X11_shareSize := fun w h => List.mem_cons_of_mem _ (List.mem_append_right _ (List.mem_append_left _ (h)))
theorem w2i_X11_shareSize_X11_shareFault : ∀ w ∈ w2_X11_shareFault, w ∈ w2_X11_shareSize := fun w h => List.mem_cons_of_mem _ (List.mem_append_right _ (List.mem_append_right _ (List.mem_append_left _ (h))))
theorem w2i_X11_shareSize_X11_tellShare : ∀ w ∈ w2_X11_tellShare, w ∈ w2_X11_shareSize := fun w h => List.mem_cons_of_mem _ (List.mem_append_right _ (List.mem_append_right _ (List.mem_append_right _ (h))))
theorem gd_X11_shareSize_X11_shareFault : GoodIn w2_X11_shareSize (wsV RX11 295 RX11 yX11_shareFault w2_X11_shareFault) := goodIn_app (goodIn_of _ (by decide +kernel)) (fun w h => ⟨w2i_X11_shareSize_X11_shareFault w h, w2g_X11_shareFault w h⟩)
theorem gd_X11_shareSize_X11_tellShare : GoodIn w2_X11_shareSize (wsV RX11 298 RX11 yX11_tellShare w2_X11_tellShare) := goodIn_app (goodIn_of _ (by decide +kernel)) (fun w h => ⟨w2i_X11_shareSize_X11_tellShare w h, w2g_X11_tellShare w h⟩)
def w2t_X11_shareWord : List Cond := [.methodLink RX11 295 yX11_shareFault, .methodLink RX11 298 yX11_tellShare, .methodLink RX11 251 yX11_wordOf, .instanceMethod yX11_shareFault, .selects RX11 yX11_shareFault yX11_shareFault, .initialized RX11, .instanceMethod yX11_tellShare, .selects RX11 yX11_tellShare yX11_tellShare, .instanceMethod yX11_wordOf, .selects RX11 yX11_wordOf yX11_wordOf]
def w2_X11_shareWord : List Cond := .code yX11_shareWord cX11_shareWord 6 (some .long) :: (w2t_X11_shareWord ++ (w2_X11_shareFault ++ (w2_X11_tellShare ++ (w2_X11_wordOf))))
set_option maxRecDepth 20000 in
theorem w2g_X11_shareWord : ∀ w ∈ w2_X11_shareWord, ((w.onTables && w.keeps) = true ∨ ∃ ty, w = .arrayClass ty) := by
  intro w h
  rcases List.mem_cons.mp h with rfl | h
  · exact good_of_word (by decide +kernel)
  rcases List.mem_append.mp h with h | h
  · exact good_of_word (List.all_eq_true.mp (show List.all w2t_X11_shareWord goodWord = true by decide +kernel) w h)
  rcases List.mem_append.mp h with h | h
  · exact w2g_X11_shareFault w h
  rcases List.mem_append.mp h with h | h
  · exact w2g_X11_tellShare w h
  exact w2g_X11_wordOf w h
theorem w2i_X11_shareWord_X11_shareFault : ∀ w ∈ w2_X11_shareFault, w ∈ w2_X11_shareWord := fun w h => List.mem_cons_of_mem _ (List.mem_append_right _ (List.mem_append_left _ (h)))
theorem w2i_X11_shareWord_X11_tellShare : ∀ w ∈ w2_X11_tellShare, w ∈ w2_X11_shareWord := fun w h => List.mem_cons_of_mem _ (List.mem_append_right _ (List.mem_append_right _ (List.mem_append_left _ (h))))
theorem w2i_X11_shareWord_X11_wordOf : ∀ w ∈ w2_X11_wordOf, w ∈ w2_X11_shareWord := fun w h => List.mem_cons_of_mem _ (List.mem_append_right _ (List.mem_append_right _ (List.mem_append_right _ (h))))
theorem gd_X11_shareWord_X11_shareFault : GoodIn w2_X11_shareWord (wsV RX11 295 RX11 yX11_shareFault w2_X11_shareFault) := goodIn_app (goodIn_of _ (by decide +kernel)) (fun w h => ⟨w2i_X11_shareWord_X11_shareFault w h, w2g_X11_shareFault w h⟩)
theorem gd_X11_shareWord_X11_tellShare : GoodIn w2_X11_shareWord (wsV RX11 298 RX11 yX11_tellShare w2_X11_tellShare) := goodIn_app (goodIn_of _ (by decide +kernel)) (fun w h => ⟨w2i_X11_shareWord_X11_tellShare w h, w2g_X11_tellShare w h⟩)
theorem gd_X11_shareWord_X11_wordOf : GoodIn w2_X11_shareWord (wsV RX11 251 RX11 yX11_wordOf w2_X11_wordOf) := goodIn_app (goodIn_of _ (by decide +kernel)) (fun w h => ⟨w2i_X11_shareWord_X11_wordOf w h, w2g_X11_wordOf w h⟩)
def w2t_X11_lesser : List Cond := []
def w2_X11_lesser : List Cond := .code yX11_lesser cX11_lesser 2 (some .int) :: (w2t_X11_lesser)
set_option maxRecDepth 20000 in
theorem w2g_X11_lesser : ∀ w ∈ w2_X11_lesser, ((w.onTables && w.keeps) = true ∨ ∃ ty, w = .arrayClass ty) := by
  intro w h
  rcases List.mem_cons.mp h with rfl | h
  · exact good_of_word (by decide +kernel)
  exact good_of_word (List.all_eq_true.mp (show List.all w2t_X11_lesser goodWord = true by decide +kernel) w h)
def w2t_X11_choose : List Cond := []
def w2_X11_choose : List Cond := .code yX11_choose cX11_choose 5 (some .long) :: (w2t_X11_choose)
set_option maxRecDepth 20000 in
theorem w2g_X11_choose : ∀ w ∈ w2_X11_choose, ((w.onTables && w.keeps) = true ∨ ∃ ty, w = .arrayClass ty) := by
  intro w h
  rcases List.mem_cons.mp h with rfl | h
  · exact good_of_word (by decide +kernel)
  exact good_of_word (List.all_eq_true.mp (show List.all w2t_X11_choose goodWord = true by decide +kernel) w h)
def w2t_X11_ways : List Cond := [.methodLink RX11 301 yX11_choose, .static yX11_choose, .initialized RX11]
def w2_X11_ways : List Cond := .code yX11_ways cX11_ways 3 (some .long) :: (w2t_X11_ways ++ (w2_X11_choose))
set_option maxRecDepth 20000 in
theorem w2g_X11_ways : ∀ w ∈ w2_X11_ways, ((w.onTables && w.keeps) = true ∨ ∃ ty, w = .arrayClass ty) := by
  intro w h
  rcases List.mem_cons.mp h with rfl | h
  · exact good_of_word (by decide +kernel)
  rcases List.mem_append.mp h with h | h
  · exact good_of_word (List.all_eq_true.mp (show List.all w2t_X11_ways goodWord = true by decide +kernel) w h)
  exact w2g_X11_choose w h
theorem w2i_X11_ways_X11_choose : ∀ w ∈ w2_X11_choose, w ∈ w2_X11_ways := fun w h => List.mem_cons_of_mem _ (List.mem_append_right _ (h))
theorem gd_X11_ways_X11_choose : GoodIn w2_X11_ways (va_wsS RX11 301 yX11_choose w2_X11_choose) := goodIn_app (goodIn_of _ (by decide +kernel)) (fun w h => ⟨w2i_X11_ways_X11_choose w h, w2g_X11_choose w h⟩)
def w2t_X11_test : List Cond := [.constantLong RX11 242 (-1), .fieldLink RX11 7 "StructureSearchModel" "values" "[I", .fieldLink RX11 114 "StructureSearchModel" "ofA" "[I", .fieldLink RX11 117 "StructureSearchModel" "ofB" "[I", .fieldLink RX11 120 "StructureSearchModel" "both" "[I", .fieldLink RX11 179 "StructureSearchModel" "rows" "I", .fieldLink RX11 13 "StructureSearchModel" "cells" "[I", .methodLink RX11 233 yX11_isName, .methodLink RX11 244 yX11_isPart, .methodLink RX11 304 yX11_ways, .methodLink RX11 308 yX11_lesser, .instanceMethod yX11_isName, .selects RX11 yX11_isName yX11_isName, .initialized RX11, .static yX11_isPart, .static yX11_ways, .static yX11_lesser]
def w2_X11_test : List Cond := .code yX11_test cX11_test 18 (some .long) :: (w2t_X11_test ++ (wsX110 ++ (w2_X11_isName ++ (w2_X11_isPart ++ (w2_X11_lesser ++ (w2_X11_ways))))))
set_option maxRecDepth 20000 in
theorem w2g_X11_test : ∀ w ∈ w2_X11_test, ((w.onTables && w.keeps) = true ∨ ∃ ty, w = .arrayClass ty) := by
  intro w h
  rcases List.mem_cons.mp h with rfl | h
  · exact good_of_word (by decide +kernel)
  rcases List.mem_append.mp h with h | h
  · exact good_of_word (List.all_eq_true.mp (show List.all w2t_X11_test goodWord = true by decide +kernel) w h)
  rcases List.mem_append.mp h with h | h
  · exact good_of_word (List.all_eq_true.mp (show List.all wsX110 goodWord = true by decide +kernel) w h)
  rcases List.mem_append.mp h with h | h
  · exact w2g_X11_isName w h
  rcases List.mem_append.mp h with h | h
  · exact w2g_X11_isPart w h
  rcases List.mem_append.mp h with h | h
  · exact w2g_X11_lesser w h
  exact w2g_X11_ways w h
theorem w2i_X11_test_X110 : ∀ w ∈ wsX110, w ∈ w2_X11_test := fun w h => List.mem_cons_of_mem _ (List.mem_append_right _ (List.mem_append_left _ (h)))
theorem w2i_X11_test_X11_isName : ∀ w ∈ w2_X11_isName, w ∈ w2_X11_test := fun w h => List.mem_cons_of_mem _ (List.mem_append_right _ (List.mem_append_right _ (List.mem_append_left _ (h))))
theorem w2i_X11_test_X11_isPart : ∀ w ∈ w2_X11_isPart, w ∈ w2_X11_test := fun w h => List.mem_cons_of_mem _ (List.mem_append_right _ (List.mem_append_right _ (List.mem_append_right _ (List.mem_append_left _ (h)))))
theorem w2i_X11_test_X11_lesser : ∀ w ∈ w2_X11_lesser, w ∈ w2_X11_test := fun w h => List.mem_cons_of_mem _ (List.mem_append_right _ (List.mem_append_right _ (List.mem_append_right _ (List.mem_append_right _ (List.mem_append_left _ (h))))))
theorem w2i_X11_test_X11_ways : ∀ w ∈ w2_X11_ways, w ∈ w2_X11_test := fun w h => List.mem_cons_of_mem _ (List.mem_append_right _ (List.mem_append_right _ (List.mem_append_right _ (List.mem_append_right _ (List.mem_append_right _ (h))))))
theorem gd_X11_test_X11_isName : GoodIn w2_X11_test (wsV RX11 233 RX11 yX11_isName w2_X11_isName) := goodIn_app (goodIn_of _ (by decide +kernel)) (fun w h => ⟨w2i_X11_test_X11_isName w h, w2g_X11_isName w h⟩)
theorem gd_X11_test_X11_isPart : GoodIn w2_X11_test (va_wsS RX11 244 yX11_isPart w2_X11_isPart) := goodIn_app (goodIn_of _ (by decide +kernel)) (fun w h => ⟨w2i_X11_test_X11_isPart w h, w2g_X11_isPart w h⟩)
theorem gd_X11_test_X11_ways : GoodIn w2_X11_test (va_wsS RX11 304 yX11_ways w2_X11_ways) := goodIn_app (goodIn_of _ (by decide +kernel)) (fun w h => ⟨w2i_X11_test_X11_ways w h, w2g_X11_ways w h⟩)
theorem gd_X11_test_X11_lesser : GoodIn w2_X11_test (va_wsS RX11 308 yX11_lesser w2_X11_lesser) := goodIn_app (goodIn_of _ (by decide +kernel)) (fun w h => ⟨w2i_X11_test_X11_lesser w h, w2g_X11_lesser w h⟩)
def w2t_J9_max_7cf53 : List Cond := []
def w2_J9_max_7cf53 : List Cond := .code yJ9_max_7cf53 cJ9_max_7cf53 2 (some .int) :: (w2t_J9_max_7cf53)
set_option maxRecDepth 20000 in
theorem w2g_J9_max_7cf53 : ∀ w ∈ w2_J9_max_7cf53, ((w.onTables && w.keeps) = true ∨ ∃ ty, w = .arrayClass ty) := by
  intro w h
  rcases List.mem_cons.mp h with rfl | h
  · exact good_of_word (by decide +kernel)
  exact good_of_word (List.all_eq_true.mp (show List.all w2t_J9_max_7cf53 goodWord = true by decide +kernel) w h)
def w2t_J9_max_f86c9 : List Cond := []
def w2_J9_max_f86c9 : List Cond := .code yJ9_max_f86c9 cJ9_max_f86c9 4 (some .long) :: (w2t_J9_max_f86c9)
set_option maxRecDepth 20000 in
theorem w2g_J9_max_f86c9 : ∀ w ∈ w2_J9_max_f86c9, ((w.onTables && w.keeps) = true ∨ ∃ ty, w = .arrayClass ty) := by
  intro w h
  rcases List.mem_cons.mp h with rfl | h
  · exact good_of_word (by decide +kernel)
  exact good_of_word (List.all_eq_true.mp (show List.all w2t_J9_max_f86c9 goodWord = true by decide +kernel) w h)
def w2t_J9_min_7cf53 : List Cond := []
def w2_J9_min_7cf53 : List Cond := .code yJ9_min_7cf53 cJ9_min_7cf53 2 (some .int) :: (w2t_J9_min_7cf53)
set_option maxRecDepth 20000 in
theorem w2g_J9_min_7cf53 : ∀ w ∈ w2_J9_min_7cf53, ((w.onTables && w.keeps) = true ∨ ∃ ty, w = .arrayClass ty) := by
  intro w h
  rcases List.mem_cons.mp h with rfl | h
  · exact good_of_word (by decide +kernel)
  exact good_of_word (List.all_eq_true.mp (show List.all w2t_J9_min_7cf53 goodWord = true by decide +kernel) w h)
def w2t_J9_min_f86c9 : List Cond := []
def w2_J9_min_f86c9 : List Cond := .code yJ9_min_f86c9 cJ9_min_f86c9 4 (some .long) :: (w2t_J9_min_f86c9)
set_option maxRecDepth 20000 in
theorem w2g_J9_min_f86c9 : ∀ w ∈ w2_J9_min_f86c9, ((w.onTables && w.keeps) = true ∨ ∃ ty, w = .arrayClass ty) := by
  intro w h
  rcases List.mem_cons.mp h with rfl | h
  · exact good_of_word (by decide +kernel)
  exact good_of_word (List.all_eq_true.mp (show List.all w2t_J9_min_f86c9 goodWord = true by decide +kernel) w h)
