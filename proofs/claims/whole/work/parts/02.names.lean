/-! ===== BEGIN printed: names, fields, word lists, decode rows ===== -/
def RX0 : String := "QuasiSums$Bits"
def TX0 : u_T := fun k => match k with
  | _ => ("", "", "", false)
def tyX0 : Nat → FieldType := fun k => match k with
  | _ => .int
abbrev wsX00 : List Cond := u_ws RX0 TX0 0
theorem nmX0 : ∀ a, a < 0 → ∀ b, b < 0 → a ≠ b → (TX0 a).2.1 ≠ (TX0 b).2.1 := by decide +kernel
theorem tyX0_ok : ∀ k, k < 0 → parseFieldDescriptor (TX0 k).2.2.1 = some (tyX0 k) := by decide +kernel
abbrev cX0_howMany : ByteArray := prog_2_method_2_code
def yX0_howMany : MethodName := ⟨RX0, "howMany", "(I)I"⟩
abbrev cX0_lengthOf : ByteArray := prog_2_method_3_code
def yX0_lengthOf : MethodName := ⟨RX0, "lengthOf", "(II)I"⟩
abbrev cX0_firstNumber : ByteArray := prog_2_method_4_code
def yX0_firstNumber : MethodName := ⟨RX0, "firstNumber", "(II)I"⟩
abbrev cX0_numberAt : ByteArray := prog_2_method_5_code
def yX0_numberAt : MethodName := ⟨RX0, "numberAt", "(III)I"⟩
abbrev cX0_turned : ByteArray := prog_2_method_6_code
def yX0_turned : MethodName := ⟨RX0, "turned", "(II)I"⟩
abbrev cX0_rest : ByteArray := prog_2_method_7_code
def yX0_rest : MethodName := ⟨RX0, "rest", "(II)I"⟩
abbrev cX0_howManyFiner : ByteArray := prog_2_method_8_code
def yX0_howManyFiner : MethodName := ⟨RX0, "howManyFiner", "(II)I"⟩
abbrev cX0_isFiner : ByteArray := prog_2_method_9_code
def yX0_isFiner : MethodName := ⟨RX0, "isFiner", "(II)Z"⟩
abbrev cX0_joined : ByteArray := prog_2_method_10_code
def yX0_joined : MethodName := ⟨RX0, "joined", "(IIII)I"⟩
abbrev cX0_waysToPick : ByteArray := prog_2_method_11_code
def yX0_waysToPick : MethodName := ⟨RX0, "waysToPick", "(II)J"⟩
def RX1 : String := "QuasiSums$Image"
def TX1 : u_T := fun k => match k with
  | 0 => ("QuasiSums$Image", "registers", "[LQuasiSums$Sum;", true)
  | 1 => ("QuasiSums$Image", "things", "LQuasiSums$Order;", true)
  | 2 => ("QuasiSums$Image", "cells", "[F", true)
  | _ => ("QuasiSums$Image", "racks", "[LQuasiSums$Item;", true)
def tyX1 : Nat → FieldType := fun k => match k with
  | 0 => .array (.object "QuasiSums$Sum")
  | 1 => .object "QuasiSums$Order"
  | 2 => .array .float
  | _ => .array (.object "QuasiSums$Item")
abbrev wsX10 : List Cond := u_ws RX1 TX1 4
theorem nmX1 : ∀ a, a < 4 → ∀ b, b < 4 → a ≠ b → (TX1 a).2.1 ≠ (TX1 b).2.1 := by decide +kernel
theorem tyX1_ok : ∀ k, k < 4 → parseFieldDescriptor (TX1 k).2.2.1 = some (tyX1 k) := by decide +kernel
abbrev cX1_init : ByteArray := prog_3_method_1_code
def yX1_init : MethodName := ⟨RX1, "<init>", "([LQuasiSums$Sum;LQuasiSums$Order;[F[LQuasiSums$Item;)V"⟩
def RX2 : String := "QuasiSums$Item"
def TX2 : u_T := fun k => match k with
  | _ => ("", "", "", false)
def tyX2 : Nat → FieldType := fun k => match k with
  | _ => .int
abbrev wsX20 : List Cond := u_ws RX2 TX2 0
theorem nmX2 : ∀ a, a < 0 → ∀ b, b < 0 → a ≠ b → (TX2 a).2.1 ≠ (TX2 b).2.1 := by decide +kernel
theorem tyX2_ok : ∀ k, k < 0 → parseFieldDescriptor (TX2 k).2.2.1 = some (tyX2 k) := by decide +kernel
abbrev cX2_init : ByteArray := prog_4_method_1_code
def yX2_init : MethodName := ⟨RX2, "<init>", "()V"⟩
def RX3 : String := "QuasiSums$Longs"
def TX3 : u_T := fun k => match k with
  | 0 => ("QuasiSums$Longs", "over", "Z", false)
  | _ => ("QuasiSums$Longs", "where", "I", false)
def tyX3 : Nat → FieldType := fun k => match k with
  | 0 => .boolean
  | _ => .int
abbrev wsX30 : List Cond := u_ws RX3 TX3 2
theorem nmX3 : ∀ a, a < 2 → ∀ b, b < 2 → a ≠ b → (TX3 a).2.1 ≠ (TX3 b).2.1 := by decide +kernel
theorem tyX3_ok : ∀ k, k < 2 → parseFieldDescriptor (TX3 k).2.2.1 = some (tyX3 k) := by decide +kernel
abbrev cX3_init : ByteArray := prog_5_method_1_code
def yX3_init : MethodName := ⟨RX3, "<init>", "()V"⟩
abbrev cX3_tooGreat : ByteArray := prog_5_method_2_code
def yX3_tooGreat : MethodName := ⟨RX3, "tooGreat", "(I)V"⟩
abbrev cX3_plus : ByteArray := prog_5_method_3_code
def yX3_plus : MethodName := ⟨RX3, "plus", "(JJI)J"⟩
abbrev cX3_times : ByteArray := prog_5_method_4_code
def yX3_times : MethodName := ⟨RX3, "times", "(JJI)J"⟩
abbrev cX3_otherSign : ByteArray := prog_5_method_5_code
def yX3_otherSign : MethodName := ⟨RX3, "otherSign", "(JI)J"⟩
def RX4 : String := "QuasiSums$Order"
def TX4 : u_T := fun k => match k with
  | 0 => ("QuasiSums$Order", "size", "I", true)
  | 1 => ("QuasiSums$Order", "lower", "[I", true)
  | 2 => ("QuasiSums$Order", "endings", "[I", true)
  | _ => ("QuasiSums$Order", "itsSum", "LQuasiSums$Sum;", false)
def tyX4 : Nat → FieldType := fun k => match k with
  | 0 => .int
  | 1 => .array .int
  | 2 => .array .int
  | _ => .object "QuasiSums$Sum"
abbrev wsX40 : List Cond := u_ws RX4 TX4 4
theorem nmX4 : ∀ a, a < 4 → ∀ b, b < 4 → a ≠ b → (TX4 a).2.1 ≠ (TX4 b).2.1 := by decide +kernel
theorem tyX4_ok : ∀ k, k < 4 → parseFieldDescriptor (TX4 k).2.2.1 = some (tyX4 k) := by decide +kernel
abbrev cX4_init : ByteArray := prog_6_method_1_code
def yX4_init : MethodName := ⟨RX4, "<init>", "(I)V"⟩
abbrev cX4_init_ : ByteArray := prog_6_method_2_code
def yX4_init_ : MethodName := ⟨RX4, "<init>", "(I[I)V"⟩
abbrev cX4_countEndings : ByteArray := prog_6_method_3_code
def yX4_countEndings : MethodName := ⟨RX4, "countEndings", "()V"⟩
abbrev cX4_waysBehind : ByteArray := prog_6_method_4_code
def yX4_waysBehind : MethodName := ⟨RX4, "waysBehind", "(II)I"⟩
abbrev cX4_has : ByteArray := prog_6_method_5_code
def yX4_has : MethodName := ⟨RX4, "has", "(I)Z"⟩
abbrev cX4_stands : ByteArray := prog_6_method_6_code
def yX4_stands : MethodName := ⟨RX4, "stands", "(II)Z"⟩
abbrev cX4_canCome : ByteArray := prog_6_method_7_code
def yX4_canCome : MethodName := ⟨RX4, "canCome", "(II)Z"⟩
abbrev cX4_withBelow : ByteArray := prog_6_method_8_code
def yX4_withBelow : MethodName := ⟨RX4, "withBelow", "(II)LQuasiSums$Order;"⟩
abbrev cX4_pairs : ByteArray := prog_6_method_9_code
def yX4_pairs : MethodName := ⟨RX4, "pairs", "()I"⟩
abbrev cX4_howManyRows : ByteArray := prog_6_method_10_code
def yX4_howManyRows : MethodName := ⟨RX4, "howManyRows", "()I"⟩
abbrev cX4_tellRow : ByteArray := prog_6_method_11_code
def yX4_tellRow : MethodName := ⟨RX4, "tellRow", "(I[I)V"⟩
abbrev cX4_descents : ByteArray := prog_6_method_12_code
def yX4_descents : MethodName := ⟨RX4, "descents", "([I)I"⟩
abbrev cX4_peaks : ByteArray := prog_6_method_13_code
def yX4_peaks : MethodName := ⟨RX4, "peaks", "([I)I"⟩
abbrev cX4_makes : ByteArray := prog_6_method_14_code
def yX4_makes : MethodName := ⟨RX4, "makes", "()LQuasiSums$Sum;"⟩
abbrev cX4_countDescents : ByteArray := prog_6_method_15_code
def yX4_countDescents : MethodName := ⟨RX4, "countDescents", "(LQuasiSums$Order;II[I[J)V"⟩
abbrev cX4_firstWrong : ByteArray := prog_6_method_16_code
def yX4_firstWrong : MethodName := ⟨RX4, "firstWrong", "([I)I"⟩
def RX5 : String := "QuasiSums$Reader"
def TX5 : u_T := fun k => match k with
  | 0 => ("QuasiSums$Reader", "tape", "[I", true)
  | 1 => ("QuasiSums$Reader", "length", "I", true)
  | 2 => ("QuasiSums$Reader", "terms", "Ljava/util/ArrayList;", true)
  | 3 => ("QuasiSums$Reader", "at", "I", false)
  | _ => ("QuasiSums$Reader", "term", "I", false)
def tyX5 : Nat → FieldType := fun k => match k with
  | 0 => .array .int
  | 1 => .int
  | 2 => .object "java/util/ArrayList"
  | 3 => .int
  | _ => .int
abbrev wsX50 : List Cond := u_ws RX5 TX5 5
theorem nmX5 : ∀ a, a < 5 → ∀ b, b < 5 → a ≠ b → (TX5 a).2.1 ≠ (TX5 b).2.1 := by decide +kernel
theorem tyX5_ok : ∀ k, k < 5 → parseFieldDescriptor (TX5 k).2.2.1 = some (tyX5 k) := by decide +kernel
abbrev cX5_init : ByteArray := prog_7_method_1_code
def yX5_init : MethodName := ⟨RX5, "<init>", "([II)V"⟩
abbrev cX5_readText : ByteArray := prog_7_method_2_code
def yX5_readText : MethodName := ⟨RX5, "readText", "()Z"⟩
abbrev cX5_readTerm : ByteArray := prog_7_method_3_code
def yX5_readTerm : MethodName := ⟨RX5, "readTerm", "(Z)Z"⟩
abbrev cX5_readTimes : ByteArray := prog_7_method_4_code
def yX5_readTimes : MethodName := ⟨RX5, "readTimes", "()I"⟩
abbrev cX5_readNumbers : ByteArray := prog_7_method_5_code
def yX5_readNumbers : MethodName := ⟨RX5, "readNumbers", "(LQuasiSums$Term;)Z"⟩
abbrev cX5_sees : ByteArray := prog_7_method_6_code
def yX5_sees : MethodName := ⟨RX5, "sees", "(C)Z"⟩
abbrev cX5_figure : ByteArray := prog_7_method_7_code
def yX5_figure : MethodName := ⟨RX5, "figure", "()I"⟩
def RX6 : String := "QuasiSums$Row"
def TX6 : u_T := fun k => match k with
  | _ => ("QuasiSums$Row", "ints", "[I", true)
def tyX6 : Nat → FieldType := fun k => match k with
  | _ => .array .int
abbrev wsX60 : List Cond := u_ws RX6 TX6 1
theorem nmX6 : ∀ a, a < 1 → ∀ b, b < 1 → a ≠ b → (TX6 a).2.1 ≠ (TX6 b).2.1 := by decide +kernel
theorem tyX6_ok : ∀ k, k < 1 → parseFieldDescriptor (TX6 k).2.2.1 = some (tyX6 k) := by decide +kernel
abbrev cX6_init : ByteArray := prog_8_method_1_code
def yX6_init : MethodName := ⟨RX6, "<init>", "([I)V"⟩
def RX7 : String := "QuasiSums$Step"
def TX7 : u_T := fun k => match k with
  | 0 => ("QuasiSums$Step", "register", "I", true)
  | _ => ("QuasiSums$Step", "before", "LQuasiSums$Sum;", true)
def tyX7 : Nat → FieldType := fun k => match k with
  | 0 => .int
  | _ => .object "QuasiSums$Sum"
abbrev wsX70 : List Cond := u_ws RX7 TX7 2
theorem nmX7 : ∀ a, a < 2 → ∀ b, b < 2 → a ≠ b → (TX7 a).2.1 ≠ (TX7 b).2.1 := by decide +kernel
theorem tyX7_ok : ∀ k, k < 2 → parseFieldDescriptor (TX7 k).2.2.1 = some (tyX7 k) := by decide +kernel
abbrev cX7_init : ByteArray := prog_9_method_1_code
def yX7_init : MethodName := ⟨RX7, "<init>", "(ILQuasiSums$Sum;)V"⟩
def RX8 : String := "QuasiSums$Sum"
def TX8 : u_T := fun k => match k with
  | 0 => ("QuasiSums$Sum", "weight", "I", true)
  | _ => ("QuasiSums$Sum", "numbers", "[J", true)
def tyX8 : Nat → FieldType := fun k => match k with
  | 0 => .int
  | _ => .array .long
abbrev wsX80 : List Cond := u_ws RX8 TX8 2
theorem nmX8 : ∀ a, a < 2 → ∀ b, b < 2 → a ≠ b → (TX8 a).2.1 ≠ (TX8 b).2.1 := by decide +kernel
theorem tyX8_ok : ∀ k, k < 2 → parseFieldDescriptor (TX8 k).2.2.1 = some (tyX8 k) := by decide +kernel
abbrev cX8_init : ByteArray := prog_10_method_1_code
def yX8_init : MethodName := ⟨RX8, "<init>", "(I)V"⟩
abbrev cX8_at : ByteArray := prog_10_method_2_code
def yX8_at : MethodName := ⟨RX8, "at", "(I)J"⟩
abbrev cX8_isLike : ByteArray := prog_10_method_3_code
def yX8_isLike : MethodName := ⟨RX8, "isLike", "(LQuasiSums$Sum;)Z"⟩
abbrev cX8_comes : ByteArray := prog_10_method_4_code
def yX8_comes : MethodName := ⟨RX8, "comes", "(IJLQuasiSums$Longs;)V"⟩
abbrev cX8_comesToFiner : ByteArray := prog_10_method_5_code
def yX8_comesToFiner : MethodName := ⟨RX8, "comesToFiner", "(IJLQuasiSums$Longs;)V"⟩
abbrev cX8_twin : ByteArray := prog_10_method_6_code
def yX8_twin : MethodName := ⟨RX8, "twin", "()LQuasiSums$Sum;"⟩
abbrev cX8_withNumber : ByteArray := prog_10_method_7_code
def yX8_withNumber : MethodName := ⟨RX8, "withNumber", "(IJ)LQuasiSums$Sum;"⟩
abbrev cX8_withFundamental : ByteArray := prog_10_method_8_code
def yX8_withFundamental : MethodName := ⟨RX8, "withFundamental", "(IJLQuasiSums$Longs;)LQuasiSums$Sum;"⟩
abbrev cX8_fundamentalNumber : ByteArray := prog_10_method_9_code
def yX8_fundamentalNumber : MethodName := ⟨RX8, "fundamentalNumber", "(ILQuasiSums$Longs;)J"⟩
abbrev cX8_notZero : ByteArray := prog_10_method_10_code
def yX8_notZero : MethodName := ⟨RX8, "notZero", "()I"⟩
abbrev cX8_plus : ByteArray := prog_10_method_11_code
def yX8_plus : MethodName := ⟨RX8, "plus", "(LQuasiSums$Sum;LQuasiSums$Longs;)LQuasiSums$Sum;"⟩
abbrev cX8_times : ByteArray := prog_10_method_12_code
def yX8_times : MethodName := ⟨RX8, "times", "(LQuasiSums$Sum;LQuasiSums$Longs;)LQuasiSums$Sum;"⟩
abbrev cX8_shuffle : ByteArray := prog_10_method_13_code
def yX8_shuffle : MethodName := ⟨RX8, "shuffle", "(IIIIII[I)V"⟩
abbrev cX8_antipodal : ByteArray := prog_10_method_14_code
def yX8_antipodal : MethodName := ⟨RX8, "antipodal", "(LQuasiSums$Longs;)LQuasiSums$Sum;"⟩
abbrev cX8_countsWith : ByteArray := prog_10_method_15_code
def yX8_countsWith : MethodName := ⟨RX8, "countsWith", "(ILQuasiSums$Longs;)J"⟩
abbrev cX8_shareOf : ByteArray := prog_10_method_16_code
def yX8_shareOf : MethodName := ⟨RX8, "shareOf", "(I)F"⟩
def RX9 : String := "QuasiSums$Term"
def TX9 : u_T := fun k => match k with
  | 0 => ("QuasiSums$Term", "ofF", "Z", true)
  | 1 => ("QuasiSums$Term", "times", "I", true)
  | 2 => ("QuasiSums$Term", "weight", "I", false)
  | _ => ("QuasiSums$Term", "bits", "I", false)
def tyX9 : Nat → FieldType := fun k => match k with
  | 0 => .boolean
  | 1 => .int
  | 2 => .int
  | _ => .int
abbrev wsX90 : List Cond := u_ws RX9 TX9 4
theorem nmX9 : ∀ a, a < 4 → ∀ b, b < 4 → a ≠ b → (TX9 a).2.1 ≠ (TX9 b).2.1 := by decide +kernel
theorem tyX9_ok : ∀ k, k < 4 → parseFieldDescriptor (TX9 k).2.2.1 = some (tyX9 k) := by decide +kernel
abbrev cX9_init : ByteArray := prog_11_method_1_code
def yX9_init : MethodName := ⟨RX9, "<init>", "(ZI)V"⟩
abbrev cX9_goesOn : ByteArray := prog_11_method_2_code
def yX9_goesOn : MethodName := ⟨RX9, "goesOn", "(I)V"⟩
abbrev cX9_comesTo : ByteArray := prog_11_method_3_code
def yX9_comesTo : MethodName := ⟨RX9, "comesTo", "(LQuasiSums$Sum;LQuasiSums$Longs;)V"⟩
def RX10 : String := "QuasiSums$Trouble"
def TX10 : u_T := fun k => match k with
  | 0 => ("QuasiSums$Trouble", "sort", "I", true)
  | 1 => ("QuasiSums$Trouble", "number", "I", true)
  | _ => ("QuasiSums$Trouble", "cause", "LQuasiSums$Trouble;", true)
def tyX10 : Nat → FieldType := fun k => match k with
  | 0 => .int
  | 1 => .int
  | _ => .object "QuasiSums$Trouble"
abbrev wsX100 : List Cond := u_ws RX10 TX10 3
theorem nmX10 : ∀ a, a < 3 → ∀ b, b < 3 → a ≠ b → (TX10 a).2.1 ≠ (TX10 b).2.1 := by decide +kernel
theorem tyX10_ok : ∀ k, k < 3 → parseFieldDescriptor (TX10 k).2.2.1 = some (tyX10 k) := by decide +kernel
abbrev cX10_init : ByteArray := prog_12_method_1_code
def yX10_init : MethodName := ⟨RX10, "<init>", "(IILQuasiSums$Trouble;)V"⟩
abbrev cX10_howMany : ByteArray := prog_12_method_2_code
def yX10_howMany : MethodName := ⟨RX10, "howMany", "(LQuasiSums$Trouble;)I"⟩
def RX11 : String := "QuasiSums"
def TX11 : u_T := fun k => match k with
  | 0 => ("QuasiSums", "registers", "[LQuasiSums$Sum;", false)
  | 1 => ("QuasiSums", "things", "LQuasiSums$Order;", false)
  | 2 => ("QuasiSums", "cells", "[F", false)
  | 3 => ("QuasiSums", "racks", "[LQuasiSums$Item;", false)
  | 4 => ("QuasiSums", "rows", "[LQuasiSums$Row;", true)
  | 5 => ("QuasiSums", "tape", "[I", true)
  | 6 => ("QuasiSums", "tapeLength", "I", false)
  | 7 => ("QuasiSums", "trouble", "LQuasiSums$Trouble;", false)
  | 8 => ("QuasiSums", "steps", "Ljava/util/ArrayList;", true)
  | _ => ("QuasiSums", "kept", "LQuasiSums$Image;", false)
def tyX11 : Nat → FieldType := fun k => match k with
  | 0 => .array (.object "QuasiSums$Sum")
  | 1 => .object "QuasiSums$Order"
  | 2 => .array .float
  | 3 => .array (.object "QuasiSums$Item")
  | 4 => .array (.object "QuasiSums$Row")
  | 5 => .array .int
  | 6 => .int
  | 7 => .object "QuasiSums$Trouble"
  | 8 => .object "java/util/ArrayList"
  | _ => .object "QuasiSums$Image"
abbrev wsX110 : List Cond := u_ws RX11 TX11 10
theorem nmX11 : ∀ a, a < 10 → ∀ b, b < 10 → a ≠ b → (TX11 a).2.1 ≠ (TX11 b).2.1 := by decide +kernel
theorem tyX11_ok : ∀ k, k < 10 → parseFieldDescriptor (TX11 k).2.2.1 = some (tyX11 k) := by decide +kernel
abbrev cX11_init : ByteArray := prog_1_method_1_code
def yX11_init : MethodName := ⟨RX11, "<init>", "()V"⟩
abbrev cX11_zero : ByteArray := prog_1_method_2_code
def yX11_zero : MethodName := ⟨RX11, "zero", "(II)I"⟩
abbrev cX11_put : ByteArray := prog_1_method_3_code
def yX11_put : MethodName := ⟨RX11, "put", "(IIJ)I"⟩
abbrev cX11_of : ByteArray := prog_1_method_4_code
def yX11_of : MethodName := ⟨RX11, "of", "(II)J"⟩
abbrev cX11_fundamental : ByteArray := prog_1_method_5_code
def yX11_fundamental : MethodName := ⟨RX11, "fundamental", "(IIJ)I"⟩
abbrev cX11_inF : ByteArray := prog_1_method_6_code
def yX11_inF : MethodName := ⟨RX11, "inF", "(II)J"⟩
abbrev cX11_told : ByteArray := prog_1_method_7_code
def yX11_told : MethodName := ⟨RX11, "told", "(II)I"⟩
abbrev cX11_composition : ByteArray := prog_1_method_8_code
def yX11_composition : MethodName := ⟨RX11, "composition", "(III)I"⟩
abbrev cX11_sum : ByteArray := prog_1_method_9_code
def yX11_sum : MethodName := ⟨RX11, "sum", "(III)I"⟩
abbrev cX11_multiply : ByteArray := prog_1_method_10_code
def yX11_multiply : MethodName := ⟨RX11, "multiply", "(III)I"⟩
abbrev cX11_antipode : ByteArray := prog_1_method_11_code
def yX11_antipode : MethodName := ⟨RX11, "antipode", "(II)I"⟩
abbrev cX11_cut : ByteArray := prog_1_method_12_code
def yX11_cut : MethodName := ⟨RX11, "cut", "(IIII)J"⟩
abbrev cX11_counts : ByteArray := prog_1_method_13_code
def yX11_counts : MethodName := ⟨RX11, "counts", "(II)J"⟩
abbrev cX11_order : ByteArray := prog_1_method_14_code
def yX11_order : MethodName := ⟨RX11, "order", "(I)I"⟩
abbrev cX11_below : ByteArray := prog_1_method_15_code
def yX11_below : MethodName := ⟨RX11, "below", "(II)I"⟩
abbrev cX11_isBelow : ByteArray := prog_1_method_16_code
def yX11_isBelow : MethodName := ⟨RX11, "isBelow", "(II)I"⟩
abbrev cX11_rowOf : ByteArray := prog_1_method_17_code
def yX11_rowOf : MethodName := ⟨RX11, "rowOf", "(II)I"⟩
abbrev cX11_marks : ByteArray := prog_1_method_18_code
def yX11_marks : MethodName := ⟨RX11, "marks", "(II)I"⟩
abbrev cX11_made : ByteArray := prog_1_method_19_code
def yX11_made : MethodName := ⟨RX11, "made", "(I)I"⟩
abbrev cX11_laid : ByteArray := prog_1_method_20_code
def yX11_laid : MethodName := ⟨RX11, "laid", "(I)I"⟩
abbrev cX11_share : ByteArray := prog_1_method_21_code
def yX11_share : MethodName := ⟨RX11, "share", "(II)I"⟩
abbrev cX11_warm : ByteArray := prog_1_method_22_code
def yX11_warm : MethodName := ⟨RX11, "warm", "(III)I"⟩
abbrev cX11_warmth : ByteArray := prog_1_method_23_code
def yX11_warmth : MethodName := ⟨RX11, "warmth", "(I)J"⟩
abbrev cX11_allInFloats : ByteArray := prog_1_method_24_code
def yX11_allInFloats : MethodName := ⟨RX11, "allInFloats", "()F"⟩
abbrev cX11_allInDoubles : ByteArray := prog_1_method_25_code
def yX11_allInDoubles : MethodName := ⟨RX11, "allInDoubles", "()D"⟩
abbrev cX11_floatBits : ByteArray := prog_1_method_26_code
def yX11_floatBits : MethodName := ⟨RX11, "floatBits", "(F)I"⟩
abbrev cX11_doubleBits : ByteArray := prog_1_method_27_code
def yX11_doubleBits : MethodName := ⟨RX11, "doubleBits", "(D)J"⟩
abbrev cX11_store : ByteArray := prog_1_method_28_code
def yX11_store : MethodName := ⟨RX11, "store", "(IIII)I"⟩
abbrev cX11_fetch : ByteArray := prog_1_method_29_code
def yX11_fetch : MethodName := ⟨RX11, "fetch", "(III)I"⟩
abbrev cX11_fetchSum : ByteArray := prog_1_method_30_code
def yX11_fetchSum : MethodName := ⟨RX11, "fetchSum", "(LQuasiSums$Item;I)I"⟩
abbrev cX11_fetchRow : ByteArray := prog_1_method_31_code
def yX11_fetchRow : MethodName := ⟨RX11, "fetchRow", "(LQuasiSums$Item;I)I"⟩
abbrev cX11_holds : ByteArray := prog_1_method_32_code
def yX11_holds : MethodName := ⟨RX11, "holds", "(II)I"⟩
abbrev cX11_row : ByteArray := prog_1_method_33_code
def yX11_row : MethodName := ⟨RX11, "row", "(II)I"⟩
abbrev cX11_lay : ByteArray := prog_1_method_34_code
def yX11_lay : MethodName := ⟨RX11, "lay", "(III)I"⟩
abbrev cX11_get : ByteArray := prog_1_method_35_code
def yX11_get : MethodName := ⟨RX11, "get", "(II)J"⟩
abbrev cX11_copy : ByteArray := prog_1_method_36_code
def yX11_copy : MethodName := ⟨RX11, "copy", "(IIIII)I"⟩
abbrev cX11_film : ByteArray := prog_1_method_37_code
def yX11_film : MethodName := ⟨RX11, "film", "(II)I"⟩
abbrev cX11_judge : ByteArray := prog_1_method_38_code
def yX11_judge : MethodName := ⟨RX11, "judge", "(I)I"⟩
abbrev cX11_back : ByteArray := prog_1_method_39_code
def yX11_back : MethodName := ⟨RX11, "back", "()I"⟩
abbrev cX11_feed : ByteArray := prog_1_method_40_code
def yX11_feed : MethodName := ⟨RX11, "feed", "(I)I"⟩
abbrev cX11_wipe : ByteArray := prog_1_method_41_code
def yX11_wipe : MethodName := ⟨RX11, "wipe", "()I"⟩
abbrev cX11_read : ByteArray := prog_1_method_42_code
def yX11_read : MethodName := ⟨RX11, "read", "(I)I"⟩
abbrev cX11_addTerms : ByteArray := prog_1_method_43_code
def yX11_addTerms : MethodName := ⟨RX11, "addTerms", "(ILjava/util/ArrayList;)I"⟩
abbrev cX11_refuseTerm : ByteArray := prog_1_method_44_code
def yX11_refuseTerm : MethodName := ⟨RX11, "refuseTerm", "(IIII)I"⟩
abbrev cX11_why : ByteArray := prog_1_method_45_code
def yX11_why : MethodName := ⟨RX11, "why", "(II)I"⟩
abbrev cX11_image : ByteArray := prog_1_method_46_code
def yX11_image : MethodName := ⟨RX11, "image", "()I"⟩
abbrev cX11_restore : ByteArray := prog_1_method_47_code
def yX11_restore : MethodName := ⟨RX11, "restore", "()I"⟩
abbrev cX11_count : ByteArray := prog_1_method_48_code
def yX11_count : MethodName := ⟨RX11, "count", "(I)I"⟩
abbrev cX11_howManyHeld : ByteArray := prog_1_method_49_code
def yX11_howManyHeld : MethodName := ⟨RX11, "howManyHeld", "()I"⟩
abbrev cX11_howManyRowsHeld : ByteArray := prog_1_method_50_code
def yX11_howManyRowsHeld : MethodName := ⟨RX11, "howManyRowsHeld", "()I"⟩
abbrev cX11_allWeights : ByteArray := prog_1_method_51_code
def yX11_allWeights : MethodName := ⟨RX11, "allWeights", "()I"⟩
abbrev cX11_within : ByteArray := prog_1_method_52_code
def yX11_within : MethodName := ⟨RX11, "within", "(II)Z"⟩
abbrev cX11_isNumber : ByteArray := prog_1_method_53_code
def yX11_isNumber : MethodName := ⟨RX11, "isNumber", "(II)Z"⟩
abbrev cX11_become : ByteArray := prog_1_method_54_code
def yX11_become : MethodName := ⟨RX11, "become", "(ILQuasiSums$Sum;)V"⟩
abbrev cX11_settle : ByteArray := prog_1_method_55_code
def yX11_settle : MethodName := ⟨RX11, "settle", "(ILQuasiSums$Sum;LQuasiSums$Longs;)I"⟩
abbrev cX11_answer : ByteArray := prog_1_method_56_code
def yX11_answer : MethodName := ⟨RX11, "answer", "(JLQuasiSums$Longs;)J"⟩
abbrev cX11_tellOver : ByteArray := prog_1_method_57_code
def yX11_tellOver : MethodName := ⟨RX11, "tellOver", "(LQuasiSums$Longs;)V"⟩
def RX12 : String := "QuasiSumsModel"
def TX12 : u_T := fun k => match k with
  | 0 => ("QuasiSumsModel", "isOver", "Z", false)
  | 1 => ("QuasiSumsModel", "sorts", "[I", true)
  | 2 => ("QuasiSumsModel", "troubles", "[I", true)
  | 3 => ("QuasiSumsModel", "troubleMany", "I", false)
  | 4 => ("QuasiSumsModel", "weights", "[I", true)
  | 5 => ("QuasiSumsModel", "numbers", "[J", true)
  | 6 => ("QuasiSumsModel", "made", "[J", true)
  | 7 => ("QuasiSumsModel", "stepRegisters", "[I", true)
  | 8 => ("QuasiSumsModel", "stepWeights", "[I", true)
  | 9 => ("QuasiSumsModel", "stepNumbers", "[J", true)
  | 10 => ("QuasiSumsModel", "steps", "I", false)
  | 11 => ("QuasiSumsModel", "ways", "[I", true)
  | 12 => ("QuasiSumsModel", "things", "I", false)
  | 13 => ("QuasiSumsModel", "under", "[I", true)
  | 14 => ("QuasiSumsModel", "row", "[I", true)
  | 15 => ("QuasiSumsModel", "rowsSeen", "I", false)
  | 16 => ("QuasiSumsModel", "given", "[I", true)
  | 17 => ("QuasiSumsModel", "cells", "[F", true)
  | 18 => ("QuasiSumsModel", "isThere", "[Z", true)
  | 19 => ("QuasiSumsModel", "sizes", "[I", true)
  | 20 => ("QuasiSumsModel", "items", "[I", true)
  | 21 => ("QuasiSumsModel", "moved", "[I", true)
  | 22 => ("QuasiSumsModel", "held", "[I", true)
  | 23 => ("QuasiSumsModel", "heldSizes", "[I", true)
  | 24 => ("QuasiSumsModel", "heldNumbers", "[J", true)
  | 25 => ("QuasiSumsModel", "tape", "[I", true)
  | 26 => ("QuasiSumsModel", "taped", "I", false)
  | 27 => ("QuasiSumsModel", "at", "I", false)
  | 28 => ("QuasiSumsModel", "isWrong", "Z", false)
  | 29 => ("QuasiSumsModel", "terms", "I", false)
  | 30 => ("QuasiSumsModel", "termTimes", "[I", true)
  | 31 => ("QuasiSumsModel", "termIsF", "[Z", true)
  | 32 => ("QuasiSumsModel", "termSums", "[I", true)
  | 33 => ("QuasiSumsModel", "termBits", "[J", true)
  | 34 => ("QuasiSumsModel", "keptWeights", "[I", true)
  | 35 => ("QuasiSumsModel", "keptNumbers", "[J", true)
  | 36 => ("QuasiSumsModel", "keptThings", "I", false)
  | 37 => ("QuasiSumsModel", "keptUnder", "[I", true)
  | 38 => ("QuasiSumsModel", "keptCells", "[F", true)
  | 39 => ("QuasiSumsModel", "keptHeld", "[I", true)
  | 40 => ("QuasiSumsModel", "keptHeldSizes", "[I", true)
  | _ => ("QuasiSumsModel", "keptHeldNumbers", "[J", true)
def tyX12 : Nat → FieldType := fun k => match k with
  | 0 => .boolean
  | 1 => .array .int
  | 2 => .array .int
  | 3 => .int
  | 4 => .array .int
  | 5 => .array .long
  | 6 => .array .long
  | 7 => .array .int
  | 8 => .array .int
  | 9 => .array .long
  | 10 => .int
  | 11 => .array .int
  | 12 => .int
  | 13 => .array .int
  | 14 => .array .int
  | 15 => .int
  | 16 => .array .int
  | 17 => .array .float
  | 18 => .array .boolean
  | 19 => .array .int
  | 20 => .array .int
  | 21 => .array .int
  | 22 => .array .int
  | 23 => .array .int
  | 24 => .array .long
  | 25 => .array .int
  | 26 => .int
  | 27 => .int
  | 28 => .boolean
  | 29 => .int
  | 30 => .array .int
  | 31 => .array .boolean
  | 32 => .array .int
  | 33 => .array .long
  | 34 => .array .int
  | 35 => .array .long
  | 36 => .int
  | 37 => .array .int
  | 38 => .array .float
  | 39 => .array .int
  | 40 => .array .int
  | _ => .array .long
abbrev wsX120 : List Cond := u_ws RX12 TX12 42
theorem nmX12 : ∀ a, a < 42 → ∀ b, b < 42 → a ≠ b → (TX12 a).2.1 ≠ (TX12 b).2.1 := by decide +kernel
theorem tyX12_ok : ∀ k, k < 42 → parseFieldDescriptor (TX12 k).2.2.1 = some (tyX12 k) := by decide +kernel
abbrev cX12_init : ByteArray := prog_14_method_1_code
def yX12_init : MethodName := ⟨RX12, "<init>", "()V"⟩
abbrev cX12_in : ByteArray := prog_14_method_2_code
def yX12_in : MethodName := ⟨RX12, "in", "(III)Z"⟩
abbrev cX12_many : ByteArray := prog_14_method_3_code
def yX12_many : MethodName := ⟨RX12, "many", "(I)I"⟩
abbrev cX12_bits : ByteArray := prog_14_method_4_code
def yX12_bits : MethodName := ⟨RX12, "bits", "(I)I"⟩
abbrev cX12_isFiner : ByteArray := prog_14_method_5_code
def yX12_isFiner : MethodName := ⟨RX12, "isFiner", "(II)Z"⟩
abbrev cX12_length : ByteArray := prog_14_method_6_code
def yX12_length : MethodName := ⟨RX12, "length", "(II)I"⟩
abbrev cX12_turned : ByteArray := prog_14_method_7_code
def yX12_turned : MethodName := ⟨RX12, "turned", "(II)I"⟩
abbrev cX12_numberOf : ByteArray := prog_14_method_8_code
def yX12_numberOf : MethodName := ⟨RX12, "numberOf", "(III)I"⟩
abbrev cX12_over : ByteArray := prog_14_method_9_code
def yX12_over : MethodName := ⟨RX12, "over", "(I)V"⟩
abbrev cX12_plus : ByteArray := prog_14_method_10_code
def yX12_plus : MethodName := ⟨RX12, "plus", "(JJI)J"⟩
abbrev cX12_times : ByteArray := prog_14_method_11_code
def yX12_times : MethodName := ⟨RX12, "times", "(JJI)J"⟩
abbrev cX12_less : ByteArray := prog_14_method_12_code
def yX12_less : MethodName := ⟨RX12, "less", "(JI)J"⟩
abbrev cX12_why : ByteArray := prog_14_method_13_code
def yX12_why : MethodName := ⟨RX12, "why", "(II)I"⟩
abbrev cX12_isRegister : ByteArray := prog_14_method_14_code
def yX12_isRegister : MethodName := ⟨RX12, "isRegister", "(I)Z"⟩
abbrev cX12_isOf : ByteArray := prog_14_method_15_code
def yX12_isOf : MethodName := ⟨RX12, "isOf", "(II)Z"⟩
abbrev cX12_empties : ByteArray := prog_14_method_16_code
def yX12_empties : MethodName := ⟨RX12, "empties", "()V"⟩
abbrev cX12_becomes : ByteArray := prog_14_method_17_code
def yX12_becomes : MethodName := ⟨RX12, "becomes", "(II)V"⟩
abbrev cX12_back : ByteArray := prog_14_method_18_code
def yX12_back : MethodName := ⟨RX12, "back", "()I"⟩
abbrev cX12_takes : ByteArray := prog_14_method_19_code
def yX12_takes : MethodName := ⟨RX12, "takes", "(I)V"⟩
abbrev cX12_zero : ByteArray := prog_14_method_20_code
def yX12_zero : MethodName := ⟨RX12, "zero", "(II)I"⟩
abbrev cX12_put : ByteArray := prog_14_method_21_code
def yX12_put : MethodName := ⟨RX12, "put", "(IIJ)I"⟩
abbrev cX12_of : ByteArray := prog_14_method_22_code
def yX12_of : MethodName := ⟨RX12, "of", "(II)J"⟩
abbrev cX12_addsF : ByteArray := prog_14_method_23_code
def yX12_addsF : MethodName := ⟨RX12, "addsF", "(IIJ)V"⟩
abbrev cX12_fundamental : ByteArray := prog_14_method_24_code
def yX12_fundamental : MethodName := ⟨RX12, "fundamental", "(IIJ)I"⟩
abbrev cX12_inF : ByteArray := prog_14_method_25_code
def yX12_inF : MethodName := ⟨RX12, "inF", "(II)J"⟩
abbrev cX12_told : ByteArray := prog_14_method_26_code
def yX12_told : MethodName := ⟨RX12, "told", "(II)I"⟩
abbrev cX12_composition : ByteArray := prog_14_method_27_code
def yX12_composition : MethodName := ⟨RX12, "composition", "(III)I"⟩
abbrev cX12_sum : ByteArray := prog_14_method_28_code
def yX12_sum : MethodName := ⟨RX12, "sum", "(III)I"⟩
abbrev cX12_goes : ByteArray := prog_14_method_29_code
def yX12_goes : MethodName := ⟨RX12, "goes", "(IIIIIIII)V"⟩
abbrev cX12_multiply : ByteArray := prog_14_method_30_code
def yX12_multiply : MethodName := ⟨RX12, "multiply", "(III)I"⟩
abbrev cX12_antipode : ByteArray := prog_14_method_31_code
def yX12_antipode : MethodName := ⟨RX12, "antipode", "(II)I"⟩
abbrev cX12_cut : ByteArray := prog_14_method_32_code
def yX12_cut : MethodName := ⟨RX12, "cut", "(IIII)J"⟩
abbrev cX12_choices : ByteArray := prog_14_method_33_code
def yX12_choices : MethodName := ⟨RX12, "choices", "(II)J"⟩
abbrev cX12_counts : ByteArray := prog_14_method_34_code
def yX12_counts : MethodName := ⟨RX12, "counts", "(II)J"⟩
abbrev cX12_isThing : ByteArray := prog_14_method_35_code
def yX12_isThing : MethodName := ⟨RX12, "isThing", "(I)Z"⟩
abbrev cX12_isUnder : ByteArray := prog_14_method_36_code
def yX12_isUnder : MethodName := ⟨RX12, "isUnder", "(II)Z"⟩
abbrev cX12_order : ByteArray := prog_14_method_37_code
def yX12_order : MethodName := ⟨RX12, "order", "(I)I"⟩
abbrev cX12_below : ByteArray := prog_14_method_38_code
def yX12_below : MethodName := ⟨RX12, "below", "(II)I"⟩
abbrev cX12_isBelow : ByteArray := prog_14_method_39_code
def yX12_isBelow : MethodName := ⟨RX12, "isBelow", "(II)I"⟩
abbrev cX12_finds : ByteArray := prog_14_method_40_code
def yX12_finds : MethodName := ⟨RX12, "finds", "(III)Z"⟩
abbrev cX12_takesRow : ByteArray := prog_14_method_41_code
def yX12_takesRow : MethodName := ⟨RX12, "takesRow", "(I)Z"⟩
abbrev cX12_rowOf : ByteArray := prog_14_method_42_code
def yX12_rowOf : MethodName := ⟨RX12, "rowOf", "(II)I"⟩
abbrev cX12_descents : ByteArray := prog_14_method_43_code
def yX12_descents : MethodName := ⟨RX12, "descents", "()I"⟩
abbrev cX12_marks : ByteArray := prog_14_method_44_code
def yX12_marks : MethodName := ⟨RX12, "marks", "(II)I"⟩
abbrev cX12_made : ByteArray := prog_14_method_45_code
def yX12_made : MethodName := ⟨RX12, "made", "(I)I"⟩
abbrev cX12_gives : ByteArray := prog_14_method_46_code
def yX12_gives : MethodName := ⟨RX12, "gives", "(II)I"⟩
abbrev cX12_laid : ByteArray := prog_14_method_47_code
def yX12_laid : MethodName := ⟨RX12, "laid", "(I)I"⟩
abbrev cX12_shareOf : ByteArray := prog_14_method_48_code
def yX12_shareOf : MethodName := ⟨RX12, "shareOf", "(II)F"⟩
abbrev cX12_share : ByteArray := prog_14_method_49_code
def yX12_share : MethodName := ⟨RX12, "share", "(II)I"⟩
abbrev cX12_warm : ByteArray := prog_14_method_50_code
def yX12_warm : MethodName := ⟨RX12, "warm", "(III)I"⟩
abbrev cX12_warmth : ByteArray := prog_14_method_51_code
def yX12_warmth : MethodName := ⟨RX12, "warmth", "(I)J"⟩
abbrev cX12_isRow : ByteArray := prog_14_method_52_code
def yX12_isRow : MethodName := ⟨RX12, "isRow", "(I)Z"⟩
abbrev cX12_row : ByteArray := prog_14_method_53_code
def yX12_row : MethodName := ⟨RX12, "row", "(II)I"⟩
abbrev cX12_lay : ByteArray := prog_14_method_54_code
def yX12_lay : MethodName := ⟨RX12, "lay", "(III)I"⟩
abbrev cX12_get : ByteArray := prog_14_method_55_code
def yX12_get : MethodName := ⟨RX12, "get", "(II)J"⟩
abbrev cX12_copy : ByteArray := prog_14_method_56_code
def yX12_copy : MethodName := ⟨RX12, "copy", "(IIIII)I"⟩
abbrev cX12_film : ByteArray := prog_14_method_57_code
def yX12_film : MethodName := ⟨RX12, "film", "(II)I"⟩
abbrev cX12_judge : ByteArray := prog_14_method_58_code
def yX12_judge : MethodName := ⟨RX12, "judge", "(I)I"⟩
abbrev cX12_isRack : ByteArray := prog_14_method_59_code
def yX12_isRack : MethodName := ⟨RX12, "isRack", "(I)Z"⟩
abbrev cX12_store : ByteArray := prog_14_method_60_code
def yX12_store : MethodName := ⟨RX12, "store", "(IIII)I"⟩
abbrev cX12_fetch : ByteArray := prog_14_method_61_code
def yX12_fetch : MethodName := ⟨RX12, "fetch", "(III)I"⟩
abbrev cX12_holds : ByteArray := prog_14_method_62_code
def yX12_holds : MethodName := ⟨RX12, "holds", "(II)I"⟩
abbrev cX12_feed : ByteArray := prog_14_method_63_code
def yX12_feed : MethodName := ⟨RX12, "feed", "(I)I"⟩
abbrev cX12_wipe : ByteArray := prog_14_method_64_code
def yX12_wipe : MethodName := ⟨RX12, "wipe", "()I"⟩
abbrev cX12_here : ByteArray := prog_14_method_65_code
def yX12_here : MethodName := ⟨RX12, "here", "()I"⟩
abbrev cX12_must : ByteArray := prog_14_method_66_code
def yX12_must : MethodName := ⟨RX12, "must", "(I)V"⟩
abbrev cX12_figure : ByteArray := prog_14_method_67_code
def yX12_figure : MethodName := ⟨RX12, "figure", "()V"⟩
abbrev cX12_term : ByteArray := prog_14_method_68_code
def yX12_term : MethodName := ⟨RX12, "term", "(I)V"⟩
abbrev cX12_because : ByteArray := prog_14_method_69_code
def yX12_because : MethodName := ⟨RX12, "because", "(II)V"⟩
abbrev cX12_isFault : ByteArray := prog_14_method_70_code
def yX12_isFault : MethodName := ⟨RX12, "isFault", "()Z"⟩
abbrev cX12_read : ByteArray := prog_14_method_71_code
def yX12_read : MethodName := ⟨RX12, "read", "(I)I"⟩
abbrev cX12_all : ByteArray := prog_14_method_72_code
def yX12_all : MethodName := ⟨RX12, "all", "()I"⟩
abbrev cX12_image : ByteArray := prog_14_method_73_code
def yX12_image : MethodName := ⟨RX12, "image", "()I"⟩
abbrev cX12_restore : ByteArray := prog_14_method_74_code
def yX12_restore : MethodName := ⟨RX12, "restore", "()I"⟩
abbrev cX12_count : ByteArray := prog_14_method_75_code
def yX12_count : MethodName := ⟨RX12, "count", "(I)I"⟩
def RJx145de : String := "java/io/Serializable"
def TJx145de : u_T := fun k => match k with
  | _ => ("", "", "", false)
def tyJx145de : Nat → FieldType := fun k => match k with
  | _ => .int
abbrev wsJx145de0 : List Cond := u_ws RJx145de TJx145de 0
theorem nmJx145de : ∀ a, a < 0 → ∀ b, b < 0 → a ≠ b → (TJx145de a).2.1 ≠ (TJx145de b).2.1 := by decide +kernel
theorem tyJx145de_ok : ∀ k, k < 0 → parseFieldDescriptor (TJx145de k).2.2.1 = some (tyJx145de k) := by decide +kernel
def RJx8e188 : String := "java/lang/Cloneable"
def TJx8e188 : u_T := fun k => match k with
  | _ => ("", "", "", false)
def tyJx8e188 : Nat → FieldType := fun k => match k with
  | _ => .int
abbrev wsJx8e1880 : List Cond := u_ws RJx8e188 TJx8e188 0
theorem nmJx8e188 : ∀ a, a < 0 → ∀ b, b < 0 → a ≠ b → (TJx8e188 a).2.1 ≠ (TJx8e188 b).2.1 := by decide +kernel
theorem tyJx8e188_ok : ∀ k, k < 0 → parseFieldDescriptor (TJx8e188 k).2.2.1 = some (tyJx8e188 k) := by decide +kernel
def RJxb160c : String := "java/lang/Comparable"
def TJxb160c : u_T := fun k => match k with
  | _ => ("", "", "", false)
def tyJxb160c : Nat → FieldType := fun k => match k with
  | _ => .int
abbrev wsJxb160c0 : List Cond := u_ws RJxb160c TJxb160c 0
theorem nmJxb160c : ∀ a, a < 0 → ∀ b, b < 0 → a ≠ b → (TJxb160c a).2.1 ≠ (TJxb160c b).2.1 := by decide +kernel
theorem tyJxb160c_ok : ∀ k, k < 0 → parseFieldDescriptor (TJxb160c k).2.2.1 = some (tyJxb160c k) := by decide +kernel
def RJxe99ae : String := "java/lang/Double"
def TJxe99ae : u_T := fun k => match k with
  | _ => ("", "", "", false)
def tyJxe99ae : Nat → FieldType := fun k => match k with
  | _ => .int
abbrev wsJxe99ae0 : List Cond := u_ws RJxe99ae TJxe99ae 0
theorem nmJxe99ae : ∀ a, a < 0 → ∀ b, b < 0 → a ≠ b → (TJxe99ae a).2.1 ≠ (TJxe99ae b).2.1 := by decide +kernel
theorem tyJxe99ae_ok : ∀ k, k < 0 → parseFieldDescriptor (TJxe99ae k).2.2.1 = some (tyJxe99ae k) := by decide +kernel
abbrev cJxe99ae_isNaN_b9ae7 : ByteArray := prog_17_method_6_code
def yJxe99ae_isNaN_b9ae7 : MethodName := ⟨RJxe99ae, "isNaN", "(D)Z"⟩
abbrev cJxe99ae_doubleToLongBits_ccdee : ByteArray := prog_17_method_23_code
def yJxe99ae_doubleToLongBits_ccdee : MethodName := ⟨RJxe99ae, "doubleToLongBits", "(D)J"⟩
def RJxf58ca : String := "java/lang/Float"
def TJxf58ca : u_T := fun k => match k with
  | _ => ("", "", "", false)
def tyJxf58ca : Nat → FieldType := fun k => match k with
  | _ => .int
abbrev wsJxf58ca0 : List Cond := u_ws RJxf58ca TJxf58ca 0
theorem nmJxf58ca : ∀ a, a < 0 → ∀ b, b < 0 → a ≠ b → (TJxf58ca a).2.1 ≠ (TJxf58ca b).2.1 := by decide +kernel
theorem tyJxf58ca_ok : ∀ k, k < 0 → parseFieldDescriptor (TJxf58ca k).2.2.1 = some (tyJxf58ca k) := by decide +kernel
abbrev cJxf58ca_isNaN_12338 : ByteArray := prog_18_method_6_code
def yJxf58ca_isNaN_12338 : MethodName := ⟨RJxf58ca, "isNaN", "(F)Z"⟩
abbrev cJxf58ca_floatToIntBits_5c35a : ByteArray := prog_18_method_24_code
def yJxf58ca_floatToIntBits_5c35a : MethodName := ⟨RJxf58ca, "floatToIntBits", "(F)I"⟩
def RJ6 : String := "java/lang/Integer"
def TJ6 : u_T := fun k => match k with
  | _ => ("", "", "", false)
def tyJ6 : Nat → FieldType := fun k => match k with
  | _ => .int
abbrev wsJ60 : List Cond := u_ws RJ6 TJ6 0
theorem nmJ6 : ∀ a, a < 0 → ∀ b, b < 0 → a ≠ b → (TJ6 a).2.1 ≠ (TJ6 b).2.1 := by decide +kernel
theorem tyJ6_ok : ∀ k, k < 0 → parseFieldDescriptor (TJ6 k).2.2.1 = some (tyJ6 k) := by decide +kernel
abbrev cJ6_bitCount_0f7a4 : ByteArray := prog_19_method_49_code
def yJ6_bitCount_0f7a4 : MethodName := ⟨RJ6, "bitCount", "(I)I"⟩
def RJxab1ab : String := "java/lang/Iterable"
def TJxab1ab : u_T := fun k => match k with
  | _ => ("", "", "", false)
def tyJxab1ab : Nat → FieldType := fun k => match k with
  | _ => .int
abbrev wsJxab1ab0 : List Cond := u_ws RJxab1ab TJxab1ab 0
theorem nmJxab1ab : ∀ a, a < 0 → ∀ b, b < 0 → a ≠ b → (TJxab1ab a).2.1 ≠ (TJxab1ab b).2.1 := by decide +kernel
theorem tyJxab1ab_ok : ∀ k, k < 0 → parseFieldDescriptor (TJxab1ab k).2.2.1 = some (tyJxab1ab k) := by decide +kernel
def RJ9 : String := "java/lang/Math"
def TJ9 : u_T := fun k => match k with
  | _ => ("", "", "", false)
def tyJ9 : Nat → FieldType := fun k => match k with
  | _ => .int
abbrev wsJ90 : List Cond := u_ws RJ9 TJ9 0
theorem nmJ9 : ∀ a, a < 0 → ∀ b, b < 0 → a ≠ b → (TJ9 a).2.1 ≠ (TJ9 b).2.1 := by decide +kernel
theorem tyJ9_ok : ∀ k, k < 0 → parseFieldDescriptor (TJ9 k).2.2.1 = some (tyJ9 k) := by decide +kernel
abbrev cJ9_abs_f6c48 : ByteArray := prog_21_method_63_code
def yJ9_abs_f6c48 : MethodName := ⟨RJ9, "abs", "(F)F"⟩
abbrev cJ9_max_7cf53 : ByteArray := prog_21_method_65_code
def yJ9_max_7cf53 : MethodName := ⟨RJ9, "max", "(II)I"⟩
abbrev cJ9_min_7cf53 : ByteArray := prog_21_method_69_code
def yJ9_min_7cf53 : MethodName := ⟨RJ9, "min", "(II)I"⟩
def RJxd2413 : String := "java/lang/Number"
def TJxd2413 : u_T := fun k => match k with
  | _ => ("", "", "", false)
def tyJxd2413 : Nat → FieldType := fun k => match k with
  | _ => .int
abbrev wsJxd24130 : List Cond := u_ws RJxd2413 TJxd2413 0
theorem nmJxd2413 : ∀ a, a < 0 → ∀ b, b < 0 → a ≠ b → (TJxd2413 a).2.1 ≠ (TJxd2413 b).2.1 := by decide +kernel
theorem tyJxd2413_ok : ∀ k, k < 0 → parseFieldDescriptor (TJxd2413 k).2.2.1 = some (tyJxd2413 k) := by decide +kernel
def RJ10 : String := "java/lang/System"
def TJ10 : u_T := fun k => match k with
  | _ => ("", "", "", false)
def tyJ10 : Nat → FieldType := fun k => match k with
  | _ => .int
abbrev wsJ100 : List Cond := u_ws RJ10 TJ10 0
theorem nmJ10 : ∀ a, a < 0 → ∀ b, b < 0 → a ≠ b → (TJ10 a).2.1 ≠ (TJ10 b).2.1 := by decide +kernel
theorem tyJ10_ok : ∀ k, k < 0 → parseFieldDescriptor (TJ10 k).2.2.1 = some (tyJ10 k) := by decide +kernel
def RJxfd54e : String := "java/lang/constant/Constable"
def TJxfd54e : u_T := fun k => match k with
  | _ => ("", "", "", false)
def tyJxfd54e : Nat → FieldType := fun k => match k with
  | _ => .int
abbrev wsJxfd54e0 : List Cond := u_ws RJxfd54e TJxfd54e 0
theorem nmJxfd54e : ∀ a, a < 0 → ∀ b, b < 0 → a ≠ b → (TJxfd54e a).2.1 ≠ (TJxfd54e b).2.1 := by decide +kernel
theorem tyJxfd54e_ok : ∀ k, k < 0 → parseFieldDescriptor (TJxfd54e k).2.2.1 = some (tyJxfd54e k) := by decide +kernel
def RJx3cf43 : String := "java/lang/constant/ConstantDesc"
def TJx3cf43 : u_T := fun k => match k with
  | _ => ("", "", "", false)
def tyJx3cf43 : Nat → FieldType := fun k => match k with
  | _ => .int
abbrev wsJx3cf430 : List Cond := u_ws RJx3cf43 TJx3cf43 0
theorem nmJx3cf43 : ∀ a, a < 0 → ∀ b, b < 0 → a ≠ b → (TJx3cf43 a).2.1 ≠ (TJx3cf43 b).2.1 := by decide +kernel
theorem tyJx3cf43_ok : ∀ k, k < 0 → parseFieldDescriptor (TJx3cf43 k).2.2.1 = some (tyJx3cf43 k) := by decide +kernel
def RJxa1e45 : String := "java/util/AbstractCollection"
def TJxa1e45 : u_T := fun k => match k with
  | _ => ("", "", "", false)
def tyJxa1e45 : Nat → FieldType := fun k => match k with
  | _ => .int
abbrev wsJxa1e450 : List Cond := u_ws RJxa1e45 TJxa1e45 0
theorem nmJxa1e45 : ∀ a, a < 0 → ∀ b, b < 0 → a ≠ b → (TJxa1e45 a).2.1 ≠ (TJxa1e45 b).2.1 := by decide +kernel
theorem tyJxa1e45_ok : ∀ k, k < 0 → parseFieldDescriptor (TJxa1e45 k).2.2.1 = some (tyJxa1e45 k) := by decide +kernel
abbrev cJxa1e45_init_da8c8 : ByteArray := prog_24_method_1_code
def yJxa1e45_init_da8c8 : MethodName := ⟨RJxa1e45, "<init>", "()V"⟩
def RJxc12de : String := "java/util/AbstractList"
def TJxc12de : u_T := fun k => match k with
  | _ => ("", "", "", false)
def tyJxc12de : Nat → FieldType := fun k => match k with
  | _ => .int
abbrev wsJxc12de0 : List Cond := u_ws RJxc12de TJxc12de 0
theorem nmJxc12de : ∀ a, a < 0 → ∀ b, b < 0 → a ≠ b → (TJxc12de a).2.1 ≠ (TJxc12de b).2.1 := by decide +kernel
theorem tyJxc12de_ok : ∀ k, k < 0 → parseFieldDescriptor (TJxc12de k).2.2.1 = some (tyJxc12de k) := by decide +kernel
abbrev cJxc12de_init_da8c8 : ByteArray := prog_25_method_1_code
def yJxc12de_init_da8c8 : MethodName := ⟨RJxc12de, "<init>", "()V"⟩
def RJx4a65c : String := "java/util/ArrayList"
def TJx4a65c : u_T := fun k => match k with
  | 0 => ("java/util/AbstractList", "modCount", "I", false)
  | 1 => ("java/util/ArrayList", "elementData", "[Ljava/lang/Object;", false)
  | _ => ("java/util/ArrayList", "size", "I", false)
def tyJx4a65c : Nat → FieldType := fun k => match k with
  | 0 => .int
  | 1 => .array (.object "java/lang/Object")
  | _ => .int
abbrev wsJx4a65c0 : List Cond := u_ws RJx4a65c TJx4a65c 3
theorem nmJx4a65c : ∀ a, a < 3 → ∀ b, b < 3 → a ≠ b → (TJx4a65c a).2.1 ≠ (TJx4a65c b).2.1 := by decide +kernel
theorem tyJx4a65c_ok : ∀ k, k < 3 → parseFieldDescriptor (TJx4a65c k).2.2.1 = some (tyJx4a65c k) := by decide +kernel
abbrev cJx4a65c_init_da8c8 : ByteArray := prog_26_method_2_code
def yJx4a65c_init_da8c8 : MethodName := ⟨RJx4a65c, "<init>", "()V"⟩
abbrev cJx4a65c_grow_92f84 : ByteArray := prog_26_method_6_code
def yJx4a65c_grow_92f84 : MethodName := ⟨RJx4a65c, "grow", "(I)[Ljava/lang/Object;"⟩
abbrev cJx4a65c_grow_d5877 : ByteArray := prog_26_method_7_code
def yJx4a65c_grow_d5877 : MethodName := ⟨RJx4a65c, "grow", "()[Ljava/lang/Object;"⟩
abbrev cJx4a65c_size_8abf5 : ByteArray := prog_26_method_8_code
def yJx4a65c_size_8abf5 : MethodName := ⟨RJx4a65c, "size", "()I"⟩
abbrev cJx4a65c_isEmpty_aae02 : ByteArray := prog_26_method_9_code
def yJx4a65c_isEmpty_aae02 : MethodName := ⟨RJx4a65c, "isEmpty", "()Z"⟩
abbrev cJx4a65c_elementData_915e3 : ByteArray := prog_26_method_18_code
def yJx4a65c_elementData_915e3 : MethodName := ⟨RJx4a65c, "elementData", "(I)Ljava/lang/Object;"⟩
abbrev cJx4a65c_get_915e3 : ByteArray := prog_26_method_20_code
def yJx4a65c_get_915e3 : MethodName := ⟨RJx4a65c, "get", "(I)Ljava/lang/Object;"⟩
abbrev cJx4a65c_add_72be8 : ByteArray := prog_26_method_24_code
def yJx4a65c_add_72be8 : MethodName := ⟨RJx4a65c, "add", "(Ljava/lang/Object;[Ljava/lang/Object;I)V"⟩
abbrev cJx4a65c_add_9ea2d : ByteArray := prog_26_method_25_code
def yJx4a65c_add_9ea2d : MethodName := ⟨RJx4a65c, "add", "(Ljava/lang/Object;)Z"⟩
abbrev cJx4a65c_remove_915e3 : ByteArray := prog_26_method_29_code
def yJx4a65c_remove_915e3 : MethodName := ⟨RJx4a65c, "remove", "(I)Ljava/lang/Object;"⟩
abbrev cJx4a65c_fastRemove_b59b0 : ByteArray := prog_26_method_39_code
def yJx4a65c_fastRemove_b59b0 : MethodName := ⟨RJx4a65c, "fastRemove", "([Ljava/lang/Object;I)V"⟩
abbrev cJx4a65c_clear_da8c8 : ByteArray := prog_26_method_40_code
def yJx4a65c_clear_da8c8 : MethodName := ⟨RJx4a65c, "clear", "()V"⟩
def RJ7 : String := "java/util/Arrays"
def TJ7 : u_T := fun k => match k with
  | _ => ("", "", "", false)
def tyJ7 : Nat → FieldType := fun k => match k with
  | _ => .int
abbrev wsJ70 : List Cond := u_ws RJ7 TJ7 0
theorem nmJ7 : ∀ a, a < 0 → ∀ b, b < 0 → a ≠ b → (TJ7 a).2.1 ≠ (TJ7 b).2.1 := by decide +kernel
theorem tyJ7_ok : ∀ k, k < 0 → parseFieldDescriptor (TJ7 k).2.2.1 = some (tyJ7 k) := by decide +kernel
abbrev cJ7_fill_53178 : ByteArray := prog_27_method_103_code
def yJ7_fill_53178 : MethodName := ⟨RJ7, "fill", "([II)V"⟩
abbrev cJ7_copyOf_1904c : ByteArray := prog_27_method_119_code
def yJ7_copyOf_1904c : MethodName := ⟨RJ7, "copyOf", "([Ljava/lang/Object;I)[Ljava/lang/Object;"⟩
abbrev cJ7_copyOf_6403c : ByteArray := prog_27_method_120_code
def yJ7_copyOf_6403c : MethodName := ⟨RJ7, "copyOf", "([Ljava/lang/Object;ILjava/lang/Class;)[Ljava/lang/Object;"⟩
def RJx5ef63 : String := "java/util/Collection"
def TJx5ef63 : u_T := fun k => match k with
  | _ => ("", "", "", false)
def tyJx5ef63 : Nat → FieldType := fun k => match k with
  | _ => .int
abbrev wsJx5ef630 : List Cond := u_ws RJx5ef63 TJx5ef63 0
theorem nmJx5ef63 : ∀ a, a < 0 → ∀ b, b < 0 → a ≠ b → (TJx5ef63 a).2.1 ≠ (TJx5ef63 b).2.1 := by decide +kernel
theorem tyJx5ef63_ok : ∀ k, k < 0 → parseFieldDescriptor (TJx5ef63 k).2.2.1 = some (tyJx5ef63 k) := by decide +kernel
def RJxbd725 : String := "java/util/List"
def TJxbd725 : u_T := fun k => match k with
  | _ => ("", "", "", false)
def tyJxbd725 : Nat → FieldType := fun k => match k with
  | _ => .int
abbrev wsJxbd7250 : List Cond := u_ws RJxbd725 TJxbd725 0
theorem nmJxbd725 : ∀ a, a < 0 → ∀ b, b < 0 → a ≠ b → (TJxbd725 a).2.1 ≠ (TJxbd725 b).2.1 := by decide +kernel
theorem tyJxbd725_ok : ∀ k, k < 0 → parseFieldDescriptor (TJxbd725 k).2.2.1 = some (tyJxbd725 k) := by decide +kernel
def RJ15 : String := "java/util/Objects"
def TJ15 : u_T := fun k => match k with
  | _ => ("", "", "", false)
def tyJ15 : Nat → FieldType := fun k => match k with
  | _ => .int
abbrev wsJ150 : List Cond := u_ws RJ15 TJ15 0
theorem nmJ15 : ∀ a, a < 0 → ∀ b, b < 0 → a ≠ b → (TJ15 a).2.1 ≠ (TJ15 b).2.1 := by decide +kernel
theorem tyJ15_ok : ∀ k, k < 0 → parseFieldDescriptor (TJ15 k).2.2.1 = some (tyJ15 k) := by decide +kernel
abbrev cJ15_checkIndex_7cf53 : ByteArray := prog_30_method_17_code
def yJ15_checkIndex_7cf53 : MethodName := ⟨RJ15, "checkIndex", "(II)I"⟩
def RJxf0a74 : String := "java/util/RandomAccess"
def TJxf0a74 : u_T := fun k => match k with
  | _ => ("", "", "", false)
def tyJxf0a74 : Nat → FieldType := fun k => match k with
  | _ => .int
abbrev wsJxf0a740 : List Cond := u_ws RJxf0a74 TJxf0a74 0
theorem nmJxf0a74 : ∀ a, a < 0 → ∀ b, b < 0 → a ≠ b → (TJxf0a74 a).2.1 ≠ (TJxf0a74 b).2.1 := by decide +kernel
theorem tyJxf0a74_ok : ∀ k, k < 0 → parseFieldDescriptor (TJxf0a74 k).2.2.1 = some (tyJxf0a74 k) := by decide +kernel
def RJxa66e6 : String := "java/util/SequencedCollection"
def TJxa66e6 : u_T := fun k => match k with
  | _ => ("", "", "", false)
def tyJxa66e6 : Nat → FieldType := fun k => match k with
  | _ => .int
abbrev wsJxa66e60 : List Cond := u_ws RJxa66e6 TJxa66e6 0
theorem nmJxa66e6 : ∀ a, a < 0 → ∀ b, b < 0 → a ≠ b → (TJxa66e6 a).2.1 ≠ (TJxa66e6 b).2.1 := by decide +kernel
theorem tyJxa66e6_ok : ∀ k, k < 0 → parseFieldDescriptor (TJxa66e6 k).2.2.1 = some (tyJxa66e6 k) := by decide +kernel
def RJ8 : String := "jdk/internal/util/ArraysSupport"
def TJ8 : u_T := fun k => match k with
  | _ => ("", "", "", false)
def tyJ8 : Nat → FieldType := fun k => match k with
  | _ => .int
abbrev wsJ80 : List Cond := u_ws RJ8 TJ8 0
theorem nmJ8 : ∀ a, a < 0 → ∀ b, b < 0 → a ≠ b → (TJ8 a).2.1 ≠ (TJ8 b).2.1 := by decide +kernel
theorem tyJ8_ok : ∀ k, k < 0 → parseFieldDescriptor (TJ8 k).2.2.1 = some (tyJ8 k) := by decide +kernel
abbrev cJ8_newLength_cabcc : ByteArray := prog_33_method_27_code
def yJ8_newLength_cabcc : MethodName := ⟨RJ8, "newLength", "(III)I"⟩
abbrev cJ8_hugeLength_7cf53 : ByteArray := prog_33_method_28_code
def yJ8_hugeLength_7cf53 : MethodName := ⟨RJ8, "hugeLength", "(II)I"⟩
def RJ3 : String := "jdk/internal/util/Preconditions"
def TJ3 : u_T := fun k => match k with
  | _ => ("", "", "", false)
def tyJ3 : Nat → FieldType := fun k => match k with
  | _ => .int
abbrev wsJ30 : List Cond := u_ws RJ3 TJ3 0
theorem nmJ3 : ∀ a, a < 0 → ∀ b, b < 0 → a ≠ b → (TJ3 a).2.1 ≠ (TJ3 b).2.1 := by decide +kernel
theorem tyJ3_ok : ∀ k, k < 0 → parseFieldDescriptor (TJ3 k).2.2.1 = some (tyJ3 k) := by decide +kernel
abbrev cJ3_checkIndex_8e157 : ByteArray := prog_34_method_11_code
def yJ3_checkIndex_8e157 : MethodName := ⟨RJ3, "checkIndex", "(IILjava/util/function/BiFunction;)I"⟩
def RL : String := "QuasiSumsLaw"
abbrev cL_law : ByteArray := code
def yL_law : MethodName := ⟨RL, "law", "([I)Z"⟩
abbrev vwCl : List vw_C := [(RJx4a65c, TJx4a65c, 3), (RX1, TX1, 4), (RX3, TX3, 2), (RX4, TX4, 4), (RX5, TX5, 5), (RX6, TX6, 1), (RX7, TX7, 2), (RX8, TX8, 2), (RX9, TX9, 4), (RX10, TX10, 3), (RX11, TX11, 10), (RX12, TX12, 42)]
/-! which words of the tables hold the fields of each made class -/
theorem jin0 : ∀ w ∈ u_ws RJx4a65c TJx4a65c 3, w ∈ lw_tbl := by decide +kernel
theorem jin1 : ∀ w ∈ u_ws RX1 TX1 4, w ∈ lw_tbl := by decide +kernel
theorem jin2 : ∀ w ∈ u_ws RX3 TX3 2, w ∈ lw_tbl := by decide +kernel
theorem jin3 : ∀ w ∈ u_ws RX4 TX4 4, w ∈ lw_tbl := by decide +kernel
theorem jin4 : ∀ w ∈ u_ws RX5 TX5 5, w ∈ lw_tbl := by decide +kernel
theorem jin5 : ∀ w ∈ u_ws RX6 TX6 1, w ∈ lw_tbl := by decide +kernel
theorem jin6 : ∀ w ∈ u_ws RX7 TX7 2, w ∈ lw_tbl := by decide +kernel
theorem jin7 : ∀ w ∈ u_ws RX8 TX8 2, w ∈ lw_tbl := by decide +kernel
theorem jin8 : ∀ w ∈ u_ws RX9 TX9 4, w ∈ lw_tbl := by decide +kernel
theorem jin9 : ∀ w ∈ u_ws RX10 TX10 3, w ∈ lw_tbl := by decide +kernel
theorem jin10 : ∀ w ∈ u_ws RX11 TX11 10, w ∈ lw_tbl := by decide +kernel
theorem jin11 : ∀ w ∈ u_ws RX12 TX12 42, w ∈ lw_tbl := by decide +kernel
/-- words that a warmed machine keeps -/
def jgw (w : Cond) : Bool := match w with
  | .fieldLinkNest .. => true
  | .methodLinkNest .. => true
  | .castable .. => true
  | .declares .. => true
  | w => goodWord w
