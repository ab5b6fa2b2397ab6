/-! names, by my own program wip/gen/names.py out of the task's tables and listing -/
def RPo : String := "FieldFactors$Polynomial"
def RAr : String := "FieldFactors$Arithmetic"
def RCu : String := "FieldFactors$Cutter"
def ROs : String := "FieldFactors$OrderSearch"
def RFf : String := "FieldFactors"
def RMo : String := "FieldFactorsModel"
def RLa : String := "FieldFactorsLaw"
def FPo : u_T := fun k => match k with
  | 0 => ("FieldFactors$Polynomial", "coefficients", "[I", true)
  | _ => ("FieldFactors$Polynomial", "degree", "I", false)
def tPo : Nat → FieldType := fun k => match k with
  | 0 => .array .int
  | _ => .int
theorem nPo : ∀ a, a < 2 → ∀ b, b < 2 → a ≠ b → (FPo a).2.1 ≠ (FPo b).2.1 := by decide +kernel
theorem tyPo : ∀ k, k < 2 → parseFieldDescriptor (FPo k).2.2.1 = some (tPo k) := by decide +kernel
def FAr : u_T := fun k => match k with
  | 0 => ("FieldFactors$Arithmetic", "p", "I", false)
  | 1 => ("FieldFactors$Arithmetic", "ignored", "LFieldFactors$Polynomial;", true)
  | 2 => ("FieldFactors$Arithmetic", "inverses", "[I", true)
  | 3 => ("FieldFactors$Arithmetic", "wide", "LFieldFactors$Polynomial;", true)
  | 4 => ("FieldFactors$Arithmetic", "first", "LFieldFactors$Polynomial;", true)
  | 5 => ("FieldFactors$Arithmetic", "second", "LFieldFactors$Polynomial;", true)
  | 6 => ("FieldFactors$Arithmetic", "third", "LFieldFactors$Polynomial;", true)
  | 7 => ("FieldFactors$Arithmetic", "fourth", "LFieldFactors$Polynomial;", true)
  | _ => ("FieldFactors$Arithmetic", "quotient", "LFieldFactors$Polynomial;", true)
def tAr : Nat → FieldType := fun k => match k with
  | 0 => .int
  | 1 => .object "FieldFactors$Polynomial"
  | 2 => .array .int
  | 3 => .object "FieldFactors$Polynomial"
  | 4 => .object "FieldFactors$Polynomial"
  | 5 => .object "FieldFactors$Polynomial"
  | 6 => .object "FieldFactors$Polynomial"
  | 7 => .object "FieldFactors$Polynomial"
  | _ => .object "FieldFactors$Polynomial"
theorem nAr : ∀ a, a < 9 → ∀ b, b < 9 → a ≠ b → (FAr a).2.1 ≠ (FAr b).2.1 := by decide +kernel
theorem tyAr : ∀ k, k < 9 → parseFieldDescriptor (FAr k).2.2.1 = some (tAr k) := by decide +kernel
def FCu : u_T := fun k => match k with
  | 0 => ("FieldFactors$Cutter", "factors", "[LFieldFactors$Polynomial;", true)
  | 1 => ("FieldFactors$Cutter", "times", "[I", true)
  | 2 => ("FieldFactors$Cutter", "size", "I", false)
  | 3 => ("FieldFactors$Cutter", "numbers", "LFieldFactors$Arithmetic;", true)
  | 4 => ("FieldFactors$Cutter", "rest", "LFieldFactors$Polynomial;", true)
  | 5 => ("FieldFactors$Cutter", "image", "LFieldFactors$Polynomial;", true)
  | 6 => ("FieldFactors$Cutter", "group", "LFieldFactors$Polynomial;", true)
  | 7 => ("FieldFactors$Cutter", "power", "LFieldFactors$Polynomial;", true)
  | 8 => ("FieldFactors$Cutter", "trace", "LFieldFactors$Polynomial;", true)
  | 9 => ("FieldFactors$Cutter", "common", "LFieldFactors$Polynomial;", true)
  | 10 => ("FieldFactors$Cutter", "scratch", "LFieldFactors$Polynomial;", true)
  | 11 => ("FieldFactors$Cutter", "one", "LFieldFactors$Polynomial;", true)
  | _ => ("FieldFactors$Cutter", "x", "LFieldFactors$Polynomial;", true)
def tCu : Nat → FieldType := fun k => match k with
  | 0 => .array (.object "FieldFactors$Polynomial")
  | 1 => .array .int
  | 2 => .int
  | 3 => .object "FieldFactors$Arithmetic"
  | 4 => .object "FieldFactors$Polynomial"
  | 5 => .object "FieldFactors$Polynomial"
  | 6 => .object "FieldFactors$Polynomial"
  | 7 => .object "FieldFactors$Polynomial"
  | 8 => .object "FieldFactors$Polynomial"
  | 9 => .object "FieldFactors$Polynomial"
  | 10 => .object "FieldFactors$Polynomial"
  | 11 => .object "FieldFactors$Polynomial"
  | _ => .object "FieldFactors$Polynomial"
theorem nCu : ∀ a, a < 13 → ∀ b, b < 13 → a ≠ b → (FCu a).2.1 ≠ (FCu b).2.1 := by decide +kernel
theorem tyCu : ∀ k, k < 13 → parseFieldDescriptor (FCu k).2.2.1 = some (tCu k) := by decide +kernel
def FOs : u_T := fun k => match k with
  | 0 => ("FieldFactors$OrderSearch", "numbers", "LFieldFactors$Arithmetic;", true)
  | 1 => ("FieldFactors$OrderSearch", "lowCodes", "[J", true)
  | 2 => ("FieldFactors$OrderSearch", "highCodes", "[J", true)
  | 3 => ("FieldFactors$OrderSearch", "power", "LFieldFactors$Polynomial;", true)
  | 4 => ("FieldFactors$OrderSearch", "stride", "LFieldFactors$Polynomial;", true)
  | _ => ("FieldFactors$OrderSearch", "x", "LFieldFactors$Polynomial;", true)
def tOs : Nat → FieldType := fun k => match k with
  | 0 => .object "FieldFactors$Arithmetic"
  | 1 => .array .long
  | 2 => .array .long
  | 3 => .object "FieldFactors$Polynomial"
  | 4 => .object "FieldFactors$Polynomial"
  | _ => .object "FieldFactors$Polynomial"
theorem nOs : ∀ a, a < 6 → ∀ b, b < 6 → a ≠ b → (FOs a).2.1 ≠ (FOs b).2.1 := by decide +kernel
theorem tyOs : ∀ k, k < 6 → parseFieldDescriptor (FOs k).2.2.1 = some (tOs k) := by decide +kernel
def FFf : u_T := fun k => match k with
  | 0 => ("FieldFactors", "numbers", "LFieldFactors$Arithmetic;", true)
  | 1 => ("FieldFactors", "cutter", "LFieldFactors$Cutter;", true)
  | 2 => ("FieldFactors", "orderSearch", "LFieldFactors$OrderSearch;", true)
  | 3 => ("FieldFactors", "registers", "[LFieldFactors$Polynomial;", true)
  | 4 => ("FieldFactors", "result", "LFieldFactors$Polynomial;", true)
  | _ => ("FieldFactors", "scratch", "LFieldFactors$Polynomial;", true)
def tFf : Nat → FieldType := fun k => match k with
  | 0 => .object "FieldFactors$Arithmetic"
  | 1 => .object "FieldFactors$Cutter"
  | 2 => .object "FieldFactors$OrderSearch"
  | 3 => .array (.object "FieldFactors$Polynomial")
  | 4 => .object "FieldFactors$Polynomial"
  | _ => .object "FieldFactors$Polynomial"
theorem nFf : ∀ a, a < 6 → ∀ b, b < 6 → a ≠ b → (FFf a).2.1 ≠ (FFf b).2.1 := by decide +kernel
theorem tyFf : ∀ k, k < 6 → parseFieldDescriptor (FFf k).2.2.1 = some (tFf k) := by decide +kernel
def FMo : u_T := fun k => match k with
  | 0 => ("FieldFactorsModel", "thrown", "I", false)
  | 1 => ("FieldFactorsModel", "p", "I", false)
  | 2 => ("FieldFactorsModel", "register", "[[I", true)
  | 3 => ("FieldFactorsModel", "factor", "[[I", true)
  | 4 => ("FieldFactorsModel", "often", "[I", true)
  | 5 => ("FieldFactorsModel", "factors", "I", false)
  | 6 => ("FieldFactorsModel", "quotient", "[I", true)
  | 7 => ("FieldFactorsModel", "rest", "[I", true)
  | 8 => ("FieldFactorsModel", "product", "[I", true)
  | 9 => ("FieldFactorsModel", "one", "[I", true)
  | 10 => ("FieldFactorsModel", "two", "[I", true)
  | 11 => ("FieldFactorsModel", "whole", "[I", true)
  | 12 => ("FieldFactorsModel", "candidate", "[I", true)
  | 13 => ("FieldFactorsModel", "base", "[I", true)
  | 14 => ("FieldFactorsModel", "sum", "[I", true)
  | _ => ("FieldFactorsModel", "equation", "[[I", true)
def tMo : Nat → FieldType := fun k => match k with
  | 0 => .int
  | 1 => .int
  | 2 => .array (.array .int)
  | 3 => .array (.array .int)
  | 4 => .array .int
  | 5 => .int
  | 6 => .array .int
  | 7 => .array .int
  | 8 => .array .int
  | 9 => .array .int
  | 10 => .array .int
  | 11 => .array .int
  | 12 => .array .int
  | 13 => .array .int
  | 14 => .array .int
  | _ => .array (.array .int)
theorem nMo : ∀ a, a < 16 → ∀ b, b < 16 → a ≠ b → (FMo a).2.1 ≠ (FMo b).2.1 := by decide +kernel
theorem tyMo : ∀ k, k < 16 → parseFieldDescriptor (FMo k).2.2.1 = some (tMo k) := by decide +kernel
abbrev classes : List vw_C := [(RPo, FPo, 2), (RAr, FAr, 9), (RCu, FCu, 13), (ROs, FOs, 6), (RFf, FFf, 6), (RMo, FMo, 16)]
def y_Ff_init : MethodName := ⟨"FieldFactors", "<init>", "()V"⟩
def y_Object_init : MethodName := ⟨"java/lang/Object", "<init>", "()V"⟩
def y_Ar_init : MethodName := ⟨"FieldFactors$Arithmetic", "<init>", "()V"⟩
def y_Po_init : MethodName := ⟨"FieldFactors$Polynomial", "<init>", "(I)V"⟩
def y_Ar_become : MethodName := ⟨"FieldFactors$Arithmetic", "become", "(I)V"⟩
def y_Cu_init : MethodName := ⟨"FieldFactors$Cutter", "<init>", "(LFieldFactors$Arithmetic;)V"⟩
def y_Po_becomePowerOfX : MethodName := ⟨"FieldFactors$Polynomial", "becomePowerOfX", "(I)V"⟩
def y_Po_clear : MethodName := ⟨"FieldFactors$Polynomial", "clear", "()V"⟩
def y_Os_init : MethodName := ⟨"FieldFactors$OrderSearch", "<init>", "(LFieldFactors$Arithmetic;)V"⟩
def y_Ff_count : MethodName := ⟨"FieldFactors", "count", "(I)I"⟩
def y_La_field : MethodName := ⟨"FieldFactorsLaw", "field", "(LFieldFactors;I[J)I"⟩
def y_Ff_field : MethodName := ⟨"FieldFactors", "field", "(I)I"⟩
def y_Ff_fieldIndex : MethodName := ⟨"FieldFactors", "fieldIndex", "(I)I"⟩
def y_Throwable_init : MethodName := ⟨"java/lang/Throwable", "<init>", "()V"⟩
def y_Throwable_fillInStackTrace : MethodName := ⟨"java/lang/Throwable", "fillInStackTrace", "()Ljava/lang/Throwable;"⟩
def y_IllegalArgumentException_init : MethodName := ⟨"java/lang/IllegalArgumentException", "<init>", "(Ljava/lang/String;)V"⟩
def y_RuntimeException_init : MethodName := ⟨"java/lang/RuntimeException", "<init>", "(Ljava/lang/String;)V"⟩
def y_Exception_init : MethodName := ⟨"java/lang/Exception", "<init>", "(Ljava/lang/String;)V"⟩
def y_Throwable_init2 : MethodName := ⟨"java/lang/Throwable", "<init>", "(Ljava/lang/String;)V"⟩
def y_Cu_forget : MethodName := ⟨"FieldFactors$Cutter", "forget", "()V"⟩
def y_La_set : MethodName := ⟨"FieldFactorsLaw", "set", "(LFieldFactors;III[J)I"⟩
def y_Ff_set : MethodName := ⟨"FieldFactors", "set", "(III)I"⟩
def y_Ff_register : MethodName := ⟨"FieldFactors", "register", "(I)LFieldFactors$Polynomial;"⟩
def y_NoSuchElementException_init : MethodName := ⟨"java/util/NoSuchElementException", "<init>", "(Ljava/lang/String;)V"⟩
def y_Ff_needExponent : MethodName := ⟨"FieldFactors", "needExponent", "(I)V"⟩
def y_Math_floorMod : MethodName := ⟨"java/lang/Math", "floorMod", "(II)I"⟩
def y_Po_put : MethodName := ⟨"FieldFactors$Polynomial", "put", "(II)V"⟩
def y_Math_max : MethodName := ⟨"java/lang/Math", "max", "(II)I"⟩
def y_La_get : MethodName := ⟨"FieldFactorsLaw", "get", "(LFieldFactors;II[J)I"⟩
def y_Ff_get : MethodName := ⟨"FieldFactors", "get", "(II)I"⟩
def y_La_join : MethodName := ⟨"FieldFactorsLaw", "join", "(LFieldFactors;IIII[J)I"⟩
def y_Ff_join : MethodName := ⟨"FieldFactors", "join", "(IIII)I"⟩
def y_ArithmeticException_init : MethodName := ⟨"java/lang/ArithmeticException", "<init>", "(Ljava/lang/String;)V"⟩
def y_Ff_combine : MethodName := ⟨"FieldFactors", "combine", "(ILFieldFactors$Polynomial;LFieldFactors$Polynomial;)V"⟩
def y_Po_copyFrom : MethodName := ⟨"FieldFactors$Polynomial", "copyFrom", "(LFieldFactors$Polynomial;)V"⟩
def y_Ar_addShifted : MethodName := ⟨"FieldFactors$Arithmetic", "addShifted", "(LFieldFactors$Polynomial;IILFieldFactors$Polynomial;)V"⟩
def y_Ar_addProduct : MethodName := ⟨"FieldFactors$Arithmetic", "addProduct", "(LFieldFactors$Polynomial;ILFieldFactors$Polynomial;LFieldFactors$Polynomial;)V"⟩
def y_Ar_divide : MethodName := ⟨"FieldFactors$Arithmetic", "divide", "(LFieldFactors$Polynomial;LFieldFactors$Polynomial;LFieldFactors$Polynomial;)V"⟩
def y_Po_lead : MethodName := ⟨"FieldFactors$Polynomial", "lead", "()I"⟩
def y_Ar_findCommonDivisor : MethodName := ⟨"FieldFactors$Arithmetic", "findCommonDivisor", "(LFieldFactors$Polynomial;LFieldFactors$Polynomial;LFieldFactors$Polynomial;)V"⟩
def y_Ar_makeMonic : MethodName := ⟨"FieldFactors$Arithmetic", "makeMonic", "(LFieldFactors$Polynomial;)V"⟩
def y_Ar_scale : MethodName := ⟨"FieldFactors$Arithmetic", "scale", "(LFieldFactors$Polynomial;I)V"⟩
def y_Ar_derive : MethodName := ⟨"FieldFactors$Arithmetic", "derive", "(LFieldFactors$Polynomial;LFieldFactors$Polynomial;)V"⟩
def y_Ff_store : MethodName := ⟨"FieldFactors", "store", "(LFieldFactors$Polynomial;)I"⟩
def y_La_power : MethodName := ⟨"FieldFactorsLaw", "power", "(LFieldFactors;IIII[J)I"⟩
def y_Ff_power : MethodName := ⟨"FieldFactors", "power", "(IIII)I"⟩
def y_Ff_needDegree : MethodName := ⟨"FieldFactors", "needDegree", "(LFieldFactors$Polynomial;)V"⟩
def y_Ar_raise : MethodName := ⟨"FieldFactors$Arithmetic", "raise", "(LFieldFactors$Polynomial;LFieldFactors$Polynomial;ILFieldFactors$Polynomial;)V"⟩
def y_Ar_multiply : MethodName := ⟨"FieldFactors$Arithmetic", "multiply", "(LFieldFactors$Polynomial;LFieldFactors$Polynomial;LFieldFactors$Polynomial;LFieldFactors$Polynomial;)V"⟩
def y_La_inverse : MethodName := ⟨"FieldFactorsLaw", "inverse", "(LFieldFactors;III[J)I"⟩
def y_Ff_inverse : MethodName := ⟨"FieldFactors", "inverse", "(III)I"⟩
def y_Ar_invert : MethodName := ⟨"FieldFactors$Arithmetic", "invert", "(LFieldFactors$Polynomial;LFieldFactors$Polynomial;LFieldFactors$Polynomial;)Z"⟩
def y_IllegalStateException_init : MethodName := ⟨"java/lang/IllegalStateException", "<init>", "(Ljava/lang/String;)V"⟩
def y_La_value : MethodName := ⟨"FieldFactorsLaw", "value", "(LFieldFactors;II[J)I"⟩
def y_Ff_value : MethodName := ⟨"FieldFactors", "value", "(II)I"⟩
def y_Ar_evaluate : MethodName := ⟨"FieldFactors$Arithmetic", "evaluate", "(LFieldFactors$Polynomial;I)I"⟩
def y_La_zeros : MethodName := ⟨"FieldFactorsLaw", "zeros", "(LFieldFactors;I[J)I"⟩
def y_Ff_zeros : MethodName := ⟨"FieldFactors", "zeros", "(I)I"⟩
def y_La_factor : MethodName := ⟨"FieldFactorsLaw", "factor", "(LFieldFactors;I[J)I"⟩
def y_Ff_factor : MethodName := ⟨"FieldFactors", "factor", "(I)I"⟩
def y_Ff_needNotZero : MethodName := ⟨"FieldFactors", "needNotZero", "(LFieldFactors$Polynomial;)V"⟩
def y_Ff_highestCutDegree : MethodName := ⟨"FieldFactors", "highestCutDegree", "()I"⟩
def y_Cu_cut : MethodName := ⟨"FieldFactors$Cutter", "cut", "(LFieldFactors$Polynomial;)V"⟩
def y_Cu_gatherNextDegree : MethodName := ⟨"FieldFactors$Cutter", "gatherNextDegree", "(LFieldFactors$Polynomial;)V"⟩
def y_Ar_raiseToP : MethodName := ⟨"FieldFactors$Arithmetic", "raiseToP", "(LFieldFactors$Polynomial;LFieldFactors$Polynomial;)V"⟩
def y_Cu_split : MethodName := ⟨"FieldFactors$Cutter", "split", "(I)V"⟩
def y_Cu_append : MethodName := ⟨"FieldFactors$Cutter", "append", "(LFieldFactors$Polynomial;I)V"⟩
def y_Cu_findTrace : MethodName := ⟨"FieldFactors$Cutter", "findTrace", "(I)V"⟩
def y_Cu_splitByTrace : MethodName := ⟨"FieldFactors$Cutter", "splitByTrace", "(II)V"⟩
def y_Cu_takeOutFactors : MethodName := ⟨"FieldFactors$Cutter", "takeOutFactors", "(I)V"⟩
def y_Ar_takeOut : MethodName := ⟨"FieldFactors$Arithmetic", "takeOut", "(LFieldFactors$Polynomial;LFieldFactors$Polynomial;)I"⟩
def y_Cu_sort : MethodName := ⟨"FieldFactors$Cutter", "sort", "()V"⟩
def y_Po_comesBefore : MethodName := ⟨"FieldFactors$Polynomial", "comesBefore", "(LFieldFactors$Polynomial;)Z"⟩
def y_Cu_swap : MethodName := ⟨"FieldFactors$Cutter", "swap", "(II)V"⟩
def y_La_piece : MethodName := ⟨"FieldFactorsLaw", "piece", "(LFieldFactors;II[J)I"⟩
def y_Ff_piece : MethodName := ⟨"FieldFactors", "piece", "(II)I"⟩
def y_La_irreducible : MethodName := ⟨"FieldFactorsLaw", "irreducible", "(LFieldFactors;I[J)I"⟩
def y_Ff_irreducible : MethodName := ⟨"FieldFactors", "irreducible", "(I)Z"⟩
def y_Cu_cannotBeCut : MethodName := ⟨"FieldFactors$Cutter", "cannotBeCut", "(LFieldFactors$Polynomial;)Z"⟩
def y_La_order : MethodName := ⟨"FieldFactorsLaw", "order", "(LFieldFactors;I[J)I"⟩
def y_Ff_order : MethodName := ⟨"FieldFactors", "order", "(I)I"⟩
def y_Os_search : MethodName := ⟨"FieldFactors$OrderSearch", "search", "(LFieldFactors$Polynomial;)I"⟩
def y_Os_takeShortSteps : MethodName := ⟨"FieldFactors$OrderSearch", "takeShortSteps", "(LFieldFactors$Polynomial;)I"⟩
def y_Po_isOne : MethodName := ⟨"FieldFactors$Polynomial", "isOne", "()Z"⟩
def y_Os_code : MethodName := ⟨"FieldFactors$OrderSearch", "code", "(I)J"⟩
def y_Os_takeLongSteps : MethodName := ⟨"FieldFactors$OrderSearch", "takeLongSteps", "(LFieldFactors$Polynomial;)I"⟩
def y_Os_findShortStep : MethodName := ⟨"FieldFactors$OrderSearch", "findShortStep", "()I"⟩
def y_La_linear : MethodName := ⟨"FieldFactorsLaw", "linear", "(LFieldFactors;II[J)I"⟩
def y_Ff_linear : MethodName := ⟨"FieldFactors", "linear", "(II)I"⟩
def y_Cu_collectLinear : MethodName := ⟨"FieldFactors$Cutter", "collectLinear", "(LFieldFactors$Polynomial;LFieldFactors$Polynomial;)V"⟩
def y_Mo_init : MethodName := ⟨"FieldFactorsModel", "<init>", "()V"⟩
def y_Mo_thrown : MethodName := ⟨"FieldFactorsModel", "thrown", "()I"⟩
def y_Mo_field : MethodName := ⟨"FieldFactorsModel", "field", "(I)I"⟩
def y_Mo_limit : MethodName := ⟨"FieldFactorsModel", "limit", "(I)I"⟩
def y_Mo_refuse : MethodName := ⟨"FieldFactorsModel", "refuse", "(IZ)Z"⟩
def y_Mo_clear : MethodName := ⟨"FieldFactorsModel", "clear", "([I)V"⟩
def y_Mo_set : MethodName := ⟨"FieldFactorsModel", "set", "(III)I"⟩
def y_Mo_none : MethodName := ⟨"FieldFactorsModel", "none", "(I)Z"⟩
def y_Mo_inField : MethodName := ⟨"FieldFactorsModel", "inField", "(I)I"⟩
def y_Mo_get : MethodName := ⟨"FieldFactorsModel", "get", "(II)I"⟩
def y_Mo_join : MethodName := ⟨"FieldFactorsModel", "join", "(IIII)I"⟩
def y_Mo_degree : MethodName := ⟨"FieldFactorsModel", "degree", "([I)I"⟩
def y_Mo_times : MethodName := ⟨"FieldFactorsModel", "times", "([I[I)V"⟩
def y_Mo_copy : MethodName := ⟨"FieldFactorsModel", "copy", "([I[I)V"⟩
def y_Mo_divided : MethodName := ⟨"FieldFactorsModel", "divided", "([I[I)V"⟩
def y_Mo_under : MethodName := ⟨"FieldFactorsModel", "under", "(I)I"⟩
def y_Mo_common : MethodName := ⟨"FieldFactorsModel", "common", "([I[I)V"⟩
def y_Mo_monic : MethodName := ⟨"FieldFactorsModel", "monic", "([I)V"⟩
def y_Mo_power : MethodName := ⟨"FieldFactorsModel", "power", "(IIII)I"⟩
def y_Mo_raised : MethodName := ⟨"FieldFactorsModel", "raised", "(I[I)V"⟩
def y_Mo_inverse : MethodName := ⟨"FieldFactorsModel", "inverse", "(III)I"⟩
def y_Mo_value : MethodName := ⟨"FieldFactorsModel", "value", "(II)I"⟩
def y_Mo_at : MethodName := ⟨"FieldFactorsModel", "at", "([II)I"⟩
def y_Mo_zeros : MethodName := ⟨"FieldFactorsModel", "zeros", "(I)I"⟩
def y_Mo_factor : MethodName := ⟨"FieldFactorsModel", "factor", "(I)I"⟩
def y_Mo_all : MethodName := ⟨"FieldFactorsModel", "all", "(I)V"⟩
def y_Mo_divides : MethodName := ⟨"FieldFactorsModel", "divides", "([I[I)Z"⟩
def y_Mo_note : MethodName := ⟨"FieldFactorsModel", "note", "([II)V"⟩
def y_Mo_same : MethodName := ⟨"FieldFactorsModel", "same", "([I[I)Z"⟩
def y_Mo_before : MethodName := ⟨"FieldFactorsModel", "before", "([I[I)Z"⟩
def y_Mo_piece : MethodName := ⟨"FieldFactorsModel", "piece", "(II)I"⟩
def y_Mo_irreducible : MethodName := ⟨"FieldFactorsModel", "irreducible", "(I)Z"⟩
def y_Mo_order : MethodName := ⟨"FieldFactorsModel", "order", "(I)I"⟩
def y_Mo_linear : MethodName := ⟨"FieldFactorsModel", "linear", "(II)I"⟩
def y_Mo_count : MethodName := ⟨"FieldFactorsModel", "count", "(I)I"⟩
/-- the words that hold on and on -/
def TB : List Cond := lw_tbl.filter goodWord
theorem tb_in {w : Cond} {i : Nat} (h : lw_tbl[i]? = some w) (g : goodWord w = true) : w ∈ TB := List.mem_filter.mpr ⟨List.mem_of_getElem? h, g⟩
theorem tb_in0 {w : Cond} {i : Nat} (hi : (k2_sels lw_privs)[i]? = some w) (g : goodWord w = true) : w ∈ TB := List.mem_filter.mpr ⟨by have h := List.mem_of_getElem? hi; exact List.mem_append_left _ h, g⟩
theorem tb_in1 {w : Cond} {i : Nat} (hi : (tables_1_1)[i]? = some w) (g : goodWord w = true) : w ∈ TB := List.mem_filter.mpr ⟨by have h := List.mem_of_getElem? hi; exact List.mem_append_right _ (List.mem_append_left _ h), g⟩
theorem tb_in2 {w : Cond} {i : Nat} (hi : (tables_1_2)[i]? = some w) (g : goodWord w = true) : w ∈ TB := List.mem_filter.mpr ⟨by have h := List.mem_of_getElem? hi; exact List.mem_append_right _ (List.mem_append_right _ (List.mem_append_left _ h)), g⟩
theorem tb_in3 {w : Cond} {i : Nat} (hi : (tables_1_3)[i]? = some w) (g : goodWord w = true) : w ∈ TB := List.mem_filter.mpr ⟨by have h := List.mem_of_getElem? hi; exact List.mem_append_right _ (List.mem_append_right _ (List.mem_append_right _ (List.mem_append_left _ h))), g⟩
theorem tb_in4 {w : Cond} {i : Nat} (hi : (tables_1_4)[i]? = some w) (g : goodWord w = true) : w ∈ TB := List.mem_filter.mpr ⟨by have h := List.mem_of_getElem? hi; exact List.mem_append_right _ (List.mem_append_right _ (List.mem_append_right _ (List.mem_append_right _ h))), g⟩
theorem tb_good : GoodIn TB TB := fun w h => ⟨h, good_of_word (List.mem_filter.mp h).2⟩
theorem tb_cons {w : Cond} (h : w ∈ TB) {ws : List Cond} (g : GoodIn TB ws) : GoodIn TB (w :: ws) := fun v hv => by rcases List.mem_cons.mp hv with e | e; exact e ▸ tb_good w h; exact g v e
theorem tb_V {own : String} {idx : Nat} {C : String} {y : MethodName} {ws : List Cond} (h1 : Cond.methodLink own idx y ∈ TB) (h2 : Cond.instanceMethod y ∈ TB) (h3 : Cond.selects C y y ∈ TB) (h4 : Cond.initialized C ∈ TB) (g : GoodIn TB ws) : GoodIn TB (wsV own idx C y ws) := tb_cons h1 (tb_cons h2 (tb_cons h3 (tb_cons h4 g)))
theorem tb_S {own : String} {idx : Nat} {y : MethodName} {ws : List Cond} (h1 : Cond.methodLink own idx y ∈ TB) (h2 : Cond.static y ∈ TB) (h3 : Cond.initialized own ∈ TB) (g : GoodIn TB ws) : GoodIn TB (wsS own idx y ws) := tb_cons h1 (tb_cons h2 (tb_cons h3 g))
theorem k_se_Ff_register : Cond.selects "FieldFactors" ⟨"FieldFactors", "register", "(I)LFieldFactors$Polynomial;"⟩ ⟨"FieldFactors", "register", "(I)LFieldFactors$Polynomial;"⟩ ∈ TB := tb_in0 (i := 1) rfl rfl
theorem k_se_Ff_combine : Cond.selects "FieldFactors" ⟨"FieldFactors", "combine", "(ILFieldFactors$Polynomial;LFieldFactors$Polynomial;)V"⟩ ⟨"FieldFactors", "combine", "(ILFieldFactors$Polynomial;LFieldFactors$Polynomial;)V"⟩ ∈ TB := tb_in0 (i := 2) rfl rfl
theorem k_se_Ff_store : Cond.selects "FieldFactors" ⟨"FieldFactors", "store", "(LFieldFactors$Polynomial;)I"⟩ ⟨"FieldFactors", "store", "(LFieldFactors$Polynomial;)I"⟩ ∈ TB := tb_in0 (i := 3) rfl rfl
theorem k_se_Ff_highestCutDegree : Cond.selects "FieldFactors" ⟨"FieldFactors", "highestCutDegree", "()I"⟩ ⟨"FieldFactors", "highestCutDegree", "()I"⟩ ∈ TB := tb_in0 (i := 4) rfl rfl
theorem k_se_Cu_gatherNextDegree : Cond.selects "FieldFactors$Cutter" ⟨"FieldFactors$Cutter", "gatherNextDegree", "(LFieldFactors$Polynomial;)V"⟩ ⟨"FieldFactors$Cutter", "gatherNextDegree", "(LFieldFactors$Polynomial;)V"⟩ ∈ TB := tb_in0 (i := 5) rfl rfl
theorem k_se_Cu_split : Cond.selects "FieldFactors$Cutter" ⟨"FieldFactors$Cutter", "split", "(I)V"⟩ ⟨"FieldFactors$Cutter", "split", "(I)V"⟩ ∈ TB := tb_in0 (i := 6) rfl rfl
theorem k_se_Cu_append : Cond.selects "FieldFactors$Cutter" ⟨"FieldFactors$Cutter", "append", "(LFieldFactors$Polynomial;I)V"⟩ ⟨"FieldFactors$Cutter", "append", "(LFieldFactors$Polynomial;I)V"⟩ ∈ TB := tb_in0 (i := 7) rfl rfl
theorem k_se_Cu_findTrace : Cond.selects "FieldFactors$Cutter" ⟨"FieldFactors$Cutter", "findTrace", "(I)V"⟩ ⟨"FieldFactors$Cutter", "findTrace", "(I)V"⟩ ∈ TB := tb_in0 (i := 8) rfl rfl
theorem k_se_Cu_splitByTrace : Cond.selects "FieldFactors$Cutter" ⟨"FieldFactors$Cutter", "splitByTrace", "(II)V"⟩ ⟨"FieldFactors$Cutter", "splitByTrace", "(II)V"⟩ ∈ TB := tb_in0 (i := 9) rfl rfl
theorem k_se_Cu_takeOutFactors : Cond.selects "FieldFactors$Cutter" ⟨"FieldFactors$Cutter", "takeOutFactors", "(I)V"⟩ ⟨"FieldFactors$Cutter", "takeOutFactors", "(I)V"⟩ ∈ TB := tb_in0 (i := 10) rfl rfl
theorem k_se_Cu_sort : Cond.selects "FieldFactors$Cutter" ⟨"FieldFactors$Cutter", "sort", "()V"⟩ ⟨"FieldFactors$Cutter", "sort", "()V"⟩ ∈ TB := tb_in0 (i := 11) rfl rfl
theorem k_se_Cu_swap : Cond.selects "FieldFactors$Cutter" ⟨"FieldFactors$Cutter", "swap", "(II)V"⟩ ⟨"FieldFactors$Cutter", "swap", "(II)V"⟩ ∈ TB := tb_in0 (i := 12) rfl rfl
theorem k_se_Os_takeShortSteps : Cond.selects "FieldFactors$OrderSearch" ⟨"FieldFactors$OrderSearch", "takeShortSteps", "(LFieldFactors$Polynomial;)I"⟩ ⟨"FieldFactors$OrderSearch", "takeShortSteps", "(LFieldFactors$Polynomial;)I"⟩ ∈ TB := tb_in0 (i := 13) rfl rfl
theorem k_se_Os_code : Cond.selects "FieldFactors$OrderSearch" ⟨"FieldFactors$OrderSearch", "code", "(I)J"⟩ ⟨"FieldFactors$OrderSearch", "code", "(I)J"⟩ ∈ TB := tb_in0 (i := 14) rfl rfl
theorem k_se_Os_takeLongSteps : Cond.selects "FieldFactors$OrderSearch" ⟨"FieldFactors$OrderSearch", "takeLongSteps", "(LFieldFactors$Polynomial;)I"⟩ ⟨"FieldFactors$OrderSearch", "takeLongSteps", "(LFieldFactors$Polynomial;)I"⟩ ∈ TB := tb_in0 (i := 15) rfl rfl
theorem k_se_Os_findShortStep : Cond.selects "FieldFactors$OrderSearch" ⟨"FieldFactors$OrderSearch", "findShortStep", "()I"⟩ ⟨"FieldFactors$OrderSearch", "findShortStep", "()I"⟩ ∈ TB := tb_in0 (i := 16) rfl rfl
theorem k_se_Mo_refuse : Cond.selects "FieldFactorsModel" ⟨"FieldFactorsModel", "refuse", "(IZ)Z"⟩ ⟨"FieldFactorsModel", "refuse", "(IZ)Z"⟩ ∈ TB := tb_in0 (i := 17) rfl rfl
theorem k_se_Mo_none : Cond.selects "FieldFactorsModel" ⟨"FieldFactorsModel", "none", "(I)Z"⟩ ⟨"FieldFactorsModel", "none", "(I)Z"⟩ ∈ TB := tb_in0 (i := 18) rfl rfl
theorem k_se_Mo_inField : Cond.selects "FieldFactorsModel" ⟨"FieldFactorsModel", "inField", "(I)I"⟩ ⟨"FieldFactorsModel", "inField", "(I)I"⟩ ∈ TB := tb_in0 (i := 19) rfl rfl
theorem k_se_Mo_times : Cond.selects "FieldFactorsModel" ⟨"FieldFactorsModel", "times", "([I[I)V"⟩ ⟨"FieldFactorsModel", "times", "([I[I)V"⟩ ∈ TB := tb_in0 (i := 20) rfl rfl
theorem k_se_Mo_divided : Cond.selects "FieldFactorsModel" ⟨"FieldFactorsModel", "divided", "([I[I)V"⟩ ⟨"FieldFactorsModel", "divided", "([I[I)V"⟩ ∈ TB := tb_in0 (i := 21) rfl rfl
theorem k_se_Mo_under : Cond.selects "FieldFactorsModel" ⟨"FieldFactorsModel", "under", "(I)I"⟩ ⟨"FieldFactorsModel", "under", "(I)I"⟩ ∈ TB := tb_in0 (i := 22) rfl rfl
theorem k_se_Mo_common : Cond.selects "FieldFactorsModel" ⟨"FieldFactorsModel", "common", "([I[I)V"⟩ ⟨"FieldFactorsModel", "common", "([I[I)V"⟩ ∈ TB := tb_in0 (i := 23) rfl rfl
theorem k_se_Mo_monic : Cond.selects "FieldFactorsModel" ⟨"FieldFactorsModel", "monic", "([I)V"⟩ ⟨"FieldFactorsModel", "monic", "([I)V"⟩ ∈ TB := tb_in0 (i := 24) rfl rfl
theorem k_se_Mo_raised : Cond.selects "FieldFactorsModel" ⟨"FieldFactorsModel", "raised", "(I[I)V"⟩ ⟨"FieldFactorsModel", "raised", "(I[I)V"⟩ ∈ TB := tb_in0 (i := 25) rfl rfl
theorem k_se_Mo_at : Cond.selects "FieldFactorsModel" ⟨"FieldFactorsModel", "at", "([II)I"⟩ ⟨"FieldFactorsModel", "at", "([II)I"⟩ ∈ TB := tb_in0 (i := 26) rfl rfl
theorem k_se_Mo_all : Cond.selects "FieldFactorsModel" ⟨"FieldFactorsModel", "all", "(I)V"⟩ ⟨"FieldFactorsModel", "all", "(I)V"⟩ ∈ TB := tb_in0 (i := 27) rfl rfl
theorem k_se_Mo_divides : Cond.selects "FieldFactorsModel" ⟨"FieldFactorsModel", "divides", "([I[I)Z"⟩ ⟨"FieldFactorsModel", "divides", "([I[I)Z"⟩ ∈ TB := tb_in0 (i := 28) rfl rfl
theorem k_se_Mo_note : Cond.selects "FieldFactorsModel" ⟨"FieldFactorsModel", "note", "([II)V"⟩ ⟨"FieldFactorsModel", "note", "([II)V"⟩ ∈ TB := tb_in0 (i := 29) rfl rfl
theorem k_i_La : Cond.initialized "FieldFactorsLaw" ∈ TB := tb_in1 (i := 0) rfl rfl
theorem k_i_Ff : Cond.initialized "FieldFactors" ∈ TB := tb_in1 (i := 1) rfl rfl
theorem k_i_Ar : Cond.initialized "FieldFactors$Arithmetic" ∈ TB := tb_in1 (i := 2) rfl rfl
theorem k_i_Po : Cond.initialized "FieldFactors$Polynomial" ∈ TB := tb_in1 (i := 3) rfl rfl
theorem k_i_Cu : Cond.initialized "FieldFactors$Cutter" ∈ TB := tb_in1 (i := 4) rfl rfl
theorem k_i_Os : Cond.initialized "FieldFactors$OrderSearch" ∈ TB := tb_in1 (i := 5) rfl rfl
theorem k_i_Mo : Cond.initialized "FieldFactorsModel" ∈ TB := tb_in1 (i := 6) rfl rfl
theorem k_i_Throwable : Cond.initialized "java/lang/Throwable" ∈ TB := tb_in1 (i := 7) rfl rfl
theorem k_i_Exception : Cond.initialized "java/lang/Exception" ∈ TB := tb_in1 (i := 8) rfl rfl
theorem k_i_RuntimeException : Cond.initialized "java/lang/RuntimeException" ∈ TB := tb_in1 (i := 9) rfl rfl
theorem k_i_IllegalArgumentException : Cond.initialized "java/lang/IllegalArgumentException" ∈ TB := tb_in1 (i := 10) rfl rfl
theorem k_i_NoSuchElementException : Cond.initialized "java/util/NoSuchElementException" ∈ TB := tb_in1 (i := 11) rfl rfl
theorem k_i_Math : Cond.initialized "java/lang/Math" ∈ TB := tb_in1 (i := 12) rfl rfl
theorem k_i_ArithmeticException : Cond.initialized "java/lang/ArithmeticException" ∈ TB := tb_in1 (i := 13) rfl rfl
theorem k_i_IllegalStateException : Cond.initialized "java/lang/IllegalStateException" ∈ TB := tb_in1 (i := 14) rfl rfl
theorem k_c_La_8 : Cond.classLink "FieldFactorsLaw" 8 "FieldFactors" ∈ TB := tb_in1 (i := 15) rfl rfl
theorem k_n_Ff : Cond.instantiable "FieldFactors" 6 ∈ TB := tb_in1 (i := 16) rfl rfl
theorem k_m_La_61 : Cond.methodLink "FieldFactorsLaw" 61 ⟨"FieldFactors", "<init>", "()V"⟩ ∈ TB := tb_in1 (i := 17) rfl rfl
theorem k_im_Ff_init : Cond.instanceMethod ⟨"FieldFactors", "<init>", "()V"⟩ ∈ TB := tb_in1 (i := 18) rfl rfl
theorem k_co_Ff_init : Cond.code ⟨"FieldFactors", "<init>", "()V"⟩ prog_1_method_1_code 2 none ∈ TB := tb_in1 (i := 19) rfl rfl
theorem k_m_Ff_3 : Cond.methodLink "FieldFactors" 3 ⟨"java/lang/Object", "<init>", "()V"⟩ ∈ TB := tb_in1 (i := 20) rfl rfl
theorem k_im_Object_init : Cond.instanceMethod ⟨"java/lang/Object", "<init>", "()V"⟩ ∈ TB := tb_in1 (i := 21) rfl rfl
theorem k_co_Object_init : Cond.code ⟨"java/lang/Object", "<init>", "()V"⟩ object_method_1_code 1 none ∈ TB := tb_in1 (i := 22) rfl rfl
theorem k_c_Ff_9 : Cond.classLink "FieldFactors" 9 "FieldFactors$Arithmetic" ∈ TB := tb_in1 (i := 23) rfl rfl
theorem k_n_Ar : Cond.instantiable "FieldFactors$Arithmetic" 9 ∈ TB := tb_in1 (i := 24) rfl rfl
theorem k_m_Ff_11 : Cond.methodLink "FieldFactors" 11 ⟨"FieldFactors$Arithmetic", "<init>", "()V"⟩ ∈ TB := tb_in1 (i := 25) rfl rfl
theorem k_im_Ar_init : Cond.instanceMethod ⟨"FieldFactors$Arithmetic", "<init>", "()V"⟩ ∈ TB := tb_in1 (i := 26) rfl rfl
theorem k_co_Ar_init : Cond.code ⟨"FieldFactors$Arithmetic", "<init>", "()V"⟩ prog_2_method_1_code 1 none ∈ TB := tb_in1 (i := 27) rfl rfl
theorem k_m_Ar_3 : Cond.methodLink "FieldFactors$Arithmetic" 3 ⟨"java/lang/Object", "<init>", "()V"⟩ ∈ TB := tb_in1 (i := 28) rfl rfl
theorem k_c_Ar_15 : Cond.classLink "FieldFactors$Arithmetic" 15 "FieldFactors$Polynomial" ∈ TB := tb_in1 (i := 29) rfl rfl
theorem k_n_Po : Cond.instantiable "FieldFactors$Polynomial" 2 ∈ TB := tb_in1 (i := 30) rfl rfl
theorem k_m_Ar_17 : Cond.methodLink "FieldFactors$Arithmetic" 17 ⟨"FieldFactors$Polynomial", "<init>", "(I)V"⟩ ∈ TB := tb_in1 (i := 31) rfl rfl
theorem k_im_Po_init : Cond.instanceMethod ⟨"FieldFactors$Polynomial", "<init>", "(I)V"⟩ ∈ TB := tb_in1 (i := 32) rfl rfl
theorem k_co_Po_init : Cond.code ⟨"FieldFactors$Polynomial", "<init>", "(I)V"⟩ prog_5_method_1_code 2 none ∈ TB := tb_in1 (i := 33) rfl rfl
theorem k_m_Po_1 : Cond.methodLink "FieldFactors$Polynomial" 1 ⟨"java/lang/Object", "<init>", "()V"⟩ ∈ TB := tb_in1 (i := 34) rfl rfl
theorem k_f_Po_7 : Cond.fieldLink "FieldFactors$Polynomial" 7 "FieldFactors$Polynomial" "coefficients" "[I" ∈ TB := tb_in1 (i := 35) rfl rfl
theorem k_f_Os_40 : Cond.fieldLink "FieldFactors$OrderSearch" 40 "FieldFactors$Polynomial" "coefficients" "[I" ∈ TB := tb_in1 (i := 36) rfl rfl
theorem k_f_Ff_79 : Cond.fieldLink "FieldFactors" 79 "FieldFactors$Polynomial" "coefficients" "[I" ∈ TB := tb_in1 (i := 37) rfl rfl
theorem k_f_Ar_55 : Cond.fieldLink "FieldFactors$Arithmetic" 55 "FieldFactors$Polynomial" "coefficients" "[I" ∈ TB := tb_in1 (i := 38) rfl rfl
theorem k_f_Po_13 : Cond.fieldLink "FieldFactors$Polynomial" 13 "FieldFactors$Polynomial" "degree" "I" ∈ TB := tb_in1 (i := 39) rfl rfl
theorem k_f_Cu_63 : Cond.fieldLink "FieldFactors$Cutter" 63 "FieldFactors$Polynomial" "degree" "I" ∈ TB := tb_in1 (i := 40) rfl rfl
theorem k_f_Ar_52 : Cond.fieldLink "FieldFactors$Arithmetic" 52 "FieldFactors$Polynomial" "degree" "I" ∈ TB := tb_in1 (i := 41) rfl rfl
theorem k_f_Ff_95 : Cond.fieldLink "FieldFactors" 95 "FieldFactors$Polynomial" "degree" "I" ∈ TB := tb_in1 (i := 42) rfl rfl
theorem k_ac_int : Cond.arrayClass .int ∈ TB := tb_in1 (i := 48) rfl rfl
theorem k_m_Ar_45 : Cond.methodLink "FieldFactors$Arithmetic" 45 ⟨"FieldFactors$Arithmetic", "become", "(I)V"⟩ ∈ TB := tb_in1 (i := 51) rfl rfl
theorem k_im_Ar_become : Cond.instanceMethod ⟨"FieldFactors$Arithmetic", "become", "(I)V"⟩ ∈ TB := tb_in1 (i := 52) rfl rfl
theorem k_se_Ar_become : Cond.selects "FieldFactors$Arithmetic" ⟨"FieldFactors$Arithmetic", "become", "(I)V"⟩ ⟨"FieldFactors$Arithmetic", "become", "(I)V"⟩ ∈ TB := tb_in1 (i := 53) rfl rfl
theorem k_co_Ar_become : Cond.code ⟨"FieldFactors$Arithmetic", "become", "(I)V"⟩ prog_2_method_2_code 4 none ∈ TB := tb_in1 (i := 54) rfl rfl
theorem k_f_Ar_48 : Cond.fieldLink "FieldFactors$Arithmetic" 48 "FieldFactors$Arithmetic" "p" "I" ∈ TB := tb_in1 (i := 55) rfl rfl
theorem k_f_Ff_59 : Cond.fieldLink "FieldFactors" 59 "FieldFactors$Arithmetic" "p" "I" ∈ TB := tb_in1 (i := 56) rfl rfl
theorem k_f_Cu_91 : Cond.fieldLink "FieldFactors$Cutter" 91 "FieldFactors$Arithmetic" "p" "I" ∈ TB := tb_in1 (i := 57) rfl rfl
theorem k_f_Os_73 : Cond.fieldLink "FieldFactors$OrderSearch" 73 "FieldFactors$Arithmetic" "p" "I" ∈ TB := tb_in1 (i := 58) rfl rfl
theorem k_f_Ar_20 : Cond.fieldLink "FieldFactors$Arithmetic" 20 "FieldFactors$Arithmetic" "ignored" "LFieldFactors$Polynomial;" ∈ TB := tb_in1 (i := 59) rfl rfl
theorem k_f_Ff_202 : Cond.fieldLink "FieldFactors" 202 "FieldFactors$Arithmetic" "ignored" "LFieldFactors$Polynomial;" ∈ TB := tb_in1 (i := 60) rfl rfl
theorem k_f_Ar_9 : Cond.fieldLink "FieldFactors$Arithmetic" 9 "FieldFactors$Arithmetic" "inverses" "[I" ∈ TB := tb_in1 (i := 61) rfl rfl
theorem k_f_Ar_24 : Cond.fieldLink "FieldFactors$Arithmetic" 24 "FieldFactors$Arithmetic" "wide" "LFieldFactors$Polynomial;" ∈ TB := tb_in1 (i := 62) rfl rfl
theorem k_f_Ar_27 : Cond.fieldLink "FieldFactors$Arithmetic" 27 "FieldFactors$Arithmetic" "first" "LFieldFactors$Polynomial;" ∈ TB := tb_in1 (i := 63) rfl rfl
theorem k_f_Ar_30 : Cond.fieldLink "FieldFactors$Arithmetic" 30 "FieldFactors$Arithmetic" "second" "LFieldFactors$Polynomial;" ∈ TB := tb_in1 (i := 64) rfl rfl
theorem k_f_Ar_33 : Cond.fieldLink "FieldFactors$Arithmetic" 33 "FieldFactors$Arithmetic" "third" "LFieldFactors$Polynomial;" ∈ TB := tb_in1 (i := 65) rfl rfl
theorem k_f_Ar_36 : Cond.fieldLink "FieldFactors$Arithmetic" 36 "FieldFactors$Arithmetic" "fourth" "LFieldFactors$Polynomial;" ∈ TB := tb_in1 (i := 66) rfl rfl
theorem k_f_Ar_39 : Cond.fieldLink "FieldFactors$Arithmetic" 39 "FieldFactors$Arithmetic" "quotient" "LFieldFactors$Polynomial;" ∈ TB := tb_in1 (i := 67) rfl rfl
theorem k_c_Ff_16 : Cond.classLink "FieldFactors" 16 "FieldFactors$Cutter" ∈ TB := tb_in1 (i := 87) rfl rfl
theorem k_n_Cu : Cond.instantiable "FieldFactors$Cutter" 13 ∈ TB := tb_in1 (i := 88) rfl rfl
theorem k_m_Ff_18 : Cond.methodLink "FieldFactors" 18 ⟨"FieldFactors$Cutter", "<init>", "(LFieldFactors$Arithmetic;)V"⟩ ∈ TB := tb_in1 (i := 89) rfl rfl
theorem k_im_Cu_init : Cond.instanceMethod ⟨"FieldFactors$Cutter", "<init>", "(LFieldFactors$Arithmetic;)V"⟩ ∈ TB := tb_in1 (i := 90) rfl rfl
theorem k_co_Cu_init : Cond.code ⟨"FieldFactors$Cutter", "<init>", "(LFieldFactors$Arithmetic;)V"⟩ prog_3_method_1_code 3 none ∈ TB := tb_in1 (i := 91) rfl rfl
theorem k_m_Cu_3 : Cond.methodLink "FieldFactors$Cutter" 3 ⟨"java/lang/Object", "<init>", "()V"⟩ ∈ TB := tb_in1 (i := 92) rfl rfl
theorem k_c_Cu_15 : Cond.classLink "FieldFactors$Cutter" 15 "FieldFactors$Polynomial" ∈ TB := tb_in1 (i := 93) rfl rfl
theorem k_m_Cu_25 : Cond.methodLink "FieldFactors$Cutter" 25 ⟨"FieldFactors$Polynomial", "<init>", "(I)V"⟩ ∈ TB := tb_in1 (i := 95) rfl rfl
theorem k_m_Cu_57 : Cond.methodLink "FieldFactors$Cutter" 57 ⟨"FieldFactors$Polynomial", "becomePowerOfX", "(I)V"⟩ ∈ TB := tb_in1 (i := 96) rfl rfl
theorem k_im_Po_becomePowerOfX : Cond.instanceMethod ⟨"FieldFactors$Polynomial", "becomePowerOfX", "(I)V"⟩ ∈ TB := tb_in1 (i := 97) rfl rfl
theorem k_se_Po_becomePowerOfX : Cond.selects "FieldFactors$Polynomial" ⟨"FieldFactors$Polynomial", "becomePowerOfX", "(I)V"⟩ ⟨"FieldFactors$Polynomial", "becomePowerOfX", "(I)V"⟩ ∈ TB := tb_in1 (i := 98) rfl rfl
theorem k_co_Po_becomePowerOfX : Cond.code ⟨"FieldFactors$Polynomial", "becomePowerOfX", "(I)V"⟩ prog_5_method_5_code 2 none ∈ TB := tb_in1 (i := 99) rfl rfl
theorem k_m_Po_23 : Cond.methodLink "FieldFactors$Polynomial" 23 ⟨"FieldFactors$Polynomial", "clear", "()V"⟩ ∈ TB := tb_in1 (i := 100) rfl rfl
theorem k_im_Po_clear : Cond.instanceMethod ⟨"FieldFactors$Polynomial", "clear", "()V"⟩ ∈ TB := tb_in1 (i := 101) rfl rfl
theorem k_se_Po_clear : Cond.selects "FieldFactors$Polynomial" ⟨"FieldFactors$Polynomial", "clear", "()V"⟩ ⟨"FieldFactors$Polynomial", "clear", "()V"⟩ ∈ TB := tb_in1 (i := 102) rfl rfl
theorem k_co_Po_clear : Cond.code ⟨"FieldFactors$Polynomial", "clear", "()V"⟩ prog_5_method_2_code 2 none ∈ TB := tb_in1 (i := 103) rfl rfl
theorem k_f_Cu_17 : Cond.fieldLink "FieldFactors$Cutter" 17 "FieldFactors$Cutter" "factors" "[LFieldFactors$Polynomial;" ∈ TB := tb_in1 (i := 104) rfl rfl
theorem k_f_Ff_156 : Cond.fieldLink "FieldFactors" 156 "FieldFactors$Cutter" "factors" "[LFieldFactors$Polynomial;" ∈ TB := tb_in1 (i := 105) rfl rfl
theorem k_f_Cu_21 : Cond.fieldLink "FieldFactors$Cutter" 21 "FieldFactors$Cutter" "times" "[I" ∈ TB := tb_in1 (i := 106) rfl rfl
theorem k_f_Ff_162 : Cond.fieldLink "FieldFactors" 162 "FieldFactors$Cutter" "times" "[I" ∈ TB := tb_in1 (i := 107) rfl rfl
theorem k_f_Cu_28 : Cond.fieldLink "FieldFactors$Cutter" 28 "FieldFactors$Cutter" "size" "I" ∈ TB := tb_in1 (i := 108) rfl rfl
theorem k_f_Ff_148 : Cond.fieldLink "FieldFactors" 148 "FieldFactors$Cutter" "size" "I" ∈ TB := tb_in1 (i := 109) rfl rfl
theorem k_f_Cu_9 : Cond.fieldLink "FieldFactors$Cutter" 9 "FieldFactors$Cutter" "numbers" "LFieldFactors$Arithmetic;" ∈ TB := tb_in1 (i := 110) rfl rfl
theorem k_f_Cu_32 : Cond.fieldLink "FieldFactors$Cutter" 32 "FieldFactors$Cutter" "rest" "LFieldFactors$Polynomial;" ∈ TB := tb_in1 (i := 111) rfl rfl
theorem k_f_Cu_36 : Cond.fieldLink "FieldFactors$Cutter" 36 "FieldFactors$Cutter" "image" "LFieldFactors$Polynomial;" ∈ TB := tb_in1 (i := 112) rfl rfl
theorem k_f_Cu_39 : Cond.fieldLink "FieldFactors$Cutter" 39 "FieldFactors$Cutter" "group" "LFieldFactors$Polynomial;" ∈ TB := tb_in1 (i := 113) rfl rfl
theorem k_f_Cu_42 : Cond.fieldLink "FieldFactors$Cutter" 42 "FieldFactors$Cutter" "power" "LFieldFactors$Polynomial;" ∈ TB := tb_in1 (i := 114) rfl rfl
theorem k_f_Cu_45 : Cond.fieldLink "FieldFactors$Cutter" 45 "FieldFactors$Cutter" "trace" "LFieldFactors$Polynomial;" ∈ TB := tb_in1 (i := 115) rfl rfl
theorem k_f_Cu_48 : Cond.fieldLink "FieldFactors$Cutter" 48 "FieldFactors$Cutter" "common" "LFieldFactors$Polynomial;" ∈ TB := tb_in1 (i := 116) rfl rfl
theorem k_f_Cu_51 : Cond.fieldLink "FieldFactors$Cutter" 51 "FieldFactors$Cutter" "scratch" "LFieldFactors$Polynomial;" ∈ TB := tb_in1 (i := 117) rfl rfl
theorem k_f_Cu_54 : Cond.fieldLink "FieldFactors$Cutter" 54 "FieldFactors$Cutter" "one" "LFieldFactors$Polynomial;" ∈ TB := tb_in1 (i := 118) rfl rfl
theorem k_f_Cu_60 : Cond.fieldLink "FieldFactors$Cutter" 60 "FieldFactors$Cutter" "x" "LFieldFactors$Polynomial;" ∈ TB := tb_in1 (i := 119) rfl rfl
theorem k_c_Ff_25 : Cond.classLink "FieldFactors" 25 "FieldFactors$OrderSearch" ∈ TB := tb_in1 (i := 147) rfl rfl
theorem k_n_Os : Cond.instantiable "FieldFactors$OrderSearch" 6 ∈ TB := tb_in1 (i := 148) rfl rfl
theorem k_m_Ff_27 : Cond.methodLink "FieldFactors" 27 ⟨"FieldFactors$OrderSearch", "<init>", "(LFieldFactors$Arithmetic;)V"⟩ ∈ TB := tb_in1 (i := 149) rfl rfl
theorem k_im_Os_init : Cond.instanceMethod ⟨"FieldFactors$OrderSearch", "<init>", "(LFieldFactors$Arithmetic;)V"⟩ ∈ TB := tb_in1 (i := 150) rfl rfl
theorem k_co_Os_init : Cond.code ⟨"FieldFactors$OrderSearch", "<init>", "(LFieldFactors$Arithmetic;)V"⟩ prog_4_method_1_code 2 none ∈ TB := tb_in1 (i := 151) rfl rfl
theorem k_m_Os_3 : Cond.methodLink "FieldFactors$OrderSearch" 3 ⟨"java/lang/Object", "<init>", "()V"⟩ ∈ TB := tb_in1 (i := 152) rfl rfl
theorem k_c_Os_22 : Cond.classLink "FieldFactors$OrderSearch" 22 "FieldFactors$Polynomial" ∈ TB := tb_in1 (i := 153) rfl rfl
theorem k_m_Os_24 : Cond.methodLink "FieldFactors$OrderSearch" 24 ⟨"FieldFactors$Polynomial", "<init>", "(I)V"⟩ ∈ TB := tb_in1 (i := 154) rfl rfl
theorem k_m_Os_37 : Cond.methodLink "FieldFactors$OrderSearch" 37 ⟨"FieldFactors$Polynomial", "becomePowerOfX", "(I)V"⟩ ∈ TB := tb_in1 (i := 155) rfl rfl
theorem k_f_Os_9 : Cond.fieldLink "FieldFactors$OrderSearch" 9 "FieldFactors$OrderSearch" "numbers" "LFieldFactors$Arithmetic;" ∈ TB := tb_in1 (i := 156) rfl rfl
theorem k_f_Os_15 : Cond.fieldLink "FieldFactors$OrderSearch" 15 "FieldFactors$OrderSearch" "lowCodes" "[J" ∈ TB := tb_in1 (i := 157) rfl rfl
theorem k_f_Os_19 : Cond.fieldLink "FieldFactors$OrderSearch" 19 "FieldFactors$OrderSearch" "highCodes" "[J" ∈ TB := tb_in1 (i := 158) rfl rfl
theorem k_f_Os_27 : Cond.fieldLink "FieldFactors$OrderSearch" 27 "FieldFactors$OrderSearch" "power" "LFieldFactors$Polynomial;" ∈ TB := tb_in1 (i := 159) rfl rfl
theorem k_f_Os_31 : Cond.fieldLink "FieldFactors$OrderSearch" 31 "FieldFactors$OrderSearch" "stride" "LFieldFactors$Polynomial;" ∈ TB := tb_in1 (i := 160) rfl rfl
theorem k_f_Os_34 : Cond.fieldLink "FieldFactors$OrderSearch" 34 "FieldFactors$OrderSearch" "x" "LFieldFactors$Polynomial;" ∈ TB := tb_in1 (i := 161) rfl rfl
theorem k_ac_long : Cond.arrayClass .long ∈ TB := tb_in1 (i := 175) rfl rfl
theorem k_c_Ff_32 : Cond.classLink "FieldFactors" 32 "FieldFactors$Polynomial" ∈ TB := tb_in1 (i := 176) rfl rfl
theorem k_m_Ff_38 : Cond.methodLink "FieldFactors" 38 ⟨"FieldFactors$Polynomial", "<init>", "(I)V"⟩ ∈ TB := tb_in1 (i := 177) rfl rfl
theorem k_f_Ff_12 : Cond.fieldLink "FieldFactors" 12 "FieldFactors" "numbers" "LFieldFactors$Arithmetic;" ∈ TB := tb_in1 (i := 178) rfl rfl
theorem k_f_Ff_21 : Cond.fieldLink "FieldFactors" 21 "FieldFactors" "cutter" "LFieldFactors$Cutter;" ∈ TB := tb_in1 (i := 179) rfl rfl
theorem k_f_Ff_28 : Cond.fieldLink "FieldFactors" 28 "FieldFactors" "orderSearch" "LFieldFactors$OrderSearch;" ∈ TB := tb_in1 (i := 180) rfl rfl
theorem k_f_Ff_34 : Cond.fieldLink "FieldFactors" 34 "FieldFactors" "registers" "[LFieldFactors$Polynomial;" ∈ TB := tb_in1 (i := 181) rfl rfl
theorem k_f_Ff_41 : Cond.fieldLink "FieldFactors" 41 "FieldFactors" "result" "LFieldFactors$Polynomial;" ∈ TB := tb_in1 (i := 182) rfl rfl
theorem k_f_Ff_45 : Cond.fieldLink "FieldFactors" 45 "FieldFactors" "scratch" "LFieldFactors$Polynomial;" ∈ TB := tb_in1 (i := 183) rfl rfl
theorem k_m_La_114 : Cond.methodLink "FieldFactorsLaw" 114 ⟨"FieldFactors", "count", "(I)I"⟩ ∈ TB := tb_in1 (i := 197) rfl rfl
theorem k_im_Ff_count : Cond.instanceMethod ⟨"FieldFactors", "count", "(I)I"⟩ ∈ TB := tb_in1 (i := 198) rfl rfl
theorem k_se_Ff_count : Cond.selects "FieldFactors" ⟨"FieldFactors", "count", "(I)I"⟩ ⟨"FieldFactors", "count", "(I)I"⟩ ∈ TB := tb_in1 (i := 199) rfl rfl
theorem k_co_Ff_count : Cond.code ⟨"FieldFactors", "count", "(I)I"⟩ prog_1_method_15_code 2 (Option.some .int) ∈ TB := tb_in1 (i := 200) rfl rfl
theorem k_m_La_65 : Cond.methodLink "FieldFactorsLaw" 65 ⟨"FieldFactorsLaw", "field", "(LFieldFactors;I[J)I"⟩ ∈ TB := tb_in1 (i := 201) rfl rfl
theorem k_st_La_field : Cond.static ⟨"FieldFactorsLaw", "field", "(LFieldFactors;I[J)I"⟩ ∈ TB := tb_in1 (i := 202) rfl rfl
theorem k_co_La_field : Cond.codeWith ⟨"FieldFactorsLaw", "field", "(LFieldFactors;I[J)I"⟩ method_3_code 4 (Option.some .int) [(0, 9, 12, 13)] ∈ TB := tb_in1 (i := 203) rfl rfl
theorem k_c_La_13 : Cond.classLink "FieldFactorsLaw" 13 "java/lang/IllegalArgumentException" ∈ TB := tb_in1 (i := 204) rfl rfl
theorem k_m_La_7 : Cond.methodLink "FieldFactorsLaw" 7 ⟨"FieldFactors", "field", "(I)I"⟩ ∈ TB := tb_in1 (i := 205) rfl rfl
theorem k_im_Ff_field : Cond.instanceMethod ⟨"FieldFactors", "field", "(I)I"⟩ ∈ TB := tb_in1 (i := 206) rfl rfl
theorem k_se_Ff_field : Cond.selects "FieldFactors" ⟨"FieldFactors", "field", "(I)I"⟩ ⟨"FieldFactors", "field", "(I)I"⟩ ∈ TB := tb_in1 (i := 207) rfl rfl
theorem k_co_Ff_field : Cond.code ⟨"FieldFactors", "field", "(I)I"⟩ prog_1_method_2_code 4 (Option.some .int) ∈ TB := tb_in1 (i := 208) rfl rfl
theorem k_m_Ff_48 : Cond.methodLink "FieldFactors" 48 ⟨"FieldFactors", "fieldIndex", "(I)I"⟩ ∈ TB := tb_in1 (i := 209) rfl rfl
theorem k_st_Ff_fieldIndex : Cond.static ⟨"FieldFactors", "fieldIndex", "(I)I"⟩ ∈ TB := tb_in1 (i := 210) rfl rfl
theorem k_co_Ff_fieldIndex : Cond.code ⟨"FieldFactors", "fieldIndex", "(I)I"⟩ prog_1_method_20_code 2 (Option.some .int) ∈ TB := tb_in1 (i := 211) rfl rfl
theorem k_f_Ff_184 : Cond.fieldLink "FieldFactors" 184 "FieldFactors" "FIELDS" "[I" ∈ TB := tb_in1 (i := 212) rfl rfl
theorem k_c_Ff_52 : Cond.classLink "FieldFactors" 52 "java/lang/IllegalArgumentException" ∈ TB := tb_in1 (i := 213) rfl rfl
theorem k_n_IllegalArgumentException : Cond.instantiable "java/lang/IllegalArgumentException" 6 ∈ TB := tb_in1 (i := 214) rfl rfl
theorem k_im_Throwable_init : Cond.instanceMethod ⟨"java/lang/Throwable", "<init>", "()V"⟩ ∈ TB := tb_in1 (i := 236) rfl rfl
theorem k_co_Throwable_init : Cond.code ⟨"java/lang/Throwable", "<init>", "()V"⟩ prog_15_method_1_code 1 none ∈ TB := tb_in1 (i := 237) rfl rfl
theorem k_im_Throwable_fillInStackTrace : Cond.instanceMethod ⟨"java/lang/Throwable", "fillInStackTrace", "()Ljava/lang/Throwable;"⟩ ∈ TB := tb_in2 (i := 4) rfl rfl
theorem k_co_Throwable_fillInStackTrace : Cond.codeSync ⟨"java/lang/Throwable", "fillInStackTrace", "()Ljava/lang/Throwable;"⟩ prog_15_method_18_code 1 (Option.some (.object "java/lang/Throwable")) ∈ TB := tb_in2 (i := 9) rfl rfl
theorem k_n_Throwable : Cond.instantiable "java/lang/Throwable" 6 ∈ TB := tb_in2 (i := 13) rfl rfl
theorem k_m_Ff_56 : Cond.methodLink "FieldFactors" 56 ⟨"java/lang/IllegalArgumentException", "<init>", "(Ljava/lang/String;)V"⟩ ∈ TB := tb_in2 (i := 16) rfl rfl
theorem k_im_IllegalArgumentException_init : Cond.instanceMethod ⟨"java/lang/IllegalArgumentException", "<init>", "(Ljava/lang/String;)V"⟩ ∈ TB := tb_in2 (i := 17) rfl rfl
theorem k_co_IllegalArgumentException_init : Cond.code ⟨"java/lang/IllegalArgumentException", "<init>", "(Ljava/lang/String;)V"⟩ prog_10_method_2_code 2 none ∈ TB := tb_in2 (i := 18) rfl rfl
theorem k_im_RuntimeException_init : Cond.instanceMethod ⟨"java/lang/RuntimeException", "<init>", "(Ljava/lang/String;)V"⟩ ∈ TB := tb_in2 (i := 20) rfl rfl
theorem k_co_RuntimeException_init : Cond.code ⟨"java/lang/RuntimeException", "<init>", "(Ljava/lang/String;)V"⟩ prog_13_method_2_code 2 none ∈ TB := tb_in2 (i := 21) rfl rfl
theorem k_im_Exception_init : Cond.instanceMethod ⟨"java/lang/Exception", "<init>", "(Ljava/lang/String;)V"⟩ ∈ TB := tb_in2 (i := 23) rfl rfl
theorem k_co_Exception_init : Cond.code ⟨"java/lang/Exception", "<init>", "(Ljava/lang/String;)V"⟩ prog_9_method_2_code 2 none ∈ TB := tb_in2 (i := 24) rfl rfl
theorem k_im_Throwable_init2 : Cond.instanceMethod ⟨"java/lang/Throwable", "<init>", "(Ljava/lang/String;)V"⟩ ∈ TB := tb_in2 (i := 26) rfl rfl
theorem k_co_Throwable_init2 : Cond.code ⟨"java/lang/Throwable", "<init>", "(Ljava/lang/String;)V"⟩ prog_15_method_2_code 2 none ∈ TB := tb_in2 (i := 27) rfl rfl
theorem k_ac_byte : Cond.arrayClass .byte ∈ TB := tb_in2 (i := 41) rfl rfl
theorem k_m_Ff_63 : Cond.methodLink "FieldFactors" 63 ⟨"FieldFactors$Arithmetic", "become", "(I)V"⟩ ∈ TB := tb_in2 (i := 42) rfl rfl
theorem k_m_Ff_66 : Cond.methodLink "FieldFactors" 66 ⟨"FieldFactors$Polynomial", "clear", "()V"⟩ ∈ TB := tb_in2 (i := 43) rfl rfl
theorem k_m_Ff_69 : Cond.methodLink "FieldFactors" 69 ⟨"FieldFactors$Cutter", "forget", "()V"⟩ ∈ TB := tb_in2 (i := 44) rfl rfl
theorem k_im_Cu_forget : Cond.instanceMethod ⟨"FieldFactors$Cutter", "forget", "()V"⟩ ∈ TB := tb_in2 (i := 45) rfl rfl
theorem k_se_Cu_forget : Cond.selects "FieldFactors$Cutter" ⟨"FieldFactors$Cutter", "forget", "()V"⟩ ⟨"FieldFactors$Cutter", "forget", "()V"⟩ ∈ TB := tb_in2 (i := 46) rfl rfl
theorem k_co_Cu_forget : Cond.code ⟨"FieldFactors$Cutter", "forget", "()V"⟩ prog_3_method_2_code 1 none ∈ TB := tb_in2 (i := 47) rfl rfl
theorem k_m_La_75 : Cond.methodLink "FieldFactorsLaw" 75 ⟨"FieldFactorsLaw", "set", "(LFieldFactors;III[J)I"⟩ ∈ TB := tb_in2 (i := 48) rfl rfl
theorem k_st_La_set : Cond.static ⟨"FieldFactorsLaw", "set", "(LFieldFactors;III[J)I"⟩ ∈ TB := tb_in2 (i := 49) rfl rfl
theorem k_co_La_set : Cond.codeWith ⟨"FieldFactorsLaw", "set", "(LFieldFactors;III[J)I"⟩ method_4_code 6 (Option.some .int) [(0, 12, 15, 19), (0, 12, 19, 13)] ∈ TB := tb_in2 (i := 50) rfl rfl
theorem k_c_La_19 : Cond.classLink "FieldFactorsLaw" 19 "java/util/NoSuchElementException" ∈ TB := tb_in2 (i := 51) rfl rfl
theorem k_m_La_15 : Cond.methodLink "FieldFactorsLaw" 15 ⟨"FieldFactors", "set", "(III)I"⟩ ∈ TB := tb_in2 (i := 52) rfl rfl
theorem k_im_Ff_set : Cond.instanceMethod ⟨"FieldFactors", "set", "(III)I"⟩ ∈ TB := tb_in2 (i := 53) rfl rfl
theorem k_se_Ff_set : Cond.selects "FieldFactors" ⟨"FieldFactors", "set", "(III)I"⟩ ⟨"FieldFactors", "set", "(III)I"⟩ ∈ TB := tb_in2 (i := 54) rfl rfl
theorem k_co_Ff_set : Cond.code ⟨"FieldFactors", "set", "(III)I"⟩ prog_1_method_3_code 6 (Option.some .int) ∈ TB := tb_in2 (i := 55) rfl rfl
theorem k_m_Ff_72 : Cond.methodLink "FieldFactors" 72 ⟨"FieldFactors", "register", "(I)LFieldFactors$Polynomial;"⟩ ∈ TB := tb_in2 (i := 56) rfl rfl
theorem k_im_Ff_register : Cond.instanceMethod ⟨"FieldFactors", "register", "(I)LFieldFactors$Polynomial;"⟩ ∈ TB := tb_in2 (i := 58) rfl rfl
theorem k_co_Ff_register : Cond.code ⟨"FieldFactors", "register", "(I)LFieldFactors$Polynomial;"⟩ prog_1_method_16_code 2 (Option.some (.object "FieldFactors$Polynomial")) ∈ TB := tb_in2 (i := 59) rfl rfl
theorem k_c_Ff_151 : Cond.classLink "FieldFactors" 151 "java/util/NoSuchElementException" ∈ TB := tb_in2 (i := 60) rfl rfl
theorem k_n_NoSuchElementException : Cond.instantiable "java/util/NoSuchElementException" 6 ∈ TB := tb_in2 (i := 61) rfl rfl
theorem k_m_Ff_155 : Cond.methodLink "FieldFactors" 155 ⟨"java/util/NoSuchElementException", "<init>", "(Ljava/lang/String;)V"⟩ ∈ TB := tb_in2 (i := 70) rfl rfl
theorem k_im_NoSuchElementException_init : Cond.instanceMethod ⟨"java/util/NoSuchElementException", "<init>", "(Ljava/lang/String;)V"⟩ ∈ TB := tb_in2 (i := 71) rfl rfl
theorem k_co_NoSuchElementException_init : Cond.code ⟨"java/util/NoSuchElementException", "<init>", "(Ljava/lang/String;)V"⟩ prog_16_method_4_code 2 none ∈ TB := tb_in2 (i := 72) rfl rfl
theorem k_m_Ff_76 : Cond.methodLink "FieldFactors" 76 ⟨"FieldFactors", "needExponent", "(I)V"⟩ ∈ TB := tb_in2 (i := 76) rfl rfl
theorem k_st_Ff_needExponent : Cond.static ⟨"FieldFactors", "needExponent", "(I)V"⟩ ∈ TB := tb_in2 (i := 77) rfl rfl
theorem k_co_Ff_needExponent : Cond.code ⟨"FieldFactors", "needExponent", "(I)V"⟩ prog_1_method_17_code 1 none ∈ TB := tb_in2 (i := 78) rfl rfl
theorem k_m_Ff_83 : Cond.methodLink "FieldFactors" 83 ⟨"java/lang/Math", "floorMod", "(II)I"⟩ ∈ TB := tb_in2 (i := 80) rfl rfl
theorem k_st_Math_floorMod : Cond.static ⟨"java/lang/Math", "floorMod", "(II)I"⟩ ∈ TB := tb_in2 (i := 81) rfl rfl
theorem k_co_Math_floorMod : Cond.code ⟨"java/lang/Math", "floorMod", "(II)I"⟩ prog_12_method_50_code 3 (Option.some .int) ∈ TB := tb_in2 (i := 82) rfl rfl
theorem k_m_Ff_89 : Cond.methodLink "FieldFactors" 89 ⟨"FieldFactors$Polynomial", "put", "(II)V"⟩ ∈ TB := tb_in2 (i := 83) rfl rfl
theorem k_im_Po_put : Cond.instanceMethod ⟨"FieldFactors$Polynomial", "put", "(II)V"⟩ ∈ TB := tb_in2 (i := 84) rfl rfl
theorem k_se_Po_put : Cond.selects "FieldFactors$Polynomial" ⟨"FieldFactors$Polynomial", "put", "(II)V"⟩ ⟨"FieldFactors$Polynomial", "put", "(II)V"⟩ ∈ TB := tb_in2 (i := 85) rfl rfl
theorem k_co_Po_put : Cond.code ⟨"FieldFactors$Polynomial", "put", "(II)V"⟩ prog_5_method_4_code 3 none ∈ TB := tb_in2 (i := 86) rfl rfl
theorem k_m_Po_17 : Cond.methodLink "FieldFactors$Polynomial" 17 ⟨"java/lang/Math", "max", "(II)I"⟩ ∈ TB := tb_in2 (i := 87) rfl rfl
theorem k_st_Math_max : Cond.static ⟨"java/lang/Math", "max", "(II)I"⟩ ∈ TB := tb_in2 (i := 88) rfl rfl
theorem k_co_Math_max : Cond.code ⟨"java/lang/Math", "max", "(II)I"⟩ prog_12_method_65_code 2 (Option.some .int) ∈ TB := tb_in2 (i := 89) rfl rfl
theorem k_m_La_79 : Cond.methodLink "FieldFactorsLaw" 79 ⟨"FieldFactorsLaw", "get", "(LFieldFactors;II[J)I"⟩ ∈ TB := tb_in2 (i := 90) rfl rfl
theorem k_st_La_get : Cond.static ⟨"FieldFactorsLaw", "get", "(LFieldFactors;II[J)I"⟩ ∈ TB := tb_in2 (i := 91) rfl rfl
theorem k_co_La_get : Cond.codeWith ⟨"FieldFactorsLaw", "get", "(LFieldFactors;II[J)I"⟩ method_5_code 5 (Option.some .int) [(0, 10, 13, 19), (0, 10, 17, 13)] ∈ TB := tb_in2 (i := 92) rfl rfl
theorem k_m_La_21 : Cond.methodLink "FieldFactorsLaw" 21 ⟨"FieldFactors", "get", "(II)I"⟩ ∈ TB := tb_in2 (i := 93) rfl rfl
theorem k_im_Ff_get : Cond.instanceMethod ⟨"FieldFactors", "get", "(II)I"⟩ ∈ TB := tb_in2 (i := 94) rfl rfl
theorem k_se_Ff_get : Cond.selects "FieldFactors" ⟨"FieldFactors", "get", "(II)I"⟩ ⟨"FieldFactors", "get", "(II)I"⟩ ∈ TB := tb_in2 (i := 95) rfl rfl
theorem k_co_Ff_get : Cond.code ⟨"FieldFactors", "get", "(II)I"⟩ prog_1_method_4_code 4 (Option.some .int) ∈ TB := tb_in2 (i := 96) rfl rfl
theorem k_m_La_83 : Cond.methodLink "FieldFactorsLaw" 83 ⟨"FieldFactorsLaw", "join", "(LFieldFactors;IIII[J)I"⟩ ∈ TB := tb_in2 (i := 97) rfl rfl
theorem k_st_La_join : Cond.static ⟨"FieldFactorsLaw", "join", "(LFieldFactors;IIII[J)I"⟩ ∈ TB := tb_in2 (i := 98) rfl rfl
theorem k_co_La_join : Cond.codeWith ⟨"FieldFactorsLaw", "join", "(LFieldFactors;IIII[J)I"⟩ method_6_code 7 (Option.some .int) [(0, 14, 17, 19), (0, 14, 21, 13), (0, 14, 25, 29)] ∈ TB := tb_in2 (i := 99) rfl rfl
theorem k_c_La_29 : Cond.classLink "FieldFactorsLaw" 29 "java/lang/ArithmeticException" ∈ TB := tb_in2 (i := 100) rfl rfl
theorem k_m_La_25 : Cond.methodLink "FieldFactorsLaw" 25 ⟨"FieldFactors", "join", "(IIII)I"⟩ ∈ TB := tb_in2 (i := 101) rfl rfl
theorem k_im_Ff_join : Cond.instanceMethod ⟨"FieldFactors", "join", "(IIII)I"⟩ ∈ TB := tb_in2 (i := 102) rfl rfl
theorem k_se_Ff_join : Cond.selects "FieldFactors" ⟨"FieldFactors", "join", "(IIII)I"⟩ ⟨"FieldFactors", "join", "(IIII)I"⟩ ∈ TB := tb_in2 (i := 103) rfl rfl
theorem k_co_Ff_join : Cond.code ⟨"FieldFactors", "join", "(IIII)I"⟩ prog_1_method_5_code 8 (Option.some .int) ∈ TB := tb_in2 (i := 104) rfl rfl
theorem k_c_Ff_100 : Cond.classLink "FieldFactors" 100 "java/lang/ArithmeticException" ∈ TB := tb_in2 (i := 107) rfl rfl
theorem k_n_ArithmeticException : Cond.instantiable "java/lang/ArithmeticException" 6 ∈ TB := tb_in2 (i := 108) rfl rfl
theorem k_m_Ff_104 : Cond.methodLink "FieldFactors" 104 ⟨"java/lang/ArithmeticException", "<init>", "(Ljava/lang/String;)V"⟩ ∈ TB := tb_in2 (i := 117) rfl rfl
theorem k_im_ArithmeticException_init : Cond.instanceMethod ⟨"java/lang/ArithmeticException", "<init>", "(Ljava/lang/String;)V"⟩ ∈ TB := tb_in2 (i := 118) rfl rfl
theorem k_co_ArithmeticException_init : Cond.code ⟨"java/lang/ArithmeticException", "<init>", "(Ljava/lang/String;)V"⟩ prog_8_method_2_code 2 none ∈ TB := tb_in2 (i := 119) rfl rfl
theorem k_m_Ff_105 : Cond.methodLink "FieldFactors" 105 ⟨"FieldFactors", "combine", "(ILFieldFactors$Polynomial;LFieldFactors$Polynomial;)V"⟩ ∈ TB := tb_in2 (i := 123) rfl rfl
theorem k_im_Ff_combine : Cond.instanceMethod ⟨"FieldFactors", "combine", "(ILFieldFactors$Polynomial;LFieldFactors$Polynomial;)V"⟩ ∈ TB := tb_in2 (i := 125) rfl rfl
theorem k_co_Ff_combine : Cond.code ⟨"FieldFactors", "combine", "(ILFieldFactors$Polynomial;LFieldFactors$Polynomial;)V"⟩ prog_1_method_22_code 4 none ∈ TB := tb_in2 (i := 126) rfl rfl
theorem k_m_Ff_159 : Cond.methodLink "FieldFactors" 159 ⟨"FieldFactors$Polynomial", "copyFrom", "(LFieldFactors$Polynomial;)V"⟩ ∈ TB := tb_in2 (i := 127) rfl rfl
theorem k_im_Po_copyFrom : Cond.instanceMethod ⟨"FieldFactors$Polynomial", "copyFrom", "(LFieldFactors$Polynomial;)V"⟩ ∈ TB := tb_in2 (i := 128) rfl rfl
theorem k_se_Po_copyFrom : Cond.selects "FieldFactors$Polynomial" ⟨"FieldFactors$Polynomial", "copyFrom", "(LFieldFactors$Polynomial;)V"⟩ ⟨"FieldFactors$Polynomial", "copyFrom", "(LFieldFactors$Polynomial;)V"⟩ ∈ TB := tb_in2 (i := 129) rfl rfl
theorem k_co_Po_copyFrom : Cond.code ⟨"FieldFactors$Polynomial", "copyFrom", "(LFieldFactors$Polynomial;)V"⟩ prog_5_method_3_code 3 none ∈ TB := tb_in2 (i := 130) rfl rfl
theorem k_m_Ff_190 : Cond.methodLink "FieldFactors" 190 ⟨"FieldFactors$Arithmetic", "addShifted", "(LFieldFactors$Polynomial;IILFieldFactors$Polynomial;)V"⟩ ∈ TB := tb_in2 (i := 131) rfl rfl
theorem k_im_Ar_addShifted : Cond.instanceMethod ⟨"FieldFactors$Arithmetic", "addShifted", "(LFieldFactors$Polynomial;IILFieldFactors$Polynomial;)V"⟩ ∈ TB := tb_in2 (i := 132) rfl rfl
theorem k_se_Ar_addShifted : Cond.selects "FieldFactors$Arithmetic" ⟨"FieldFactors$Arithmetic", "addShifted", "(LFieldFactors$Polynomial;IILFieldFactors$Polynomial;)V"⟩ ⟨"FieldFactors$Arithmetic", "addShifted", "(LFieldFactors$Polynomial;IILFieldFactors$Polynomial;)V"⟩ ∈ TB := tb_in2 (i := 133) rfl rfl
theorem k_co_Ar_addShifted : Cond.code ⟨"FieldFactors$Arithmetic", "addShifted", "(LFieldFactors$Polynomial;IILFieldFactors$Polynomial;)V"⟩ prog_2_method_3_code 7 none ∈ TB := tb_in2 (i := 134) rfl rfl
theorem k_m_Ar_58 : Cond.methodLink "FieldFactors$Arithmetic" 58 ⟨"java/lang/Math", "max", "(II)I"⟩ ∈ TB := tb_in2 (i := 135) rfl rfl
theorem k_m_Ff_194 : Cond.methodLink "FieldFactors" 194 ⟨"FieldFactors$Arithmetic", "addProduct", "(LFieldFactors$Polynomial;ILFieldFactors$Polynomial;LFieldFactors$Polynomial;)V"⟩ ∈ TB := tb_in2 (i := 136) rfl rfl
theorem k_im_Ar_addProduct : Cond.instanceMethod ⟨"FieldFactors$Arithmetic", "addProduct", "(LFieldFactors$Polynomial;ILFieldFactors$Polynomial;LFieldFactors$Polynomial;)V"⟩ ∈ TB := tb_in2 (i := 137) rfl rfl
theorem k_se_Ar_addProduct : Cond.selects "FieldFactors$Arithmetic" ⟨"FieldFactors$Arithmetic", "addProduct", "(LFieldFactors$Polynomial;ILFieldFactors$Polynomial;LFieldFactors$Polynomial;)V"⟩ ⟨"FieldFactors$Arithmetic", "addProduct", "(LFieldFactors$Polynomial;ILFieldFactors$Polynomial;LFieldFactors$Polynomial;)V"⟩ ∈ TB := tb_in2 (i := 138) rfl rfl
theorem k_co_Ar_addProduct : Cond.code ⟨"FieldFactors$Arithmetic", "addProduct", "(LFieldFactors$Polynomial;ILFieldFactors$Polynomial;LFieldFactors$Polynomial;)V"⟩ prog_2_method_4_code 6 none ∈ TB := tb_in2 (i := 139) rfl rfl
theorem k_m_Ar_64 : Cond.methodLink "FieldFactors$Arithmetic" 64 ⟨"FieldFactors$Arithmetic", "addShifted", "(LFieldFactors$Polynomial;IILFieldFactors$Polynomial;)V"⟩ ∈ TB := tb_in2 (i := 140) rfl rfl
theorem k_m_Ff_198 : Cond.methodLink "FieldFactors" 198 ⟨"FieldFactors$Arithmetic", "divide", "(LFieldFactors$Polynomial;LFieldFactors$Polynomial;LFieldFactors$Polynomial;)V"⟩ ∈ TB := tb_in2 (i := 141) rfl rfl
theorem k_im_Ar_divide : Cond.instanceMethod ⟨"FieldFactors$Arithmetic", "divide", "(LFieldFactors$Polynomial;LFieldFactors$Polynomial;LFieldFactors$Polynomial;)V"⟩ ∈ TB := tb_in2 (i := 142) rfl rfl
theorem k_se_Ar_divide : Cond.selects "FieldFactors$Arithmetic" ⟨"FieldFactors$Arithmetic", "divide", "(LFieldFactors$Polynomial;LFieldFactors$Polynomial;LFieldFactors$Polynomial;)V"⟩ ⟨"FieldFactors$Arithmetic", "divide", "(LFieldFactors$Polynomial;LFieldFactors$Polynomial;LFieldFactors$Polynomial;)V"⟩ ∈ TB := tb_in2 (i := 143) rfl rfl
theorem k_co_Ar_divide : Cond.code ⟨"FieldFactors$Arithmetic", "divide", "(LFieldFactors$Polynomial;LFieldFactors$Polynomial;LFieldFactors$Polynomial;)V"⟩ prog_2_method_9_code 7 none ∈ TB := tb_in2 (i := 144) rfl rfl
theorem k_m_Ar_76 : Cond.methodLink "FieldFactors$Arithmetic" 76 ⟨"FieldFactors$Polynomial", "clear", "()V"⟩ ∈ TB := tb_in2 (i := 145) rfl rfl
theorem k_m_Ar_68 : Cond.methodLink "FieldFactors$Arithmetic" 68 ⟨"FieldFactors$Polynomial", "lead", "()I"⟩ ∈ TB := tb_in2 (i := 146) rfl rfl
theorem k_im_Po_lead : Cond.instanceMethod ⟨"FieldFactors$Polynomial", "lead", "()I"⟩ ∈ TB := tb_in2 (i := 147) rfl rfl
theorem k_se_Po_lead : Cond.selects "FieldFactors$Polynomial" ⟨"FieldFactors$Polynomial", "lead", "()I"⟩ ⟨"FieldFactors$Polynomial", "lead", "()I"⟩ ∈ TB := tb_in2 (i := 148) rfl rfl
theorem k_co_Po_lead : Cond.code ⟨"FieldFactors$Polynomial", "lead", "()I"⟩ prog_5_method_6_code 1 (Option.some .int) ∈ TB := tb_in2 (i := 149) rfl rfl
theorem k_m_Ar_79 : Cond.methodLink "FieldFactors$Arithmetic" 79 ⟨"FieldFactors$Polynomial", "put", "(II)V"⟩ ∈ TB := tb_in2 (i := 150) rfl rfl
theorem k_m_Ff_205 : Cond.methodLink "FieldFactors" 205 ⟨"FieldFactors$Arithmetic", "findCommonDivisor", "(LFieldFactors$Polynomial;LFieldFactors$Polynomial;LFieldFactors$Polynomial;)V"⟩ ∈ TB := tb_in2 (i := 151) rfl rfl
theorem k_im_Ar_findCommonDivisor : Cond.instanceMethod ⟨"FieldFactors$Arithmetic", "findCommonDivisor", "(LFieldFactors$Polynomial;LFieldFactors$Polynomial;LFieldFactors$Polynomial;)V"⟩ ∈ TB := tb_in2 (i := 152) rfl rfl
theorem k_se_Ar_findCommonDivisor : Cond.selects "FieldFactors$Arithmetic" ⟨"FieldFactors$Arithmetic", "findCommonDivisor", "(LFieldFactors$Polynomial;LFieldFactors$Polynomial;LFieldFactors$Polynomial;)V"⟩ ⟨"FieldFactors$Arithmetic", "findCommonDivisor", "(LFieldFactors$Polynomial;LFieldFactors$Polynomial;LFieldFactors$Polynomial;)V"⟩ ∈ TB := tb_in2 (i := 153) rfl rfl
theorem k_co_Ar_findCommonDivisor : Cond.code ⟨"FieldFactors$Arithmetic", "findCommonDivisor", "(LFieldFactors$Polynomial;LFieldFactors$Polynomial;LFieldFactors$Polynomial;)V"⟩ prog_2_method_10_code 8 none ∈ TB := tb_in2 (i := 154) rfl rfl
theorem k_m_Ar_83 : Cond.methodLink "FieldFactors$Arithmetic" 83 ⟨"FieldFactors$Polynomial", "copyFrom", "(LFieldFactors$Polynomial;)V"⟩ ∈ TB := tb_in2 (i := 155) rfl rfl
theorem k_m_Ar_87 : Cond.methodLink "FieldFactors$Arithmetic" 87 ⟨"FieldFactors$Arithmetic", "divide", "(LFieldFactors$Polynomial;LFieldFactors$Polynomial;LFieldFactors$Polynomial;)V"⟩ ∈ TB := tb_in2 (i := 156) rfl rfl
theorem k_m_Ar_91 : Cond.methodLink "FieldFactors$Arithmetic" 91 ⟨"FieldFactors$Arithmetic", "makeMonic", "(LFieldFactors$Polynomial;)V"⟩ ∈ TB := tb_in2 (i := 157) rfl rfl
theorem k_im_Ar_makeMonic : Cond.instanceMethod ⟨"FieldFactors$Arithmetic", "makeMonic", "(LFieldFactors$Polynomial;)V"⟩ ∈ TB := tb_in2 (i := 158) rfl rfl
theorem k_se_Ar_makeMonic : Cond.selects "FieldFactors$Arithmetic" ⟨"FieldFactors$Arithmetic", "makeMonic", "(LFieldFactors$Polynomial;)V"⟩ ⟨"FieldFactors$Arithmetic", "makeMonic", "(LFieldFactors$Polynomial;)V"⟩ ∈ TB := tb_in2 (i := 159) rfl rfl
theorem k_co_Ar_makeMonic : Cond.code ⟨"FieldFactors$Arithmetic", "makeMonic", "(LFieldFactors$Polynomial;)V"⟩ prog_2_method_6_code 2 none ∈ TB := tb_in2 (i := 160) rfl rfl
theorem k_m_Ar_72 : Cond.methodLink "FieldFactors$Arithmetic" 72 ⟨"FieldFactors$Arithmetic", "scale", "(LFieldFactors$Polynomial;I)V"⟩ ∈ TB := tb_in2 (i := 161) rfl rfl
theorem k_im_Ar_scale : Cond.instanceMethod ⟨"FieldFactors$Arithmetic", "scale", "(LFieldFactors$Polynomial;I)V"⟩ ∈ TB := tb_in2 (i := 162) rfl rfl
theorem k_se_Ar_scale : Cond.selects "FieldFactors$Arithmetic" ⟨"FieldFactors$Arithmetic", "scale", "(LFieldFactors$Polynomial;I)V"⟩ ⟨"FieldFactors$Arithmetic", "scale", "(LFieldFactors$Polynomial;I)V"⟩ ∈ TB := tb_in2 (i := 163) rfl rfl
theorem k_co_Ar_scale : Cond.code ⟨"FieldFactors$Arithmetic", "scale", "(LFieldFactors$Polynomial;I)V"⟩ prog_2_method_5_code 4 none ∈ TB := tb_in2 (i := 164) rfl rfl
theorem k_m_Ff_208 : Cond.methodLink "FieldFactors" 208 ⟨"FieldFactors$Arithmetic", "makeMonic", "(LFieldFactors$Polynomial;)V"⟩ ∈ TB := tb_in2 (i := 165) rfl rfl
theorem k_m_Ff_211 : Cond.methodLink "FieldFactors" 211 ⟨"FieldFactors$Arithmetic", "derive", "(LFieldFactors$Polynomial;LFieldFactors$Polynomial;)V"⟩ ∈ TB := tb_in2 (i := 166) rfl rfl
theorem k_im_Ar_derive : Cond.instanceMethod ⟨"FieldFactors$Arithmetic", "derive", "(LFieldFactors$Polynomial;LFieldFactors$Polynomial;)V"⟩ ∈ TB := tb_in2 (i := 167) rfl rfl
theorem k_se_Ar_derive : Cond.selects "FieldFactors$Arithmetic" ⟨"FieldFactors$Arithmetic", "derive", "(LFieldFactors$Polynomial;LFieldFactors$Polynomial;)V"⟩ ⟨"FieldFactors$Arithmetic", "derive", "(LFieldFactors$Polynomial;LFieldFactors$Polynomial;)V"⟩ ∈ TB := tb_in2 (i := 168) rfl rfl
theorem k_co_Ar_derive : Cond.code ⟨"FieldFactors$Arithmetic", "derive", "(LFieldFactors$Polynomial;LFieldFactors$Polynomial;)V"⟩ prog_2_method_7_code 4 none ∈ TB := tb_in2 (i := 169) rfl rfl
theorem k_m_Ff_109 : Cond.methodLink "FieldFactors" 109 ⟨"FieldFactors", "store", "(LFieldFactors$Polynomial;)I"⟩ ∈ TB := tb_in2 (i := 170) rfl rfl
theorem k_im_Ff_store : Cond.instanceMethod ⟨"FieldFactors", "store", "(LFieldFactors$Polynomial;)I"⟩ ∈ TB := tb_in2 (i := 172) rfl rfl
theorem k_co_Ff_store : Cond.code ⟨"FieldFactors", "store", "(LFieldFactors$Polynomial;)I"⟩ prog_1_method_23_code 2 (Option.some .int) ∈ TB := tb_in2 (i := 173) rfl rfl
theorem k_m_La_87 : Cond.methodLink "FieldFactorsLaw" 87 ⟨"FieldFactorsLaw", "power", "(LFieldFactors;IIII[J)I"⟩ ∈ TB := tb_in2 (i := 174) rfl rfl
theorem k_st_La_power : Cond.static ⟨"FieldFactorsLaw", "power", "(LFieldFactors;IIII[J)I"⟩ ∈ TB := tb_in2 (i := 175) rfl rfl
theorem k_co_La_power : Cond.codeWith ⟨"FieldFactorsLaw", "power", "(LFieldFactors;IIII[J)I"⟩ method_7_code 7 (Option.some .int) [(0, 14, 17, 19), (0, 14, 21, 13)] ∈ TB := tb_in2 (i := 176) rfl rfl
theorem k_m_La_31 : Cond.methodLink "FieldFactorsLaw" 31 ⟨"FieldFactors", "power", "(IIII)I"⟩ ∈ TB := tb_in2 (i := 177) rfl rfl
theorem k_im_Ff_power : Cond.instanceMethod ⟨"FieldFactors", "power", "(IIII)I"⟩ ∈ TB := tb_in2 (i := 178) rfl rfl
theorem k_se_Ff_power : Cond.selects "FieldFactors" ⟨"FieldFactors", "power", "(IIII)I"⟩ ⟨"FieldFactors", "power", "(IIII)I"⟩ ∈ TB := tb_in2 (i := 179) rfl rfl
theorem k_co_Ff_power : Cond.code ⟨"FieldFactors", "power", "(IIII)I"⟩ prog_1_method_6_code 8 (Option.some .int) ∈ TB := tb_in2 (i := 180) rfl rfl
theorem k_m_Ff_115 : Cond.methodLink "FieldFactors" 115 ⟨"FieldFactors", "needDegree", "(LFieldFactors$Polynomial;)V"⟩ ∈ TB := tb_in2 (i := 182) rfl rfl
theorem k_st_Ff_needDegree : Cond.static ⟨"FieldFactors", "needDegree", "(LFieldFactors$Polynomial;)V"⟩ ∈ TB := tb_in2 (i := 183) rfl rfl
theorem k_co_Ff_needDegree : Cond.code ⟨"FieldFactors", "needDegree", "(LFieldFactors$Polynomial;)V"⟩ prog_1_method_18_code 1 none ∈ TB := tb_in2 (i := 184) rfl rfl
theorem k_m_Ff_119 : Cond.methodLink "FieldFactors" 119 ⟨"FieldFactors$Arithmetic", "raise", "(LFieldFactors$Polynomial;LFieldFactors$Polynomial;ILFieldFactors$Polynomial;)V"⟩ ∈ TB := tb_in2 (i := 186) rfl rfl
theorem k_im_Ar_raise : Cond.instanceMethod ⟨"FieldFactors$Arithmetic", "raise", "(LFieldFactors$Polynomial;LFieldFactors$Polynomial;ILFieldFactors$Polynomial;)V"⟩ ∈ TB := tb_in2 (i := 187) rfl rfl
theorem k_se_Ar_raise : Cond.selects "FieldFactors$Arithmetic" ⟨"FieldFactors$Arithmetic", "raise", "(LFieldFactors$Polynomial;LFieldFactors$Polynomial;ILFieldFactors$Polynomial;)V"⟩ ⟨"FieldFactors$Arithmetic", "raise", "(LFieldFactors$Polynomial;LFieldFactors$Polynomial;ILFieldFactors$Polynomial;)V"⟩ ∈ TB := tb_in2 (i := 188) rfl rfl
theorem k_co_Ar_raise : Cond.code ⟨"FieldFactors$Arithmetic", "raise", "(LFieldFactors$Polynomial;LFieldFactors$Polynomial;ILFieldFactors$Polynomial;)V"⟩ prog_2_method_13_code 7 none ∈ TB := tb_in2 (i := 189) rfl rfl
theorem k_m_Ar_98 : Cond.methodLink "FieldFactors$Arithmetic" 98 ⟨"FieldFactors$Polynomial", "becomePowerOfX", "(I)V"⟩ ∈ TB := tb_in2 (i := 190) rfl rfl
theorem k_m_Ar_101 : Cond.methodLink "FieldFactors$Arithmetic" 101 ⟨"FieldFactors$Arithmetic", "multiply", "(LFieldFactors$Polynomial;LFieldFactors$Polynomial;LFieldFactors$Polynomial;LFieldFactors$Polynomial;)V"⟩ ∈ TB := tb_in2 (i := 191) rfl rfl
theorem k_im_Ar_multiply : Cond.instanceMethod ⟨"FieldFactors$Arithmetic", "multiply", "(LFieldFactors$Polynomial;LFieldFactors$Polynomial;LFieldFactors$Polynomial;LFieldFactors$Polynomial;)V"⟩ ∈ TB := tb_in2 (i := 192) rfl rfl
theorem k_se_Ar_multiply : Cond.selects "FieldFactors$Arithmetic" ⟨"FieldFactors$Arithmetic", "multiply", "(LFieldFactors$Polynomial;LFieldFactors$Polynomial;LFieldFactors$Polynomial;LFieldFactors$Polynomial;)V"⟩ ⟨"FieldFactors$Arithmetic", "multiply", "(LFieldFactors$Polynomial;LFieldFactors$Polynomial;LFieldFactors$Polynomial;LFieldFactors$Polynomial;)V"⟩ ∈ TB := tb_in2 (i := 193) rfl rfl
theorem k_co_Ar_multiply : Cond.code ⟨"FieldFactors$Arithmetic", "multiply", "(LFieldFactors$Polynomial;LFieldFactors$Polynomial;LFieldFactors$Polynomial;LFieldFactors$Polynomial;)V"⟩ prog_2_method_11_code 5 none ∈ TB := tb_in2 (i := 194) rfl rfl
theorem k_m_Ar_94 : Cond.methodLink "FieldFactors$Arithmetic" 94 ⟨"FieldFactors$Arithmetic", "addProduct", "(LFieldFactors$Polynomial;ILFieldFactors$Polynomial;LFieldFactors$Polynomial;)V"⟩ ∈ TB := tb_in2 (i := 195) rfl rfl
theorem k_m_La_90 : Cond.methodLink "FieldFactorsLaw" 90 ⟨"FieldFactorsLaw", "inverse", "(LFieldFactors;III[J)I"⟩ ∈ TB := tb_in2 (i := 196) rfl rfl
theorem k_st_La_inverse : Cond.static ⟨"FieldFactorsLaw", "inverse", "(LFieldFactors;III[J)I"⟩ ∈ TB := tb_in2 (i := 197) rfl rfl
theorem k_co_La_inverse : Cond.codeWith ⟨"FieldFactorsLaw", "inverse", "(LFieldFactors;III[J)I"⟩ method_8_code 6 (Option.some .int) [(0, 12, 15, 19), (0, 12, 19, 13), (0, 12, 23, 37)] ∈ TB := tb_in2 (i := 198) rfl rfl
theorem k_c_La_37 : Cond.classLink "FieldFactorsLaw" 37 "java/lang/IllegalStateException" ∈ TB := tb_in2 (i := 199) rfl rfl
theorem k_m_La_34 : Cond.methodLink "FieldFactorsLaw" 34 ⟨"FieldFactors", "inverse", "(III)I"⟩ ∈ TB := tb_in2 (i := 200) rfl rfl
theorem k_im_Ff_inverse : Cond.instanceMethod ⟨"FieldFactors", "inverse", "(III)I"⟩ ∈ TB := tb_in2 (i := 201) rfl rfl
theorem k_se_Ff_inverse : Cond.selects "FieldFactors" ⟨"FieldFactors", "inverse", "(III)I"⟩ ⟨"FieldFactors", "inverse", "(III)I"⟩ ∈ TB := tb_in2 (i := 202) rfl rfl
theorem k_co_Ff_inverse : Cond.code ⟨"FieldFactors", "inverse", "(III)I"⟩ prog_1_method_7_code 7 (Option.some .int) ∈ TB := tb_in2 (i := 203) rfl rfl
theorem k_m_Ff_123 : Cond.methodLink "FieldFactors" 123 ⟨"FieldFactors$Arithmetic", "invert", "(LFieldFactors$Polynomial;LFieldFactors$Polynomial;LFieldFactors$Polynomial;)Z"⟩ ∈ TB := tb_in2 (i := 204) rfl rfl
theorem k_im_Ar_invert : Cond.instanceMethod ⟨"FieldFactors$Arithmetic", "invert", "(LFieldFactors$Polynomial;LFieldFactors$Polynomial;LFieldFactors$Polynomial;)Z"⟩ ∈ TB := tb_in2 (i := 205) rfl rfl
theorem k_se_Ar_invert : Cond.selects "FieldFactors$Arithmetic" ⟨"FieldFactors$Arithmetic", "invert", "(LFieldFactors$Polynomial;LFieldFactors$Polynomial;LFieldFactors$Polynomial;)Z"⟩ ⟨"FieldFactors$Arithmetic", "invert", "(LFieldFactors$Polynomial;LFieldFactors$Polynomial;LFieldFactors$Polynomial;)Z"⟩ ∈ TB := tb_in2 (i := 206) rfl rfl
theorem k_co_Ar_invert : Cond.code ⟨"FieldFactors$Arithmetic", "invert", "(LFieldFactors$Polynomial;LFieldFactors$Polynomial;LFieldFactors$Polynomial;)Z"⟩ prog_2_method_14_code 11 (Option.some .boolean) ∈ TB := tb_in2 (i := 207) rfl rfl
theorem k_c_Ff_127 : Cond.classLink "FieldFactors" 127 "java/lang/IllegalStateException" ∈ TB := tb_in2 (i := 208) rfl rfl
theorem k_n_IllegalStateException : Cond.instantiable "java/lang/IllegalStateException" 6 ∈ TB := tb_in2 (i := 209) rfl rfl
theorem k_m_Ff_131 : Cond.methodLink "FieldFactors" 131 ⟨"java/lang/IllegalStateException", "<init>", "(Ljava/lang/String;)V"⟩ ∈ TB := tb_in2 (i := 218) rfl rfl
theorem k_im_IllegalStateException_init : Cond.instanceMethod ⟨"java/lang/IllegalStateException", "<init>", "(Ljava/lang/String;)V"⟩ ∈ TB := tb_in2 (i := 219) rfl rfl
theorem k_co_IllegalStateException_init : Cond.code ⟨"java/lang/IllegalStateException", "<init>", "(Ljava/lang/String;)V"⟩ prog_11_method_2_code 2 none ∈ TB := tb_in2 (i := 220) rfl rfl
theorem k_m_La_93 : Cond.methodLink "FieldFactorsLaw" 93 ⟨"FieldFactorsLaw", "value", "(LFieldFactors;II[J)I"⟩ ∈ TB := tb_in2 (i := 224) rfl rfl
theorem k_st_La_value : Cond.static ⟨"FieldFactorsLaw", "value", "(LFieldFactors;II[J)I"⟩ ∈ TB := tb_in2 (i := 225) rfl rfl
theorem k_co_La_value : Cond.codeWith ⟨"FieldFactorsLaw", "value", "(LFieldFactors;II[J)I"⟩ method_9_code 5 (Option.some .int) [(0, 10, 13, 19)] ∈ TB := tb_in2 (i := 226) rfl rfl
theorem k_m_La_39 : Cond.methodLink "FieldFactorsLaw" 39 ⟨"FieldFactors", "value", "(II)I"⟩ ∈ TB := tb_in2 (i := 227) rfl rfl
theorem k_im_Ff_value : Cond.instanceMethod ⟨"FieldFactors", "value", "(II)I"⟩ ∈ TB := tb_in2 (i := 228) rfl rfl
theorem k_se_Ff_value : Cond.selects "FieldFactors" ⟨"FieldFactors", "value", "(II)I"⟩ ⟨"FieldFactors", "value", "(II)I"⟩ ∈ TB := tb_in2 (i := 229) rfl rfl
theorem k_co_Ff_value : Cond.code ⟨"FieldFactors", "value", "(II)I"⟩ prog_1_method_8_code 3 (Option.some .int) ∈ TB := tb_in2 (i := 230) rfl rfl
theorem k_m_Ff_132 : Cond.methodLink "FieldFactors" 132 ⟨"FieldFactors$Arithmetic", "evaluate", "(LFieldFactors$Polynomial;I)I"⟩ ∈ TB := tb_in2 (i := 231) rfl rfl
theorem k_im_Ar_evaluate : Cond.instanceMethod ⟨"FieldFactors$Arithmetic", "evaluate", "(LFieldFactors$Polynomial;I)I"⟩ ∈ TB := tb_in2 (i := 232) rfl rfl
theorem k_se_Ar_evaluate : Cond.selects "FieldFactors$Arithmetic" ⟨"FieldFactors$Arithmetic", "evaluate", "(LFieldFactors$Polynomial;I)I"⟩ ⟨"FieldFactors$Arithmetic", "evaluate", "(LFieldFactors$Polynomial;I)I"⟩ ∈ TB := tb_in2 (i := 233) rfl rfl
theorem k_co_Ar_evaluate : Cond.code ⟨"FieldFactors$Arithmetic", "evaluate", "(LFieldFactors$Polynomial;I)I"⟩ prog_2_method_8_code 5 (Option.some .int) ∈ TB := tb_in2 (i := 234) rfl rfl
theorem k_m_La_96 : Cond.methodLink "FieldFactorsLaw" 96 ⟨"FieldFactorsLaw", "zeros", "(LFieldFactors;I[J)I"⟩ ∈ TB := tb_in2 (i := 235) rfl rfl
theorem k_st_La_zeros : Cond.static ⟨"FieldFactorsLaw", "zeros", "(LFieldFactors;I[J)I"⟩ ∈ TB := tb_in2 (i := 236) rfl rfl
theorem k_co_La_zeros : Cond.codeWith ⟨"FieldFactorsLaw", "zeros", "(LFieldFactors;I[J)I"⟩ method_10_code 4 (Option.some .int) [(0, 9, 12, 19)] ∈ TB := tb_in2 (i := 237) rfl rfl
theorem k_m_La_42 : Cond.methodLink "FieldFactorsLaw" 42 ⟨"FieldFactors", "zeros", "(I)I"⟩ ∈ TB := tb_in2 (i := 238) rfl rfl
theorem k_im_Ff_zeros : Cond.instanceMethod ⟨"FieldFactors", "zeros", "(I)I"⟩ ∈ TB := tb_in2 (i := 239) rfl rfl
theorem k_se_Ff_zeros : Cond.selects "FieldFactors" ⟨"FieldFactors", "zeros", "(I)I"⟩ ⟨"FieldFactors", "zeros", "(I)I"⟩ ∈ TB := tb_in3 (i := 0) rfl rfl
theorem k_co_Ff_zeros : Cond.code ⟨"FieldFactors", "zeros", "(I)I"⟩ prog_1_method_9_code 5 (Option.some .int) ∈ TB := tb_in3 (i := 1) rfl rfl
theorem k_m_La_99 : Cond.methodLink "FieldFactorsLaw" 99 ⟨"FieldFactorsLaw", "factor", "(LFieldFactors;I[J)I"⟩ ∈ TB := tb_in3 (i := 2) rfl rfl
theorem k_st_La_factor : Cond.static ⟨"FieldFactorsLaw", "factor", "(LFieldFactors;I[J)I"⟩ ∈ TB := tb_in3 (i := 3) rfl rfl
theorem k_co_La_factor : Cond.codeWith ⟨"FieldFactorsLaw", "factor", "(LFieldFactors;I[J)I"⟩ method_11_code 4 (Option.some .int) [(0, 9, 12, 19), (0, 9, 15, 13)] ∈ TB := tb_in3 (i := 4) rfl rfl
theorem k_m_La_45 : Cond.methodLink "FieldFactorsLaw" 45 ⟨"FieldFactors", "factor", "(I)I"⟩ ∈ TB := tb_in3 (i := 5) rfl rfl
theorem k_im_Ff_factor : Cond.instanceMethod ⟨"FieldFactors", "factor", "(I)I"⟩ ∈ TB := tb_in3 (i := 6) rfl rfl
theorem k_se_Ff_factor : Cond.selects "FieldFactors" ⟨"FieldFactors", "factor", "(I)I"⟩ ⟨"FieldFactors", "factor", "(I)I"⟩ ∈ TB := tb_in3 (i := 7) rfl rfl
theorem k_co_Ff_factor : Cond.code ⟨"FieldFactors", "factor", "(I)I"⟩ prog_1_method_10_code 3 (Option.some .int) ∈ TB := tb_in3 (i := 8) rfl rfl
theorem k_m_Ff_136 : Cond.methodLink "FieldFactors" 136 ⟨"FieldFactors", "needNotZero", "(LFieldFactors$Polynomial;)V"⟩ ∈ TB := tb_in3 (i := 9) rfl rfl
theorem k_st_Ff_needNotZero : Cond.static ⟨"FieldFactors", "needNotZero", "(LFieldFactors$Polynomial;)V"⟩ ∈ TB := tb_in3 (i := 10) rfl rfl
theorem k_co_Ff_needNotZero : Cond.code ⟨"FieldFactors", "needNotZero", "(LFieldFactors$Polynomial;)V"⟩ prog_1_method_19_code 1 none ∈ TB := tb_in3 (i := 11) rfl rfl
theorem k_m_Ff_139 : Cond.methodLink "FieldFactors" 139 ⟨"FieldFactors", "highestCutDegree", "()I"⟩ ∈ TB := tb_in3 (i := 13) rfl rfl
theorem k_im_Ff_highestCutDegree : Cond.instanceMethod ⟨"FieldFactors", "highestCutDegree", "()I"⟩ ∈ TB := tb_in3 (i := 15) rfl rfl
theorem k_co_Ff_highestCutDegree : Cond.code ⟨"FieldFactors", "highestCutDegree", "()I"⟩ prog_1_method_21_code 2 (Option.some .int) ∈ TB := tb_in3 (i := 16) rfl rfl
theorem k_f_Ff_187 : Cond.fieldLink "FieldFactors" 187 "FieldFactors" "CUT_DEGREES" "[I" ∈ TB := tb_in3 (i := 17) rfl rfl
theorem k_m_Ff_145 : Cond.methodLink "FieldFactors" 145 ⟨"FieldFactors$Cutter", "cut", "(LFieldFactors$Polynomial;)V"⟩ ∈ TB := tb_in3 (i := 20) rfl rfl
theorem k_im_Cu_cut : Cond.instanceMethod ⟨"FieldFactors$Cutter", "cut", "(LFieldFactors$Polynomial;)V"⟩ ∈ TB := tb_in3 (i := 21) rfl rfl
theorem k_se_Cu_cut : Cond.selects "FieldFactors$Cutter" ⟨"FieldFactors$Cutter", "cut", "(LFieldFactors$Polynomial;)V"⟩ ⟨"FieldFactors$Cutter", "cut", "(LFieldFactors$Polynomial;)V"⟩ ∈ TB := tb_in3 (i := 22) rfl rfl
theorem k_co_Cu_cut : Cond.code ⟨"FieldFactors$Cutter", "cut", "(LFieldFactors$Polynomial;)V"⟩ prog_3_method_4_code 4 none ∈ TB := tb_in3 (i := 23) rfl rfl
theorem k_m_Cu_66 : Cond.methodLink "FieldFactors$Cutter" 66 ⟨"FieldFactors$Polynomial", "copyFrom", "(LFieldFactors$Polynomial;)V"⟩ ∈ TB := tb_in3 (i := 24) rfl rfl
theorem k_m_Cu_73 : Cond.methodLink "FieldFactors$Cutter" 73 ⟨"FieldFactors$Arithmetic", "makeMonic", "(LFieldFactors$Polynomial;)V"⟩ ∈ TB := tb_in3 (i := 25) rfl rfl
theorem k_m_Cu_70 : Cond.methodLink "FieldFactors$Cutter" 70 ⟨"FieldFactors$Cutter", "gatherNextDegree", "(LFieldFactors$Polynomial;)V"⟩ ∈ TB := tb_in3 (i := 26) rfl rfl
theorem k_im_Cu_gatherNextDegree : Cond.instanceMethod ⟨"FieldFactors$Cutter", "gatherNextDegree", "(LFieldFactors$Polynomial;)V"⟩ ∈ TB := tb_in3 (i := 28) rfl rfl
theorem k_co_Cu_gatherNextDegree : Cond.code ⟨"FieldFactors$Cutter", "gatherNextDegree", "(LFieldFactors$Polynomial;)V"⟩ prog_3_method_6_code 2 none ∈ TB := tb_in3 (i := 29) rfl rfl
theorem k_m_Cu_109 : Cond.methodLink "FieldFactors$Cutter" 109 ⟨"FieldFactors$Arithmetic", "raiseToP", "(LFieldFactors$Polynomial;LFieldFactors$Polynomial;)V"⟩ ∈ TB := tb_in3 (i := 30) rfl rfl
theorem k_im_Ar_raiseToP : Cond.instanceMethod ⟨"FieldFactors$Arithmetic", "raiseToP", "(LFieldFactors$Polynomial;LFieldFactors$Polynomial;)V"⟩ ∈ TB := tb_in3 (i := 31) rfl rfl
theorem k_se_Ar_raiseToP : Cond.selects "FieldFactors$Arithmetic" ⟨"FieldFactors$Arithmetic", "raiseToP", "(LFieldFactors$Polynomial;LFieldFactors$Polynomial;)V"⟩ ⟨"FieldFactors$Arithmetic", "raiseToP", "(LFieldFactors$Polynomial;LFieldFactors$Polynomial;)V"⟩ ∈ TB := tb_in3 (i := 32) rfl rfl
theorem k_co_Ar_raiseToP : Cond.code ⟨"FieldFactors$Arithmetic", "raiseToP", "(LFieldFactors$Polynomial;LFieldFactors$Polynomial;)V"⟩ prog_2_method_12_code 4 none ∈ TB := tb_in3 (i := 33) rfl rfl
theorem k_m_Cu_113 : Cond.methodLink "FieldFactors$Cutter" 113 ⟨"FieldFactors$Arithmetic", "addShifted", "(LFieldFactors$Polynomial;IILFieldFactors$Polynomial;)V"⟩ ∈ TB := tb_in3 (i := 34) rfl rfl
theorem k_m_Cu_117 : Cond.methodLink "FieldFactors$Cutter" 117 ⟨"FieldFactors$Arithmetic", "findCommonDivisor", "(LFieldFactors$Polynomial;LFieldFactors$Polynomial;LFieldFactors$Polynomial;)V"⟩ ∈ TB := tb_in3 (i := 35) rfl rfl
theorem k_m_Cu_78 : Cond.methodLink "FieldFactors$Cutter" 78 ⟨"FieldFactors$Cutter", "split", "(I)V"⟩ ∈ TB := tb_in3 (i := 36) rfl rfl
theorem k_im_Cu_split : Cond.instanceMethod ⟨"FieldFactors$Cutter", "split", "(I)V"⟩ ∈ TB := tb_in3 (i := 38) rfl rfl
theorem k_co_Cu_split : Cond.code ⟨"FieldFactors$Cutter", "split", "(I)V"⟩ prog_3_method_7_code 5 none ∈ TB := tb_in3 (i := 39) rfl rfl
theorem k_m_Cu_84 : Cond.methodLink "FieldFactors$Cutter" 84 ⟨"FieldFactors$Cutter", "append", "(LFieldFactors$Polynomial;I)V"⟩ ∈ TB := tb_in3 (i := 40) rfl rfl
theorem k_im_Cu_append : Cond.instanceMethod ⟨"FieldFactors$Cutter", "append", "(LFieldFactors$Polynomial;I)V"⟩ ∈ TB := tb_in3 (i := 42) rfl rfl
theorem k_co_Cu_append : Cond.code ⟨"FieldFactors$Cutter", "append", "(LFieldFactors$Polynomial;I)V"⟩ prog_3_method_10_code 3 none ∈ TB := tb_in3 (i := 43) rfl rfl
theorem k_m_Cu_121 : Cond.methodLink "FieldFactors$Cutter" 121 ⟨"FieldFactors$Arithmetic", "multiply", "(LFieldFactors$Polynomial;LFieldFactors$Polynomial;LFieldFactors$Polynomial;LFieldFactors$Polynomial;)V"⟩ ∈ TB := tb_in3 (i := 44) rfl rfl
theorem k_m_Cu_125 : Cond.methodLink "FieldFactors$Cutter" 125 ⟨"FieldFactors$Cutter", "findTrace", "(I)V"⟩ ∈ TB := tb_in3 (i := 45) rfl rfl
theorem k_im_Cu_findTrace : Cond.instanceMethod ⟨"FieldFactors$Cutter", "findTrace", "(I)V"⟩ ∈ TB := tb_in3 (i := 47) rfl rfl
theorem k_co_Cu_findTrace : Cond.code ⟨"FieldFactors$Cutter", "findTrace", "(I)V"⟩ prog_3_method_8_code 3 none ∈ TB := tb_in3 (i := 48) rfl rfl
theorem k_m_Cu_128 : Cond.methodLink "FieldFactors$Cutter" 128 ⟨"FieldFactors$Cutter", "splitByTrace", "(II)V"⟩ ∈ TB := tb_in3 (i := 49) rfl rfl
theorem k_im_Cu_splitByTrace : Cond.instanceMethod ⟨"FieldFactors$Cutter", "splitByTrace", "(II)V"⟩ ∈ TB := tb_in3 (i := 51) rfl rfl
theorem k_co_Cu_splitByTrace : Cond.code ⟨"FieldFactors$Cutter", "splitByTrace", "(II)V"⟩ prog_3_method_9_code 6 none ∈ TB := tb_in3 (i := 52) rfl rfl
theorem k_m_Cu_131 : Cond.methodLink "FieldFactors$Cutter" 131 ⟨"FieldFactors$Arithmetic", "divide", "(LFieldFactors$Polynomial;LFieldFactors$Polynomial;LFieldFactors$Polynomial;)V"⟩ ∈ TB := tb_in3 (i := 53) rfl rfl
theorem k_m_Cu_81 : Cond.methodLink "FieldFactors$Cutter" 81 ⟨"FieldFactors$Cutter", "takeOutFactors", "(I)V"⟩ ∈ TB := tb_in3 (i := 54) rfl rfl
theorem k_im_Cu_takeOutFactors : Cond.instanceMethod ⟨"FieldFactors$Cutter", "takeOutFactors", "(I)V"⟩ ∈ TB := tb_in3 (i := 56) rfl rfl
theorem k_co_Cu_takeOutFactors : Cond.code ⟨"FieldFactors$Cutter", "takeOutFactors", "(I)V"⟩ prog_3_method_11_code 3 none ∈ TB := tb_in3 (i := 57) rfl rfl
theorem k_m_Cu_98 : Cond.methodLink "FieldFactors$Cutter" 98 ⟨"FieldFactors$Arithmetic", "takeOut", "(LFieldFactors$Polynomial;LFieldFactors$Polynomial;)I"⟩ ∈ TB := tb_in3 (i := 58) rfl rfl
theorem k_im_Ar_takeOut : Cond.instanceMethod ⟨"FieldFactors$Arithmetic", "takeOut", "(LFieldFactors$Polynomial;LFieldFactors$Polynomial;)I"⟩ ∈ TB := tb_in3 (i := 59) rfl rfl
theorem k_se_Ar_takeOut : Cond.selects "FieldFactors$Arithmetic" ⟨"FieldFactors$Arithmetic", "takeOut", "(LFieldFactors$Polynomial;LFieldFactors$Polynomial;)I"⟩ ⟨"FieldFactors$Arithmetic", "takeOut", "(LFieldFactors$Polynomial;LFieldFactors$Polynomial;)I"⟩ ∈ TB := tb_in3 (i := 60) rfl rfl
theorem k_co_Ar_takeOut : Cond.code ⟨"FieldFactors$Arithmetic", "takeOut", "(LFieldFactors$Polynomial;LFieldFactors$Polynomial;)I"⟩ prog_2_method_15_code 4 (Option.some .int) ∈ TB := tb_in3 (i := 61) rfl rfl
theorem k_m_Cu_88 : Cond.methodLink "FieldFactors$Cutter" 88 ⟨"FieldFactors$Cutter", "sort", "()V"⟩ ∈ TB := tb_in3 (i := 62) rfl rfl
theorem k_im_Cu_sort : Cond.instanceMethod ⟨"FieldFactors$Cutter", "sort", "()V"⟩ ∈ TB := tb_in3 (i := 64) rfl rfl
theorem k_co_Cu_sort : Cond.code ⟨"FieldFactors$Cutter", "sort", "()V"⟩ prog_3_method_12_code 3 none ∈ TB := tb_in3 (i := 65) rfl rfl
theorem k_m_Cu_134 : Cond.methodLink "FieldFactors$Cutter" 134 ⟨"FieldFactors$Polynomial", "comesBefore", "(LFieldFactors$Polynomial;)Z"⟩ ∈ TB := tb_in3 (i := 66) rfl rfl
theorem k_im_Po_comesBefore : Cond.instanceMethod ⟨"FieldFactors$Polynomial", "comesBefore", "(LFieldFactors$Polynomial;)Z"⟩ ∈ TB := tb_in3 (i := 67) rfl rfl
theorem k_se_Po_comesBefore : Cond.selects "FieldFactors$Polynomial" ⟨"FieldFactors$Polynomial", "comesBefore", "(LFieldFactors$Polynomial;)Z"⟩ ⟨"FieldFactors$Polynomial", "comesBefore", "(LFieldFactors$Polynomial;)Z"⟩ ∈ TB := tb_in3 (i := 68) rfl rfl
theorem k_co_Po_comesBefore : Cond.code ⟨"FieldFactors$Polynomial", "comesBefore", "(LFieldFactors$Polynomial;)Z"⟩ prog_5_method_8_code 3 (Option.some .boolean) ∈ TB := tb_in3 (i := 69) rfl rfl
theorem k_m_Cu_138 : Cond.methodLink "FieldFactors$Cutter" 138 ⟨"FieldFactors$Cutter", "swap", "(II)V"⟩ ∈ TB := tb_in3 (i := 70) rfl rfl
theorem k_im_Cu_swap : Cond.instanceMethod ⟨"FieldFactors$Cutter", "swap", "(II)V"⟩ ∈ TB := tb_in3 (i := 72) rfl rfl
theorem k_co_Cu_swap : Cond.code ⟨"FieldFactors$Cutter", "swap", "(II)V"⟩ prog_3_method_13_code 5 none ∈ TB := tb_in3 (i := 73) rfl rfl
theorem k_m_La_102 : Cond.methodLink "FieldFactorsLaw" 102 ⟨"FieldFactorsLaw", "piece", "(LFieldFactors;II[J)I"⟩ ∈ TB := tb_in3 (i := 74) rfl rfl
theorem k_st_La_piece : Cond.static ⟨"FieldFactorsLaw", "piece", "(LFieldFactors;II[J)I"⟩ ∈ TB := tb_in3 (i := 75) rfl rfl
theorem k_co_La_piece : Cond.codeWith ⟨"FieldFactorsLaw", "piece", "(LFieldFactors;II[J)I"⟩ method_12_code 5 (Option.some .int) [(0, 10, 13, 19)] ∈ TB := tb_in3 (i := 76) rfl rfl
theorem k_m_La_48 : Cond.methodLink "FieldFactorsLaw" 48 ⟨"FieldFactors", "piece", "(II)I"⟩ ∈ TB := tb_in3 (i := 77) rfl rfl
theorem k_im_Ff_piece : Cond.instanceMethod ⟨"FieldFactors", "piece", "(II)I"⟩ ∈ TB := tb_in3 (i := 78) rfl rfl
theorem k_se_Ff_piece : Cond.selects "FieldFactors" ⟨"FieldFactors", "piece", "(II)I"⟩ ⟨"FieldFactors", "piece", "(II)I"⟩ ∈ TB := tb_in3 (i := 79) rfl rfl
theorem k_co_Ff_piece : Cond.code ⟨"FieldFactors", "piece", "(II)I"⟩ prog_1_method_11_code 4 (Option.some .int) ∈ TB := tb_in3 (i := 80) rfl rfl
theorem k_m_La_105 : Cond.methodLink "FieldFactorsLaw" 105 ⟨"FieldFactorsLaw", "irreducible", "(LFieldFactors;I[J)I"⟩ ∈ TB := tb_in3 (i := 82) rfl rfl
theorem k_st_La_irreducible : Cond.static ⟨"FieldFactorsLaw", "irreducible", "(LFieldFactors;I[J)I"⟩ ∈ TB := tb_in3 (i := 83) rfl rfl
theorem k_co_La_irreducible : Cond.codeWith ⟨"FieldFactorsLaw", "irreducible", "(LFieldFactors;I[J)I"⟩ method_13_code 4 (Option.some .int) [(0, 16, 19, 19)] ∈ TB := tb_in3 (i := 84) rfl rfl
theorem k_m_La_51 : Cond.methodLink "FieldFactorsLaw" 51 ⟨"FieldFactors", "irreducible", "(I)Z"⟩ ∈ TB := tb_in3 (i := 85) rfl rfl
theorem k_im_Ff_irreducible : Cond.instanceMethod ⟨"FieldFactors", "irreducible", "(I)Z"⟩ ∈ TB := tb_in3 (i := 86) rfl rfl
theorem k_se_Ff_irreducible : Cond.selects "FieldFactors" ⟨"FieldFactors", "irreducible", "(I)Z"⟩ ⟨"FieldFactors", "irreducible", "(I)Z"⟩ ∈ TB := tb_in3 (i := 87) rfl rfl
theorem k_co_Ff_irreducible : Cond.code ⟨"FieldFactors", "irreducible", "(I)Z"⟩ prog_1_method_12_code 2 (Option.some .boolean) ∈ TB := tb_in3 (i := 88) rfl rfl
theorem k_m_Ff_165 : Cond.methodLink "FieldFactors" 165 ⟨"FieldFactors$Cutter", "cannotBeCut", "(LFieldFactors$Polynomial;)Z"⟩ ∈ TB := tb_in3 (i := 89) rfl rfl
theorem k_im_Cu_cannotBeCut : Cond.instanceMethod ⟨"FieldFactors$Cutter", "cannotBeCut", "(LFieldFactors$Polynomial;)Z"⟩ ∈ TB := tb_in3 (i := 90) rfl rfl
theorem k_se_Cu_cannotBeCut : Cond.selects "FieldFactors$Cutter" ⟨"FieldFactors$Cutter", "cannotBeCut", "(LFieldFactors$Polynomial;)Z"⟩ ⟨"FieldFactors$Cutter", "cannotBeCut", "(LFieldFactors$Polynomial;)Z"⟩ ∈ TB := tb_in3 (i := 91) rfl rfl
theorem k_co_Cu_cannotBeCut : Cond.code ⟨"FieldFactors$Cutter", "cannotBeCut", "(LFieldFactors$Polynomial;)Z"⟩ prog_3_method_3_code 3 (Option.some .boolean) ∈ TB := tb_in3 (i := 92) rfl rfl
theorem k_m_La_108 : Cond.methodLink "FieldFactorsLaw" 108 ⟨"FieldFactorsLaw", "order", "(LFieldFactors;I[J)I"⟩ ∈ TB := tb_in3 (i := 93) rfl rfl
theorem k_st_La_order : Cond.static ⟨"FieldFactorsLaw", "order", "(LFieldFactors;I[J)I"⟩ ∈ TB := tb_in3 (i := 94) rfl rfl
theorem k_co_La_order : Cond.codeWith ⟨"FieldFactorsLaw", "order", "(LFieldFactors;I[J)I"⟩ method_14_code 4 (Option.some .int) [(0, 9, 12, 19), (0, 9, 15, 13)] ∈ TB := tb_in3 (i := 95) rfl rfl
theorem k_m_La_55 : Cond.methodLink "FieldFactorsLaw" 55 ⟨"FieldFactors", "order", "(I)I"⟩ ∈ TB := tb_in3 (i := 96) rfl rfl
theorem k_im_Ff_order : Cond.instanceMethod ⟨"FieldFactors", "order", "(I)I"⟩ ∈ TB := tb_in3 (i := 97) rfl rfl
theorem k_se_Ff_order : Cond.selects "FieldFactors" ⟨"FieldFactors", "order", "(I)I"⟩ ⟨"FieldFactors", "order", "(I)I"⟩ ∈ TB := tb_in3 (i := 98) rfl rfl
theorem k_co_Ff_order : Cond.code ⟨"FieldFactors", "order", "(I)I"⟩ prog_1_method_13_code 3 (Option.some .int) ∈ TB := tb_in3 (i := 99) rfl rfl
theorem k_m_Ff_169 : Cond.methodLink "FieldFactors" 169 ⟨"FieldFactors$OrderSearch", "search", "(LFieldFactors$Polynomial;)I"⟩ ∈ TB := tb_in3 (i := 100) rfl rfl
theorem k_im_Os_search : Cond.instanceMethod ⟨"FieldFactors$OrderSearch", "search", "(LFieldFactors$Polynomial;)I"⟩ ∈ TB := tb_in3 (i := 101) rfl rfl
theorem k_se_Os_search : Cond.selects "FieldFactors$OrderSearch" ⟨"FieldFactors$OrderSearch", "search", "(LFieldFactors$Polynomial;)I"⟩ ⟨"FieldFactors$OrderSearch", "search", "(LFieldFactors$Polynomial;)I"⟩ ∈ TB := tb_in3 (i := 102) rfl rfl
theorem k_co_Os_search : Cond.code ⟨"FieldFactors$OrderSearch", "search", "(LFieldFactors$Polynomial;)I"⟩ prog_4_method_2_code 3 (Option.some .int) ∈ TB := tb_in3 (i := 103) rfl rfl
theorem k_m_Os_44 : Cond.methodLink "FieldFactors$OrderSearch" 44 ⟨"FieldFactors$OrderSearch", "takeShortSteps", "(LFieldFactors$Polynomial;)I"⟩ ∈ TB := tb_in3 (i := 104) rfl rfl
theorem k_im_Os_takeShortSteps : Cond.instanceMethod ⟨"FieldFactors$OrderSearch", "takeShortSteps", "(LFieldFactors$Polynomial;)I"⟩ ∈ TB := tb_in3 (i := 106) rfl rfl
theorem k_co_Os_takeShortSteps : Cond.code ⟨"FieldFactors$OrderSearch", "takeShortSteps", "(LFieldFactors$Polynomial;)I"⟩ prog_4_method_3_code 3 (Option.some .int) ∈ TB := tb_in3 (i := 107) rfl rfl
theorem k_m_Os_51 : Cond.methodLink "FieldFactors$OrderSearch" 51 ⟨"FieldFactors$Polynomial", "isOne", "()Z"⟩ ∈ TB := tb_in3 (i := 108) rfl rfl
theorem k_im_Po_isOne : Cond.instanceMethod ⟨"FieldFactors$Polynomial", "isOne", "()Z"⟩ ∈ TB := tb_in3 (i := 109) rfl rfl
theorem k_se_Po_isOne : Cond.selects "FieldFactors$Polynomial" ⟨"FieldFactors$Polynomial", "isOne", "()Z"⟩ ⟨"FieldFactors$Polynomial", "isOne", "()Z"⟩ ∈ TB := tb_in3 (i := 110) rfl rfl
theorem k_co_Po_isOne : Cond.code ⟨"FieldFactors$Polynomial", "isOne", "()Z"⟩ prog_5_method_7_code 1 (Option.some .boolean) ∈ TB := tb_in3 (i := 111) rfl rfl
theorem k_m_Os_55 : Cond.methodLink "FieldFactors$OrderSearch" 55 ⟨"FieldFactors$OrderSearch", "code", "(I)J"⟩ ∈ TB := tb_in3 (i := 112) rfl rfl
theorem k_im_Os_code : Cond.instanceMethod ⟨"FieldFactors$OrderSearch", "code", "(I)J"⟩ ∈ TB := tb_in3 (i := 114) rfl rfl
theorem k_co_Os_code : Cond.code ⟨"FieldFactors$OrderSearch", "code", "(I)J"⟩ prog_4_method_6_code 5 (Option.some .long) ∈ TB := tb_in3 (i := 115) rfl rfl
theorem k_m_Os_59 : Cond.methodLink "FieldFactors$OrderSearch" 59 ⟨"FieldFactors$Arithmetic", "multiply", "(LFieldFactors$Polynomial;LFieldFactors$Polynomial;LFieldFactors$Polynomial;LFieldFactors$Polynomial;)V"⟩ ∈ TB := tb_in3 (i := 116) rfl rfl
theorem k_m_Os_48 : Cond.methodLink "FieldFactors$OrderSearch" 48 ⟨"FieldFactors$OrderSearch", "takeLongSteps", "(LFieldFactors$Polynomial;)I"⟩ ∈ TB := tb_in3 (i := 117) rfl rfl
theorem k_im_Os_takeLongSteps : Cond.instanceMethod ⟨"FieldFactors$OrderSearch", "takeLongSteps", "(LFieldFactors$Polynomial;)I"⟩ ∈ TB := tb_in3 (i := 119) rfl rfl
theorem k_co_Os_takeLongSteps : Cond.code ⟨"FieldFactors$OrderSearch", "takeLongSteps", "(LFieldFactors$Polynomial;)I"⟩ prog_4_method_4_code 4 (Option.some .int) ∈ TB := tb_in3 (i := 120) rfl rfl
theorem k_m_Os_65 : Cond.methodLink "FieldFactors$OrderSearch" 65 ⟨"FieldFactors$Polynomial", "copyFrom", "(LFieldFactors$Polynomial;)V"⟩ ∈ TB := tb_in3 (i := 121) rfl rfl
theorem k_m_Os_69 : Cond.methodLink "FieldFactors$OrderSearch" 69 ⟨"FieldFactors$OrderSearch", "findShortStep", "()I"⟩ ∈ TB := tb_in3 (i := 122) rfl rfl
theorem k_im_Os_findShortStep : Cond.instanceMethod ⟨"FieldFactors$OrderSearch", "findShortStep", "()I"⟩ ∈ TB := tb_in3 (i := 124) rfl rfl
theorem k_co_Os_findShortStep : Cond.code ⟨"FieldFactors$OrderSearch", "findShortStep", "()I"⟩ prog_4_method_5_code 6 (Option.some .int) ∈ TB := tb_in3 (i := 125) rfl rfl
theorem k_m_La_111 : Cond.methodLink "FieldFactorsLaw" 111 ⟨"FieldFactorsLaw", "linear", "(LFieldFactors;II[J)I"⟩ ∈ TB := tb_in3 (i := 126) rfl rfl
theorem k_st_La_linear : Cond.static ⟨"FieldFactorsLaw", "linear", "(LFieldFactors;II[J)I"⟩ ∈ TB := tb_in3 (i := 127) rfl rfl
theorem k_co_La_linear : Cond.codeWith ⟨"FieldFactorsLaw", "linear", "(LFieldFactors;II[J)I"⟩ method_15_code 5 (Option.some .int) [(0, 10, 13, 19), (0, 10, 17, 13)] ∈ TB := tb_in3 (i := 128) rfl rfl
theorem k_m_La_58 : Cond.methodLink "FieldFactorsLaw" 58 ⟨"FieldFactors", "linear", "(II)I"⟩ ∈ TB := tb_in3 (i := 129) rfl rfl
theorem k_im_Ff_linear : Cond.instanceMethod ⟨"FieldFactors", "linear", "(II)I"⟩ ∈ TB := tb_in3 (i := 130) rfl rfl
theorem k_se_Ff_linear : Cond.selects "FieldFactors" ⟨"FieldFactors", "linear", "(II)I"⟩ ⟨"FieldFactors", "linear", "(II)I"⟩ ∈ TB := tb_in3 (i := 131) rfl rfl
theorem k_co_Ff_linear : Cond.code ⟨"FieldFactors", "linear", "(II)I"⟩ prog_1_method_14_code 5 (Option.some .int) ∈ TB := tb_in3 (i := 132) rfl rfl
theorem k_m_Ff_172 : Cond.methodLink "FieldFactors" 172 ⟨"FieldFactors$Cutter", "collectLinear", "(LFieldFactors$Polynomial;LFieldFactors$Polynomial;)V"⟩ ∈ TB := tb_in3 (i := 133) rfl rfl
theorem k_im_Cu_collectLinear : Cond.instanceMethod ⟨"FieldFactors$Cutter", "collectLinear", "(LFieldFactors$Polynomial;LFieldFactors$Polynomial;)V"⟩ ∈ TB := tb_in3 (i := 134) rfl rfl
theorem k_se_Cu_collectLinear : Cond.selects "FieldFactors$Cutter" ⟨"FieldFactors$Cutter", "collectLinear", "(LFieldFactors$Polynomial;LFieldFactors$Polynomial;)V"⟩ ⟨"FieldFactors$Cutter", "collectLinear", "(LFieldFactors$Polynomial;LFieldFactors$Polynomial;)V"⟩ ∈ TB := tb_in3 (i := 135) rfl rfl
theorem k_co_Cu_collectLinear : Cond.code ⟨"FieldFactors$Cutter", "collectLinear", "(LFieldFactors$Polynomial;LFieldFactors$Polynomial;)V"⟩ prog_3_method_5_code 6 none ∈ TB := tb_in3 (i := 136) rfl rfl
theorem k_m_Cu_94 : Cond.methodLink "FieldFactors$Cutter" 94 ⟨"FieldFactors$Polynomial", "put", "(II)V"⟩ ∈ TB := tb_in3 (i := 137) rfl rfl
theorem k_m_Cu_102 : Cond.methodLink "FieldFactors$Cutter" 102 ⟨"FieldFactors$Polynomial", "clear", "()V"⟩ ∈ TB := tb_in3 (i := 138) rfl rfl
theorem k_m_Cu_105 : Cond.methodLink "FieldFactors$Cutter" 105 ⟨"FieldFactors$Arithmetic", "addProduct", "(LFieldFactors$Polynomial;ILFieldFactors$Polynomial;LFieldFactors$Polynomial;)V"⟩ ∈ TB := tb_in3 (i := 139) rfl rfl
theorem k_c_La_62 : Cond.classLink "FieldFactorsLaw" 62 "FieldFactorsModel" ∈ TB := tb_in3 (i := 140) rfl rfl
theorem k_n_Mo : Cond.instantiable "FieldFactorsModel" 16 ∈ TB := tb_in3 (i := 141) rfl rfl
theorem k_m_La_64 : Cond.methodLink "FieldFactorsLaw" 64 ⟨"FieldFactorsModel", "<init>", "()V"⟩ ∈ TB := tb_in3 (i := 142) rfl rfl
theorem k_im_Mo_init : Cond.instanceMethod ⟨"FieldFactorsModel", "<init>", "()V"⟩ ∈ TB := tb_in3 (i := 143) rfl rfl
theorem k_co_Mo_init : Cond.code ⟨"FieldFactorsModel", "<init>", "()V"⟩ prog_7_method_1_code 1 none ∈ TB := tb_in3 (i := 144) rfl rfl
theorem k_m_Mo_1 : Cond.methodLink "FieldFactorsModel" 1 ⟨"java/lang/Object", "<init>", "()V"⟩ ∈ TB := tb_in3 (i := 145) rfl rfl
theorem k_c_Mo_16 : Cond.classLink "FieldFactorsModel" 16 "[[I" ∈ TB := tb_in3 (i := 146) rfl rfl
theorem k_f_Mo_7 : Cond.fieldLink "FieldFactorsModel" 7 "FieldFactorsModel" "thrown" "I" ∈ TB := tb_in3 (i := 148) rfl rfl
theorem k_f_Mo_13 : Cond.fieldLink "FieldFactorsModel" 13 "FieldFactorsModel" "p" "I" ∈ TB := tb_in3 (i := 149) rfl rfl
theorem k_f_Mo_18 : Cond.fieldLink "FieldFactorsModel" 18 "FieldFactorsModel" "register" "[[I" ∈ TB := tb_in3 (i := 150) rfl rfl
theorem k_f_Mo_21 : Cond.fieldLink "FieldFactorsModel" 21 "FieldFactorsModel" "factor" "[[I" ∈ TB := tb_in3 (i := 151) rfl rfl
theorem k_f_Mo_24 : Cond.fieldLink "FieldFactorsModel" 24 "FieldFactorsModel" "often" "[I" ∈ TB := tb_in3 (i := 152) rfl rfl
theorem k_f_Mo_28 : Cond.fieldLink "FieldFactorsModel" 28 "FieldFactorsModel" "factors" "I" ∈ TB := tb_in3 (i := 153) rfl rfl
theorem k_f_Mo_31 : Cond.fieldLink "FieldFactorsModel" 31 "FieldFactorsModel" "quotient" "[I" ∈ TB := tb_in3 (i := 154) rfl rfl
theorem k_f_Mo_34 : Cond.fieldLink "FieldFactorsModel" 34 "FieldFactorsModel" "rest" "[I" ∈ TB := tb_in3 (i := 155) rfl rfl
theorem k_f_Mo_37 : Cond.fieldLink "FieldFactorsModel" 37 "FieldFactorsModel" "product" "[I" ∈ TB := tb_in3 (i := 156) rfl rfl
theorem k_f_Mo_40 : Cond.fieldLink "FieldFactorsModel" 40 "FieldFactorsModel" "one" "[I" ∈ TB := tb_in3 (i := 157) rfl rfl
theorem k_f_Mo_43 : Cond.fieldLink "FieldFactorsModel" 43 "FieldFactorsModel" "two" "[I" ∈ TB := tb_in3 (i := 158) rfl rfl
theorem k_f_Mo_46 : Cond.fieldLink "FieldFactorsModel" 46 "FieldFactorsModel" "whole" "[I" ∈ TB := tb_in3 (i := 159) rfl rfl
theorem k_f_Mo_49 : Cond.fieldLink "FieldFactorsModel" 49 "FieldFactorsModel" "candidate" "[I" ∈ TB := tb_in3 (i := 160) rfl rfl
theorem k_f_Mo_52 : Cond.fieldLink "FieldFactorsModel" 52 "FieldFactorsModel" "base" "[I" ∈ TB := tb_in3 (i := 161) rfl rfl
theorem k_f_Mo_55 : Cond.fieldLink "FieldFactorsModel" 55 "FieldFactorsModel" "sum" "[I" ∈ TB := tb_in3 (i := 162) rfl rfl
theorem k_f_Mo_58 : Cond.fieldLink "FieldFactorsModel" 58 "FieldFactorsModel" "equation" "[[I" ∈ TB := tb_in3 (i := 163) rfl rfl
theorem k_m_La_71 : Cond.methodLink "FieldFactorsLaw" 71 ⟨"FieldFactorsModel", "thrown", "()I"⟩ ∈ TB := tb_in3 (i := 197) rfl rfl
theorem k_im_Mo_thrown : Cond.instanceMethod ⟨"FieldFactorsModel", "thrown", "()I"⟩ ∈ TB := tb_in3 (i := 198) rfl rfl
theorem k_se_Mo_thrown : Cond.selects "FieldFactorsModel" ⟨"FieldFactorsModel", "thrown", "()I"⟩ ⟨"FieldFactorsModel", "thrown", "()I"⟩ ∈ TB := tb_in3 (i := 199) rfl rfl
theorem k_co_Mo_thrown : Cond.code ⟨"FieldFactorsModel", "thrown", "()I"⟩ prog_7_method_2_code 1 (Option.some .int) ∈ TB := tb_in3 (i := 200) rfl rfl
theorem k_m_La_70 : Cond.methodLink "FieldFactorsLaw" 70 ⟨"FieldFactorsModel", "field", "(I)I"⟩ ∈ TB := tb_in3 (i := 201) rfl rfl
theorem k_im_Mo_field : Cond.instanceMethod ⟨"FieldFactorsModel", "field", "(I)I"⟩ ∈ TB := tb_in3 (i := 202) rfl rfl
theorem k_se_Mo_field : Cond.selects "FieldFactorsModel" ⟨"FieldFactorsModel", "field", "(I)I"⟩ ⟨"FieldFactorsModel", "field", "(I)I"⟩ ∈ TB := tb_in3 (i := 203) rfl rfl
theorem k_co_Mo_field : Cond.code ⟨"FieldFactorsModel", "field", "(I)I"⟩ prog_7_method_9_code 4 (Option.some .int) ∈ TB := tb_in3 (i := 204) rfl rfl
theorem k_m_Mo_65 : Cond.methodLink "FieldFactorsModel" 65 ⟨"FieldFactorsModel", "limit", "(I)I"⟩ ∈ TB := tb_in3 (i := 205) rfl rfl
theorem k_st_Mo_limit : Cond.static ⟨"FieldFactorsModel", "limit", "(I)I"⟩ ∈ TB := tb_in3 (i := 206) rfl rfl
theorem k_co_Mo_limit : Cond.code ⟨"FieldFactorsModel", "limit", "(I)I"⟩ prog_7_method_8_code 1 (Option.some .int) ∈ TB := tb_in3 (i := 207) rfl rfl
theorem k_m_Mo_61 : Cond.methodLink "FieldFactorsModel" 61 ⟨"FieldFactorsModel", "refuse", "(IZ)Z"⟩ ∈ TB := tb_in3 (i := 208) rfl rfl
theorem k_im_Mo_refuse : Cond.instanceMethod ⟨"FieldFactorsModel", "refuse", "(IZ)Z"⟩ ∈ TB := tb_in3 (i := 210) rfl rfl
theorem k_co_Mo_refuse : Cond.code ⟨"FieldFactorsModel", "refuse", "(IZ)Z"⟩ prog_7_method_3_code 3 (Option.some .boolean) ∈ TB := tb_in3 (i := 211) rfl rfl
theorem k_m_Mo_69 : Cond.methodLink "FieldFactorsModel" 69 ⟨"FieldFactorsModel", "clear", "([I)V"⟩ ∈ TB := tb_in3 (i := 212) rfl rfl
theorem k_st_Mo_clear : Cond.static ⟨"FieldFactorsModel", "clear", "([I)V"⟩ ∈ TB := tb_in3 (i := 213) rfl rfl
theorem k_co_Mo_clear : Cond.code ⟨"FieldFactorsModel", "clear", "([I)V"⟩ prog_7_method_7_code 2 none ∈ TB := tb_in3 (i := 214) rfl rfl
theorem k_m_La_78 : Cond.methodLink "FieldFactorsLaw" 78 ⟨"FieldFactorsModel", "set", "(III)I"⟩ ∈ TB := tb_in3 (i := 215) rfl rfl
theorem k_im_Mo_set : Cond.instanceMethod ⟨"FieldFactorsModel", "set", "(III)I"⟩ ∈ TB := tb_in3 (i := 216) rfl rfl
theorem k_se_Mo_set : Cond.selects "FieldFactorsModel" ⟨"FieldFactorsModel", "set", "(III)I"⟩ ⟨"FieldFactorsModel", "set", "(III)I"⟩ ∈ TB := tb_in3 (i := 217) rfl rfl
theorem k_co_Mo_set : Cond.code ⟨"FieldFactorsModel", "set", "(III)I"⟩ prog_7_method_11_code 5 (Option.some .int) ∈ TB := tb_in3 (i := 218) rfl rfl
theorem k_m_Mo_73 : Cond.methodLink "FieldFactorsModel" 73 ⟨"FieldFactorsModel", "none", "(I)Z"⟩ ∈ TB := tb_in3 (i := 219) rfl rfl
theorem k_im_Mo_none : Cond.instanceMethod ⟨"FieldFactorsModel", "none", "(I)Z"⟩ ∈ TB := tb_in3 (i := 221) rfl rfl
theorem k_co_Mo_none : Cond.code ⟨"FieldFactorsModel", "none", "(I)Z"⟩ prog_7_method_4_code 2 (Option.some .boolean) ∈ TB := tb_in3 (i := 222) rfl rfl
theorem k_m_Mo_77 : Cond.methodLink "FieldFactorsModel" 77 ⟨"FieldFactorsModel", "inField", "(I)I"⟩ ∈ TB := tb_in3 (i := 223) rfl rfl
theorem k_im_Mo_inField : Cond.instanceMethod ⟨"FieldFactorsModel", "inField", "(I)I"⟩ ∈ TB := tb_in3 (i := 225) rfl rfl
theorem k_co_Mo_inField : Cond.code ⟨"FieldFactorsModel", "inField", "(I)I"⟩ prog_7_method_10_code 2 (Option.some .int) ∈ TB := tb_in3 (i := 226) rfl rfl
theorem k_m_La_82 : Cond.methodLink "FieldFactorsLaw" 82 ⟨"FieldFactorsModel", "get", "(II)I"⟩ ∈ TB := tb_in3 (i := 227) rfl rfl
theorem k_im_Mo_get : Cond.instanceMethod ⟨"FieldFactorsModel", "get", "(II)I"⟩ ∈ TB := tb_in3 (i := 228) rfl rfl
theorem k_se_Mo_get : Cond.selects "FieldFactorsModel" ⟨"FieldFactorsModel", "get", "(II)I"⟩ ⟨"FieldFactorsModel", "get", "(II)I"⟩ ∈ TB := tb_in3 (i := 229) rfl rfl
theorem k_co_Mo_get : Cond.code ⟨"FieldFactorsModel", "get", "(II)I"⟩ prog_7_method_12_code 3 (Option.some .int) ∈ TB := tb_in3 (i := 230) rfl rfl
theorem k_m_La_86 : Cond.methodLink "FieldFactorsLaw" 86 ⟨"FieldFactorsModel", "join", "(IIII)I"⟩ ∈ TB := tb_in3 (i := 231) rfl rfl
theorem k_im_Mo_join : Cond.instanceMethod ⟨"FieldFactorsModel", "join", "(IIII)I"⟩ ∈ TB := tb_in3 (i := 232) rfl rfl
theorem k_se_Mo_join : Cond.selects "FieldFactorsModel" ⟨"FieldFactorsModel", "join", "(IIII)I"⟩ ⟨"FieldFactorsModel", "join", "(IIII)I"⟩ ∈ TB := tb_in3 (i := 233) rfl rfl
theorem k_co_Mo_join : Cond.code ⟨"FieldFactorsModel", "join", "(IIII)I"⟩ prog_7_method_18_code 8 (Option.some .int) ∈ TB := tb_in3 (i := 234) rfl rfl
theorem k_m_Mo_80 : Cond.methodLink "FieldFactorsModel" 80 ⟨"FieldFactorsModel", "degree", "([I)I"⟩ ∈ TB := tb_in3 (i := 235) rfl rfl
theorem k_st_Mo_degree : Cond.static ⟨"FieldFactorsModel", "degree", "([I)I"⟩ ∈ TB := tb_in3 (i := 236) rfl rfl
theorem k_co_Mo_degree : Cond.code ⟨"FieldFactorsModel", "degree", "([I)I"⟩ prog_7_method_5_code 2 (Option.some .int) ∈ TB := tb_in3 (i := 237) rfl rfl
theorem k_m_Mo_97 : Cond.methodLink "FieldFactorsModel" 97 ⟨"FieldFactorsModel", "times", "([I[I)V"⟩ ∈ TB := tb_in3 (i := 238) rfl rfl
theorem k_im_Mo_times : Cond.instanceMethod ⟨"FieldFactorsModel", "times", "([I[I)V"⟩ ∈ TB := tb_in4 (i := 0) rfl rfl
theorem k_co_Mo_times : Cond.code ⟨"FieldFactorsModel", "times", "([I[I)V"⟩ prog_7_method_14_code 7 none ∈ TB := tb_in4 (i := 1) rfl rfl
theorem k_m_Mo_84 : Cond.methodLink "FieldFactorsModel" 84 ⟨"FieldFactorsModel", "copy", "([I[I)V"⟩ ∈ TB := tb_in4 (i := 2) rfl rfl
theorem k_st_Mo_copy : Cond.static ⟨"FieldFactorsModel", "copy", "([I[I)V"⟩ ∈ TB := tb_in4 (i := 3) rfl rfl
theorem k_co_Mo_copy : Cond.code ⟨"FieldFactorsModel", "copy", "([I[I)V"⟩ prog_7_method_6_code 3 none ∈ TB := tb_in4 (i := 4) rfl rfl
theorem k_m_Mo_91 : Cond.methodLink "FieldFactorsModel" 91 ⟨"FieldFactorsModel", "divided", "([I[I)V"⟩ ∈ TB := tb_in4 (i := 5) rfl rfl
theorem k_im_Mo_divided : Cond.instanceMethod ⟨"FieldFactorsModel", "divided", "([I[I)V"⟩ ∈ TB := tb_in4 (i := 7) rfl rfl
theorem k_co_Mo_divided : Cond.code ⟨"FieldFactorsModel", "divided", "([I[I)V"⟩ prog_7_method_15_code 8 none ∈ TB := tb_in4 (i := 8) rfl rfl
theorem k_m_Mo_88 : Cond.methodLink "FieldFactorsModel" 88 ⟨"FieldFactorsModel", "under", "(I)I"⟩ ∈ TB := tb_in4 (i := 9) rfl rfl
theorem k_im_Mo_under : Cond.instanceMethod ⟨"FieldFactorsModel", "under", "(I)I"⟩ ∈ TB := tb_in4 (i := 11) rfl rfl
theorem k_co_Mo_under : Cond.code ⟨"FieldFactorsModel", "under", "(I)I"⟩ prog_7_method_13_code 3 (Option.some .int) ∈ TB := tb_in4 (i := 12) rfl rfl
theorem k_m_Mo_100 : Cond.methodLink "FieldFactorsModel" 100 ⟨"FieldFactorsModel", "common", "([I[I)V"⟩ ∈ TB := tb_in4 (i := 13) rfl rfl
theorem k_im_Mo_common : Cond.instanceMethod ⟨"FieldFactorsModel", "common", "([I[I)V"⟩ ∈ TB := tb_in4 (i := 15) rfl rfl
theorem k_co_Mo_common : Cond.code ⟨"FieldFactorsModel", "common", "([I[I)V"⟩ prog_7_method_16_code 3 none ∈ TB := tb_in4 (i := 16) rfl rfl
theorem k_m_Mo_94 : Cond.methodLink "FieldFactorsModel" 94 ⟨"FieldFactorsModel", "monic", "([I)V"⟩ ∈ TB := tb_in4 (i := 17) rfl rfl
theorem k_im_Mo_monic : Cond.instanceMethod ⟨"FieldFactorsModel", "monic", "([I)V"⟩ ∈ TB := tb_in4 (i := 19) rfl rfl
theorem k_co_Mo_monic : Cond.code ⟨"FieldFactorsModel", "monic", "([I)V"⟩ prog_7_method_17_code 5 none ∈ TB := tb_in4 (i := 20) rfl rfl
theorem k_m_La_89 : Cond.methodLink "FieldFactorsLaw" 89 ⟨"FieldFactorsModel", "power", "(IIII)I"⟩ ∈ TB := tb_in4 (i := 21) rfl rfl
theorem k_im_Mo_power : Cond.instanceMethod ⟨"FieldFactorsModel", "power", "(IIII)I"⟩ ∈ TB := tb_in4 (i := 22) rfl rfl
theorem k_se_Mo_power : Cond.selects "FieldFactorsModel" ⟨"FieldFactorsModel", "power", "(IIII)I"⟩ ⟨"FieldFactorsModel", "power", "(IIII)I"⟩ ∈ TB := tb_in4 (i := 23) rfl rfl
theorem k_co_Mo_power : Cond.code ⟨"FieldFactorsModel", "power", "(IIII)I"⟩ prog_7_method_20_code 5 (Option.some .int) ∈ TB := tb_in4 (i := 24) rfl rfl
theorem k_m_Mo_103 : Cond.methodLink "FieldFactorsModel" 103 ⟨"FieldFactorsModel", "raised", "(I[I)V"⟩ ∈ TB := tb_in4 (i := 25) rfl rfl
theorem k_im_Mo_raised : Cond.instanceMethod ⟨"FieldFactorsModel", "raised", "(I[I)V"⟩ ∈ TB := tb_in4 (i := 27) rfl rfl
theorem k_co_Mo_raised : Cond.code ⟨"FieldFactorsModel", "raised", "(I[I)V"⟩ prog_7_method_19_code 4 none ∈ TB := tb_in4 (i := 28) rfl rfl
theorem k_m_La_92 : Cond.methodLink "FieldFactorsLaw" 92 ⟨"FieldFactorsModel", "inverse", "(III)I"⟩ ∈ TB := tb_in4 (i := 29) rfl rfl
theorem k_im_Mo_inverse : Cond.instanceMethod ⟨"FieldFactorsModel", "inverse", "(III)I"⟩ ∈ TB := tb_in4 (i := 30) rfl rfl
theorem k_se_Mo_inverse : Cond.selects "FieldFactorsModel" ⟨"FieldFactorsModel", "inverse", "(III)I"⟩ ⟨"FieldFactorsModel", "inverse", "(III)I"⟩ ∈ TB := tb_in4 (i := 31) rfl rfl
theorem k_co_Mo_inverse : Cond.code ⟨"FieldFactorsModel", "inverse", "(III)I"⟩ prog_7_method_21_code 12 (Option.some .int) ∈ TB := tb_in4 (i := 32) rfl rfl
theorem k_m_La_95 : Cond.methodLink "FieldFactorsLaw" 95 ⟨"FieldFactorsModel", "value", "(II)I"⟩ ∈ TB := tb_in4 (i := 33) rfl rfl
theorem k_im_Mo_value : Cond.instanceMethod ⟨"FieldFactorsModel", "value", "(II)I"⟩ ∈ TB := tb_in4 (i := 34) rfl rfl
theorem k_se_Mo_value : Cond.selects "FieldFactorsModel" ⟨"FieldFactorsModel", "value", "(II)I"⟩ ⟨"FieldFactorsModel", "value", "(II)I"⟩ ∈ TB := tb_in4 (i := 35) rfl rfl
theorem k_co_Mo_value : Cond.code ⟨"FieldFactorsModel", "value", "(II)I"⟩ prog_7_method_23_code 3 (Option.some .int) ∈ TB := tb_in4 (i := 36) rfl rfl
theorem k_m_Mo_107 : Cond.methodLink "FieldFactorsModel" 107 ⟨"FieldFactorsModel", "at", "([II)I"⟩ ∈ TB := tb_in4 (i := 37) rfl rfl
theorem k_im_Mo_at : Cond.instanceMethod ⟨"FieldFactorsModel", "at", "([II)I"⟩ ∈ TB := tb_in4 (i := 39) rfl rfl
theorem k_co_Mo_at : Cond.code ⟨"FieldFactorsModel", "at", "([II)I"⟩ prog_7_method_22_code 5 (Option.some .int) ∈ TB := tb_in4 (i := 40) rfl rfl
theorem k_m_La_98 : Cond.methodLink "FieldFactorsLaw" 98 ⟨"FieldFactorsModel", "zeros", "(I)I"⟩ ∈ TB := tb_in4 (i := 41) rfl rfl
theorem k_im_Mo_zeros : Cond.instanceMethod ⟨"FieldFactorsModel", "zeros", "(I)I"⟩ ∈ TB := tb_in4 (i := 42) rfl rfl
theorem k_se_Mo_zeros : Cond.selects "FieldFactorsModel" ⟨"FieldFactorsModel", "zeros", "(I)I"⟩ ⟨"FieldFactorsModel", "zeros", "(I)I"⟩ ∈ TB := tb_in4 (i := 43) rfl rfl
theorem k_co_Mo_zeros : Cond.code ⟨"FieldFactorsModel", "zeros", "(I)I"⟩ prog_7_method_24_code 4 (Option.some .int) ∈ TB := tb_in4 (i := 44) rfl rfl
theorem k_m_La_101 : Cond.methodLink "FieldFactorsLaw" 101 ⟨"FieldFactorsModel", "factor", "(I)I"⟩ ∈ TB := tb_in4 (i := 45) rfl rfl
theorem k_im_Mo_factor : Cond.instanceMethod ⟨"FieldFactorsModel", "factor", "(I)I"⟩ ∈ TB := tb_in4 (i := 46) rfl rfl
theorem k_se_Mo_factor : Cond.selects "FieldFactorsModel" ⟨"FieldFactorsModel", "factor", "(I)I"⟩ ⟨"FieldFactorsModel", "factor", "(I)I"⟩ ∈ TB := tb_in4 (i := 47) rfl rfl
theorem k_co_Mo_factor : Cond.code ⟨"FieldFactorsModel", "factor", "(I)I"⟩ prog_7_method_26_code 3 (Option.some .int) ∈ TB := tb_in4 (i := 48) rfl rfl
theorem k_m_Mo_111 : Cond.methodLink "FieldFactorsModel" 111 ⟨"FieldFactorsModel", "all", "(I)V"⟩ ∈ TB := tb_in4 (i := 49) rfl rfl
theorem k_im_Mo_all : Cond.instanceMethod ⟨"FieldFactorsModel", "all", "(I)V"⟩ ∈ TB := tb_in4 (i := 51) rfl rfl
theorem k_co_Mo_all : Cond.code ⟨"FieldFactorsModel", "all", "(I)V"⟩ prog_7_method_30_code 4 none ∈ TB := tb_in4 (i := 52) rfl rfl
theorem k_m_Mo_126 : Cond.methodLink "FieldFactorsModel" 126 ⟨"FieldFactorsModel", "divides", "([I[I)Z"⟩ ∈ TB := tb_in4 (i := 53) rfl rfl
theorem k_im_Mo_divides : Cond.instanceMethod ⟨"FieldFactorsModel", "divides", "([I[I)Z"⟩ ∈ TB := tb_in4 (i := 55) rfl rfl
theorem k_co_Mo_divides : Cond.code ⟨"FieldFactorsModel", "divides", "([I[I)Z"⟩ prog_7_method_25_code 3 (Option.some .boolean) ∈ TB := tb_in4 (i := 56) rfl rfl
theorem k_m_Mo_115 : Cond.methodLink "FieldFactorsModel" 115 ⟨"FieldFactorsModel", "note", "([II)V"⟩ ∈ TB := tb_in4 (i := 57) rfl rfl
theorem k_im_Mo_note : Cond.instanceMethod ⟨"FieldFactorsModel", "note", "([II)V"⟩ ∈ TB := tb_in4 (i := 59) rfl rfl
theorem k_co_Mo_note : Cond.code ⟨"FieldFactorsModel", "note", "([II)V"⟩ prog_7_method_29_code 4 none ∈ TB := tb_in4 (i := 60) rfl rfl
theorem k_m_Mo_119 : Cond.methodLink "FieldFactorsModel" 119 ⟨"FieldFactorsModel", "same", "([I[I)Z"⟩ ∈ TB := tb_in4 (i := 61) rfl rfl
theorem k_st_Mo_same : Cond.static ⟨"FieldFactorsModel", "same", "([I[I)Z"⟩ ∈ TB := tb_in4 (i := 62) rfl rfl
theorem k_co_Mo_same : Cond.code ⟨"FieldFactorsModel", "same", "([I[I)Z"⟩ prog_7_method_27_code 3 (Option.some .boolean) ∈ TB := tb_in4 (i := 63) rfl rfl
theorem k_m_Mo_123 : Cond.methodLink "FieldFactorsModel" 123 ⟨"FieldFactorsModel", "before", "([I[I)Z"⟩ ∈ TB := tb_in4 (i := 64) rfl rfl
theorem k_st_Mo_before : Cond.static ⟨"FieldFactorsModel", "before", "([I[I)Z"⟩ ∈ TB := tb_in4 (i := 65) rfl rfl
theorem k_co_Mo_before : Cond.code ⟨"FieldFactorsModel", "before", "([I[I)Z"⟩ prog_7_method_28_code 3 (Option.some .boolean) ∈ TB := tb_in4 (i := 66) rfl rfl
theorem k_m_La_104 : Cond.methodLink "FieldFactorsLaw" 104 ⟨"FieldFactorsModel", "piece", "(II)I"⟩ ∈ TB := tb_in4 (i := 67) rfl rfl
theorem k_im_Mo_piece : Cond.instanceMethod ⟨"FieldFactorsModel", "piece", "(II)I"⟩ ∈ TB := tb_in4 (i := 68) rfl rfl
theorem k_se_Mo_piece : Cond.selects "FieldFactorsModel" ⟨"FieldFactorsModel", "piece", "(II)I"⟩ ⟨"FieldFactorsModel", "piece", "(II)I"⟩ ∈ TB := tb_in4 (i := 69) rfl rfl
theorem k_co_Mo_piece : Cond.code ⟨"FieldFactorsModel", "piece", "(II)I"⟩ prog_7_method_31_code 3 (Option.some .int) ∈ TB := tb_in4 (i := 70) rfl rfl
theorem k_m_La_107 : Cond.methodLink "FieldFactorsLaw" 107 ⟨"FieldFactorsModel", "irreducible", "(I)Z"⟩ ∈ TB := tb_in4 (i := 71) rfl rfl
theorem k_im_Mo_irreducible : Cond.instanceMethod ⟨"FieldFactorsModel", "irreducible", "(I)Z"⟩ ∈ TB := tb_in4 (i := 72) rfl rfl
theorem k_se_Mo_irreducible : Cond.selects "FieldFactorsModel" ⟨"FieldFactorsModel", "irreducible", "(I)Z"⟩ ⟨"FieldFactorsModel", "irreducible", "(I)Z"⟩ ∈ TB := tb_in4 (i := 73) rfl rfl
theorem k_co_Mo_irreducible : Cond.code ⟨"FieldFactorsModel", "irreducible", "(I)Z"⟩ prog_7_method_32_code 4 (Option.some .boolean) ∈ TB := tb_in4 (i := 74) rfl rfl
theorem k_m_La_110 : Cond.methodLink "FieldFactorsLaw" 110 ⟨"FieldFactorsModel", "order", "(I)I"⟩ ∈ TB := tb_in4 (i := 75) rfl rfl
theorem k_im_Mo_order : Cond.instanceMethod ⟨"FieldFactorsModel", "order", "(I)I"⟩ ∈ TB := tb_in4 (i := 76) rfl rfl
theorem k_se_Mo_order : Cond.selects "FieldFactorsModel" ⟨"FieldFactorsModel", "order", "(I)I"⟩ ⟨"FieldFactorsModel", "order", "(I)I"⟩ ∈ TB := tb_in4 (i := 77) rfl rfl
theorem k_co_Mo_order : Cond.code ⟨"FieldFactorsModel", "order", "(I)I"⟩ prog_7_method_33_code 8 (Option.some .int) ∈ TB := tb_in4 (i := 78) rfl rfl
theorem k_m_La_113 : Cond.methodLink "FieldFactorsLaw" 113 ⟨"FieldFactorsModel", "linear", "(II)I"⟩ ∈ TB := tb_in4 (i := 80) rfl rfl
theorem k_im_Mo_linear : Cond.instanceMethod ⟨"FieldFactorsModel", "linear", "(II)I"⟩ ∈ TB := tb_in4 (i := 81) rfl rfl
theorem k_se_Mo_linear : Cond.selects "FieldFactorsModel" ⟨"FieldFactorsModel", "linear", "(II)I"⟩ ⟨"FieldFactorsModel", "linear", "(II)I"⟩ ∈ TB := tb_in4 (i := 82) rfl rfl
theorem k_co_Mo_linear : Cond.code ⟨"FieldFactorsModel", "linear", "(II)I"⟩ prog_7_method_34_code 4 (Option.some .int) ∈ TB := tb_in4 (i := 83) rfl rfl
theorem k_m_La_117 : Cond.methodLink "FieldFactorsLaw" 117 ⟨"FieldFactorsModel", "count", "(I)I"⟩ ∈ TB := tb_in4 (i := 84) rfl rfl
theorem k_im_Mo_count : Cond.instanceMethod ⟨"FieldFactorsModel", "count", "(I)I"⟩ ∈ TB := tb_in4 (i := 85) rfl rfl
theorem k_se_Mo_count : Cond.selects "FieldFactorsModel" ⟨"FieldFactorsModel", "count", "(I)I"⟩ ⟨"FieldFactorsModel", "count", "(I)I"⟩ ∈ TB := tb_in4 (i := 86) rfl rfl
theorem k_co_Mo_count : Cond.code ⟨"FieldFactorsModel", "count", "(I)I"⟩ prog_7_method_35_code 2 (Option.some .int) ∈ TB := tb_in4 (i := 87) rfl rfl
theorem k_l_Po : ∀ w ∈ u_ws RPo FPo 2, w ∈ TB := by
  intro w hw
  obtain ⟨k, hk, rfl⟩ := List.mem_map.mp hw
  have hk := List.mem_range.mp hk
  match k, hk with
  | 0, _ => exact tb_in1 (i := 43) rfl rfl
  | 1, _ => exact tb_in1 (i := 45) rfl rfl
  | k + 2, h => exact absurd h (by omega)
theorem k_l_Ar : ∀ w ∈ u_ws RAr FAr 9, w ∈ TB := by
  intro w hw
  obtain ⟨k, hk, rfl⟩ := List.mem_map.mp hw
  have hk := List.mem_range.mp hk
  match k, hk with
  | 0, _ => exact tb_in1 (i := 68) rfl rfl
  | 1, _ => exact tb_in1 (i := 70) rfl rfl
  | 2, _ => exact tb_in1 (i := 72) rfl rfl
  | 3, _ => exact tb_in1 (i := 74) rfl rfl
  | 4, _ => exact tb_in1 (i := 76) rfl rfl
  | 5, _ => exact tb_in1 (i := 78) rfl rfl
  | 6, _ => exact tb_in1 (i := 80) rfl rfl
  | 7, _ => exact tb_in1 (i := 82) rfl rfl
  | 8, _ => exact tb_in1 (i := 84) rfl rfl
  | k + 9, h => exact absurd h (by omega)
theorem k_l_Cu : ∀ w ∈ u_ws RCu FCu 13, w ∈ TB := by
  intro w hw
  obtain ⟨k, hk, rfl⟩ := List.mem_map.mp hw
  have hk := List.mem_range.mp hk
  match k, hk with
  | 0, _ => exact tb_in1 (i := 120) rfl rfl
  | 1, _ => exact tb_in1 (i := 122) rfl rfl
  | 2, _ => exact tb_in1 (i := 124) rfl rfl
  | 3, _ => exact tb_in1 (i := 126) rfl rfl
  | 4, _ => exact tb_in1 (i := 128) rfl rfl
  | 5, _ => exact tb_in1 (i := 130) rfl rfl
  | 6, _ => exact tb_in1 (i := 132) rfl rfl
  | 7, _ => exact tb_in1 (i := 134) rfl rfl
  | 8, _ => exact tb_in1 (i := 136) rfl rfl
  | 9, _ => exact tb_in1 (i := 138) rfl rfl
  | 10, _ => exact tb_in1 (i := 140) rfl rfl
  | 11, _ => exact tb_in1 (i := 142) rfl rfl
  | 12, _ => exact tb_in1 (i := 144) rfl rfl
  | k + 13, h => exact absurd h (by omega)
theorem k_l_Os : ∀ w ∈ u_ws ROs FOs 6, w ∈ TB := by
  intro w hw
  obtain ⟨k, hk, rfl⟩ := List.mem_map.mp hw
  have hk := List.mem_range.mp hk
  match k, hk with
  | 0, _ => exact tb_in1 (i := 162) rfl rfl
  | 1, _ => exact tb_in1 (i := 164) rfl rfl
  | 2, _ => exact tb_in1 (i := 166) rfl rfl
  | 3, _ => exact tb_in1 (i := 168) rfl rfl
  | 4, _ => exact tb_in1 (i := 170) rfl rfl
  | 5, _ => exact tb_in1 (i := 172) rfl rfl
  | k + 6, h => exact absurd h (by omega)
theorem k_l_Ff : ∀ w ∈ u_ws RFf FFf 6, w ∈ TB := by
  intro w hw
  obtain ⟨k, hk, rfl⟩ := List.mem_map.mp hw
  have hk := List.mem_range.mp hk
  match k, hk with
  | 0, _ => exact tb_in1 (i := 184) rfl rfl
  | 1, _ => exact tb_in1 (i := 186) rfl rfl
  | 2, _ => exact tb_in1 (i := 188) rfl rfl
  | 3, _ => exact tb_in1 (i := 190) rfl rfl
  | 4, _ => exact tb_in1 (i := 192) rfl rfl
  | 5, _ => exact tb_in1 (i := 194) rfl rfl
  | k + 6, h => exact absurd h (by omega)
theorem k_l_Mo : ∀ w ∈ u_ws RMo FMo 16, w ∈ TB := by
  intro w hw
  obtain ⟨k, hk, rfl⟩ := List.mem_map.mp hw
  have hk := List.mem_range.mp hk
  match k, hk with
  | 0, _ => exact tb_in3 (i := 164) rfl rfl
  | 1, _ => exact tb_in3 (i := 166) rfl rfl
  | 2, _ => exact tb_in3 (i := 168) rfl rfl
  | 3, _ => exact tb_in3 (i := 170) rfl rfl
  | 4, _ => exact tb_in3 (i := 172) rfl rfl
  | 5, _ => exact tb_in3 (i := 174) rfl rfl
  | 6, _ => exact tb_in3 (i := 176) rfl rfl
  | 7, _ => exact tb_in3 (i := 178) rfl rfl
  | 8, _ => exact tb_in3 (i := 180) rfl rfl
  | 9, _ => exact tb_in3 (i := 182) rfl rfl
  | 10, _ => exact tb_in3 (i := 184) rfl rfl
  | 11, _ => exact tb_in3 (i := 186) rfl rfl
  | 12, _ => exact tb_in3 (i := 188) rfl rfl
  | 13, _ => exact tb_in3 (i := 190) rfl rfl
  | 14, _ => exact tb_in3 (i := 192) rfl rfl
  | 15, _ => exact tb_in3 (i := 194) rfl rfl
  | k + 16, h => exact absurd h (by omega)
