section
-- ===== PART A: goes FIRST, ahead of the names: the tables' words, and 'selects' of the private methods out of them =====
/-- a private method of a class that the tables say can be made, by its rows of tables_1 -/
def lw_okq (q : MethodName × Nat) : Prop := (q.1.cls ≠ "java/lang/invoke/MethodHandle" ∧ q.1.cls ≠ "java/lang/invoke/VarHandle") ∧ Cond.instantiable q.1.cls q.2 ∈ tables_1 ∧ Cond.privateMethod q.1 ∈ tables_1 ∧ Cond.instanceMethod q.1 ∈ tables_1
theorem lw_p0 : lw_okq (⟨"java/lang/Throwable", "fillInStackTrace", "(I)Ljava/lang/Throwable;"⟩, 6) := ⟨⟨by decide +kernel, by decide +kernel⟩, List.mem_of_getElem? (i := 253) (by decide +kernel), List.mem_of_getElem? (i := 251) (by decide +kernel), List.mem_of_getElem? (i := 252) (by decide +kernel)⟩
theorem lw_p1 : lw_okq (⟨"FieldFactors", "register", "(I)LFieldFactors$Polynomial;"⟩, 6) := ⟨⟨by decide +kernel, by decide +kernel⟩, List.mem_of_getElem? (i := 16) (by decide +kernel), List.mem_of_getElem? (i := 297) (by decide +kernel), List.mem_of_getElem? (i := 298) (by decide +kernel)⟩
theorem lw_p2 : lw_okq (⟨"FieldFactors", "combine", "(ILFieldFactors$Polynomial;LFieldFactors$Polynomial;)V"⟩, 6) := ⟨⟨by decide +kernel, by decide +kernel⟩, List.mem_of_getElem? (i := 16) (by decide +kernel), List.mem_of_getElem? (i := 364) (by decide +kernel), List.mem_of_getElem? (i := 365) (by decide +kernel)⟩
theorem lw_p3 : lw_okq (⟨"FieldFactors", "store", "(LFieldFactors$Polynomial;)I"⟩, 6) := ⟨⟨by decide +kernel, by decide +kernel⟩, List.mem_of_getElem? (i := 16) (by decide +kernel), List.mem_of_getElem? (i := 411) (by decide +kernel), List.mem_of_getElem? (i := 412) (by decide +kernel)⟩
theorem lw_p4 : lw_okq (⟨"FieldFactors", "highestCutDegree", "()I"⟩, 6) := ⟨⟨by decide +kernel, by decide +kernel⟩, List.mem_of_getElem? (i := 16) (by decide +kernel), List.mem_of_getElem? (i := 494) (by decide +kernel), List.mem_of_getElem? (i := 495) (by decide +kernel)⟩
theorem lw_p5 : lw_okq (⟨"FieldFactors$Cutter", "gatherNextDegree", "(LFieldFactors$Polynomial;)V"⟩, 13) := ⟨⟨by decide +kernel, by decide +kernel⟩, List.mem_of_getElem? (i := 88) (by decide +kernel), List.mem_of_getElem? (i := 507) (by decide +kernel), List.mem_of_getElem? (i := 508) (by decide +kernel)⟩
theorem lw_p6 : lw_okq (⟨"FieldFactors$Cutter", "split", "(I)V"⟩, 13) := ⟨⟨by decide +kernel, by decide +kernel⟩, List.mem_of_getElem? (i := 88) (by decide +kernel), List.mem_of_getElem? (i := 517) (by decide +kernel), List.mem_of_getElem? (i := 518) (by decide +kernel)⟩
theorem lw_p7 : lw_okq (⟨"FieldFactors$Cutter", "append", "(LFieldFactors$Polynomial;I)V"⟩, 13) := ⟨⟨by decide +kernel, by decide +kernel⟩, List.mem_of_getElem? (i := 88) (by decide +kernel), List.mem_of_getElem? (i := 521) (by decide +kernel), List.mem_of_getElem? (i := 522) (by decide +kernel)⟩
theorem lw_p8 : lw_okq (⟨"FieldFactors$Cutter", "findTrace", "(I)V"⟩, 13) := ⟨⟨by decide +kernel, by decide +kernel⟩, List.mem_of_getElem? (i := 88) (by decide +kernel), List.mem_of_getElem? (i := 526) (by decide +kernel), List.mem_of_getElem? (i := 527) (by decide +kernel)⟩
theorem lw_p9 : lw_okq (⟨"FieldFactors$Cutter", "splitByTrace", "(II)V"⟩, 13) := ⟨⟨by decide +kernel, by decide +kernel⟩, List.mem_of_getElem? (i := 88) (by decide +kernel), List.mem_of_getElem? (i := 530) (by decide +kernel), List.mem_of_getElem? (i := 531) (by decide +kernel)⟩
theorem lw_p10 : lw_okq (⟨"FieldFactors$Cutter", "takeOutFactors", "(I)V"⟩, 13) := ⟨⟨by decide +kernel, by decide +kernel⟩, List.mem_of_getElem? (i := 88) (by decide +kernel), List.mem_of_getElem? (i := 535) (by decide +kernel), List.mem_of_getElem? (i := 536) (by decide +kernel)⟩
theorem lw_p11 : lw_okq (⟨"FieldFactors$Cutter", "sort", "()V"⟩, 13) := ⟨⟨by decide +kernel, by decide +kernel⟩, List.mem_of_getElem? (i := 88) (by decide +kernel), List.mem_of_getElem? (i := 543) (by decide +kernel), List.mem_of_getElem? (i := 544) (by decide +kernel)⟩
theorem lw_p12 : lw_okq (⟨"FieldFactors$Cutter", "swap", "(II)V"⟩, 13) := ⟨⟨by decide +kernel, by decide +kernel⟩, List.mem_of_getElem? (i := 88) (by decide +kernel), List.mem_of_getElem? (i := 551) (by decide +kernel), List.mem_of_getElem? (i := 552) (by decide +kernel)⟩
theorem lw_p13 : lw_okq (⟨"FieldFactors$OrderSearch", "takeShortSteps", "(LFieldFactors$Polynomial;)I"⟩, 6) := ⟨⟨by decide +kernel, by decide +kernel⟩, List.mem_of_getElem? (i := 148) (by decide +kernel), List.mem_of_getElem? (i := 585) (by decide +kernel), List.mem_of_getElem? (i := 586) (by decide +kernel)⟩
theorem lw_p14 : lw_okq (⟨"FieldFactors$OrderSearch", "code", "(I)J"⟩, 6) := ⟨⟨by decide +kernel, by decide +kernel⟩, List.mem_of_getElem? (i := 148) (by decide +kernel), List.mem_of_getElem? (i := 593) (by decide +kernel), List.mem_of_getElem? (i := 594) (by decide +kernel)⟩
theorem lw_p15 : lw_okq (⟨"FieldFactors$OrderSearch", "takeLongSteps", "(LFieldFactors$Polynomial;)I"⟩, 6) := ⟨⟨by decide +kernel, by decide +kernel⟩, List.mem_of_getElem? (i := 148) (by decide +kernel), List.mem_of_getElem? (i := 598) (by decide +kernel), List.mem_of_getElem? (i := 599) (by decide +kernel)⟩
def lw_privs_1 : List (MethodName × Nat) := [(⟨"java/lang/Throwable", "fillInStackTrace", "(I)Ljava/lang/Throwable;"⟩, 6), (⟨"FieldFactors", "register", "(I)LFieldFactors$Polynomial;"⟩, 6), (⟨"FieldFactors", "combine", "(ILFieldFactors$Polynomial;LFieldFactors$Polynomial;)V"⟩, 6), (⟨"FieldFactors", "store", "(LFieldFactors$Polynomial;)I"⟩, 6), (⟨"FieldFactors", "highestCutDegree", "()I"⟩, 6), (⟨"FieldFactors$Cutter", "gatherNextDegree", "(LFieldFactors$Polynomial;)V"⟩, 13), (⟨"FieldFactors$Cutter", "split", "(I)V"⟩, 13), (⟨"FieldFactors$Cutter", "append", "(LFieldFactors$Polynomial;I)V"⟩, 13), (⟨"FieldFactors$Cutter", "findTrace", "(I)V"⟩, 13), (⟨"FieldFactors$Cutter", "splitByTrace", "(II)V"⟩, 13), (⟨"FieldFactors$Cutter", "takeOutFactors", "(I)V"⟩, 13), (⟨"FieldFactors$Cutter", "sort", "()V"⟩, 13), (⟨"FieldFactors$Cutter", "swap", "(II)V"⟩, 13), (⟨"FieldFactors$OrderSearch", "takeShortSteps", "(LFieldFactors$Polynomial;)I"⟩, 6), (⟨"FieldFactors$OrderSearch", "code", "(I)J"⟩, 6), (⟨"FieldFactors$OrderSearch", "takeLongSteps", "(LFieldFactors$Polynomial;)I"⟩, 6)]
theorem lw_r1 : ∀ q ∈ lw_privs_1, lw_okq q := List.forall_mem_cons.mpr ⟨lw_p0, List.forall_mem_cons.mpr ⟨lw_p1, List.forall_mem_cons.mpr ⟨lw_p2, List.forall_mem_cons.mpr ⟨lw_p3, List.forall_mem_cons.mpr ⟨lw_p4, List.forall_mem_cons.mpr ⟨lw_p5, List.forall_mem_cons.mpr ⟨lw_p6, List.forall_mem_cons.mpr ⟨lw_p7, List.forall_mem_cons.mpr ⟨lw_p8, List.forall_mem_cons.mpr ⟨lw_p9, List.forall_mem_cons.mpr ⟨lw_p10, List.forall_mem_cons.mpr ⟨lw_p11, List.forall_mem_cons.mpr ⟨lw_p12, List.forall_mem_cons.mpr ⟨lw_p13, List.forall_mem_cons.mpr ⟨lw_p14, List.forall_mem_cons.mpr ⟨lw_p15, fun _ h => absurd h List.not_mem_nil⟩⟩⟩⟩⟩⟩⟩⟩⟩⟩⟩⟩⟩⟩⟩⟩
theorem lw_p16 : lw_okq (⟨"FieldFactors$OrderSearch", "findShortStep", "()I"⟩, 6) := ⟨⟨by decide +kernel, by decide +kernel⟩, List.mem_of_getElem? (i := 148) (by decide +kernel), List.mem_of_getElem? (i := 603) (by decide +kernel), List.mem_of_getElem? (i := 604) (by decide +kernel)⟩
theorem lw_p17 : lw_okq (⟨"FieldFactorsModel", "refuse", "(IZ)Z"⟩, 16) := ⟨⟨by decide +kernel, by decide +kernel⟩, List.mem_of_getElem? (i := 621) (by decide +kernel), List.mem_of_getElem? (i := 689) (by decide +kernel), List.mem_of_getElem? (i := 690) (by decide +kernel)⟩
theorem lw_p18 : lw_okq (⟨"FieldFactorsModel", "none", "(I)Z"⟩, 16) := ⟨⟨by decide +kernel, by decide +kernel⟩, List.mem_of_getElem? (i := 621) (by decide +kernel), List.mem_of_getElem? (i := 700) (by decide +kernel), List.mem_of_getElem? (i := 701) (by decide +kernel)⟩
theorem lw_p19 : lw_okq (⟨"FieldFactorsModel", "inField", "(I)I"⟩, 16) := ⟨⟨by decide +kernel, by decide +kernel⟩, List.mem_of_getElem? (i := 621) (by decide +kernel), List.mem_of_getElem? (i := 704) (by decide +kernel), List.mem_of_getElem? (i := 705) (by decide +kernel)⟩
theorem lw_p20 : lw_okq (⟨"FieldFactorsModel", "times", "([I[I)V"⟩, 16) := ⟨⟨by decide +kernel, by decide +kernel⟩, List.mem_of_getElem? (i := 621) (by decide +kernel), List.mem_of_getElem? (i := 719) (by decide +kernel), List.mem_of_getElem? (i := 720) (by decide +kernel)⟩
theorem lw_p21 : lw_okq (⟨"FieldFactorsModel", "divided", "([I[I)V"⟩, 16) := ⟨⟨by decide +kernel, by decide +kernel⟩, List.mem_of_getElem? (i := 621) (by decide +kernel), List.mem_of_getElem? (i := 726) (by decide +kernel), List.mem_of_getElem? (i := 727) (by decide +kernel)⟩
theorem lw_p22 : lw_okq (⟨"FieldFactorsModel", "under", "(I)I"⟩, 16) := ⟨⟨by decide +kernel, by decide +kernel⟩, List.mem_of_getElem? (i := 621) (by decide +kernel), List.mem_of_getElem? (i := 730) (by decide +kernel), List.mem_of_getElem? (i := 731) (by decide +kernel)⟩
theorem lw_p23 : lw_okq (⟨"FieldFactorsModel", "common", "([I[I)V"⟩, 16) := ⟨⟨by decide +kernel, by decide +kernel⟩, List.mem_of_getElem? (i := 621) (by decide +kernel), List.mem_of_getElem? (i := 734) (by decide +kernel), List.mem_of_getElem? (i := 735) (by decide +kernel)⟩
theorem lw_p24 : lw_okq (⟨"FieldFactorsModel", "monic", "([I)V"⟩, 16) := ⟨⟨by decide +kernel, by decide +kernel⟩, List.mem_of_getElem? (i := 621) (by decide +kernel), List.mem_of_getElem? (i := 738) (by decide +kernel), List.mem_of_getElem? (i := 739) (by decide +kernel)⟩
theorem lw_p25 : lw_okq (⟨"FieldFactorsModel", "raised", "(I[I)V"⟩, 16) := ⟨⟨by decide +kernel, by decide +kernel⟩, List.mem_of_getElem? (i := 621) (by decide +kernel), List.mem_of_getElem? (i := 746) (by decide +kernel), List.mem_of_getElem? (i := 747) (by decide +kernel)⟩
theorem lw_p26 : lw_okq (⟨"FieldFactorsModel", "at", "([II)I"⟩, 16) := ⟨⟨by decide +kernel, by decide +kernel⟩, List.mem_of_getElem? (i := 621) (by decide +kernel), List.mem_of_getElem? (i := 758) (by decide +kernel), List.mem_of_getElem? (i := 759) (by decide +kernel)⟩
theorem lw_p27 : lw_okq (⟨"FieldFactorsModel", "all", "(I)V"⟩, 16) := ⟨⟨by decide +kernel, by decide +kernel⟩, List.mem_of_getElem? (i := 621) (by decide +kernel), List.mem_of_getElem? (i := 770) (by decide +kernel), List.mem_of_getElem? (i := 771) (by decide +kernel)⟩
theorem lw_p28 : lw_okq (⟨"FieldFactorsModel", "divides", "([I[I)Z"⟩, 16) := ⟨⟨by decide +kernel, by decide +kernel⟩, List.mem_of_getElem? (i := 621) (by decide +kernel), List.mem_of_getElem? (i := 774) (by decide +kernel), List.mem_of_getElem? (i := 775) (by decide +kernel)⟩
theorem lw_p29 : lw_okq (⟨"FieldFactorsModel", "note", "([II)V"⟩, 16) := ⟨⟨by decide +kernel, by decide +kernel⟩, List.mem_of_getElem? (i := 621) (by decide +kernel), List.mem_of_getElem? (i := 778) (by decide +kernel), List.mem_of_getElem? (i := 779) (by decide +kernel)⟩
def lw_privs_2 : List (MethodName × Nat) := [(⟨"FieldFactors$OrderSearch", "findShortStep", "()I"⟩, 6), (⟨"FieldFactorsModel", "refuse", "(IZ)Z"⟩, 16), (⟨"FieldFactorsModel", "none", "(I)Z"⟩, 16), (⟨"FieldFactorsModel", "inField", "(I)I"⟩, 16), (⟨"FieldFactorsModel", "times", "([I[I)V"⟩, 16), (⟨"FieldFactorsModel", "divided", "([I[I)V"⟩, 16), (⟨"FieldFactorsModel", "under", "(I)I"⟩, 16), (⟨"FieldFactorsModel", "common", "([I[I)V"⟩, 16), (⟨"FieldFactorsModel", "monic", "([I)V"⟩, 16), (⟨"FieldFactorsModel", "raised", "(I[I)V"⟩, 16), (⟨"FieldFactorsModel", "at", "([II)I"⟩, 16), (⟨"FieldFactorsModel", "all", "(I)V"⟩, 16), (⟨"FieldFactorsModel", "divides", "([I[I)Z"⟩, 16), (⟨"FieldFactorsModel", "note", "([II)V"⟩, 16)]
theorem lw_r2 : ∀ q ∈ lw_privs_2, lw_okq q := List.forall_mem_cons.mpr ⟨lw_p16, List.forall_mem_cons.mpr ⟨lw_p17, List.forall_mem_cons.mpr ⟨lw_p18, List.forall_mem_cons.mpr ⟨lw_p19, List.forall_mem_cons.mpr ⟨lw_p20, List.forall_mem_cons.mpr ⟨lw_p21, List.forall_mem_cons.mpr ⟨lw_p22, List.forall_mem_cons.mpr ⟨lw_p23, List.forall_mem_cons.mpr ⟨lw_p24, List.forall_mem_cons.mpr ⟨lw_p25, List.forall_mem_cons.mpr ⟨lw_p26, List.forall_mem_cons.mpr ⟨lw_p27, List.forall_mem_cons.mpr ⟨lw_p28, List.forall_mem_cons.mpr ⟨lw_p29, fun _ h => absurd h List.not_mem_nil⟩⟩⟩⟩⟩⟩⟩⟩⟩⟩⟩⟩⟩⟩
def lw_privs : List (MethodName × Nat) := lw_privs_1 ++ (lw_privs_2)
def lw_tbl : List Cond := k2_sels lw_privs ++ tables_1
theorem lw_privs_ok : ∀ q ∈ lw_privs, lw_okq q := by
  show ∀ q ∈ lw_privs_1 ++ (lw_privs_2), lw_okq q
  exact List.forall_mem_append.mpr ⟨lw_r1, lw_r2⟩
end
section
/-! names, by my own program wip/gen/names.py out of the task's tables and listing -/
def RPo : String := "FieldFactors$Polynomial"
def RAr : String := "FieldFactors$Arithmetic"
def RCu : String := "FieldFactors$Cutter"
def ROs : String := "FieldFactors$OrderSearch"
def RFf : String := "FieldFactors"
def RMo : String := "FieldFactorsModel"
def RLa : String := "FieldFactorsLaw"
def FPo : u_T := fun k => match k with
  | 0 => ("FieldFactors$Polynomial", "coefficients", "[I", true)
  | _ => ("FieldFactors$Polynomial", "degree", "I", false)
def tPo : Nat → FieldType := fun k => match k with
  | 0 => .array .int
  | _ => .int
theorem nPo : ∀ a, a < 2 → ∀ b, b < 2 → a ≠ b → (FPo a).2.1 ≠ (FPo b).2.1 := by decide +kernel
theorem tyPo : ∀ k, k < 2 → parseFieldDescriptor (FPo k).2.2.1 = some (tPo k) := by decide +kernel
def FAr : u_T := fun k => match k with
  | 0 => ("FieldFactors$Arithmetic", "p", "I", false)
  | 1 => ("FieldFactors$Arithmetic", "ignored", "LFieldFactors$Polynomial;", true)
  | 2 => ("FieldFactors$Arithmetic", "inverses", "[I", true)
  | 3 => ("FieldFactors$Arithmetic", "wide", "LFieldFactors$Polynomial;", true)
  | 4 => ("FieldFactors$Arithmetic", "first", "LFieldFactors$Polynomial;", true)
  | 5 => ("FieldFactors$Arithmetic", "second", "LFieldFactors$Polynomial;", true)
  | 6 => ("FieldFactors$Arithmetic", "third", "LFieldFactors$Polynomial;", true)
  | 7 => ("FieldFactors$Arithmetic", "fourth", "LFieldFactors$Polynomial;", true)
  | _ => ("FieldFactors$Arithmetic", "quotient", "LFieldFactors$Polynomial;", true)
def tAr : Nat → FieldType := fun k => match k with
  | 0 => .int
  | 1 => .object "FieldFactors$Polynomial"
  | 2 => .array .int
  | 3 => .object "FieldFactors$Polynomial"
  | 4 => .object "FieldFactors$Polynomial"
  | 5 => .object "FieldFactors$Polynomial"
  | 6 => .object "FieldFactors$Polynomial"
  | 7 => .object "FieldFactors$Polynomial"
  | _ => .object "FieldFactors$Polynomial"
theorem nAr : ∀ a, a < 9 → ∀ b, b < 9 → a ≠ b → (FAr a).2.1 ≠ (FAr b).2.1 := by decide +kernel
theorem tyAr : ∀ k, k < 9 → parseFieldDescriptor (FAr k).2.2.1 = some (tAr k) := by decide +kernel
def FCu : u_T := fun k => match k with
  | 0 => ("FieldFactors$Cutter", "factors", "[LFieldFactors$Polynomial;", true)
  | 1 => ("FieldFactors$Cutter", "times", "[I", true)
  | 2 => ("FieldFactors$Cutter", "size", "I", false)
  | 3 => ("FieldFactors$Cutter", "numbers", "LFieldFactors$Arithmetic;", true)
  | 4 => ("FieldFactors$Cutter", "rest", "LFieldFactors$Polynomial;", true)
  | 5 => ("FieldFactors$Cutter", "image", "LFieldFactors$Polynomial;", true)
  | 6 => ("FieldFactors$Cutter", "group", "LFieldFactors$Polynomial;", true)
  | 7 => ("FieldFactors$Cutter", "power", "LFieldFactors$Polynomial;", true)
  | 8 => ("FieldFactors$Cutter", "trace", "LFieldFactors$Polynomial;", true)
  | 9 => ("FieldFactors$Cutter", "common", "LFieldFactors$Polynomial;", true)
  | 10 => ("FieldFactors$Cutter", "scratch", "LFieldFactors$Polynomial;", true)
  | 11 => ("FieldFactors$Cutter", "one", "LFieldFactors$Polynomial;", true)
  | _ => ("FieldFactors$Cutter", "x", "LFieldFactors$Polynomial;", true)
def tCu : Nat → FieldType := fun k => match k with
  | 0 => .array (.object "FieldFactors$Polynomial")
  | 1 => .array .int
  | 2 => .int
  | 3 => .object "FieldFactors$Arithmetic"
  | 4 => .object "FieldFactors$Polynomial"
  | 5 => .object "FieldFactors$Polynomial"
  | 6 => .object "FieldFactors$Polynomial"
  | 7 => .object "FieldFactors$Polynomial"
  | 8 => .object "FieldFactors$Polynomial"
  | 9 => .object "FieldFactors$Polynomial"
  | 10 => .object "FieldFactors$Polynomial"
  | 11 => .object "FieldFactors$Polynomial"
  | _ => .object "FieldFactors$Polynomial"
theorem nCu : ∀ a, a < 13 → ∀ b, b < 13 → a ≠ b → (FCu a).2.1 ≠ (FCu b).2.1 := by decide +kernel
theorem tyCu : ∀ k, k < 13 → parseFieldDescriptor (FCu k).2.2.1 = some (tCu k) := by decide +kernel
def FOs : u_T := fun k => match k with
  | 0 => ("FieldFactors$OrderSearch", "numbers", "LFieldFactors$Arithmetic;", true)
  | 1 => ("FieldFactors$OrderSearch", "lowCodes", "[J", true)
  | 2 => ("FieldFactors$OrderSearch", "highCodes", "[J", true)
  | 3 => ("FieldFactors$OrderSearch", "power", "LFieldFactors$Polynomial;", true)
  | 4 => ("FieldFactors$OrderSearch", "stride", "LFieldFactors$Polynomial;", true)
  | _ => ("FieldFactors$OrderSearch", "x", "LFieldFactors$Polynomial;", true)
def tOs : Nat → FieldType := fun k => match k with
  | 0 => .object "FieldFactors$Arithmetic"
  | 1 => .array .long
  | 2 => .array .long
  | 3 => .object "FieldFactors$Polynomial"
  | 4 => .object "FieldFactors$Polynomial"
  | _ => .object "FieldFactors$Polynomial"
theorem nOs : ∀ a, a < 6 → ∀ b, b < 6 → a ≠ b → (FOs a).2.1 ≠ (FOs b).2.1 := by decide +kernel
theorem tyOs : ∀ k, k < 6 → parseFieldDescriptor (FOs k).2.2.1 = some (tOs k) := by decide +kernel
def FFf : u_T := fun k => match k with
  | 0 => ("FieldFactors", "numbers", "LFieldFactors$Arithmetic;", true)
  | 1 => ("FieldFactors", "cutter", "LFieldFactors$Cutter;", true)
  | 2 => ("FieldFactors", "orderSearch", "LFieldFactors$OrderSearch;", true)
  | 3 => ("FieldFactors", "registers", "[LFieldFactors$Polynomial;", true)
  | 4 => ("FieldFactors", "result", "LFieldFactors$Polynomial;", true)
  | _ => ("FieldFactors", "scratch", "LFieldFactors$Polynomial;", true)
def tFf : Nat → FieldType := fun k => match k with
  | 0 => .object "FieldFactors$Arithmetic"
  | 1 => .object "FieldFactors$Cutter"
  | 2 => .object "FieldFactors$OrderSearch"
  | 3 => .array (.object "FieldFactors$Polynomial")
  | 4 => .object "FieldFactors$Polynomial"
  | _ => .object "FieldFactors$Polynomial"
theorem nFf : ∀ a, a < 6 → ∀ b, b < 6 → a ≠ b → (FFf a).2.1 ≠ (FFf b).2.1 := by decide +kernel
theorem tyFf : ∀ k, k < 6 → parseFieldDescriptor (FFf k).2.2.1 = some (tFf k) := by decide +kernel
def FMo : u_T := fun k => match k with
  | 0 => ("FieldFactorsModel", "thrown", "I", false)
  | 1 => ("FieldFactorsModel", "p", "I", false)
  | 2 => ("FieldFactorsModel", "register", "[[I", true)
  | 3 => ("FieldFactorsModel", "factor", "[[I", true)
  | 4 => ("FieldFactorsModel", "often", "[I", true)
  | 5 => ("FieldFactorsModel", "factors", "I", false)
  | 6 => ("FieldFactorsModel", "quotient", "[I", true)
  | 7 => ("FieldFactorsModel", "rest", "[I", true)
  | 8 => ("FieldFactorsModel", "product", "[I", true)
  | 9 => ("FieldFactorsModel", "one", "[I", true)
  | 10 => ("FieldFactorsModel", "two", "[I", true)
  | 11 => ("FieldFactorsModel", "whole", "[I", true)
  | 12 => ("FieldFactorsModel", "candidate", "[I", true)
  | 13 => ("FieldFactorsModel", "base", "[I", true)
  | 14 => ("FieldFactorsModel", "sum", "[I", true)
  | _ => ("FieldFactorsModel", "equation", "[[I", true)
def tMo : Nat → FieldType := fun k => match k with
  | 0 => .int
  | 1 => .int
  | 2 => .array (.array .int)
  | 3 => .array (.array .int)
  | 4 => .array .int
  | 5 => .int
  | 6 => .array .int
  | 7 => .array .int
  | 8 => .array .int
  | 9 => .array .int
  | 10 => .array .int
  | 11 => .array .int
  | 12 => .array .int
  | 13 => .array .int
  | 14 => .array .int
  | _ => .array (.array .int)
theorem nMo : ∀ a, a < 16 → ∀ b, b < 16 → a ≠ b → (FMo a).2.1 ≠ (FMo b).2.1 := by decide +kernel
theorem tyMo : ∀ k, k < 16 → parseFieldDescriptor (FMo k).2.2.1 = some (tMo k) := by decide +kernel
abbrev classes : List vw_C := [(RPo, FPo, 2), (RAr, FAr, 9), (RCu, FCu, 13), (ROs, FOs, 6), (RFf, FFf, 6), (RMo, FMo, 16)]
def y_Ff_init : MethodName := ⟨"FieldFactors", "<init>", "()V"⟩
def y_Object_init : MethodName := ⟨"java/lang/Object", "<init>", "()V"⟩
def y_Ar_init : MethodName := ⟨"FieldFactors$Arithmetic", "<init>", "()V"⟩
def y_Po_init : MethodName := ⟨"FieldFactors$Polynomial", "<init>", "(I)V"⟩
def y_Ar_become : MethodName := ⟨"FieldFactors$Arithmetic", "become", "(I)V"⟩
def y_Cu_init : MethodName := ⟨"FieldFactors$Cutter", "<init>", "(LFieldFactors$Arithmetic;)V"⟩
def y_Po_becomePowerOfX : MethodName := ⟨"FieldFactors$Polynomial", "becomePowerOfX", "(I)V"⟩
def y_Po_clear : MethodName := ⟨"FieldFactors$Polynomial", "clear", "()V"⟩
def y_Os_init : MethodName := ⟨"FieldFactors$OrderSearch", "<init>", "(LFieldFactors$Arithmetic;)V"⟩
def y_Ff_count : MethodName := ⟨"FieldFactors", "count", "(I)I"⟩
def y_La_field : MethodName := ⟨"FieldFactorsLaw", "field", "(LFieldFactors;I[J)I"⟩
def y_Ff_field : MethodName := ⟨"FieldFactors", "field", "(I)I"⟩
def y_Ff_fieldIndex : MethodName := ⟨"FieldFactors", "fieldIndex", "(I)I"⟩
def y_Throwable_init : MethodName := ⟨"java/lang/Throwable", "<init>", "()V"⟩
def y_Throwable_fillInStackTrace : MethodName := ⟨"java/lang/Throwable", "fillInStackTrace", "()Ljava/lang/Throwable;"⟩
def y_IllegalArgumentException_init : MethodName := ⟨"java/lang/IllegalArgumentException", "<init>", "(Ljava/lang/String;)V"⟩
def y_RuntimeException_init : MethodName := ⟨"java/lang/RuntimeException", "<init>", "(Ljava/lang/String;)V"⟩
def y_Exception_init : MethodName := ⟨"java/lang/Exception", "<init>", "(Ljava/lang/String;)V"⟩
def y_Throwable_init2 : MethodName := ⟨"java/lang/Throwable", "<init>", "(Ljava/lang/String;)V"⟩
def y_Cu_forget : MethodName := ⟨"FieldFactors$Cutter", "forget", "()V"⟩
def y_La_set : MethodName := ⟨"FieldFactorsLaw", "set", "(LFieldFactors;III[J)I"⟩
def y_Ff_set : MethodName := ⟨"FieldFactors", "set", "(III)I"⟩
def y_Ff_register : MethodName := ⟨"FieldFactors", "register", "(I)LFieldFactors$Polynomial;"⟩
def y_NoSuchElementException_init : MethodName := ⟨"java/util/NoSuchElementException", "<init>", "(Ljava/lang/String;)V"⟩
def y_Ff_needExponent : MethodName := ⟨"FieldFactors", "needExponent", "(I)V"⟩
def y_Math_floorMod : MethodName := ⟨"java/lang/Math", "floorMod", "(II)I"⟩
def y_Po_put : MethodName := ⟨"FieldFactors$Polynomial", "put", "(II)V"⟩
def y_Math_max : MethodName := ⟨"java/lang/Math", "max", "(II)I"⟩
def y_La_get : MethodName := ⟨"FieldFactorsLaw", "get", "(LFieldFactors;II[J)I"⟩
def y_Ff_get : MethodName := ⟨"FieldFactors", "get", "(II)I"⟩
def y_La_join : MethodName := ⟨"FieldFactorsLaw", "join", "(LFieldFactors;IIII[J)I"⟩
def y_Ff_join : MethodName := ⟨"FieldFactors", "join", "(IIII)I"⟩
def y_ArithmeticException_init : MethodName := ⟨"java/lang/ArithmeticException", "<init>", "(Ljava/lang/String;)V"⟩
def y_Ff_combine : MethodName := ⟨"FieldFactors", "combine", "(ILFieldFactors$Polynomial;LFieldFactors$Polynomial;)V"⟩
def y_Po_copyFrom : MethodName := ⟨"FieldFactors$Polynomial", "copyFrom", "(LFieldFactors$Polynomial;)V"⟩
def y_Ar_addShifted : MethodName := ⟨"FieldFactors$Arithmetic", "addShifted", "(LFieldFactors$Polynomial;IILFieldFactors$Polynomial;)V"⟩
def y_Ar_addProduct : MethodName := ⟨"FieldFactors$Arithmetic", "addProduct", "(LFieldFactors$Polynomial;ILFieldFactors$Polynomial;LFieldFactors$Polynomial;)V"⟩
def y_Ar_divide : MethodName := ⟨"FieldFactors$Arithmetic", "divide", "(LFieldFactors$Polynomial;LFieldFactors$Polynomial;LFieldFactors$Polynomial;)V"⟩
def y_Po_lead : MethodName := ⟨"FieldFactors$Polynomial", "lead", "()I"⟩
def y_Ar_findCommonDivisor : MethodName := ⟨"FieldFactors$Arithmetic", "findCommonDivisor", "(LFieldFactors$Polynomial;LFieldFactors$Polynomial;LFieldFactors$Polynomial;)V"⟩
def y_Ar_makeMonic : MethodName := ⟨"FieldFactors$Arithmetic", "makeMonic", "(LFieldFactors$Polynomial;)V"⟩
def y_Ar_scale : MethodName := ⟨"FieldFactors$Arithmetic", "scale", "(LFieldFactors$Polynomial;I)V"⟩
def y_Ar_derive : MethodName := ⟨"FieldFactors$Arithmetic", "derive", "(LFieldFactors$Polynomial;LFieldFactors$Polynomial;)V"⟩
def y_Ff_store : MethodName := ⟨"FieldFactors", "store", "(LFieldFactors$Polynomial;)I"⟩
def y_La_power : MethodName := ⟨"FieldFactorsLaw", "power", "(LFieldFactors;IIII[J)I"⟩
def y_Ff_power : MethodName := ⟨"FieldFactors", "power", "(IIII)I"⟩
def y_Ff_needDegree : MethodName := ⟨"FieldFactors", "needDegree", "(LFieldFactors$Polynomial;)V"⟩
def y_Ar_raise : MethodName := ⟨"FieldFactors$Arithmetic", "raise", "(LFieldFactors$Polynomial;LFieldFactors$Polynomial;ILFieldFactors$Polynomial;)V"⟩
def y_Ar_multiply : MethodName := ⟨"FieldFactors$Arithmetic", "multiply", "(LFieldFactors$Polynomial;LFieldFactors$Polynomial;LFieldFactors$Polynomial;LFieldFactors$Polynomial;)V"⟩
def y_La_inverse : MethodName := ⟨"FieldFactorsLaw", "inverse", "(LFieldFactors;III[J)I"⟩
def y_Ff_inverse : MethodName := ⟨"FieldFactors", "inverse", "(III)I"⟩
def y_Ar_invert : MethodName := ⟨"FieldFactors$Arithmetic", "invert", "(LFieldFactors$Polynomial;LFieldFactors$Polynomial;LFieldFactors$Polynomial;)Z"⟩
def y_IllegalStateException_init : MethodName := ⟨"java/lang/IllegalStateException", "<init>", "(Ljava/lang/String;)V"⟩
def y_La_value : MethodName := ⟨"FieldFactorsLaw", "value", "(LFieldFactors;II[J)I"⟩
def y_Ff_value : MethodName := ⟨"FieldFactors", "value", "(II)I"⟩
def y_Ar_evaluate : MethodName := ⟨"FieldFactors$Arithmetic", "evaluate", "(LFieldFactors$Polynomial;I)I"⟩
def y_La_zeros : MethodName := ⟨"FieldFactorsLaw", "zeros", "(LFieldFactors;I[J)I"⟩
def y_Ff_zeros : MethodName := ⟨"FieldFactors", "zeros", "(I)I"⟩
def y_La_factor : MethodName := ⟨"FieldFactorsLaw", "factor", "(LFieldFactors;I[J)I"⟩
def y_Ff_factor : MethodName := ⟨"FieldFactors", "factor", "(I)I"⟩
def y_Ff_needNotZero : MethodName := ⟨"FieldFactors", "needNotZero", "(LFieldFactors$Polynomial;)V"⟩
def y_Ff_highestCutDegree : MethodName := ⟨"FieldFactors", "highestCutDegree", "()I"⟩
def y_Cu_cut : MethodName := ⟨"FieldFactors$Cutter", "cut", "(LFieldFactors$Polynomial;)V"⟩
def y_Cu_gatherNextDegree : MethodName := ⟨"FieldFactors$Cutter", "gatherNextDegree", "(LFieldFactors$Polynomial;)V"⟩
def y_Ar_raiseToP : MethodName := ⟨"FieldFactors$Arithmetic", "raiseToP", "(LFieldFactors$Polynomial;LFieldFactors$Polynomial;)V"⟩
def y_Cu_split : MethodName := ⟨"FieldFactors$Cutter", "split", "(I)V"⟩
def y_Cu_append : MethodName := ⟨"FieldFactors$Cutter", "append", "(LFieldFactors$Polynomial;I)V"⟩
def y_Cu_findTrace : MethodName := ⟨"FieldFactors$Cutter", "findTrace", "(I)V"⟩
def y_Cu_splitByTrace : MethodName := ⟨"FieldFactors$Cutter", "splitByTrace", "(II)V"⟩
def y_Cu_takeOutFactors : MethodName := ⟨"FieldFactors$Cutter", "takeOutFactors", "(I)V"⟩
def y_Ar_takeOut : MethodName := ⟨"FieldFactors$Arithmetic", "takeOut", "(LFieldFactors$Polynomial;LFieldFactors$Polynomial;)I"⟩
def y_Cu_sort : MethodName := ⟨"FieldFactors$Cutter", "sort", "()V"⟩
def y_Po_comesBefore : MethodName := ⟨"FieldFactors$Polynomial", "comesBefore", "(LFieldFactors$Polynomial;)Z"⟩
def y_Cu_swap : MethodName := ⟨"FieldFactors$Cutter", "swap", "(II)V"⟩
def y_La_piece : MethodName := ⟨"FieldFactorsLaw", "piece", "(LFieldFactors;II[J)I"⟩
def y_Ff_piece : MethodName := ⟨"FieldFactors", "piece", "(II)I"⟩
def y_La_irreducible : MethodName := ⟨"FieldFactorsLaw", "irreducible", "(LFieldFactors;I[J)I"⟩
def y_Ff_irreducible : MethodName := ⟨"FieldFactors", "irreducible", "(I)Z"⟩
def y_Cu_cannotBeCut : MethodName := ⟨"FieldFactors$Cutter", "cannotBeCut", "(LFieldFactors$Polynomial;)Z"⟩
def y_La_order : MethodName := ⟨"FieldFactorsLaw", "order", "(LFieldFactors;I[J)I"⟩
def y_Ff_order : MethodName := ⟨"FieldFactors", "order", "(I)I"⟩
def y_Os_search : MethodName := ⟨"FieldFactors$OrderSearch", "search", "(LFieldFactors$Polynomial;)I"⟩
def y_Os_takeShortSteps : MethodName := ⟨"FieldFactors$OrderSearch", "takeShortSteps", "(LFieldFactors$Polynomial;)I"⟩
def y_Po_isOne : MethodName := ⟨"FieldFactors$Polynomial", "isOne", "()Z"⟩
def y_Os_code : MethodName := ⟨"FieldFactors$OrderSearch", "code", "(I)J"⟩
def y_Os_takeLongSteps : MethodName := ⟨"FieldFactors$OrderSearch", "takeLongSteps", "(LFieldFactors$Polynomial;)I"⟩
def y_Os_findShortStep : MethodName := ⟨"FieldFactors$OrderSearch", "findShortStep", "()I"⟩
def y_La_linear : MethodName := ⟨"FieldFactorsLaw", "linear", "(LFieldFactors;II[J)I"⟩
def y_Ff_linear : MethodName := ⟨"FieldFactors", "linear", "(II)I"⟩
def y_Cu_collectLinear : MethodName := ⟨"FieldFactors$Cutter", "collectLinear", "(LFieldFactors$Polynomial;LFieldFactors$Polynomial;)V"⟩
def y_Mo_init : MethodName := ⟨"FieldFactorsModel", "<init>", "()V"⟩
def y_Mo_thrown : MethodName := ⟨"FieldFactorsModel", "thrown", "()I"⟩
def y_Mo_field : MethodName := ⟨"FieldFactorsModel", "field", "(I)I"⟩
def y_Mo_limit : MethodName := ⟨"FieldFactorsModel", "limit", "(I)I"⟩
def y_Mo_refuse : MethodName := ⟨"FieldFactorsModel", "refuse", "(IZ)Z"⟩
def y_Mo_clear : MethodName := ⟨"FieldFactorsModel", "clear", "([I)V"⟩
def y_Mo_set : MethodName := ⟨"FieldFactorsModel", "set", "(III)I"⟩
def y_Mo_none : MethodName := ⟨"FieldFactorsModel", "none", "(I)Z"⟩
def y_Mo_inField : MethodName := ⟨"FieldFactorsModel", "inField", "(I)I"⟩
def y_Mo_get : MethodName := ⟨"FieldFactorsModel", "get", "(II)I"⟩
def y_Mo_join : MethodName := ⟨"FieldFactorsModel", "join", "(IIII)I"⟩
def y_Mo_degree : MethodName := ⟨"FieldFactorsModel", "degree", "([I)I"⟩
def y_Mo_times : MethodName := ⟨"FieldFactorsModel", "times", "([I[I)V"⟩
def y_Mo_copy : MethodName := ⟨"FieldFactorsModel", "copy", "([I[I)V"⟩
def y_Mo_divided : MethodName := ⟨"FieldFactorsModel", "divided", "([I[I)V"⟩
def y_Mo_under : MethodName := ⟨"FieldFactorsModel", "under", "(I)I"⟩
def y_Mo_common : MethodName := ⟨"FieldFactorsModel", "common", "([I[I)V"⟩
def y_Mo_monic : MethodName := ⟨"FieldFactorsModel", "monic", "([I)V"⟩
def y_Mo_power : MethodName := ⟨"FieldFactorsModel", "power", "(IIII)I"⟩
def y_Mo_raised : MethodName := ⟨"FieldFactorsModel", "raised", "(I[I)V"⟩
def y_Mo_inverse : MethodName := ⟨"FieldFactorsModel", "inverse", "(III)I"⟩
def y_Mo_value : MethodName := ⟨"FieldFactorsModel", "value", "(II)I"⟩
def y_Mo_at : MethodName := ⟨"FieldFactorsModel", "at", "([II)I"⟩
def y_Mo_zeros : MethodName := ⟨"FieldFactorsModel", "zeros", "(I)I"⟩
def y_Mo_factor : MethodName := ⟨"FieldFactorsModel", "factor", "(I)I"⟩
def y_Mo_all : MethodName := ⟨"FieldFactorsModel", "all", "(I)V"⟩
def y_Mo_divides : MethodName := ⟨"FieldFactorsModel", "divides", "([I[I)Z"⟩
def y_Mo_note : MethodName := ⟨"FieldFactorsModel", "note", "([II)V"⟩
def y_Mo_same : MethodName := ⟨"FieldFactorsModel", "same", "([I[I)Z"⟩
def y_Mo_before : MethodName := ⟨"FieldFactorsModel", "before", "([I[I)Z"⟩
def y_Mo_piece : MethodName := ⟨"FieldFactorsModel", "piece", "(II)I"⟩
def y_Mo_irreducible : MethodName := ⟨"FieldFactorsModel", "irreducible", "(I)Z"⟩
def y_Mo_order : MethodName := ⟨"FieldFactorsModel", "order", "(I)I"⟩
def y_Mo_linear : MethodName := ⟨"FieldFactorsModel", "linear", "(II)I"⟩
def y_Mo_count : MethodName := ⟨"FieldFactorsModel", "count", "(I)I"⟩
/-- the words that hold on and on -/
def TB : List Cond := lw_tbl.filter goodWord
theorem tb_in {w : Cond} {i : Nat} (h : lw_tbl[i]? = some w) (g : goodWord w = true) : w ∈ TB := List.mem_filter.mpr ⟨List.mem_of_getElem? h, g⟩
theorem tb_in0 {w : Cond} {i : Nat} (hi : (k2_sels lw_privs)[i]? = some w) (g : goodWord w = true) : w ∈ TB := List.mem_filter.mpr ⟨by have h := List.mem_of_getElem? hi; exact List.mem_append_left _ h, g⟩
theorem tb_in1 {w : Cond} {i : Nat} (hi : (tables_1_1)[i]? = some w) (g : goodWord w = true) : w ∈ TB := List.mem_filter.mpr ⟨by have h := List.mem_of_getElem? hi; exact List.mem_append_right _ (List.mem_append_left _ h), g⟩
theorem tb_in2 {w : Cond} {i : Nat} (hi : (tables_1_2)[i]? = some w) (g : goodWord w = true) : w ∈ TB := List.mem_filter.mpr ⟨by have h := List.mem_of_getElem? hi; exact List.mem_append_right _ (List.mem_append_right _ (List.mem_append_left _ h)), g⟩
theorem tb_in3 {w : Cond} {i : Nat} (hi : (tables_1_3)[i]? = some w) (g : goodWord w = true) : w ∈ TB := List.mem_filter.mpr ⟨by have h := List.mem_of_getElem? hi; exact List.mem_append_right _ (List.mem_append_right _ (List.mem_append_right _ (List.mem_append_left _ h))), g⟩
theorem tb_in4 {w : Cond} {i : Nat} (hi : (tables_1_4)[i]? = some w) (g : goodWord w = true) : w ∈ TB := List.mem_filter.mpr ⟨by have h := List.mem_of_getElem? hi; exact List.mem_append_right _ (List.mem_append_right _ (List.mem_append_right _ (List.mem_append_right _ h))), g⟩
theorem tb_good : GoodIn TB TB := fun w h => ⟨h, good_of_word (List.mem_filter.mp h).2⟩
theorem tb_cons {w : Cond} (h : w ∈ TB) {ws : List Cond} (g : GoodIn TB ws) : GoodIn TB (w :: ws) := fun v hv => by rcases List.mem_cons.mp hv with e | e; exact e ▸ tb_good w h; exact g v e
theorem tb_V {own : String} {idx : Nat} {C : String} {y : MethodName} {ws : List Cond} (h1 : Cond.methodLink own idx y ∈ TB) (h2 : Cond.instanceMethod y ∈ TB) (h3 : Cond.selects C y y ∈ TB) (h4 : Cond.initialized C ∈ TB) (g : GoodIn TB ws) : GoodIn TB (wsV own idx C y ws) := tb_cons h1 (tb_cons h2 (tb_cons h3 (tb_cons h4 g)))
theorem tb_S {own : String} {idx : Nat} {y : MethodName} {ws : List Cond} (h1 : Cond.methodLink own idx y ∈ TB) (h2 : Cond.static y ∈ TB) (h3 : Cond.initialized own ∈ TB) (g : GoodIn TB ws) : GoodIn TB (wsS own idx y ws) := tb_cons h1 (tb_cons h2 (tb_cons h3 g))
theorem k_se_Ff_register : Cond.selects "FieldFactors" ⟨"FieldFactors", "register", "(I)LFieldFactors$Polynomial;"⟩ ⟨"FieldFactors", "register", "(I)LFieldFactors$Polynomial;"⟩ ∈ TB := tb_in0 (i := 1) rfl rfl
theorem k_se_Ff_combine : Cond.selects "FieldFactors" ⟨"FieldFactors", "combine", "(ILFieldFactors$Polynomial;LFieldFactors$Polynomial;)V"⟩ ⟨"FieldFactors", "combine", "(ILFieldFactors$Polynomial;LFieldFactors$Polynomial;)V"⟩ ∈ TB := tb_in0 (i := 2) rfl rfl
theorem k_se_Ff_store : Cond.selects "FieldFactors" ⟨"FieldFactors", "store", "(LFieldFactors$Polynomial;)I"⟩ ⟨"FieldFactors", "store", "(LFieldFactors$Polynomial;)I"⟩ ∈ TB := tb_in0 (i := 3) rfl rfl
theorem k_se_Ff_highestCutDegree : Cond.selects "FieldFactors" ⟨"FieldFactors", "highestCutDegree", "()I"⟩ ⟨"FieldFactors", "highestCutDegree", "()I"⟩ ∈ TB := tb_in0 (i := 4) rfl rfl
theorem k_se_Cu_gatherNextDegree : Cond.selects "FieldFactors$Cutter" ⟨"FieldFactors$Cutter", "gatherNextDegree", "(LFieldFactors$Polynomial;)V"⟩ ⟨"FieldFactors$Cutter", "gatherNextDegree", "(LFieldFactors$Polynomial;)V"⟩ ∈ TB := tb_in0 (i := 5) rfl rfl
theorem k_se_Cu_split : Cond.selects "FieldFactors$Cutter" ⟨"FieldFactors$Cutter", "split", "(I)V"⟩ ⟨"FieldFactors$Cutter", "split", "(I)V"⟩ ∈ TB := tb_in0 (i := 6) rfl rfl
theorem k_se_Cu_append : Cond.selects "FieldFactors$Cutter" ⟨"FieldFactors$Cutter", "append", "(LFieldFactors$Polynomial;I)V"⟩ ⟨"FieldFactors$Cutter", "append", "(LFieldFactors$Polynomial;I)V"⟩ ∈ TB := tb_in0 (i := 7) rfl rfl
theorem k_se_Cu_findTrace : Cond.selects "FieldFactors$Cutter" ⟨"FieldFactors$Cutter", "findTrace", "(I)V"⟩ ⟨"FieldFactors$Cutter", "findTrace", "(I)V"⟩ ∈ TB := tb_in0 (i := 8) rfl rfl
theorem k_se_Cu_splitByTrace : Cond.selects "FieldFactors$Cutter" ⟨"FieldFactors$Cutter", "splitByTrace", "(II)V"⟩ ⟨"FieldFactors$Cutter", "splitByTrace", "(II)V"⟩ ∈ TB := tb_in0 (i := 9) rfl rfl
theorem k_se_Cu_takeOutFactors : Cond.selects "FieldFactors$Cutter" ⟨"FieldFactors$Cutter", "takeOutFactors", "(I)V"⟩ ⟨"FieldFactors$Cutter", "takeOutFactors", "(I)V"⟩ ∈ TB := tb_in0 (i := 10) rfl rfl
theorem k_se_Cu_sort : Cond.selects "FieldFactors$Cutter" ⟨"FieldFactors$Cutter", "sort", "()V"⟩ ⟨"FieldFactors$Cutter", "sort", "()V"⟩ ∈ TB := tb_in0 (i := 11) rfl rfl
theorem k_se_Cu_swap : Cond.selects "FieldFactors$Cutter" ⟨"FieldFactors$Cutter", "swap", "(II)V"⟩ ⟨"FieldFactors$Cutter", "swap", "(II)V"⟩ ∈ TB := tb_in0 (i := 12) rfl rfl
theorem k_se_Os_takeShortSteps : Cond.selects "FieldFactors$OrderSearch" ⟨"FieldFactors$OrderSearch", "takeShortSteps", "(LFieldFactors$Polynomial;)I"⟩ ⟨"FieldFactors$OrderSearch", "takeShortSteps", "(LFieldFactors$Polynomial;)I"⟩ ∈ TB := tb_in0 (i := 13) rfl rfl
theorem k_se_Os_code : Cond.selects "FieldFactors$OrderSearch" ⟨"FieldFactors$OrderSearch", "code", "(I)J"⟩ ⟨"FieldFactors$OrderSearch", "code", "(I)J"⟩ ∈ TB := tb_in0 (i := 14) rfl rfl
theorem k_se_Os_takeLongSteps : Cond.selects "FieldFactors$OrderSearch" ⟨"FieldFactors$OrderSearch", "takeLongSteps", "(LFieldFactors$Polynomial;)I"⟩ ⟨"FieldFactors$OrderSearch", "takeLongSteps", "(LFieldFactors$Polynomial;)I"⟩ ∈ TB := tb_in0 (i := 15) rfl rfl
theorem k_se_Os_findShortStep : Cond.selects "FieldFactors$OrderSearch" ⟨"FieldFactors$OrderSearch", "findShortStep", "()I"⟩ ⟨"FieldFactors$OrderSearch", "findShortStep", "()I"⟩ ∈ TB := tb_in0 (i := 16) rfl rfl
theorem k_se_Mo_refuse : Cond.selects "FieldFactorsModel" ⟨"FieldFactorsModel", "refuse", "(IZ)Z"⟩ ⟨"FieldFactorsModel", "refuse", "(IZ)Z"⟩ ∈ TB := tb_in0 (i := 17) rfl rfl
theorem k_se_Mo_none : Cond.selects "FieldFactorsModel" ⟨"FieldFactorsModel", "none", "(I)Z"⟩ ⟨"FieldFactorsModel", "none", "(I)Z"⟩ ∈ TB := tb_in0 (i := 18) rfl rfl
theorem k_se_Mo_inField : Cond.selects "FieldFactorsModel" ⟨"FieldFactorsModel", "inField", "(I)I"⟩ ⟨"FieldFactorsModel", "inField", "(I)I"⟩ ∈ TB := tb_in0 (i := 19) rfl rfl
theorem k_se_Mo_times : Cond.selects "FieldFactorsModel" ⟨"FieldFactorsModel", "times", "([I[I)V"⟩ ⟨"FieldFactorsModel", "times", "([I[I)V"⟩ ∈ TB := tb_in0 (i := 20) rfl rfl
theorem k_se_Mo_divided : Cond.selects "FieldFactorsModel" ⟨"FieldFactorsModel", "divided", "([I[I)V"⟩ ⟨"FieldFactorsModel", "divided", "([I[I)V"⟩ ∈ TB := tb_in0 (i := 21) rfl rfl
theorem k_se_Mo_under : Cond.selects "FieldFactorsModel" ⟨"FieldFactorsModel", "under", "(I)I"⟩ ⟨"FieldFactorsModel", "under", "(I)I"⟩ ∈ TB := tb_in0 (i := 22) rfl rfl
theorem k_se_Mo_common : Cond.selects "FieldFactorsModel" ⟨"FieldFactorsModel", "common", "([I[I)V"⟩ ⟨"FieldFactorsModel", "common", "([I[I)V"⟩ ∈ TB := tb_in0 (i := 23) rfl rfl
theorem k_se_Mo_monic : Cond.selects "FieldFactorsModel" ⟨"FieldFactorsModel", "monic", "([I)V"⟩ ⟨"FieldFactorsModel", "monic", "([I)V"⟩ ∈ TB := tb_in0 (i := 24) rfl rfl
theorem k_se_Mo_raised : Cond.selects "FieldFactorsModel" ⟨"FieldFactorsModel", "raised", "(I[I)V"⟩ ⟨"FieldFactorsModel", "raised", "(I[I)V"⟩ ∈ TB := tb_in0 (i := 25) rfl rfl
theorem k_se_Mo_at : Cond.selects "FieldFactorsModel" ⟨"FieldFactorsModel", "at", "([II)I"⟩ ⟨"FieldFactorsModel", "at", "([II)I"⟩ ∈ TB := tb_in0 (i := 26) rfl rfl
theorem k_se_Mo_all : Cond.selects "FieldFactorsModel" ⟨"FieldFactorsModel", "all", "(I)V"⟩ ⟨"FieldFactorsModel", "all", "(I)V"⟩ ∈ TB := tb_in0 (i := 27) rfl rfl
theorem k_se_Mo_divides : Cond.selects "FieldFactorsModel" ⟨"FieldFactorsModel", "divides", "([I[I)Z"⟩ ⟨"FieldFactorsModel", "divides", "([I[I)Z"⟩ ∈ TB := tb_in0 (i := 28) rfl rfl
theorem k_se_Mo_note : Cond.selects "FieldFactorsModel" ⟨"FieldFactorsModel", "note", "([II)V"⟩ ⟨"FieldFactorsModel", "note", "([II)V"⟩ ∈ TB := tb_in0 (i := 29) rfl rfl
theorem k_i_La : Cond.initialized "FieldFactorsLaw" ∈ TB := tb_in1 (i := 0) rfl rfl
theorem k_i_Ff : Cond.initialized "FieldFactors" ∈ TB := tb_in1 (i := 1) rfl rfl
theorem k_i_Ar : Cond.initialized "FieldFactors$Arithmetic" ∈ TB := tb_in1 (i := 2) rfl rfl
theorem k_i_Po : Cond.initialized "FieldFactors$Polynomial" ∈ TB := tb_in1 (i := 3) rfl rfl
theorem k_i_Cu : Cond.initialized "FieldFactors$Cutter" ∈ TB := tb_in1 (i := 4) rfl rfl
theorem k_i_Os : Cond.initialized "FieldFactors$OrderSearch" ∈ TB := tb_in1 (i := 5) rfl rfl
theorem k_i_Mo : Cond.initialized "FieldFactorsModel" ∈ TB := tb_in1 (i := 6) rfl rfl
theorem k_i_Throwable : Cond.initialized "java/lang/Throwable" ∈ TB := tb_in1 (i := 7) rfl rfl
theorem k_i_Exception : Cond.initialized "java/lang/Exception" ∈ TB := tb_in1 (i := 8) rfl rfl
theorem k_i_RuntimeException : Cond.initialized "java/lang/RuntimeException" ∈ TB := tb_in1 (i := 9) rfl rfl
theorem k_i_IllegalArgumentException : Cond.initialized "java/lang/IllegalArgumentException" ∈ TB := tb_in1 (i := 10) rfl rfl
theorem k_i_NoSuchElementException : Cond.initialized "java/util/NoSuchElementException" ∈ TB := tb_in1 (i := 11) rfl rfl
theorem k_i_Math : Cond.initialized "java/lang/Math" ∈ TB := tb_in1 (i := 12) rfl rfl
theorem k_i_ArithmeticException : Cond.initialized "java/lang/ArithmeticException" ∈ TB := tb_in1 (i := 13) rfl rfl
theorem k_i_IllegalStateException : Cond.initialized "java/lang/IllegalStateException" ∈ TB := tb_in1 (i := 14) rfl rfl
theorem k_c_La_8 : Cond.classLink "FieldFactorsLaw" 8 "FieldFactors" ∈ TB := tb_in1 (i := 15) rfl rfl
theorem k_n_Ff : Cond.instantiable "FieldFactors" 6 ∈ TB := tb_in1 (i := 16) rfl rfl
theorem k_m_La_61 : Cond.methodLink "FieldFactorsLaw" 61 ⟨"FieldFactors", "<init>", "()V"⟩ ∈ TB := tb_in1 (i := 17) rfl rfl
theorem k_im_Ff_init : Cond.instanceMethod ⟨"FieldFactors", "<init>", "()V"⟩ ∈ TB := tb_in1 (i := 18) rfl rfl
theorem k_co_Ff_init : Cond.code ⟨"FieldFactors", "<init>", "()V"⟩ prog_1_method_1_code 2 none ∈ TB := tb_in1 (i := 19) rfl rfl
theorem k_m_Ff_3 : Cond.methodLink "FieldFactors" 3 ⟨"java/lang/Object", "<init>", "()V"⟩ ∈ TB := tb_in1 (i := 20) rfl rfl
theorem k_im_Object_init : Cond.instanceMethod ⟨"java/lang/Object", "<init>", "()V"⟩ ∈ TB := tb_in1 (i := 21) rfl rfl
theorem k_co_Object_init : Cond.code ⟨"java/lang/Object", "<init>", "()V"⟩ object_method_1_code 1 none ∈ TB := tb_in1 (i := 22) rfl rfl
theorem k_c_Ff_9 : Cond.classLink "FieldFactors" 9 "FieldFactors$Arithmetic" ∈ TB := tb_in1 (i := 23) rfl rfl
theorem k_n_Ar : Cond.instantiable "FieldFactors$Arithmetic" 9 ∈ TB := tb_in1 (i := 24) rfl rfl
theorem k_m_Ff_11 : Cond.methodLink "FieldFactors" 11 ⟨"FieldFactors$Arithmetic", "<init>", "()V"⟩ ∈ TB := tb_in1 (i := 25) rfl rfl
theorem k_im_Ar_init : Cond.instanceMethod ⟨"FieldFactors$Arithmetic", "<init>", "()V"⟩ ∈ TB := tb_in1 (i := 26) rfl rfl
theorem k_co_Ar_init : Cond.code ⟨"FieldFactors$Arithmetic", "<init>", "()V"⟩ prog_2_method_1_code 1 none ∈ TB := tb_in1 (i := 27) rfl rfl
theorem k_m_Ar_3 : Cond.methodLink "FieldFactors$Arithmetic" 3 ⟨"java/lang/Object", "<init>", "()V"⟩ ∈ TB := tb_in1 (i := 28) rfl rfl
theorem k_c_Ar_15 : Cond.classLink "FieldFactors$Arithmetic" 15 "FieldFactors$Polynomial" ∈ TB := tb_in1 (i := 29) rfl rfl
theorem k_n_Po : Cond.instantiable "FieldFactors$Polynomial" 2 ∈ TB := tb_in1 (i := 30) rfl rfl
theorem k_m_Ar_17 : Cond.methodLink "FieldFactors$Arithmetic" 17 ⟨"FieldFactors$Polynomial", "<init>", "(I)V"⟩ ∈ TB := tb_in1 (i := 31) rfl rfl
theorem k_im_Po_init : Cond.instanceMethod ⟨"FieldFactors$Polynomial", "<init>", "(I)V"⟩ ∈ TB := tb_in1 (i := 32) rfl rfl
theorem k_co_Po_init : Cond.code ⟨"FieldFactors$Polynomial", "<init>", "(I)V"⟩ prog_5_method_1_code 2 none ∈ TB := tb_in1 (i := 33) rfl rfl
theorem k_m_Po_1 : Cond.methodLink "FieldFactors$Polynomial" 1 ⟨"java/lang/Object", "<init>", "()V"⟩ ∈ TB := tb_in1 (i := 34) rfl rfl
theorem k_f_Po_7 : Cond.fieldLink "FieldFactors$Polynomial" 7 "FieldFactors$Polynomial" "coefficients" "[I" ∈ TB := tb_in1 (i := 35) rfl rfl
theorem k_f_Os_40 : Cond.fieldLink "FieldFactors$OrderSearch" 40 "FieldFactors$Polynomial" "coefficients" "[I" ∈ TB := tb_in1 (i := 36) rfl rfl
theorem k_f_Ff_79 : Cond.fieldLink "FieldFactors" 79 "FieldFactors$Polynomial" "coefficients" "[I" ∈ TB := tb_in1 (i := 37) rfl rfl
theorem k_f_Ar_55 : Cond.fieldLink "FieldFactors$Arithmetic" 55 "FieldFactors$Polynomial" "coefficients" "[I" ∈ TB := tb_in1 (i := 38) rfl rfl
theorem k_f_Po_13 : Cond.fieldLink "FieldFactors$Polynomial" 13 "FieldFactors$Polynomial" "degree" "I" ∈ TB := tb_in1 (i := 39) rfl rfl
theorem k_f_Cu_63 : Cond.fieldLink "FieldFactors$Cutter" 63 "FieldFactors$Polynomial" "degree" "I" ∈ TB := tb_in1 (i := 40) rfl rfl
theorem k_f_Ar_52 : Cond.fieldLink "FieldFactors$Arithmetic" 52 "FieldFactors$Polynomial" "degree" "I" ∈ TB := tb_in1 (i := 41) rfl rfl
theorem k_f_Ff_95 : Cond.fieldLink "FieldFactors" 95 "FieldFactors$Polynomial" "degree" "I" ∈ TB := tb_in1 (i := 42) rfl rfl
theorem k_ac_int : Cond.arrayClass .int ∈ TB := tb_in1 (i := 48) rfl rfl
theorem k_m_Ar_45 : Cond.methodLink "FieldFactors$Arithmetic" 45 ⟨"FieldFactors$Arithmetic", "become", "(I)V"⟩ ∈ TB := tb_in1 (i := 51) rfl rfl
theorem k_im_Ar_become : Cond.instanceMethod ⟨"FieldFactors$Arithmetic", "become", "(I)V"⟩ ∈ TB := tb_in1 (i := 52) rfl rfl
theorem k_se_Ar_become : Cond.selects "FieldFactors$Arithmetic" ⟨"FieldFactors$Arithmetic", "become", "(I)V"⟩ ⟨"FieldFactors$Arithmetic", "become", "(I)V"⟩ ∈ TB := tb_in1 (i := 53) rfl rfl
theorem k_co_Ar_become : Cond.code ⟨"FieldFactors$Arithmetic", "become", "(I)V"⟩ prog_2_method_2_code 4 none ∈ TB := tb_in1 (i := 54) rfl rfl
theorem k_f_Ar_48 : Cond.fieldLink "FieldFactors$Arithmetic" 48 "FieldFactors$Arithmetic" "p" "I" ∈ TB := tb_in1 (i := 55) rfl rfl
theorem k_f_Ff_59 : Cond.fieldLink "FieldFactors" 59 "FieldFactors$Arithmetic" "p" "I" ∈ TB := tb_in1 (i := 56) rfl rfl
theorem k_f_Cu_91 : Cond.fieldLink "FieldFactors$Cutter" 91 "FieldFactors$Arithmetic" "p" "I" ∈ TB := tb_in1 (i := 57) rfl rfl
theorem k_f_Os_73 : Cond.fieldLink "FieldFactors$OrderSearch" 73 "FieldFactors$Arithmetic" "p" "I" ∈ TB := tb_in1 (i := 58) rfl rfl
theorem k_f_Ar_20 : Cond.fieldLink "FieldFactors$Arithmetic" 20 "FieldFactors$Arithmetic" "ignored" "LFieldFactors$Polynomial;" ∈ TB := tb_in1 (i := 59) rfl rfl
theorem k_f_Ff_202 : Cond.fieldLink "FieldFactors" 202 "FieldFactors$Arithmetic" "ignored" "LFieldFactors$Polynomial;" ∈ TB := tb_in1 (i := 60) rfl rfl
theorem k_f_Ar_9 : Cond.fieldLink "FieldFactors$Arithmetic" 9 "FieldFactors$Arithmetic" "inverses" "[I" ∈ TB := tb_in1 (i := 61) rfl rfl
theorem k_f_Ar_24 : Cond.fieldLink "FieldFactors$Arithmetic" 24 "FieldFactors$Arithmetic" "wide" "LFieldFactors$Polynomial;" ∈ TB := tb_in1 (i := 62) rfl rfl
theorem k_f_Ar_27 : Cond.fieldLink "FieldFactors$Arithmetic" 27 "FieldFactors$Arithmetic" "first" "LFieldFactors$Polynomial;" ∈ TB := tb_in1 (i := 63) rfl rfl
theorem k_f_Ar_30 : Cond.fieldLink "FieldFactors$Arithmetic" 30 "FieldFactors$Arithmetic" "second" "LFieldFactors$Polynomial;" ∈ TB := tb_in1 (i := 64) rfl rfl
theorem k_f_Ar_33 : Cond.fieldLink "FieldFactors$Arithmetic" 33 "FieldFactors$Arithmetic" "third" "LFieldFactors$Polynomial;" ∈ TB := tb_in1 (i := 65) rfl rfl
theorem k_f_Ar_36 : Cond.fieldLink "FieldFactors$Arithmetic" 36 "FieldFactors$Arithmetic" "fourth" "LFieldFactors$Polynomial;" ∈ TB := tb_in1 (i := 66) rfl rfl
theorem k_f_Ar_39 : Cond.fieldLink "FieldFactors$Arithmetic" 39 "FieldFactors$Arithmetic" "quotient" "LFieldFactors$Polynomial;" ∈ TB := tb_in1 (i := 67) rfl rfl
theorem k_c_Ff_16 : Cond.classLink "FieldFactors" 16 "FieldFactors$Cutter" ∈ TB := tb_in1 (i := 87) rfl rfl
theorem k_n_Cu : Cond.instantiable "FieldFactors$Cutter" 13 ∈ TB := tb_in1 (i := 88) rfl rfl
theorem k_m_Ff_18 : Cond.methodLink "FieldFactors" 18 ⟨"FieldFactors$Cutter", "<init>", "(LFieldFactors$Arithmetic;)V"⟩ ∈ TB := tb_in1 (i := 89) rfl rfl
theorem k_im_Cu_init : Cond.instanceMethod ⟨"FieldFactors$Cutter", "<init>", "(LFieldFactors$Arithmetic;)V"⟩ ∈ TB := tb_in1 (i := 90) rfl rfl
theorem k_co_Cu_init : Cond.code ⟨"FieldFactors$Cutter", "<init>", "(LFieldFactors$Arithmetic;)V"⟩ prog_3_method_1_code 3 none ∈ TB := tb_in1 (i := 91) rfl rfl
theorem k_m_Cu_3 : Cond.methodLink "FieldFactors$Cutter" 3 ⟨"java/lang/Object", "<init>", "()V"⟩ ∈ TB := tb_in1 (i := 92) rfl rfl
theorem k_c_Cu_15 : Cond.classLink "FieldFactors$Cutter" 15 "FieldFactors$Polynomial" ∈ TB := tb_in1 (i := 93) rfl rfl
theorem k_m_Cu_25 : Cond.methodLink "FieldFactors$Cutter" 25 ⟨"FieldFactors$Polynomial", "<init>", "(I)V"⟩ ∈ TB := tb_in1 (i := 95) rfl rfl
theorem k_m_Cu_57 : Cond.methodLink "FieldFactors$Cutter" 57 ⟨"FieldFactors$Polynomial", "becomePowerOfX", "(I)V"⟩ ∈ TB := tb_in1 (i := 96) rfl rfl
theorem k_im_Po_becomePowerOfX : Cond.instanceMethod ⟨"FieldFactors$Polynomial", "becomePowerOfX", "(I)V"⟩ ∈ TB := tb_in1 (i := 97) rfl rfl
theorem k_se_Po_becomePowerOfX : Cond.selects "FieldFactors$Polynomial" ⟨"FieldFactors$Polynomial", "becomePowerOfX", "(I)V"⟩ ⟨"FieldFactors$Polynomial", "becomePowerOfX", "(I)V"⟩ ∈ TB := tb_in1 (i := 98) rfl rfl
theorem k_co_Po_becomePowerOfX : Cond.code ⟨"FieldFactors$Polynomial", "becomePowerOfX", "(I)V"⟩ prog_5_method_5_code 2 none ∈ TB := tb_in1 (i := 99) rfl rfl
theorem k_m_Po_23 : Cond.methodLink "FieldFactors$Polynomial" 23 ⟨"FieldFactors$Polynomial", "clear", "()V"⟩ ∈ TB := tb_in1 (i := 100) rfl rfl
theorem k_im_Po_clear : Cond.instanceMethod ⟨"FieldFactors$Polynomial", "clear", "()V"⟩ ∈ TB := tb_in1 (i := 101) rfl rfl
theorem k_se_Po_clear : Cond.selects "FieldFactors$Polynomial" ⟨"FieldFactors$Polynomial", "clear", "()V"⟩ ⟨"FieldFactors$Polynomial", "clear", "()V"⟩ ∈ TB := tb_in1 (i := 102) rfl rfl
theorem k_co_Po_clear : Cond.code ⟨"FieldFactors$Polynomial", "clear", "()V"⟩ prog_5_method_2_code 2 none ∈ TB := tb_in1 (i := 103) rfl rfl
theorem k_f_Cu_17 : Cond.fieldLink "FieldFactors$Cutter" 17 "FieldFactors$Cutter" "factors" "[LFieldFactors$Polynomial;" ∈ TB := tb_in1 (i := 104) rfl rfl
theorem k_f_Ff_156 : Cond.fieldLink "FieldFactors" 156 "FieldFactors$Cutter" "factors" "[LFieldFactors$Polynomial;" ∈ TB := tb_in1 (i := 105) rfl rfl
theorem k_f_Cu_21 : Cond.fieldLink "FieldFactors$Cutter" 21 "FieldFactors$Cutter" "times" "[I" ∈ TB := tb_in1 (i := 106) rfl rfl
theorem k_f_Ff_162 : Cond.fieldLink "FieldFactors" 162 "FieldFactors$Cutter" "times" "[I" ∈ TB := tb_in1 (i := 107) rfl rfl
theorem k_f_Cu_28 : Cond.fieldLink "FieldFactors$Cutter" 28 "FieldFactors$Cutter" "size" "I" ∈ TB := tb_in1 (i := 108) rfl rfl
theorem k_f_Ff_148 : Cond.fieldLink "FieldFactors" 148 "FieldFactors$Cutter" "size" "I" ∈ TB := tb_in1 (i := 109) rfl rfl
theorem k_f_Cu_9 : Cond.fieldLink "FieldFactors$Cutter" 9 "FieldFactors$Cutter" "numbers" "LFieldFactors$Arithmetic;" ∈ TB := tb_in1 (i := 110) rfl rfl
theorem k_f_Cu_32 : Cond.fieldLink "FieldFactors$Cutter" 32 "FieldFactors$Cutter" "rest" "LFieldFactors$Polynomial;" ∈ TB := tb_in1 (i := 111) rfl rfl
theorem k_f_Cu_36 : Cond.fieldLink "FieldFactors$Cutter" 36 "FieldFactors$Cutter" "image" "LFieldFactors$Polynomial;" ∈ TB := tb_in1 (i := 112) rfl rfl
theorem k_f_Cu_39 : Cond.fieldLink "FieldFactors$Cutter" 39 "FieldFactors$Cutter" "group" "LFieldFactors$Polynomial;" ∈ TB := tb_in1 (i := 113) rfl rfl
theorem k_f_Cu_42 : Cond.fieldLink "FieldFactors$Cutter" 42 "FieldFactors$Cutter" "power" "LFieldFactors$Polynomial;" ∈ TB := tb_in1 (i := 114) rfl rfl
theorem k_f_Cu_45 : Cond.fieldLink "FieldFactors$Cutter" 45 "FieldFactors$Cutter" "trace" "LFieldFactors$Polynomial;" ∈ TB := tb_in1 (i := 115) rfl rfl
theorem k_f_Cu_48 : Cond.fieldLink "FieldFactors$Cutter" 48 "FieldFactors$Cutter" "common" "LFieldFactors$Polynomial;" ∈ TB := tb_in1 (i := 116) rfl rfl
theorem k_f_Cu_51 : Cond.fieldLink "FieldFactors$Cutter" 51 "FieldFactors$Cutter" "scratch" "LFieldFactors$Polynomial;" ∈ TB := tb_in1 (i := 117) rfl rfl
theorem k_f_Cu_54 : Cond.fieldLink "FieldFactors$Cutter" 54 "FieldFactors$Cutter" "one" "LFieldFactors$Polynomial;" ∈ TB := tb_in1 (i := 118) rfl rfl
theorem k_f_Cu_60 : Cond.fieldLink "FieldFactors$Cutter" 60 "FieldFactors$Cutter" "x" "LFieldFactors$Polynomial;" ∈ TB := tb_in1 (i := 119) rfl rfl
theorem k_c_Ff_25 : Cond.classLink "FieldFactors" 25 "FieldFactors$OrderSearch" ∈ TB := tb_in1 (i := 147) rfl rfl
theorem k_n_Os : Cond.instantiable "FieldFactors$OrderSearch" 6 ∈ TB := tb_in1 (i := 148) rfl rfl
theorem k_m_Ff_27 : Cond.methodLink "FieldFactors" 27 ⟨"FieldFactors$OrderSearch", "<init>", "(LFieldFactors$Arithmetic;)V"⟩ ∈ TB := tb_in1 (i := 149) rfl rfl
theorem k_im_Os_init : Cond.instanceMethod ⟨"FieldFactors$OrderSearch", "<init>", "(LFieldFactors$Arithmetic;)V"⟩ ∈ TB := tb_in1 (i := 150) rfl rfl
theorem k_co_Os_init : Cond.code ⟨"FieldFactors$OrderSearch", "<init>", "(LFieldFactors$Arithmetic;)V"⟩ prog_4_method_1_code 2 none ∈ TB := tb_in1 (i := 151) rfl rfl
theorem k_m_Os_3 : Cond.methodLink "FieldFactors$OrderSearch" 3 ⟨"java/lang/Object", "<init>", "()V"⟩ ∈ TB := tb_in1 (i := 152) rfl rfl
theorem k_c_Os_22 : Cond.classLink "FieldFactors$OrderSearch" 22 "FieldFactors$Polynomial" ∈ TB := tb_in1 (i := 153) rfl rfl
theorem k_m_Os_24 : Cond.methodLink "FieldFactors$OrderSearch" 24 ⟨"FieldFactors$Polynomial", "<init>", "(I)V"⟩ ∈ TB := tb_in1 (i := 154) rfl rfl
theorem k_m_Os_37 : Cond.methodLink "FieldFactors$OrderSearch" 37 ⟨"FieldFactors$Polynomial", "becomePowerOfX", "(I)V"⟩ ∈ TB := tb_in1 (i := 155) rfl rfl
theorem k_f_Os_9 : Cond.fieldLink "FieldFactors$OrderSearch" 9 "FieldFactors$OrderSearch" "numbers" "LFieldFactors$Arithmetic;" ∈ TB := tb_in1 (i := 156) rfl rfl
theorem k_f_Os_15 : Cond.fieldLink "FieldFactors$OrderSearch" 15 "FieldFactors$OrderSearch" "lowCodes" "[J" ∈ TB := tb_in1 (i := 157) rfl rfl
theorem k_f_Os_19 : Cond.fieldLink "FieldFactors$OrderSearch" 19 "FieldFactors$OrderSearch" "highCodes" "[J" ∈ TB := tb_in1 (i := 158) rfl rfl
theorem k_f_Os_27 : Cond.fieldLink "FieldFactors$OrderSearch" 27 "FieldFactors$OrderSearch" "power" "LFieldFactors$Polynomial;" ∈ TB := tb_in1 (i := 159) rfl rfl
theorem k_f_Os_31 : Cond.fieldLink "FieldFactors$OrderSearch" 31 "FieldFactors$OrderSearch" "stride" "LFieldFactors$Polynomial;" ∈ TB := tb_in1 (i := 160) rfl rfl
theorem k_f_Os_34 : Cond.fieldLink "FieldFactors$OrderSearch" 34 "FieldFactors$OrderSearch" "x" "LFieldFactors$Polynomial;" ∈ TB := tb_in1 (i := 161) rfl rfl
theorem k_ac_long : Cond.arrayClass .long ∈ TB := tb_in1 (i := 175) rfl rfl
theorem k_c_Ff_32 : Cond.classLink "FieldFactors" 32 "FieldFactors$Polynomial" ∈ TB := tb_in1 (i := 176) rfl rfl
theorem k_m_Ff_38 : Cond.methodLink "FieldFactors" 38 ⟨"FieldFactors$Polynomial", "<init>", "(I)V"⟩ ∈ TB := tb_in1 (i := 177) rfl rfl
theorem k_f_Ff_12 : Cond.fieldLink "FieldFactors" 12 "FieldFactors" "numbers" "LFieldFactors$Arithmetic;" ∈ TB := tb_in1 (i := 178) rfl rfl
theorem k_f_Ff_21 : Cond.fieldLink "FieldFactors" 21 "FieldFactors" "cutter" "LFieldFactors$Cutter;" ∈ TB := tb_in1 (i := 179) rfl rfl
theorem k_f_Ff_28 : Cond.fieldLink "FieldFactors" 28 "FieldFactors" "orderSearch" "LFieldFactors$OrderSearch;" ∈ TB := tb_in1 (i := 180) rfl rfl
theorem k_f_Ff_34 : Cond.fieldLink "FieldFactors" 34 "FieldFactors" "registers" "[LFieldFactors$Polynomial;" ∈ TB := tb_in1 (i := 181) rfl rfl
theorem k_f_Ff_41 : Cond.fieldLink "FieldFactors" 41 "FieldFactors" "result" "LFieldFactors$Polynomial;" ∈ TB := tb_in1 (i := 182) rfl rfl
theorem k_f_Ff_45 : Cond.fieldLink "FieldFactors" 45 "FieldFactors" "scratch" "LFieldFactors$Polynomial;" ∈ TB := tb_in1 (i := 183) rfl rfl
theorem k_m_La_114 : Cond.methodLink "FieldFactorsLaw" 114 ⟨"FieldFactors", "count", "(I)I"⟩ ∈ TB := tb_in1 (i := 197) rfl rfl
theorem k_im_Ff_count : Cond.instanceMethod ⟨"FieldFactors", "count", "(I)I"⟩ ∈ TB := tb_in1 (i := 198) rfl rfl
theorem k_se_Ff_count : Cond.selects "FieldFactors" ⟨"FieldFactors", "count", "(I)I"⟩ ⟨"FieldFactors", "count", "(I)I"⟩ ∈ TB := tb_in1 (i := 199) rfl rfl
theorem k_co_Ff_count : Cond.code ⟨"FieldFactors", "count", "(I)I"⟩ prog_1_method_15_code 2 (Option.some .int) ∈ TB := tb_in1 (i := 200) rfl rfl
theorem k_m_La_65 : Cond.methodLink "FieldFactorsLaw" 65 ⟨"FieldFactorsLaw", "field", "(LFieldFactors;I[J)I"⟩ ∈ TB := tb_in1 (i := 201) rfl rfl
theorem k_st_La_field : Cond.static ⟨"FieldFactorsLaw", "field", "(LFieldFactors;I[J)I"⟩ ∈ TB := tb_in1 (i := 202) rfl rfl
theorem k_co_La_field : Cond.codeWith ⟨"FieldFactorsLaw", "field", "(LFieldFactors;I[J)I"⟩ method_3_code 4 (Option.some .int) [(0, 9, 12, 13)] ∈ TB := tb_in1 (i := 203) rfl rfl
theorem k_c_La_13 : Cond.classLink "FieldFactorsLaw" 13 "java/lang/IllegalArgumentException" ∈ TB := tb_in1 (i := 204) rfl rfl
theorem k_m_La_7 : Cond.methodLink "FieldFactorsLaw" 7 ⟨"FieldFactors", "field", "(I)I"⟩ ∈ TB := tb_in1 (i := 205) rfl rfl
theorem k_im_Ff_field : Cond.instanceMethod ⟨"FieldFactors", "field", "(I)I"⟩ ∈ TB := tb_in1 (i := 206) rfl rfl
theorem k_se_Ff_field : Cond.selects "FieldFactors" ⟨"FieldFactors", "field", "(I)I"⟩ ⟨"FieldFactors", "field", "(I)I"⟩ ∈ TB := tb_in1 (i := 207) rfl rfl
theorem k_co_Ff_field : Cond.code ⟨"FieldFactors", "field", "(I)I"⟩ prog_1_method_2_code 4 (Option.some .int) ∈ TB := tb_in1 (i := 208) rfl rfl
theorem k_m_Ff_48 : Cond.methodLink "FieldFactors" 48 ⟨"FieldFactors", "fieldIndex", "(I)I"⟩ ∈ TB := tb_in1 (i := 209) rfl rfl
theorem k_st_Ff_fieldIndex : Cond.static ⟨"FieldFactors", "fieldIndex", "(I)I"⟩ ∈ TB := tb_in1 (i := 210) rfl rfl
theorem k_co_Ff_fieldIndex : Cond.code ⟨"FieldFactors", "fieldIndex", "(I)I"⟩ prog_1_method_20_code 2 (Option.some .int) ∈ TB := tb_in1 (i := 211) rfl rfl
theorem k_f_Ff_184 : Cond.fieldLink "FieldFactors" 184 "FieldFactors" "FIELDS" "[I" ∈ TB := tb_in1 (i := 212) rfl rfl
theorem k_c_Ff_52 : Cond.classLink "FieldFactors" 52 "java/lang/IllegalArgumentException" ∈ TB := tb_in1 (i := 213) rfl rfl
theorem k_n_IllegalArgumentException : Cond.instantiable "java/lang/IllegalArgumentException" 6 ∈ TB := tb_in1 (i := 214) rfl rfl
theorem k_im_Throwable_init : Cond.instanceMethod ⟨"java/lang/Throwable", "<init>", "()V"⟩ ∈ TB := tb_in1 (i := 236) rfl rfl
theorem k_co_Throwable_init : Cond.code ⟨"java/lang/Throwable", "<init>", "()V"⟩ prog_15_method_1_code 1 none ∈ TB := tb_in1 (i := 237) rfl rfl
theorem k_im_Throwable_fillInStackTrace : Cond.instanceMethod ⟨"java/lang/Throwable", "fillInStackTrace", "()Ljava/lang/Throwable;"⟩ ∈ TB := tb_in2 (i := 4) rfl rfl
theorem k_co_Throwable_fillInStackTrace : Cond.codeSync ⟨"java/lang/Throwable", "fillInStackTrace", "()Ljava/lang/Throwable;"⟩ prog_15_method_18_code 1 (Option.some (.object "java/lang/Throwable")) ∈ TB := tb_in2 (i := 9) rfl rfl
theorem k_n_Throwable : Cond.instantiable "java/lang/Throwable" 6 ∈ TB := tb_in2 (i := 13) rfl rfl
theorem k_m_Ff_56 : Cond.methodLink "FieldFactors" 56 ⟨"java/lang/IllegalArgumentException", "<init>", "(Ljava/lang/String;)V"⟩ ∈ TB := tb_in2 (i := 16) rfl rfl
theorem k_im_IllegalArgumentException_init : Cond.instanceMethod ⟨"java/lang/IllegalArgumentException", "<init>", "(Ljava/lang/String;)V"⟩ ∈ TB := tb_in2 (i := 17) rfl rfl
theorem k_co_IllegalArgumentException_init : Cond.code ⟨"java/lang/IllegalArgumentException", "<init>", "(Ljava/lang/String;)V"⟩ prog_10_method_2_code 2 none ∈ TB := tb_in2 (i := 18) rfl rfl
theorem k_im_RuntimeException_init : Cond.instanceMethod ⟨"java/lang/RuntimeException", "<init>", "(Ljava/lang/String;)V"⟩ ∈ TB := tb_in2 (i := 20) rfl rfl
theorem k_co_RuntimeException_init : Cond.code ⟨"java/lang/RuntimeException", "<init>", "(Ljava/lang/String;)V"⟩ prog_13_method_2_code 2 none ∈ TB := tb_in2 (i := 21) rfl rfl
theorem k_im_Exception_init : Cond.instanceMethod ⟨"java/lang/Exception", "<init>", "(Ljava/lang/String;)V"⟩ ∈ TB := tb_in2 (i := 23) rfl rfl
theorem k_co_Exception_init : Cond.code ⟨"java/lang/Exception", "<init>", "(Ljava/lang/String;)V"⟩ prog_9_method_2_code 2 none ∈ TB := tb_in2 (i := 24) rfl rfl
theorem k_im_Throwable_init2 : Cond.instanceMethod ⟨"java/lang/Throwable", "<init>", "(Ljava/lang/String;)V"⟩ ∈ TB := tb_in2 (i := 26) rfl rfl
theorem k_co_Throwable_init2 : Cond.code ⟨"java/lang/Throwable", "<init>", "(Ljava/lang/String;)V"⟩ prog_15_method_2_code 2 none ∈ TB := tb_in2 (i := 27) rfl rfl
theorem k_ac_byte : Cond.arrayClass .byte ∈ TB := tb_in2 (i := 41) rfl rfl
theorem k_m_Ff_63 : Cond.methodLink "FieldFactors" 63 ⟨"FieldFactors$Arithmetic", "become", "(I)V"⟩ ∈ TB := tb_in2 (i := 42) rfl rfl
theorem k_m_Ff_66 : Cond.methodLink "FieldFactors" 66 ⟨"FieldFactors$Polynomial", "clear", "()V"⟩ ∈ TB := tb_in2 (i := 43) rfl rfl
theorem k_m_Ff_69 : Cond.methodLink "FieldFactors" 69 ⟨"FieldFactors$Cutter", "forget", "()V"⟩ ∈ TB := tb_in2 (i := 44) rfl rfl
theorem k_im_Cu_forget : Cond.instanceMethod ⟨"FieldFactors$Cutter", "forget", "()V"⟩ ∈ TB := tb_in2 (i := 45) rfl rfl
theorem k_se_Cu_forget : Cond.selects "FieldFactors$Cutter" ⟨"FieldFactors$Cutter", "forget", "()V"⟩ ⟨"FieldFactors$Cutter", "forget", "()V"⟩ ∈ TB := tb_in2 (i := 46) rfl rfl
theorem k_co_Cu_forget : Cond.code ⟨"FieldFactors$Cutter", "forget", "()V"⟩ prog_3_method_2_code 1 none ∈ TB := tb_in2 (i := 47) rfl rfl
theorem k_m_La_75 : Cond.methodLink "FieldFactorsLaw" 75 ⟨"FieldFactorsLaw", "set", "(LFieldFactors;III[J)I"⟩ ∈ TB := tb_in2 (i := 48) rfl rfl
theorem k_st_La_set : Cond.static ⟨"FieldFactorsLaw", "set", "(LFieldFactors;III[J)I"⟩ ∈ TB := tb_in2 (i := 49) rfl rfl
theorem k_co_La_set : Cond.codeWith ⟨"FieldFactorsLaw", "set", "(LFieldFactors;III[J)I"⟩ method_4_code 6 (Option.some .int) [(0, 12, 15, 19), (0, 12, 19, 13)] ∈ TB := tb_in2 (i := 50) rfl rfl
theorem k_c_La_19 : Cond.classLink "FieldFactorsLaw" 19 "java/util/NoSuchElementException" ∈ TB := tb_in2 (i := 51) rfl rfl
theorem k_m_La_15 : Cond.methodLink "FieldFactorsLaw" 15 ⟨"FieldFactors", "set", "(III)I"⟩ ∈ TB := tb_in2 (i := 52) rfl rfl
theorem k_im_Ff_set : Cond.instanceMethod ⟨"FieldFactors", "set", "(III)I"⟩ ∈ TB := tb_in2 (i := 53) rfl rfl
theorem k_se_Ff_set : Cond.selects "FieldFactors" ⟨"FieldFactors", "set", "(III)I"⟩ ⟨"FieldFactors", "set", "(III)I"⟩ ∈ TB := tb_in2 (i := 54) rfl rfl
theorem k_co_Ff_set : Cond.code ⟨"FieldFactors", "set", "(III)I"⟩ prog_1_method_3_code 6 (Option.some .int) ∈ TB := tb_in2 (i := 55) rfl rfl
theorem k_m_Ff_72 : Cond.methodLink "FieldFactors" 72 ⟨"FieldFactors", "register", "(I)LFieldFactors$Polynomial;"⟩ ∈ TB := tb_in2 (i := 56) rfl rfl
theorem k_im_Ff_register : Cond.instanceMethod ⟨"FieldFactors", "register", "(I)LFieldFactors$Polynomial;"⟩ ∈ TB := tb_in2 (i := 58) rfl rfl
theorem k_co_Ff_register : Cond.code ⟨"FieldFactors", "register", "(I)LFieldFactors$Polynomial;"⟩ prog_1_method_16_code 2 (Option.some (.object "FieldFactors$Polynomial")) ∈ TB := tb_in2 (i := 59) rfl rfl
theorem k_c_Ff_151 : Cond.classLink "FieldFactors" 151 "java/util/NoSuchElementException" ∈ TB := tb_in2 (i := 60) rfl rfl
theorem k_n_NoSuchElementException : Cond.instantiable "java/util/NoSuchElementException" 6 ∈ TB := tb_in2 (i := 61) rfl rfl
theorem k_m_Ff_155 : Cond.methodLink "FieldFactors" 155 ⟨"java/util/NoSuchElementException", "<init>", "(Ljava/lang/String;)V"⟩ ∈ TB := tb_in2 (i := 70) rfl rfl
theorem k_im_NoSuchElementException_init : Cond.instanceMethod ⟨"java/util/NoSuchElementException", "<init>", "(Ljava/lang/String;)V"⟩ ∈ TB := tb_in2 (i := 71) rfl rfl
theorem k_co_NoSuchElementException_init : Cond.code ⟨"java/util/NoSuchElementException", "<init>", "(Ljava/lang/String;)V"⟩ prog_16_method_4_code 2 none ∈ TB := tb_in2 (i := 72) rfl rfl
theorem k_m_Ff_76 : Cond.methodLink "FieldFactors" 76 ⟨"FieldFactors", "needExponent", "(I)V"⟩ ∈ TB := tb_in2 (i := 76) rfl rfl
theorem k_st_Ff_needExponent : Cond.static ⟨"FieldFactors", "needExponent", "(I)V"⟩ ∈ TB := tb_in2 (i := 77) rfl rfl
theorem k_co_Ff_needExponent : Cond.code ⟨"FieldFactors", "needExponent", "(I)V"⟩ prog_1_method_17_code 1 none ∈ TB := tb_in2 (i := 78) rfl rfl
theorem k_m_Ff_83 : Cond.methodLink "FieldFactors" 83 ⟨"java/lang/Math", "floorMod", "(II)I"⟩ ∈ TB := tb_in2 (i := 80) rfl rfl
theorem k_st_Math_floorMod : Cond.static ⟨"java/lang/Math", "floorMod", "(II)I"⟩ ∈ TB := tb_in2 (i := 81) rfl rfl
theorem k_co_Math_floorMod : Cond.code ⟨"java/lang/Math", "floorMod", "(II)I"⟩ prog_12_method_50_code 3 (Option.some .int) ∈ TB := tb_in2 (i := 82) rfl rfl
theorem k_m_Ff_89 : Cond.methodLink "FieldFactors" 89 ⟨"FieldFactors$Polynomial", "put", "(II)V"⟩ ∈ TB := tb_in2 (i := 83) rfl rfl
theorem k_im_Po_put : Cond.instanceMethod ⟨"FieldFactors$Polynomial", "put", "(II)V"⟩ ∈ TB := tb_in2 (i := 84) rfl rfl
theorem k_se_Po_put : Cond.selects "FieldFactors$Polynomial" ⟨"FieldFactors$Polynomial", "put", "(II)V"⟩ ⟨"FieldFactors$Polynomial", "put", "(II)V"⟩ ∈ TB := tb_in2 (i := 85) rfl rfl
theorem k_co_Po_put : Cond.code ⟨"FieldFactors$Polynomial", "put", "(II)V"⟩ prog_5_method_4_code 3 none ∈ TB := tb_in2 (i := 86) rfl rfl
theorem k_m_Po_17 : Cond.methodLink "FieldFactors$Polynomial" 17 ⟨"java/lang/Math", "max", "(II)I"⟩ ∈ TB := tb_in2 (i := 87) rfl rfl
theorem k_st_Math_max : Cond.static ⟨"java/lang/Math", "max", "(II)I"⟩ ∈ TB := tb_in2 (i := 88) rfl rfl
theorem k_co_Math_max : Cond.code ⟨"java/lang/Math", "max", "(II)I"⟩ prog_12_method_65_code 2 (Option.some .int) ∈ TB := tb_in2 (i := 89) rfl rfl
theorem k_m_La_79 : Cond.methodLink "FieldFactorsLaw" 79 ⟨"FieldFactorsLaw", "get", "(LFieldFactors;II[J)I"⟩ ∈ TB := tb_in2 (i := 90) rfl rfl
theorem k_st_La_get : Cond.static ⟨"FieldFactorsLaw", "get", "(LFieldFactors;II[J)I"⟩ ∈ TB := tb_in2 (i := 91) rfl rfl
theorem k_co_La_get : Cond.codeWith ⟨"FieldFactorsLaw", "get", "(LFieldFactors;II[J)I"⟩ method_5_code 5 (Option.some .int) [(0, 10, 13, 19), (0, 10, 17, 13)] ∈ TB := tb_in2 (i := 92) rfl rfl
theorem k_m_La_21 : Cond.methodLink "FieldFactorsLaw" 21 ⟨"FieldFactors", "get", "(II)I"⟩ ∈ TB := tb_in2 (i := 93) rfl rfl
theorem k_im_Ff_get : Cond.instanceMethod ⟨"FieldFactors", "get", "(II)I"⟩ ∈ TB := tb_in2 (i := 94) rfl rfl
theorem k_se_Ff_get : Cond.selects "FieldFactors" ⟨"FieldFactors", "get", "(II)I"⟩ ⟨"FieldFactors", "get", "(II)I"⟩ ∈ TB := tb_in2 (i := 95) rfl rfl
theorem k_co_Ff_get : Cond.code ⟨"FieldFactors", "get", "(II)I"⟩ prog_1_method_4_code 4 (Option.some .int) ∈ TB := tb_in2 (i := 96) rfl rfl
theorem k_m_La_83 : Cond.methodLink "FieldFactorsLaw" 83 ⟨"FieldFactorsLaw", "join", "(LFieldFactors;IIII[J)I"⟩ ∈ TB := tb_in2 (i := 97) rfl rfl
theorem k_st_La_join : Cond.static ⟨"FieldFactorsLaw", "join", "(LFieldFactors;IIII[J)I"⟩ ∈ TB := tb_in2 (i := 98) rfl rfl
theorem k_co_La_join : Cond.codeWith ⟨"FieldFactorsLaw", "join", "(LFieldFactors;IIII[J)I"⟩ method_6_code 7 (Option.some .int) [(0, 14, 17, 19), (0, 14, 21, 13), (0, 14, 25, 29)] ∈ TB := tb_in2 (i := 99) rfl rfl
theorem k_c_La_29 : Cond.classLink "FieldFactorsLaw" 29 "java/lang/ArithmeticException" ∈ TB := tb_in2 (i := 100) rfl rfl
theorem k_m_La_25 : Cond.methodLink "FieldFactorsLaw" 25 ⟨"FieldFactors", "join", "(IIII)I"⟩ ∈ TB := tb_in2 (i := 101) rfl rfl
theorem k_im_Ff_join : Cond.instanceMethod ⟨"FieldFactors", "join", "(IIII)I"⟩ ∈ TB := tb_in2 (i := 102) rfl rfl
theorem k_se_Ff_join : Cond.selects "FieldFactors" ⟨"FieldFactors", "join", "(IIII)I"⟩ ⟨"FieldFactors", "join", "(IIII)I"⟩ ∈ TB := tb_in2 (i := 103) rfl rfl
theorem k_co_Ff_join : Cond.code ⟨"FieldFactors", "join", "(IIII)I"⟩ prog_1_method_5_code 8 (Option.some .int) ∈ TB := tb_in2 (i := 104) rfl rfl
theorem k_c_Ff_100 : Cond.classLink "FieldFactors" 100 "java/lang/ArithmeticException" ∈ TB := tb_in2 (i := 107) rfl rfl
theorem k_n_ArithmeticException : Cond.instantiable "java/lang/ArithmeticException" 6 ∈ TB := tb_in2 (i := 108) rfl rfl
theorem k_m_Ff_104 : Cond.methodLink "FieldFactors" 104 ⟨"java/lang/ArithmeticException", "<init>", "(Ljava/lang/String;)V"⟩ ∈ TB := tb_in2 (i := 117) rfl rfl
theorem k_im_ArithmeticException_init : Cond.instanceMethod ⟨"java/lang/ArithmeticException", "<init>", "(Ljava/lang/String;)V"⟩ ∈ TB := tb_in2 (i := 118) rfl rfl
theorem k_co_ArithmeticException_init : Cond.code ⟨"java/lang/ArithmeticException", "<init>", "(Ljava/lang/String;)V"⟩ prog_8_method_2_code 2 none ∈ TB := tb_in2 (i := 119) rfl rfl
theorem k_m_Ff_105 : Cond.methodLink "FieldFactors" 105 ⟨"FieldFactors", "combine", "(ILFieldFactors$Polynomial;LFieldFactors$Polynomial;)V"⟩ ∈ TB := tb_in2 (i := 123) rfl rfl
theorem k_im_Ff_combine : Cond.instanceMethod ⟨"FieldFactors", "combine", "(ILFieldFactors$Polynomial;LFieldFactors$Polynomial;)V"⟩ ∈ TB := tb_in2 (i := 125) rfl rfl
theorem k_co_Ff_combine : Cond.code ⟨"FieldFactors", "combine", "(ILFieldFactors$Polynomial;LFieldFactors$Polynomial;)V"⟩ prog_1_method_22_code 4 none ∈ TB := tb_in2 (i := 126) rfl rfl
theorem k_m_Ff_159 : Cond.methodLink "FieldFactors" 159 ⟨"FieldFactors$Polynomial", "copyFrom", "(LFieldFactors$Polynomial;)V"⟩ ∈ TB := tb_in2 (i := 127) rfl rfl
theorem k_im_Po_copyFrom : Cond.instanceMethod ⟨"FieldFactors$Polynomial", "copyFrom", "(LFieldFactors$Polynomial;)V"⟩ ∈ TB := tb_in2 (i := 128) rfl rfl
theorem k_se_Po_copyFrom : Cond.selects "FieldFactors$Polynomial" ⟨"FieldFactors$Polynomial", "copyFrom", "(LFieldFactors$Polynomial;)V"⟩ ⟨"FieldFactors$Polynomial", "copyFrom", "(LFieldFactors$Polynomial;)V"⟩ ∈ TB := tb_in2 (i := 129) rfl rfl
theorem k_co_Po_copyFrom : Cond.code ⟨"FieldFactors$Polynomial", "copyFrom", "(LFieldFactors$Polynomial;)V"⟩ prog_5_method_3_code 3 none ∈ TB := tb_in2 (i := 130) rfl rfl
theorem k_m_Ff_190 : Cond.methodLink "FieldFactors" 190 ⟨"FieldFactors$Arithmetic", "addShifted", "(LFieldFactors$Polynomial;IILFieldFactors$Polynomial;)V"⟩ ∈ TB := tb_in2 (i := 131) rfl rfl
theorem k_im_Ar_addShifted : Cond.instanceMethod ⟨"FieldFactors$Arithmetic", "addShifted", "(LFieldFactors$Polynomial;IILFieldFactors$Polynomial;)V"⟩ ∈ TB := tb_in2 (i := 132) rfl rfl
theorem k_se_Ar_addShifted : Cond.selects "FieldFactors$Arithmetic" ⟨"FieldFactors$Arithmetic", "addShifted", "(LFieldFactors$Polynomial;IILFieldFactors$Polynomial;)V"⟩ ⟨"FieldFactors$Arithmetic", "addShifted", "(LFieldFactors$Polynomial;IILFieldFactors$Polynomial;)V"⟩ ∈ TB := tb_in2 (i := 133) rfl rfl
theorem k_co_Ar_addShifted : Cond.code ⟨"FieldFactors$Arithmetic", "addShifted", "(LFieldFactors$Polynomial;IILFieldFactors$Polynomial;)V"⟩ prog_2_method_3_code 7 none ∈ TB := tb_in2 (i := 134) rfl rfl
theorem k_m_Ar_58 : Cond.methodLink "FieldFactors$Arithmetic" 58 ⟨"java/lang/Math", "max", "(II)I"⟩ ∈ TB := tb_in2 (i := 135) rfl rfl
theorem k_m_Ff_194 : Cond.methodLink "FieldFactors" 194 ⟨"FieldFactors$Arithmetic", "addProduct", "(LFieldFactors$Polynomial;ILFieldFactors$Polynomial;LFieldFactors$Polynomial;)V"⟩ ∈ TB := tb_in2 (i := 136) rfl rfl
theorem k_im_Ar_addProduct : Cond.instanceMethod ⟨"FieldFactors$Arithmetic", "addProduct", "(LFieldFactors$Polynomial;ILFieldFactors$Polynomial;LFieldFactors$Polynomial;)V"⟩ ∈ TB := tb_in2 (i := 137) rfl rfl
theorem k_se_Ar_addProduct : Cond.selects "FieldFactors$Arithmetic" ⟨"FieldFactors$Arithmetic", "addProduct", "(LFieldFactors$Polynomial;ILFieldFactors$Polynomial;LFieldFactors$Polynomial;)V"⟩ ⟨"FieldFactors$Arithmetic", "addProduct", "(LFieldFactors$Polynomial;ILFieldFactors$Polynomial;LFieldFactors$Polynomial;)V"⟩ ∈ TB := tb_in2 (i := 138) rfl rfl
theorem k_co_Ar_addProduct : Cond.code ⟨"FieldFactors$Arithmetic", "addProduct", "(LFieldFactors$Polynomial;ILFieldFactors$Polynomial;LFieldFactors$Polynomial;)V"⟩ prog_2_method_4_code 6 none ∈ TB := tb_in2 (i := 139) rfl rfl
theorem k_m_Ar_64 : Cond.methodLink "FieldFactors$Arithmetic" 64 ⟨"FieldFactors$Arithmetic", "addShifted", "(LFieldFactors$Polynomial;IILFieldFactors$Polynomial;)V"⟩ ∈ TB := tb_in2 (i := 140) rfl rfl
theorem k_m_Ff_198 : Cond.methodLink "FieldFactors" 198 ⟨"FieldFactors$Arithmetic", "divide", "(LFieldFactors$Polynomial;LFieldFactors$Polynomial;LFieldFactors$Polynomial;)V"⟩ ∈ TB := tb_in2 (i := 141) rfl rfl
theorem k_im_Ar_divide : Cond.instanceMethod ⟨"FieldFactors$Arithmetic", "divide", "(LFieldFactors$Polynomial;LFieldFactors$Polynomial;LFieldFactors$Polynomial;)V"⟩ ∈ TB := tb_in2 (i := 142) rfl rfl
theorem k_se_Ar_divide : Cond.selects "FieldFactors$Arithmetic" ⟨"FieldFactors$Arithmetic", "divide", "(LFieldFactors$Polynomial;LFieldFactors$Polynomial;LFieldFactors$Polynomial;)V"⟩ ⟨"FieldFactors$Arithmetic", "divide", "(LFieldFactors$Polynomial;LFieldFactors$Polynomial;LFieldFactors$Polynomial;)V"⟩ ∈ TB := tb_in2 (i := 143) rfl rfl
theorem k_co_Ar_divide : Cond.code ⟨"FieldFactors$Arithmetic", "divide", "(LFieldFactors$Polynomial;LFieldFactors$Polynomial;LFieldFactors$Polynomial;)V"⟩ prog_2_method_9_code 7 none ∈ TB := tb_in2 (i := 144) rfl rfl
theorem k_m_Ar_76 : Cond.methodLink "FieldFactors$Arithmetic" 76 ⟨"FieldFactors$Polynomial", "clear", "()V"⟩ ∈ TB := tb_in2 (i := 145) rfl rfl
theorem k_m_Ar_68 : Cond.methodLink "FieldFactors$Arithmetic" 68 ⟨"FieldFactors$Polynomial", "lead", "()I"⟩ ∈ TB := tb_in2 (i := 146) rfl rfl
theorem k_im_Po_lead : Cond.instanceMethod ⟨"FieldFactors$Polynomial", "lead", "()I"⟩ ∈ TB := tb_in2 (i := 147) rfl rfl
theorem k_se_Po_lead : Cond.selects "FieldFactors$Polynomial" ⟨"FieldFactors$Polynomial", "lead", "()I"⟩ ⟨"FieldFactors$Polynomial", "lead", "()I"⟩ ∈ TB := tb_in2 (i := 148) rfl rfl
theorem k_co_Po_lead : Cond.code ⟨"FieldFactors$Polynomial", "lead", "()I"⟩ prog_5_method_6_code 1 (Option.some .int) ∈ TB := tb_in2 (i := 149) rfl rfl
theorem k_m_Ar_79 : Cond.methodLink "FieldFactors$Arithmetic" 79 ⟨"FieldFactors$Polynomial", "put", "(II)V"⟩ ∈ TB := tb_in2 (i := 150) rfl rfl
theorem k_m_Ff_205 : Cond.methodLink "FieldFactors" 205 ⟨"FieldFactors$Arithmetic", "findCommonDivisor", "(LFieldFactors$Polynomial;LFieldFactors$Polynomial;LFieldFactors$Polynomial;)V"⟩ ∈ TB := tb_in2 (i := 151) rfl rfl
theorem k_im_Ar_findCommonDivisor : Cond.instanceMethod ⟨"FieldFactors$Arithmetic", "findCommonDivisor", "(LFieldFactors$Polynomial;LFieldFactors$Polynomial;LFieldFactors$Polynomial;)V"⟩ ∈ TB := tb_in2 (i := 152) rfl rfl
theorem k_se_Ar_findCommonDivisor : Cond.selects "FieldFactors$Arithmetic" ⟨"FieldFactors$Arithmetic", "findCommonDivisor", "(LFieldFactors$Polynomial;LFieldFactors$Polynomial;LFieldFactors$Polynomial;)V"⟩ ⟨"FieldFactors$Arithmetic", "findCommonDivisor", "(LFieldFactors$Polynomial;LFieldFactors$Polynomial;LFieldFactors$Polynomial;)V"⟩ ∈ TB := tb_in2 (i := 153) rfl rfl
theorem k_co_Ar_findCommonDivisor : Cond.code ⟨"FieldFactors$Arithmetic", "findCommonDivisor", "(LFieldFactors$Polynomial;LFieldFactors$Polynomial;LFieldFactors$Polynomial;)V"⟩ prog_2_method_10_code 8 none ∈ TB := tb_in2 (i := 154) rfl rfl
theorem k_m_Ar_83 : Cond.methodLink "FieldFactors$Arithmetic" 83 ⟨"FieldFactors$Polynomial", "copyFrom", "(LFieldFactors$Polynomial;)V"⟩ ∈ TB := tb_in2 (i := 155) rfl rfl
theorem k_m_Ar_87 : Cond.methodLink "FieldFactors$Arithmetic" 87 ⟨"FieldFactors$Arithmetic", "divide", "(LFieldFactors$Polynomial;LFieldFactors$Polynomial;LFieldFactors$Polynomial;)V"⟩ ∈ TB := tb_in2 (i := 156) rfl rfl
theorem k_m_Ar_91 : Cond.methodLink "FieldFactors$Arithmetic" 91 ⟨"FieldFactors$Arithmetic", "makeMonic", "(LFieldFactors$Polynomial;)V"⟩ ∈ TB := tb_in2 (i := 157) rfl rfl
theorem k_im_Ar_makeMonic : Cond.instanceMethod ⟨"FieldFactors$Arithmetic", "makeMonic", "(LFieldFactors$Polynomial;)V"⟩ ∈ TB := tb_in2 (i := 158) rfl rfl
theorem k_se_Ar_makeMonic : Cond.selects "FieldFactors$Arithmetic" ⟨"FieldFactors$Arithmetic", "makeMonic", "(LFieldFactors$Polynomial;)V"⟩ ⟨"FieldFactors$Arithmetic", "makeMonic", "(LFieldFactors$Polynomial;)V"⟩ ∈ TB := tb_in2 (i := 159) rfl rfl
theorem k_co_Ar_makeMonic : Cond.code ⟨"FieldFactors$Arithmetic", "makeMonic", "(LFieldFactors$Polynomial;)V"⟩ prog_2_method_6_code 2 none ∈ TB := tb_in2 (i := 160) rfl rfl
theorem k_m_Ar_72 : Cond.methodLink "FieldFactors$Arithmetic" 72 ⟨"FieldFactors$Arithmetic", "scale", "(LFieldFactors$Polynomial;I)V"⟩ ∈ TB := tb_in2 (i := 161) rfl rfl
theorem k_im_Ar_scale : Cond.instanceMethod ⟨"FieldFactors$Arithmetic", "scale", "(LFieldFactors$Polynomial;I)V"⟩ ∈ TB := tb_in2 (i := 162) rfl rfl
theorem k_se_Ar_scale : Cond.selects "FieldFactors$Arithmetic" ⟨"FieldFactors$Arithmetic", "scale", "(LFieldFactors$Polynomial;I)V"⟩ ⟨"FieldFactors$Arithmetic", "scale", "(LFieldFactors$Polynomial;I)V"⟩ ∈ TB := tb_in2 (i := 163) rfl rfl
theorem k_co_Ar_scale : Cond.code ⟨"FieldFactors$Arithmetic", "scale", "(LFieldFactors$Polynomial;I)V"⟩ prog_2_method_5_code 4 none ∈ TB := tb_in2 (i := 164) rfl rfl
theorem k_m_Ff_208 : Cond.methodLink "FieldFactors" 208 ⟨"FieldFactors$Arithmetic", "makeMonic", "(LFieldFactors$Polynomial;)V"⟩ ∈ TB := tb_in2 (i := 165) rfl rfl
theorem k_m_Ff_211 : Cond.methodLink "FieldFactors" 211 ⟨"FieldFactors$Arithmetic", "derive", "(LFieldFactors$Polynomial;LFieldFactors$Polynomial;)V"⟩ ∈ TB := tb_in2 (i := 166) rfl rfl
theorem k_im_Ar_derive : Cond.instanceMethod ⟨"FieldFactors$Arithmetic", "derive", "(LFieldFactors$Polynomial;LFieldFactors$Polynomial;)V"⟩ ∈ TB := tb_in2 (i := 167) rfl rfl
theorem k_se_Ar_derive : Cond.selects "FieldFactors$Arithmetic" ⟨"FieldFactors$Arithmetic", "derive", "(LFieldFactors$Polynomial;LFieldFactors$Polynomial;)V"⟩ ⟨"FieldFactors$Arithmetic", "derive", "(LFieldFactors$Polynomial;LFieldFactors$Polynomial;)V"⟩ ∈ TB := tb_in2 (i := 168) rfl rfl
theorem k_co_Ar_derive : Cond.code ⟨"FieldFactors$Arithmetic", "derive", "(LFieldFactors$Polynomial;LFieldFactors$Polynomial;)V"⟩ prog_2_method_7_code 4 none ∈ TB := tb_in2 (i := 169) rfl rfl
theorem k_m_Ff_109 : Cond.methodLink "FieldFactors" 109 ⟨"FieldFactors", "store", "(LFieldFactors$Polynomial;)I"⟩ ∈ TB := tb_in2 (i := 170) rfl rfl
theorem k_im_Ff_store : Cond.instanceMethod ⟨"FieldFactors", "store", "(LFieldFactors$Polynomial;)I"⟩ ∈ TB := tb_in2 (i := 172) rfl rfl
theorem k_co_Ff_store : Cond.code ⟨"FieldFactors", "store", "(LFieldFactors$Polynomial;)I"⟩ prog_1_method_23_code 2 (Option.some .int) ∈ TB := tb_in2 (i := 173) rfl rfl
theorem k_m_La_87 : Cond.methodLink "FieldFactorsLaw" 87 ⟨"FieldFactorsLaw", "power", "(LFieldFactors;IIII[J)I"⟩ ∈ TB := tb_in2 (i := 174) rfl rfl
theorem k_st_La_power : Cond.static ⟨"FieldFactorsLaw", "power", "(LFieldFactors;IIII[J)I"⟩ ∈ TB := tb_in2 (i := 175) rfl rfl
theorem k_co_La_power : Cond.codeWith ⟨"FieldFactorsLaw", "power", "(LFieldFactors;IIII[J)I"⟩ method_7_code 7 (Option.some .int) [(0, 14, 17, 19), (0, 14, 21, 13)] ∈ TB := tb_in2 (i := 176) rfl rfl
theorem k_m_La_31 : Cond.methodLink "FieldFactorsLaw" 31 ⟨"FieldFactors", "power", "(IIII)I"⟩ ∈ TB := tb_in2 (i := 177) rfl rfl
theorem k_im_Ff_power : Cond.instanceMethod ⟨"FieldFactors", "power", "(IIII)I"⟩ ∈ TB := tb_in2 (i := 178) rfl rfl
theorem k_se_Ff_power : Cond.selects "FieldFactors" ⟨"FieldFactors", "power", "(IIII)I"⟩ ⟨"FieldFactors", "power", "(IIII)I"⟩ ∈ TB := tb_in2 (i := 179) rfl rfl
theorem k_co_Ff_power : Cond.code ⟨"FieldFactors", "power", "(IIII)I"⟩ prog_1_method_6_code 8 (Option.some .int) ∈ TB := tb_in2 (i := 180) rfl rfl
theorem k_m_Ff_115 : Cond.methodLink "FieldFactors" 115 ⟨"FieldFactors", "needDegree", "(LFieldFactors$Polynomial;)V"⟩ ∈ TB := tb_in2 (i := 182) rfl rfl
theorem k_st_Ff_needDegree : Cond.static ⟨"FieldFactors", "needDegree", "(LFieldFactors$Polynomial;)V"⟩ ∈ TB := tb_in2 (i := 183) rfl rfl
theorem k_co_Ff_needDegree : Cond.code ⟨"FieldFactors", "needDegree", "(LFieldFactors$Polynomial;)V"⟩ prog_1_method_18_code 1 none ∈ TB := tb_in2 (i := 184) rfl rfl
theorem k_m_Ff_119 : Cond.methodLink "FieldFactors" 119 ⟨"FieldFactors$Arithmetic", "raise", "(LFieldFactors$Polynomial;LFieldFactors$Polynomial;ILFieldFactors$Polynomial;)V"⟩ ∈ TB := tb_in2 (i := 186) rfl rfl
theorem k_im_Ar_raise : Cond.instanceMethod ⟨"FieldFactors$Arithmetic", "raise", "(LFieldFactors$Polynomial;LFieldFactors$Polynomial;ILFieldFactors$Polynomial;)V"⟩ ∈ TB := tb_in2 (i := 187) rfl rfl
theorem k_se_Ar_raise : Cond.selects "FieldFactors$Arithmetic" ⟨"FieldFactors$Arithmetic", "raise", "(LFieldFactors$Polynomial;LFieldFactors$Polynomial;ILFieldFactors$Polynomial;)V"⟩ ⟨"FieldFactors$Arithmetic", "raise", "(LFieldFactors$Polynomial;LFieldFactors$Polynomial;ILFieldFactors$Polynomial;)V"⟩ ∈ TB := tb_in2 (i := 188) rfl rfl
theorem k_co_Ar_raise : Cond.code ⟨"FieldFactors$Arithmetic", "raise", "(LFieldFactors$Polynomial;LFieldFactors$Polynomial;ILFieldFactors$Polynomial;)V"⟩ prog_2_method_13_code 7 none ∈ TB := tb_in2 (i := 189) rfl rfl
theorem k_m_Ar_98 : Cond.methodLink "FieldFactors$Arithmetic" 98 ⟨"FieldFactors$Polynomial", "becomePowerOfX", "(I)V"⟩ ∈ TB := tb_in2 (i := 190) rfl rfl
theorem k_m_Ar_101 : Cond.methodLink "FieldFactors$Arithmetic" 101 ⟨"FieldFactors$Arithmetic", "multiply", "(LFieldFactors$Polynomial;LFieldFactors$Polynomial;LFieldFactors$Polynomial;LFieldFactors$Polynomial;)V"⟩ ∈ TB := tb_in2 (i := 191) rfl rfl
theorem k_im_Ar_multiply : Cond.instanceMethod ⟨"FieldFactors$Arithmetic", "multiply", "(LFieldFactors$Polynomial;LFieldFactors$Polynomial;LFieldFactors$Polynomial;LFieldFactors$Polynomial;)V"⟩ ∈ TB := tb_in2 (i := 192) rfl rfl
theorem k_se_Ar_multiply : Cond.selects "FieldFactors$Arithmetic" ⟨"FieldFactors$Arithmetic", "multiply", "(LFieldFactors$Polynomial;LFieldFactors$Polynomial;LFieldFactors$Polynomial;LFieldFactors$Polynomial;)V"⟩ ⟨"FieldFactors$Arithmetic", "multiply", "(LFieldFactors$Polynomial;LFieldFactors$Polynomial;LFieldFactors$Polynomial;LFieldFactors$Polynomial;)V"⟩ ∈ TB := tb_in2 (i := 193) rfl rfl
theorem k_co_Ar_multiply : Cond.code ⟨"FieldFactors$Arithmetic", "multiply", "(LFieldFactors$Polynomial;LFieldFactors$Polynomial;LFieldFactors$Polynomial;LFieldFactors$Polynomial;)V"⟩ prog_2_method_11_code 5 none ∈ TB := tb_in2 (i := 194) rfl rfl
theorem k_m_Ar_94 : Cond.methodLink "FieldFactors$Arithmetic" 94 ⟨"FieldFactors$Arithmetic", "addProduct", "(LFieldFactors$Polynomial;ILFieldFactors$Polynomial;LFieldFactors$Polynomial;)V"⟩ ∈ TB := tb_in2 (i := 195) rfl rfl
theorem k_m_La_90 : Cond.methodLink "FieldFactorsLaw" 90 ⟨"FieldFactorsLaw", "inverse", "(LFieldFactors;III[J)I"⟩ ∈ TB := tb_in2 (i := 196) rfl rfl
theorem k_st_La_inverse : Cond.static ⟨"FieldFactorsLaw", "inverse", "(LFieldFactors;III[J)I"⟩ ∈ TB := tb_in2 (i := 197) rfl rfl
theorem k_co_La_inverse : Cond.codeWith ⟨"FieldFactorsLaw", "inverse", "(LFieldFactors;III[J)I"⟩ method_8_code 6 (Option.some .int) [(0, 12, 15, 19), (0, 12, 19, 13), (0, 12, 23, 37)] ∈ TB := tb_in2 (i := 198) rfl rfl
theorem k_c_La_37 : Cond.classLink "FieldFactorsLaw" 37 "java/lang/IllegalStateException" ∈ TB := tb_in2 (i := 199) rfl rfl
theorem k_m_La_34 : Cond.methodLink "FieldFactorsLaw" 34 ⟨"FieldFactors", "inverse", "(III)I"⟩ ∈ TB := tb_in2 (i := 200) rfl rfl
theorem k_im_Ff_inverse : Cond.instanceMethod ⟨"FieldFactors", "inverse", "(III)I"⟩ ∈ TB := tb_in2 (i := 201) rfl rfl
theorem k_se_Ff_inverse : Cond.selects "FieldFactors" ⟨"FieldFactors", "inverse", "(III)I"⟩ ⟨"FieldFactors", "inverse", "(III)I"⟩ ∈ TB := tb_in2 (i := 202) rfl rfl
theorem k_co_Ff_inverse : Cond.code ⟨"FieldFactors", "inverse", "(III)I"⟩ prog_1_method_7_code 7 (Option.some .int) ∈ TB := tb_in2 (i := 203) rfl rfl
theorem k_m_Ff_123 : Cond.methodLink "FieldFactors" 123 ⟨"FieldFactors$Arithmetic", "invert", "(LFieldFactors$Polynomial;LFieldFactors$Polynomial;LFieldFactors$Polynomial;)Z"⟩ ∈ TB := tb_in2 (i := 204) rfl rfl
theorem k_im_Ar_invert : Cond.instanceMethod ⟨"FieldFactors$Arithmetic", "invert", "(LFieldFactors$Polynomial;LFieldFactors$Polynomial;LFieldFactors$Polynomial;)Z"⟩ ∈ TB := tb_in2 (i := 205) rfl rfl
theorem k_se_Ar_invert : Cond.selects "FieldFactors$Arithmetic" ⟨"FieldFactors$Arithmetic", "invert", "(LFieldFactors$Polynomial;LFieldFactors$Polynomial;LFieldFactors$Polynomial;)Z"⟩ ⟨"FieldFactors$Arithmetic", "invert", "(LFieldFactors$Polynomial;LFieldFactors$Polynomial;LFieldFactors$Polynomial;)Z"⟩ ∈ TB := tb_in2 (i := 206) rfl rfl
theorem k_co_Ar_invert : Cond.code ⟨"FieldFactors$Arithmetic", "invert", "(LFieldFactors$Polynomial;LFieldFactors$Polynomial;LFieldFactors$Polynomial;)Z"⟩ prog_2_method_14_code 11 (Option.some .boolean) ∈ TB := tb_in2 (i := 207) rfl rfl
theorem k_c_Ff_127 : Cond.classLink "FieldFactors" 127 "java/lang/IllegalStateException" ∈ TB := tb_in2 (i := 208) rfl rfl
theorem k_n_IllegalStateException : Cond.instantiable "java/lang/IllegalStateException" 6 ∈ TB := tb_in2 (i := 209) rfl rfl
theorem k_m_Ff_131 : Cond.methodLink "FieldFactors" 131 ⟨"java/lang/IllegalStateException", "<init>", "(Ljava/lang/String;)V"⟩ ∈ TB := tb_in2 (i := 218) rfl rfl
theorem k_im_IllegalStateException_init : Cond.instanceMethod ⟨"java/lang/IllegalStateException", "<init>", "(Ljava/lang/String;)V"⟩ ∈ TB := tb_in2 (i := 219) rfl rfl
theorem k_co_IllegalStateException_init : Cond.code ⟨"java/lang/IllegalStateException", "<init>", "(Ljava/lang/String;)V"⟩ prog_11_method_2_code 2 none ∈ TB := tb_in2 (i := 220) rfl rfl
theorem k_m_La_93 : Cond.methodLink "FieldFactorsLaw" 93 ⟨"FieldFactorsLaw", "value", "(LFieldFactors;II[J)I"⟩ ∈ TB := tb_in2 (i := 224) rfl rfl
theorem k_st_La_value : Cond.static ⟨"FieldFactorsLaw", "value", "(LFieldFactors;II[J)I"⟩ ∈ TB := tb_in2 (i := 225) rfl rfl
theorem k_co_La_value : Cond.codeWith ⟨"FieldFactorsLaw", "value", "(LFieldFactors;II[J)I"⟩ method_9_code 5 (Option.some .int) [(0, 10, 13, 19)] ∈ TB := tb_in2 (i := 226) rfl rfl
theorem k_m_La_39 : Cond.methodLink "FieldFactorsLaw" 39 ⟨"FieldFactors", "value", "(II)I"⟩ ∈ TB := tb_in2 (i := 227) rfl rfl
theorem k_im_Ff_value : Cond.instanceMethod ⟨"FieldFactors", "value", "(II)I"⟩ ∈ TB := tb_in2 (i := 228) rfl rfl
theorem k_se_Ff_value : Cond.selects "FieldFactors" ⟨"FieldFactors", "value", "(II)I"⟩ ⟨"FieldFactors", "value", "(II)I"⟩ ∈ TB := tb_in2 (i := 229) rfl rfl
theorem k_co_Ff_value : Cond.code ⟨"FieldFactors", "value", "(II)I"⟩ prog_1_method_8_code 3 (Option.some .int) ∈ TB := tb_in2 (i := 230) rfl rfl
theorem k_m_Ff_132 : Cond.methodLink "FieldFactors" 132 ⟨"FieldFactors$Arithmetic", "evaluate", "(LFieldFactors$Polynomial;I)I"⟩ ∈ TB := tb_in2 (i := 231) rfl rfl
theorem k_im_Ar_evaluate : Cond.instanceMethod ⟨"FieldFactors$Arithmetic", "evaluate", "(LFieldFactors$Polynomial;I)I"⟩ ∈ TB := tb_in2 (i := 232) rfl rfl
theorem k_se_Ar_evaluate : Cond.selects "FieldFactors$Arithmetic" ⟨"FieldFactors$Arithmetic", "evaluate", "(LFieldFactors$Polynomial;I)I"⟩ ⟨"FieldFactors$Arithmetic", "evaluate", "(LFieldFactors$Polynomial;I)I"⟩ ∈ TB := tb_in2 (i := 233) rfl rfl
theorem k_co_Ar_evaluate : Cond.code ⟨"FieldFactors$Arithmetic", "evaluate", "(LFieldFactors$Polynomial;I)I"⟩ prog_2_method_8_code 5 (Option.some .int) ∈ TB := tb_in2 (i := 234) rfl rfl
theorem k_m_La_96 : Cond.methodLink "FieldFactorsLaw" 96 ⟨"FieldFactorsLaw", "zeros", "(LFieldFactors;I[J)I"⟩ ∈ TB := tb_in2 (i := 235) rfl rfl
theorem k_st_La_zeros : Cond.static ⟨"FieldFactorsLaw", "zeros", "(LFieldFactors;I[J)I"⟩ ∈ TB := tb_in2 (i := 236) rfl rfl
theorem k_co_La_zeros : Cond.codeWith ⟨"FieldFactorsLaw", "zeros", "(LFieldFactors;I[J)I"⟩ method_10_code 4 (Option.some .int) [(0, 9, 12, 19)] ∈ TB := tb_in2 (i := 237) rfl rfl
theorem k_m_La_42 : Cond.methodLink "FieldFactorsLaw" 42 ⟨"FieldFactors", "zeros", "(I)I"⟩ ∈ TB := tb_in2 (i := 238) rfl rfl
theorem k_im_Ff_zeros : Cond.instanceMethod ⟨"FieldFactors", "zeros", "(I)I"⟩ ∈ TB := tb_in2 (i := 239) rfl rfl
theorem k_se_Ff_zeros : Cond.selects "FieldFactors" ⟨"FieldFactors", "zeros", "(I)I"⟩ ⟨"FieldFactors", "zeros", "(I)I"⟩ ∈ TB := tb_in3 (i := 0) rfl rfl
theorem k_co_Ff_zeros : Cond.code ⟨"FieldFactors", "zeros", "(I)I"⟩ prog_1_method_9_code 5 (Option.some .int) ∈ TB := tb_in3 (i := 1) rfl rfl
theorem k_m_La_99 : Cond.methodLink "FieldFactorsLaw" 99 ⟨"FieldFactorsLaw", "factor", "(LFieldFactors;I[J)I"⟩ ∈ TB := tb_in3 (i := 2) rfl rfl
theorem k_st_La_factor : Cond.static ⟨"FieldFactorsLaw", "factor", "(LFieldFactors;I[J)I"⟩ ∈ TB := tb_in3 (i := 3) rfl rfl
theorem k_co_La_factor : Cond.codeWith ⟨"FieldFactorsLaw", "factor", "(LFieldFactors;I[J)I"⟩ method_11_code 4 (Option.some .int) [(0, 9, 12, 19), (0, 9, 15, 13)] ∈ TB := tb_in3 (i := 4) rfl rfl
theorem k_m_La_45 : Cond.methodLink "FieldFactorsLaw" 45 ⟨"FieldFactors", "factor", "(I)I"⟩ ∈ TB := tb_in3 (i := 5) rfl rfl
theorem k_im_Ff_factor : Cond.instanceMethod ⟨"FieldFactors", "factor", "(I)I"⟩ ∈ TB := tb_in3 (i := 6) rfl rfl
theorem k_se_Ff_factor : Cond.selects "FieldFactors" ⟨"FieldFactors", "factor", "(I)I"⟩ ⟨"FieldFactors", "factor", "(I)I"⟩ ∈ TB := tb_in3 (i := 7) rfl rfl
theorem k_co_Ff_factor : Cond.code ⟨"FieldFactors", "factor", "(I)I"⟩ prog_1_method_10_code 3 (Option.some .int) ∈ TB := tb_in3 (i := 8) rfl rfl
theorem k_m_Ff_136 : Cond.methodLink "FieldFactors" 136 ⟨"FieldFactors", "needNotZero", "(LFieldFactors$Polynomial;)V"⟩ ∈ TB := tb_in3 (i := 9) rfl rfl
theorem k_st_Ff_needNotZero : Cond.static ⟨"FieldFactors", "needNotZero", "(LFieldFactors$Polynomial;)V"⟩ ∈ TB := tb_in3 (i := 10) rfl rfl
theorem k_co_Ff_needNotZero : Cond.code ⟨"FieldFactors", "needNotZero", "(LFieldFactors$Polynomial;)V"⟩ prog_1_method_19_code 1 none ∈ TB := tb_in3 (i := 11) rfl rfl
theorem k_m_Ff_139 : Cond.methodLink "FieldFactors" 139 ⟨"FieldFactors", "highestCutDegree", "()I"⟩ ∈ TB := tb_in3 (i := 13) rfl rfl
theorem k_im_Ff_highestCutDegree : Cond.instanceMethod ⟨"FieldFactors", "highestCutDegree", "()I"⟩ ∈ TB := tb_in3 (i := 15) rfl rfl
theorem k_co_Ff_highestCutDegree : Cond.code ⟨"FieldFactors", "highestCutDegree", "()I"⟩ prog_1_method_21_code 2 (Option.some .int) ∈ TB := tb_in3 (i := 16) rfl rfl
theorem k_f_Ff_187 : Cond.fieldLink "FieldFactors" 187 "FieldFactors" "CUT_DEGREES" "[I" ∈ TB := tb_in3 (i := 17) rfl rfl
theorem k_m_Ff_145 : Cond.methodLink "FieldFactors" 145 ⟨"FieldFactors$Cutter", "cut", "(LFieldFactors$Polynomial;)V"⟩ ∈ TB := tb_in3 (i := 20) rfl rfl
theorem k_im_Cu_cut : Cond.instanceMethod ⟨"FieldFactors$Cutter", "cut", "(LFieldFactors$Polynomial;)V"⟩ ∈ TB := tb_in3 (i := 21) rfl rfl
theorem k_se_Cu_cut : Cond.selects "FieldFactors$Cutter" ⟨"FieldFactors$Cutter", "cut", "(LFieldFactors$Polynomial;)V"⟩ ⟨"FieldFactors$Cutter", "cut", "(LFieldFactors$Polynomial;)V"⟩ ∈ TB := tb_in3 (i := 22) rfl rfl
theorem k_co_Cu_cut : Cond.code ⟨"FieldFactors$Cutter", "cut", "(LFieldFactors$Polynomial;)V"⟩ prog_3_method_4_code 4 none ∈ TB := tb_in3 (i := 23) rfl rfl
theorem k_m_Cu_66 : Cond.methodLink "FieldFactors$Cutter" 66 ⟨"FieldFactors$Polynomial", "copyFrom", "(LFieldFactors$Polynomial;)V"⟩ ∈ TB := tb_in3 (i := 24) rfl rfl
theorem k_m_Cu_73 : Cond.methodLink "FieldFactors$Cutter" 73 ⟨"FieldFactors$Arithmetic", "makeMonic", "(LFieldFactors$Polynomial;)V"⟩ ∈ TB := tb_in3 (i := 25) rfl rfl
theorem k_m_Cu_70 : Cond.methodLink "FieldFactors$Cutter" 70 ⟨"FieldFactors$Cutter", "gatherNextDegree", "(LFieldFactors$Polynomial;)V"⟩ ∈ TB := tb_in3 (i := 26) rfl rfl
theorem k_im_Cu_gatherNextDegree : Cond.instanceMethod ⟨"FieldFactors$Cutter", "gatherNextDegree", "(LFieldFactors$Polynomial;)V"⟩ ∈ TB := tb_in3 (i := 28) rfl rfl
theorem k_co_Cu_gatherNextDegree : Cond.code ⟨"FieldFactors$Cutter", "gatherNextDegree", "(LFieldFactors$Polynomial;)V"⟩ prog_3_method_6_code 2 none ∈ TB := tb_in3 (i := 29) rfl rfl
theorem k_m_Cu_109 : Cond.methodLink "FieldFactors$Cutter" 109 ⟨"FieldFactors$Arithmetic", "raiseToP", "(LFieldFactors$Polynomial;LFieldFactors$Polynomial;)V"⟩ ∈ TB := tb_in3 (i := 30) rfl rfl
theorem k_im_Ar_raiseToP : Cond.instanceMethod ⟨"FieldFactors$Arithmetic", "raiseToP", "(LFieldFactors$Polynomial;LFieldFactors$Polynomial;)V"⟩ ∈ TB := tb_in3 (i := 31) rfl rfl
theorem k_se_Ar_raiseToP : Cond.selects "FieldFactors$Arithmetic" ⟨"FieldFactors$Arithmetic", "raiseToP", "(LFieldFactors$Polynomial;LFieldFactors$Polynomial;)V"⟩ ⟨"FieldFactors$Arithmetic", "raiseToP", "(LFieldFactors$Polynomial;LFieldFactors$Polynomial;)V"⟩ ∈ TB := tb_in3 (i := 32) rfl rfl
theorem k_co_Ar_raiseToP : Cond.code ⟨"FieldFactors$Arithmetic", "raiseToP", "(LFieldFactors$Polynomial;LFieldFactors$Polynomial;)V"⟩ prog_2_method_12_code 4 none ∈ TB := tb_in3 (i := 33) rfl rfl
theorem k_m_Cu_113 : Cond.methodLink "FieldFactors$Cutter" 113 ⟨"FieldFactors$Arithmetic", "addShifted", "(LFieldFactors$Polynomial;IILFieldFactors$Polynomial;)V"⟩ ∈ TB := tb_in3 (i := 34) rfl rfl
theorem k_m_Cu_117 : Cond.methodLink "FieldFactors$Cutter" 117 ⟨"FieldFactors$Arithmetic", "findCommonDivisor", "(LFieldFactors$Polynomial;LFieldFactors$Polynomial;LFieldFactors$Polynomial;)V"⟩ ∈ TB := tb_in3 (i := 35) rfl rfl
theorem k_m_Cu_78 : Cond.methodLink "FieldFactors$Cutter" 78 ⟨"FieldFactors$Cutter", "split", "(I)V"⟩ ∈ TB := tb_in3 (i := 36) rfl rfl
theorem k_im_Cu_split : Cond.instanceMethod ⟨"FieldFactors$Cutter", "split", "(I)V"⟩ ∈ TB := tb_in3 (i := 38) rfl rfl
theorem k_co_Cu_split : Cond.code ⟨"FieldFactors$Cutter", "split", "(I)V"⟩ prog_3_method_7_code 5 none ∈ TB := tb_in3 (i := 39) rfl rfl
theorem k_m_Cu_84 : Cond.methodLink "FieldFactors$Cutter" 84 ⟨"FieldFactors$Cutter", "append", "(LFieldFactors$Polynomial;I)V"⟩ ∈ TB := tb_in3 (i := 40) rfl rfl
theorem k_im_Cu_append : Cond.instanceMethod ⟨"FieldFactors$Cutter", "append", "(LFieldFactors$Polynomial;I)V"⟩ ∈ TB := tb_in3 (i := 42) rfl rfl
theorem k_co_Cu_append : Cond.code ⟨"FieldFactors$Cutter", "append", "(LFieldFactors$Polynomial;I)V"⟩ prog_3_method_10_code 3 none ∈ TB := tb_in3 (i := 43) rfl rfl
theorem k_m_Cu_121 : Cond.methodLink "FieldFactors$Cutter" 121 ⟨"FieldFactors$Arithmetic", "multiply", "(LFieldFactors$Polynomial;LFieldFactors$Polynomial;LFieldFactors$Polynomial;LFieldFactors$Polynomial;)V"⟩ ∈ TB := tb_in3 (i := 44) rfl rfl
theorem k_m_Cu_125 : Cond.methodLink "FieldFactors$Cutter" 125 ⟨"FieldFactors$Cutter", "findTrace", "(I)V"⟩ ∈ TB := tb_in3 (i := 45) rfl rfl
theorem k_im_Cu_findTrace : Cond.instanceMethod ⟨"FieldFactors$Cutter", "findTrace", "(I)V"⟩ ∈ TB := tb_in3 (i := 47) rfl rfl
theorem k_co_Cu_findTrace : Cond.code ⟨"FieldFactors$Cutter", "findTrace", "(I)V"⟩ prog_3_method_8_code 3 none ∈ TB := tb_in3 (i := 48) rfl rfl
theorem k_m_Cu_128 : Cond.methodLink "FieldFactors$Cutter" 128 ⟨"FieldFactors$Cutter", "splitByTrace", "(II)V"⟩ ∈ TB := tb_in3 (i := 49) rfl rfl
theorem k_im_Cu_splitByTrace : Cond.instanceMethod ⟨"FieldFactors$Cutter", "splitByTrace", "(II)V"⟩ ∈ TB := tb_in3 (i := 51) rfl rfl
theorem k_co_Cu_splitByTrace : Cond.code ⟨"FieldFactors$Cutter", "splitByTrace", "(II)V"⟩ prog_3_method_9_code 6 none ∈ TB := tb_in3 (i := 52) rfl rfl
theorem k_m_Cu_131 : Cond.methodLink "FieldFactors$Cutter" 131 ⟨"FieldFactors$Arithmetic", "divide", "(LFieldFactors$Polynomial;LFieldFactors$Polynomial;LFieldFactors$Polynomial;)V"⟩ ∈ TB := tb_in3 (i := 53) rfl rfl
theorem k_m_Cu_81 : Cond.methodLink "FieldFactors$Cutter" 81 ⟨"FieldFactors$Cutter", "takeOutFactors", "(I)V"⟩ ∈ TB := tb_in3 (i := 54) rfl rfl
theorem k_im_Cu_takeOutFactors : Cond.instanceMethod ⟨"FieldFactors$Cutter", "takeOutFactors", "(I)V"⟩ ∈ TB := tb_in3 (i := 56) rfl rfl
theorem k_co_Cu_takeOutFactors : Cond.code ⟨"FieldFactors$Cutter", "takeOutFactors", "(I)V"⟩ prog_3_method_11_code 3 none ∈ TB := tb_in3 (i := 57) rfl rfl
theorem k_m_Cu_98 : Cond.methodLink "FieldFactors$Cutter" 98 ⟨"FieldFactors$Arithmetic", "takeOut", "(LFieldFactors$Polynomial;LFieldFactors$Polynomial;)I"⟩ ∈ TB := tb_in3 (i := 58) rfl rfl
theorem k_im_Ar_takeOut : Cond.instanceMethod ⟨"FieldFactors$Arithmetic", "takeOut", "(LFieldFactors$Polynomial;LFieldFactors$Polynomial;)I"⟩ ∈ TB := tb_in3 (i := 59) rfl rfl
theorem k_se_Ar_takeOut : Cond.selects "FieldFactors$Arithmetic" ⟨"FieldFactors$Arithmetic", "takeOut", "(LFieldFactors$Polynomial;LFieldFactors$Polynomial;)I"⟩ ⟨"FieldFactors$Arithmetic", "takeOut", "(LFieldFactors$Polynomial;LFieldFactors$Polynomial;)I"⟩ ∈ TB := tb_in3 (i := 60) rfl rfl
theorem k_co_Ar_takeOut : Cond.code ⟨"FieldFactors$Arithmetic", "takeOut", "(LFieldFactors$Polynomial;LFieldFactors$Polynomial;)I"⟩ prog_2_method_15_code 4 (Option.some .int) ∈ TB := tb_in3 (i := 61) rfl rfl
theorem k_m_Cu_88 : Cond.methodLink "FieldFactors$Cutter" 88 ⟨"FieldFactors$Cutter", "sort", "()V"⟩ ∈ TB := tb_in3 (i := 62) rfl rfl
theorem k_im_Cu_sort : Cond.instanceMethod ⟨"FieldFactors$Cutter", "sort", "()V"⟩ ∈ TB := tb_in3 (i := 64) rfl rfl
theorem k_co_Cu_sort : Cond.code ⟨"FieldFactors$Cutter", "sort", "()V"⟩ prog_3_method_12_code 3 none ∈ TB := tb_in3 (i := 65) rfl rfl
theorem k_m_Cu_134 : Cond.methodLink "FieldFactors$Cutter" 134 ⟨"FieldFactors$Polynomial", "comesBefore", "(LFieldFactors$Polynomial;)Z"⟩ ∈ TB := tb_in3 (i := 66) rfl rfl
theorem k_im_Po_comesBefore : Cond.instanceMethod ⟨"FieldFactors$Polynomial", "comesBefore", "(LFieldFactors$Polynomial;)Z"⟩ ∈ TB := tb_in3 (i := 67) rfl rfl
theorem k_se_Po_comesBefore : Cond.selects "FieldFactors$Polynomial" ⟨"FieldFactors$Polynomial", "comesBefore", "(LFieldFactors$Polynomial;)Z"⟩ ⟨"FieldFactors$Polynomial", "comesBefore", "(LFieldFactors$Polynomial;)Z"⟩ ∈ TB := tb_in3 (i := 68) rfl rfl
theorem k_co_Po_comesBefore : Cond.code ⟨"FieldFactors$Polynomial", "comesBefore", "(LFieldFactors$Polynomial;)Z"⟩ prog_5_method_8_code 3 (Option.some .boolean) ∈ TB := tb_in3 (i := 69) rfl rfl
theorem k_m_Cu_138 : Cond.methodLink "FieldFactors$Cutter" 138 ⟨"FieldFactors$Cutter", "swap", "(II)V"⟩ ∈ TB := tb_in3 (i := 70) rfl rfl
theorem k_im_Cu_swap : Cond.instanceMethod ⟨"FieldFactors$Cutter", "swap", "(II)V"⟩ ∈ TB := tb_in3 (i := 72) rfl rfl
theorem k_co_Cu_swap : Cond.code ⟨"FieldFactors$Cutter", "swap", "(II)V"⟩ prog_3_method_13_code 5 none ∈ TB := tb_in3 (i := 73) rfl rfl
theorem k_m_La_102 : Cond.methodLink "FieldFactorsLaw" 102 ⟨"FieldFactorsLaw", "piece", "(LFieldFactors;II[J)I"⟩ ∈ TB := tb_in3 (i := 74) rfl rfl
theorem k_st_La_piece : Cond.static ⟨"FieldFactorsLaw", "piece", "(LFieldFactors;II[J)I"⟩ ∈ TB := tb_in3 (i := 75) rfl rfl
theorem k_co_La_piece : Cond.codeWith ⟨"FieldFactorsLaw", "piece", "(LFieldFactors;II[J)I"⟩ method_12_code 5 (Option.some .int) [(0, 10, 13, 19)] ∈ TB := tb_in3 (i := 76) rfl rfl
theorem k_m_La_48 : Cond.methodLink "FieldFactorsLaw" 48 ⟨"FieldFactors", "piece", "(II)I"⟩ ∈ TB := tb_in3 (i := 77) rfl rfl
theorem k_im_Ff_piece : Cond.instanceMethod ⟨"FieldFactors", "piece", "(II)I"⟩ ∈ TB := tb_in3 (i := 78) rfl rfl
theorem k_se_Ff_piece : Cond.selects "FieldFactors" ⟨"FieldFactors", "piece", "(II)I"⟩ ⟨"FieldFactors", "piece", "(II)I"⟩ ∈ TB := tb_in3 (i := 79) rfl rfl
theorem k_co_Ff_piece : Cond.code ⟨"FieldFactors", "piece", "(II)I"⟩ prog_1_method_11_code 4 (Option.some .int) ∈ TB := tb_in3 (i := 80) rfl rfl
theorem k_m_La_105 : Cond.methodLink "FieldFactorsLaw" 105 ⟨"FieldFactorsLaw", "irreducible", "(LFieldFactors;I[J)I"⟩ ∈ TB := tb_in3 (i := 82) rfl rfl
theorem k_st_La_irreducible : Cond.static ⟨"FieldFactorsLaw", "irreducible", "(LFieldFactors;I[J)I"⟩ ∈ TB := tb_in3 (i := 83) rfl rfl
theorem k_co_La_irreducible : Cond.codeWith ⟨"FieldFactorsLaw", "irreducible", "(LFieldFactors;I[J)I"⟩ method_13_code 4 (Option.some .int) [(0, 16, 19, 19)] ∈ TB := tb_in3 (i := 84) rfl rfl
theorem k_m_La_51 : Cond.methodLink "FieldFactorsLaw" 51 ⟨"FieldFactors", "irreducible", "(I)Z"⟩ ∈ TB := tb_in3 (i := 85) rfl rfl
theorem k_im_Ff_irreducible : Cond.instanceMethod ⟨"FieldFactors", "irreducible", "(I)Z"⟩ ∈ TB := tb_in3 (i := 86) rfl rfl
theorem k_se_Ff_irreducible : Cond.selects "FieldFactors" ⟨"FieldFactors", "irreducible", "(I)Z"⟩ ⟨"FieldFactors", "irreducible", "(I)Z"⟩ ∈ TB := tb_in3 (i := 87) rfl rfl
theorem k_co_Ff_irreducible : Cond.code ⟨"FieldFactors", "irreducible", "(I)Z"⟩ prog_1_method_12_code 2 (Option.some .boolean) ∈ TB := tb_in3 (i := 88) rfl rfl
theorem k_m_Ff_165 : Cond.methodLink "FieldFactors" 165 ⟨"FieldFactors$Cutter", "cannotBeCut", "(LFieldFactors$Polynomial;)Z"⟩ ∈ TB := tb_in3 (i := 89) rfl rfl
theorem k_im_Cu_cannotBeCut : Cond.instanceMethod ⟨"FieldFactors$Cutter", "cannotBeCut", "(LFieldFactors$Polynomial;)Z"⟩ ∈ TB := tb_in3 (i := 90) rfl rfl
theorem k_se_Cu_cannotBeCut : Cond.selects "FieldFactors$Cutter" ⟨"FieldFactors$Cutter", "cannotBeCut", "(LFieldFactors$Polynomial;)Z"⟩ ⟨"FieldFactors$Cutter", "cannotBeCut", "(LFieldFactors$Polynomial;)Z"⟩ ∈ TB := tb_in3 (i := 91) rfl rfl
theorem k_co_Cu_cannotBeCut : Cond.code ⟨"FieldFactors$Cutter", "cannotBeCut", "(LFieldFactors$Polynomial;)Z"⟩ prog_3_method_3_code 3 (Option.some .boolean) ∈ TB := tb_in3 (i := 92) rfl rfl
theorem k_m_La_108 : Cond.methodLink "FieldFactorsLaw" 108 ⟨"FieldFactorsLaw", "order", "(LFieldFactors;I[J)I"⟩ ∈ TB := tb_in3 (i := 93) rfl rfl
theorem k_st_La_order : Cond.static ⟨"FieldFactorsLaw", "order", "(LFieldFactors;I[J)I"⟩ ∈ TB := tb_in3 (i := 94) rfl rfl
theorem k_co_La_order : Cond.codeWith ⟨"FieldFactorsLaw", "order", "(LFieldFactors;I[J)I"⟩ method_14_code 4 (Option.some .int) [(0, 9, 12, 19), (0, 9, 15, 13)] ∈ TB := tb_in3 (i := 95) rfl rfl
theorem k_m_La_55 : Cond.methodLink "FieldFactorsLaw" 55 ⟨"FieldFactors", "order", "(I)I"⟩ ∈ TB := tb_in3 (i := 96) rfl rfl
theorem k_im_Ff_order : Cond.instanceMethod ⟨"FieldFactors", "order", "(I)I"⟩ ∈ TB := tb_in3 (i := 97) rfl rfl
theorem k_se_Ff_order : Cond.selects "FieldFactors" ⟨"FieldFactors", "order", "(I)I"⟩ ⟨"FieldFactors", "order", "(I)I"⟩ ∈ TB := tb_in3 (i := 98) rfl rfl
theorem k_co_Ff_order : Cond.code ⟨"FieldFactors", "order", "(I)I"⟩ prog_1_method_13_code 3 (Option.some .int) ∈ TB := tb_in3 (i := 99) rfl rfl
theorem k_m_Ff_169 : Cond.methodLink "FieldFactors" 169 ⟨"FieldFactors$OrderSearch", "search", "(LFieldFactors$Polynomial;)I"⟩ ∈ TB := tb_in3 (i := 100) rfl rfl
theorem k_im_Os_search : Cond.instanceMethod ⟨"FieldFactors$OrderSearch", "search", "(LFieldFactors$Polynomial;)I"⟩ ∈ TB := tb_in3 (i := 101) rfl rfl
theorem k_se_Os_search : Cond.selects "FieldFactors$OrderSearch" ⟨"FieldFactors$OrderSearch", "search", "(LFieldFactors$Polynomial;)I"⟩ ⟨"FieldFactors$OrderSearch", "search", "(LFieldFactors$Polynomial;)I"⟩ ∈ TB := tb_in3 (i := 102) rfl rfl
theorem k_co_Os_search : Cond.code ⟨"FieldFactors$OrderSearch", "search", "(LFieldFactors$Polynomial;)I"⟩ prog_4_method_2_code 3 (Option.some .int) ∈ TB := tb_in3 (i := 103) rfl rfl
theorem k_m_Os_44 : Cond.methodLink "FieldFactors$OrderSearch" 44 ⟨"FieldFactors$OrderSearch", "takeShortSteps", "(LFieldFactors$Polynomial;)I"⟩ ∈ TB := tb_in3 (i := 104) rfl rfl
theorem k_im_Os_takeShortSteps : Cond.instanceMethod ⟨"FieldFactors$OrderSearch", "takeShortSteps", "(LFieldFactors$Polynomial;)I"⟩ ∈ TB := tb_in3 (i := 106) rfl rfl
theorem k_co_Os_takeShortSteps : Cond.code ⟨"FieldFactors$OrderSearch", "takeShortSteps", "(LFieldFactors$Polynomial;)I"⟩ prog_4_method_3_code 3 (Option.some .int) ∈ TB := tb_in3 (i := 107) rfl rfl
theorem k_m_Os_51 : Cond.methodLink "FieldFactors$OrderSearch" 51 ⟨"FieldFactors$Polynomial", "isOne", "()Z"⟩ ∈ TB := tb_in3 (i := 108) rfl rfl
theorem k_im_Po_isOne : Cond.instanceMethod ⟨"FieldFactors$Polynomial", "isOne", "()Z"⟩ ∈ TB := tb_in3 (i := 109) rfl rfl
theorem k_se_Po_isOne : Cond.selects "FieldFactors$Polynomial" ⟨"FieldFactors$Polynomial", "isOne", "()Z"⟩ ⟨"FieldFactors$Polynomial", "isOne", "()Z"⟩ ∈ TB := tb_in3 (i := 110) rfl rfl
theorem k_co_Po_isOne : Cond.code ⟨"FieldFactors$Polynomial", "isOne", "()Z"⟩ prog_5_method_7_code 1 (Option.some .boolean) ∈ TB := tb_in3 (i := 111) rfl rfl
theorem k_m_Os_55 : Cond.methodLink "FieldFactors$OrderSearch" 55 ⟨"FieldFactors$OrderSearch", "code", "(I)J"⟩ ∈ TB := tb_in3 (i := 112) rfl rfl
theorem k_im_Os_code : Cond.instanceMethod ⟨"FieldFactors$OrderSearch", "code", "(I)J"⟩ ∈ TB := tb_in3 (i := 114) rfl rfl
theorem k_co_Os_code : Cond.code ⟨"FieldFactors$OrderSearch", "code", "(I)J"⟩ prog_4_method_6_code 5 (Option.some .long) ∈ TB := tb_in3 (i := 115) rfl rfl
theorem k_m_Os_59 : Cond.methodLink "FieldFactors$OrderSearch" 59 ⟨"FieldFactors$Arithmetic", "multiply", "(LFieldFactors$Polynomial;LFieldFactors$Polynomial;LFieldFactors$Polynomial;LFieldFactors$Polynomial;)V"⟩ ∈ TB := tb_in3 (i := 116) rfl rfl
theorem k_m_Os_48 : Cond.methodLink "FieldFactors$OrderSearch" 48 ⟨"FieldFactors$OrderSearch", "takeLongSteps", "(LFieldFactors$Polynomial;)I"⟩ ∈ TB := tb_in3 (i := 117) rfl rfl
theorem k_im_Os_takeLongSteps : Cond.instanceMethod ⟨"FieldFactors$OrderSearch", "takeLongSteps", "(LFieldFactors$Polynomial;)I"⟩ ∈ TB := tb_in3 (i := 119) rfl rfl
theorem k_co_Os_takeLongSteps : Cond.code ⟨"FieldFactors$OrderSearch", "takeLongSteps", "(LFieldFactors$Polynomial;)I"⟩ prog_4_method_4_code 4 (Option.some .int) ∈ TB := tb_in3 (i := 120) rfl rfl
theorem k_m_Os_65 : Cond.methodLink "FieldFactors$OrderSearch" 65 ⟨"FieldFactors$Polynomial", "copyFrom", "(LFieldFactors$Polynomial;)V"⟩ ∈ TB := tb_in3 (i := 121) rfl rfl
theorem k_m_Os_69 : Cond.methodLink "FieldFactors$OrderSearch" 69 ⟨"FieldFactors$OrderSearch", "findShortStep", "()I"⟩ ∈ TB := tb_in3 (i := 122) rfl rfl
theorem k_im_Os_findShortStep : Cond.instanceMethod ⟨"FieldFactors$OrderSearch", "findShortStep", "()I"⟩ ∈ TB := tb_in3 (i := 124) rfl rfl
theorem k_co_Os_findShortStep : Cond.code ⟨"FieldFactors$OrderSearch", "findShortStep", "()I"⟩ prog_4_method_5_code 6 (Option.some .int) ∈ TB := tb_in3 (i := 125) rfl rfl
theorem k_m_La_111 : Cond.methodLink "FieldFactorsLaw" 111 ⟨"FieldFactorsLaw", "linear", "(LFieldFactors;II[J)I"⟩ ∈ TB := tb_in3 (i := 126) rfl rfl
theorem k_st_La_linear : Cond.static ⟨"FieldFactorsLaw", "linear", "(LFieldFactors;II[J)I"⟩ ∈ TB := tb_in3 (i := 127) rfl rfl
theorem k_co_La_linear : Cond.codeWith ⟨"FieldFactorsLaw", "linear", "(LFieldFactors;II[J)I"⟩ method_15_code 5 (Option.some .int) [(0, 10, 13, 19), (0, 10, 17, 13)] ∈ TB := tb_in3 (i := 128) rfl rfl
theorem k_m_La_58 : Cond.methodLink "FieldFactorsLaw" 58 ⟨"FieldFactors", "linear", "(II)I"⟩ ∈ TB := tb_in3 (i := 129) rfl rfl
theorem k_im_Ff_linear : Cond.instanceMethod ⟨"FieldFactors", "linear", "(II)I"⟩ ∈ TB := tb_in3 (i := 130) rfl rfl
theorem k_se_Ff_linear : Cond.selects "FieldFactors" ⟨"FieldFactors", "linear", "(II)I"⟩ ⟨"FieldFactors", "linear", "(II)I"⟩ ∈ TB := tb_in3 (i := 131) rfl rfl
theorem k_co_Ff_linear : Cond.code ⟨"FieldFactors", "linear", "(II)I"⟩ prog_1_method_14_code 5 (Option.some .int) ∈ TB := tb_in3 (i := 132) rfl rfl
theorem k_m_Ff_172 : Cond.methodLink "FieldFactors" 172 ⟨"FieldFactors$Cutter", "collectLinear", "(LFieldFactors$Polynomial;LFieldFactors$Polynomial;)V"⟩ ∈ TB := tb_in3 (i := 133) rfl rfl
theorem k_im_Cu_collectLinear : Cond.instanceMethod ⟨"FieldFactors$Cutter", "collectLinear", "(LFieldFactors$Polynomial;LFieldFactors$Polynomial;)V"⟩ ∈ TB := tb_in3 (i := 134) rfl rfl
theorem k_se_Cu_collectLinear : Cond.selects "FieldFactors$Cutter" ⟨"FieldFactors$Cutter", "collectLinear", "(LFieldFactors$Polynomial;LFieldFactors$Polynomial;)V"⟩ ⟨"FieldFactors$Cutter", "collectLinear", "(LFieldFactors$Polynomial;LFieldFactors$Polynomial;)V"⟩ ∈ TB := tb_in3 (i := 135) rfl rfl
theorem k_co_Cu_collectLinear : Cond.code ⟨"FieldFactors$Cutter", "collectLinear", "(LFieldFactors$Polynomial;LFieldFactors$Polynomial;)V"⟩ prog_3_method_5_code 6 none ∈ TB := tb_in3 (i := 136) rfl rfl
theorem k_m_Cu_94 : Cond.methodLink "FieldFactors$Cutter" 94 ⟨"FieldFactors$Polynomial", "put", "(II)V"⟩ ∈ TB := tb_in3 (i := 137) rfl rfl
theorem k_m_Cu_102 : Cond.methodLink "FieldFactors$Cutter" 102 ⟨"FieldFactors$Polynomial", "clear", "()V"⟩ ∈ TB := tb_in3 (i := 138) rfl rfl
theorem k_m_Cu_105 : Cond.methodLink "FieldFactors$Cutter" 105 ⟨"FieldFactors$Arithmetic", "addProduct", "(LFieldFactors$Polynomial;ILFieldFactors$Polynomial;LFieldFactors$Polynomial;)V"⟩ ∈ TB := tb_in3 (i := 139) rfl rfl
theorem k_c_La_62 : Cond.classLink "FieldFactorsLaw" 62 "FieldFactorsModel" ∈ TB := tb_in3 (i := 140) rfl rfl
theorem k_n_Mo : Cond.instantiable "FieldFactorsModel" 16 ∈ TB := tb_in3 (i := 141) rfl rfl
theorem k_m_La_64 : Cond.methodLink "FieldFactorsLaw" 64 ⟨"FieldFactorsModel", "<init>", "()V"⟩ ∈ TB := tb_in3 (i := 142) rfl rfl
theorem k_im_Mo_init : Cond.instanceMethod ⟨"FieldFactorsModel", "<init>", "()V"⟩ ∈ TB := tb_in3 (i := 143) rfl rfl
theorem k_co_Mo_init : Cond.code ⟨"FieldFactorsModel", "<init>", "()V"⟩ prog_7_method_1_code 1 none ∈ TB := tb_in3 (i := 144) rfl rfl
theorem k_m_Mo_1 : Cond.methodLink "FieldFactorsModel" 1 ⟨"java/lang/Object", "<init>", "()V"⟩ ∈ TB := tb_in3 (i := 145) rfl rfl
theorem k_c_Mo_16 : Cond.classLink "FieldFactorsModel" 16 "[[I" ∈ TB := tb_in3 (i := 146) rfl rfl
theorem k_f_Mo_7 : Cond.fieldLink "FieldFactorsModel" 7 "FieldFactorsModel" "thrown" "I" ∈ TB := tb_in3 (i := 148) rfl rfl
theorem k_f_Mo_13 : Cond.fieldLink "FieldFactorsModel" 13 "FieldFactorsModel" "p" "I" ∈ TB := tb_in3 (i := 149) rfl rfl
theorem k_f_Mo_18 : Cond.fieldLink "FieldFactorsModel" 18 "FieldFactorsModel" "register" "[[I" ∈ TB := tb_in3 (i := 150) rfl rfl
theorem k_f_Mo_21 : Cond.fieldLink "FieldFactorsModel" 21 "FieldFactorsModel" "factor" "[[I" ∈ TB := tb_in3 (i := 151) rfl rfl
theorem k_f_Mo_24 : Cond.fieldLink "FieldFactorsModel" 24 "FieldFactorsModel" "often" "[I" ∈ TB := tb_in3 (i := 152) rfl rfl
theorem k_f_Mo_28 : Cond.fieldLink "FieldFactorsModel" 28 "FieldFactorsModel" "factors" "I" ∈ TB := tb_in3 (i := 153) rfl rfl
theorem k_f_Mo_31 : Cond.fieldLink "FieldFactorsModel" 31 "FieldFactorsModel" "quotient" "[I" ∈ TB := tb_in3 (i := 154) rfl rfl
theorem k_f_Mo_34 : Cond.fieldLink "FieldFactorsModel" 34 "FieldFactorsModel" "rest" "[I" ∈ TB := tb_in3 (i := 155) rfl rfl
theorem k_f_Mo_37 : Cond.fieldLink "FieldFactorsModel" 37 "FieldFactorsModel" "product" "[I" ∈ TB := tb_in3 (i := 156) rfl rfl
theorem k_f_Mo_40 : Cond.fieldLink "FieldFactorsModel" 40 "FieldFactorsModel" "one" "[I" ∈ TB := tb_in3 (i := 157) rfl rfl
theorem k_f_Mo_43 : Cond.fieldLink "FieldFactorsModel" 43 "FieldFactorsModel" "two" "[I" ∈ TB := tb_in3 (i := 158) rfl rfl
theorem k_f_Mo_46 : Cond.fieldLink "FieldFactorsModel" 46 "FieldFactorsModel" "whole" "[I" ∈ TB := tb_in3 (i := 159) rfl rfl
theorem k_f_Mo_49 : Cond.fieldLink "FieldFactorsModel" 49 "FieldFactorsModel" "candidate" "[I" ∈ TB := tb_in3 (i := 160) rfl rfl
theorem k_f_Mo_52 : Cond.fieldLink "FieldFactorsModel" 52 "FieldFactorsModel" "base" "[I" ∈ TB := tb_in3 (i := 161) rfl rfl
theorem k_f_Mo_55 : Cond.fieldLink "FieldFactorsModel" 55 "FieldFactorsModel" "sum" "[I" ∈ TB := tb_in3 (i := 162) rfl rfl
theorem k_f_Mo_58 : Cond.fieldLink "FieldFactorsModel" 58 "FieldFactorsModel" "equation" "[[I" ∈ TB := tb_in3 (i := 163) rfl rfl
theorem k_m_La_71 : Cond.methodLink "FieldFactorsLaw" 71 ⟨"FieldFactorsModel", "thrown", "()I"⟩ ∈ TB := tb_in3 (i := 197) rfl rfl
theorem k_im_Mo_thrown : Cond.instanceMethod ⟨"FieldFactorsModel", "thrown", "()I"⟩ ∈ TB := tb_in3 (i := 198) rfl rfl
theorem k_se_Mo_thrown : Cond.selects "FieldFactorsModel" ⟨"FieldFactorsModel", "thrown", "()I"⟩ ⟨"FieldFactorsModel", "thrown", "()I"⟩ ∈ TB := tb_in3 (i := 199) rfl rfl
theorem k_co_Mo_thrown : Cond.code ⟨"FieldFactorsModel", "thrown", "()I"⟩ prog_7_method_2_code 1 (Option.some .int) ∈ TB := tb_in3 (i := 200) rfl rfl
theorem k_m_La_70 : Cond.methodLink "FieldFactorsLaw" 70 ⟨"FieldFactorsModel", "field", "(I)I"⟩ ∈ TB := tb_in3 (i := 201) rfl rfl
theorem k_im_Mo_field : Cond.instanceMethod ⟨"FieldFactorsModel", "field", "(I)I"⟩ ∈ TB := tb_in3 (i := 202) rfl rfl
theorem k_se_Mo_field : Cond.selects "FieldFactorsModel" ⟨"FieldFactorsModel", "field", "(I)I"⟩ ⟨"FieldFactorsModel", "field", "(I)I"⟩ ∈ TB := tb_in3 (i := 203) rfl rfl
theorem k_co_Mo_field : Cond.code ⟨"FieldFactorsModel", "field", "(I)I"⟩ prog_7_method_9_code 4 (Option.some .int) ∈ TB := tb_in3 (i := 204) rfl rfl
theorem k_m_Mo_65 : Cond.methodLink "FieldFactorsModel" 65 ⟨"FieldFactorsModel", "limit", "(I)I"⟩ ∈ TB := tb_in3 (i := 205) rfl rfl
theorem k_st_Mo_limit : Cond.static ⟨"FieldFactorsModel", "limit", "(I)I"⟩ ∈ TB := tb_in3 (i := 206) rfl rfl
theorem k_co_Mo_limit : Cond.code ⟨"FieldFactorsModel", "limit", "(I)I"⟩ prog_7_method_8_code 1 (Option.some .int) ∈ TB := tb_in3 (i := 207) rfl rfl
theorem k_m_Mo_61 : Cond.methodLink "FieldFactorsModel" 61 ⟨"FieldFactorsModel", "refuse", "(IZ)Z"⟩ ∈ TB := tb_in3 (i := 208) rfl rfl
theorem k_im_Mo_refuse : Cond.instanceMethod ⟨"FieldFactorsModel", "refuse", "(IZ)Z"⟩ ∈ TB := tb_in3 (i := 210) rfl rfl
theorem k_co_Mo_refuse : Cond.code ⟨"FieldFactorsModel", "refuse", "(IZ)Z"⟩ prog_7_method_3_code 3 (Option.some .boolean) ∈ TB := tb_in3 (i := 211) rfl rfl
theorem k_m_Mo_69 : Cond.methodLink "FieldFactorsModel" 69 ⟨"FieldFactorsModel", "clear", "([I)V"⟩ ∈ TB := tb_in3 (i := 212) rfl rfl
theorem k_st_Mo_clear : Cond.static ⟨"FieldFactorsModel", "clear", "([I)V"⟩ ∈ TB := tb_in3 (i := 213) rfl rfl
theorem k_co_Mo_clear : Cond.code ⟨"FieldFactorsModel", "clear", "([I)V"⟩ prog_7_method_7_code 2 none ∈ TB := tb_in3 (i := 214) rfl rfl
theorem k_m_La_78 : Cond.methodLink "FieldFactorsLaw" 78 ⟨"FieldFactorsModel", "set", "(III)I"⟩ ∈ TB := tb_in3 (i := 215) rfl rfl
theorem k_im_Mo_set : Cond.instanceMethod ⟨"FieldFactorsModel", "set", "(III)I"⟩ ∈ TB := tb_in3 (i := 216) rfl rfl
theorem k_se_Mo_set : Cond.selects "FieldFactorsModel" ⟨"FieldFactorsModel", "set", "(III)I"⟩ ⟨"FieldFactorsModel", "set", "(III)I"⟩ ∈ TB := tb_in3 (i := 217) rfl rfl
theorem k_co_Mo_set : Cond.code ⟨"FieldFactorsModel", "set", "(III)I"⟩ prog_7_method_11_code 5 (Option.some .int) ∈ TB := tb_in3 (i := 218) rfl rfl
theorem k_m_Mo_73 : Cond.methodLink "FieldFactorsModel" 73 ⟨"FieldFactorsModel", "none", "(I)Z"⟩ ∈ TB := tb_in3 (i := 219) rfl rfl
theorem k_im_Mo_none : Cond.instanceMethod ⟨"FieldFactorsModel", "none", "(I)Z"⟩ ∈ TB := tb_in3 (i := 221) rfl rfl
theorem k_co_Mo_none : Cond.code ⟨"FieldFactorsModel", "none", "(I)Z"⟩ prog_7_method_4_code 2 (Option.some .boolean) ∈ TB := tb_in3 (i := 222) rfl rfl
theorem k_m_Mo_77 : Cond.methodLink "FieldFactorsModel" 77 ⟨"FieldFactorsModel", "inField", "(I)I"⟩ ∈ TB := tb_in3 (i := 223) rfl rfl
theorem k_im_Mo_inField : Cond.instanceMethod ⟨"FieldFactorsModel", "inField", "(I)I"⟩ ∈ TB := tb_in3 (i := 225) rfl rfl
theorem k_co_Mo_inField : Cond.code ⟨"FieldFactorsModel", "inField", "(I)I"⟩ prog_7_method_10_code 2 (Option.some .int) ∈ TB := tb_in3 (i := 226) rfl rfl
theorem k_m_La_82 : Cond.methodLink "FieldFactorsLaw" 82 ⟨"FieldFactorsModel", "get", "(II)I"⟩ ∈ TB := tb_in3 (i := 227) rfl rfl
theorem k_im_Mo_get : Cond.instanceMethod ⟨"FieldFactorsModel", "get", "(II)I"⟩ ∈ TB := tb_in3 (i := 228) rfl rfl
theorem k_se_Mo_get : Cond.selects "FieldFactorsModel" ⟨"FieldFactorsModel", "get", "(II)I"⟩ ⟨"FieldFactorsModel", "get", "(II)I"⟩ ∈ TB := tb_in3 (i := 229) rfl rfl
theorem k_co_Mo_get : Cond.code ⟨"FieldFactorsModel", "get", "(II)I"⟩ prog_7_method_12_code 3 (Option.some .int) ∈ TB := tb_in3 (i := 230) rfl rfl
theorem k_m_La_86 : Cond.methodLink "FieldFactorsLaw" 86 ⟨"FieldFactorsModel", "join", "(IIII)I"⟩ ∈ TB := tb_in3 (i := 231) rfl rfl
theorem k_im_Mo_join : Cond.instanceMethod ⟨"FieldFactorsModel", "join", "(IIII)I"⟩ ∈ TB := tb_in3 (i := 232) rfl rfl
theorem k_se_Mo_join : Cond.selects "FieldFactorsModel" ⟨"FieldFactorsModel", "join", "(IIII)I"⟩ ⟨"FieldFactorsModel", "join", "(IIII)I"⟩ ∈ TB := tb_in3 (i := 233) rfl rfl
theorem k_co_Mo_join : Cond.code ⟨"FieldFactorsModel", "join", "(IIII)I"⟩ prog_7_method_18_code 8 (Option.some .int) ∈ TB := tb_in3 (i := 234) rfl rfl
theorem k_m_Mo_80 : Cond.methodLink "FieldFactorsModel" 80 ⟨"FieldFactorsModel", "degree", "([I)I"⟩ ∈ TB := tb_in3 (i := 235) rfl rfl
theorem k_st_Mo_degree : Cond.static ⟨"FieldFactorsModel", "degree", "([I)I"⟩ ∈ TB := tb_in3 (i := 236) rfl rfl
theorem k_co_Mo_degree : Cond.code ⟨"FieldFactorsModel", "degree", "([I)I"⟩ prog_7_method_5_code 2 (Option.some .int) ∈ TB := tb_in3 (i := 237) rfl rfl
theorem k_m_Mo_97 : Cond.methodLink "FieldFactorsModel" 97 ⟨"FieldFactorsModel", "times", "([I[I)V"⟩ ∈ TB := tb_in3 (i := 238) rfl rfl
theorem k_im_Mo_times : Cond.instanceMethod ⟨"FieldFactorsModel", "times", "([I[I)V"⟩ ∈ TB := tb_in4 (i := 0) rfl rfl
theorem k_co_Mo_times : Cond.code ⟨"FieldFactorsModel", "times", "([I[I)V"⟩ prog_7_method_14_code 7 none ∈ TB := tb_in4 (i := 1) rfl rfl
theorem k_m_Mo_84 : Cond.methodLink "FieldFactorsModel" 84 ⟨"FieldFactorsModel", "copy", "([I[I)V"⟩ ∈ TB := tb_in4 (i := 2) rfl rfl
theorem k_st_Mo_copy : Cond.static ⟨"FieldFactorsModel", "copy", "([I[I)V"⟩ ∈ TB := tb_in4 (i := 3) rfl rfl
theorem k_co_Mo_copy : Cond.code ⟨"FieldFactorsModel", "copy", "([I[I)V"⟩ prog_7_method_6_code 3 none ∈ TB := tb_in4 (i := 4) rfl rfl
theorem k_m_Mo_91 : Cond.methodLink "FieldFactorsModel" 91 ⟨"FieldFactorsModel", "divided", "([I[I)V"⟩ ∈ TB := tb_in4 (i := 5) rfl rfl
theorem k_im_Mo_divided : Cond.instanceMethod ⟨"FieldFactorsModel", "divided", "([I[I)V"⟩ ∈ TB := tb_in4 (i := 7) rfl rfl
theorem k_co_Mo_divided : Cond.code ⟨"FieldFactorsModel", "divided", "([I[I)V"⟩ prog_7_method_15_code 8 none ∈ TB := tb_in4 (i := 8) rfl rfl
theorem k_m_Mo_88 : Cond.methodLink "FieldFactorsModel" 88 ⟨"FieldFactorsModel", "under", "(I)I"⟩ ∈ TB := tb_in4 (i := 9) rfl rfl
theorem k_im_Mo_under : Cond.instanceMethod ⟨"FieldFactorsModel", "under", "(I)I"⟩ ∈ TB := tb_in4 (i := 11) rfl rfl
theorem k_co_Mo_under : Cond.code ⟨"FieldFactorsModel", "under", "(I)I"⟩ prog_7_method_13_code 3 (Option.some .int) ∈ TB := tb_in4 (i := 12) rfl rfl
theorem k_m_Mo_100 : Cond.methodLink "FieldFactorsModel" 100 ⟨"FieldFactorsModel", "common", "([I[I)V"⟩ ∈ TB := tb_in4 (i := 13) rfl rfl
theorem k_im_Mo_common : Cond.instanceMethod ⟨"FieldFactorsModel", "common", "([I[I)V"⟩ ∈ TB := tb_in4 (i := 15) rfl rfl
theorem k_co_Mo_common : Cond.code ⟨"FieldFactorsModel", "common", "([I[I)V"⟩ prog_7_method_16_code 3 none ∈ TB := tb_in4 (i := 16) rfl rfl
theorem k_m_Mo_94 : Cond.methodLink "FieldFactorsModel" 94 ⟨"FieldFactorsModel", "monic", "([I)V"⟩ ∈ TB := tb_in4 (i := 17) rfl rfl
theorem k_im_Mo_monic : Cond.instanceMethod ⟨"FieldFactorsModel", "monic", "([I)V"⟩ ∈ TB := tb_in4 (i := 19) rfl rfl
theorem k_co_Mo_monic : Cond.code ⟨"FieldFactorsModel", "monic", "([I)V"⟩ prog_7_method_17_code 5 none ∈ TB := tb_in4 (i := 20) rfl rfl
theorem k_m_La_89 : Cond.methodLink "FieldFactorsLaw" 89 ⟨"FieldFactorsModel", "power", "(IIII)I"⟩ ∈ TB := tb_in4 (i := 21) rfl rfl
theorem k_im_Mo_power : Cond.instanceMethod ⟨"FieldFactorsModel", "power", "(IIII)I"⟩ ∈ TB := tb_in4 (i := 22) rfl rfl
theorem k_se_Mo_power : Cond.selects "FieldFactorsModel" ⟨"FieldFactorsModel", "power", "(IIII)I"⟩ ⟨"FieldFactorsModel", "power", "(IIII)I"⟩ ∈ TB := tb_in4 (i := 23) rfl rfl
theorem k_co_Mo_power : Cond.code ⟨"FieldFactorsModel", "power", "(IIII)I"⟩ prog_7_method_20_code 5 (Option.some .int) ∈ TB := tb_in4 (i := 24) rfl rfl
theorem k_m_Mo_103 : Cond.methodLink "FieldFactorsModel" 103 ⟨"FieldFactorsModel", "raised", "(I[I)V"⟩ ∈ TB := tb_in4 (i := 25) rfl rfl
theorem k_im_Mo_raised : Cond.instanceMethod ⟨"FieldFactorsModel", "raised", "(I[I)V"⟩ ∈ TB := tb_in4 (i := 27) rfl rfl
theorem k_co_Mo_raised : Cond.code ⟨"FieldFactorsModel", "raised", "(I[I)V"⟩ prog_7_method_19_code 4 none ∈ TB := tb_in4 (i := 28) rfl rfl
theorem k_m_La_92 : Cond.methodLink "FieldFactorsLaw" 92 ⟨"FieldFactorsModel", "inverse", "(III)I"⟩ ∈ TB := tb_in4 (i := 29) rfl rfl
theorem k_im_Mo_inverse : Cond.instanceMethod ⟨"FieldFactorsModel", "inverse", "(III)I"⟩ ∈ TB := tb_in4 (i := 30) rfl rfl
theorem k_se_Mo_inverse : Cond.selects "FieldFactorsModel" ⟨"FieldFactorsModel", "inverse", "(III)I"⟩ ⟨"FieldFactorsModel", "inverse", "(III)I"⟩ ∈ TB := tb_in4 (i := 31) rfl rfl
theorem k_co_Mo_inverse : Cond.code ⟨"FieldFactorsModel", "inverse", "(III)I"⟩ prog_7_method_21_code 12 (Option.some .int) ∈ TB := tb_in4 (i := 32) rfl rfl
theorem k_m_La_95 : Cond.methodLink "FieldFactorsLaw" 95 ⟨"FieldFactorsModel", "value", "(II)I"⟩ ∈ TB := tb_in4 (i := 33) rfl rfl
theorem k_im_Mo_value : Cond.instanceMethod ⟨"FieldFactorsModel", "value", "(II)I"⟩ ∈ TB := tb_in4 (i := 34) rfl rfl
theorem k_se_Mo_value : Cond.selects "FieldFactorsModel" ⟨"FieldFactorsModel", "value", "(II)I"⟩ ⟨"FieldFactorsModel", "value", "(II)I"⟩ ∈ TB := tb_in4 (i := 35) rfl rfl
theorem k_co_Mo_value : Cond.code ⟨"FieldFactorsModel", "value", "(II)I"⟩ prog_7_method_23_code 3 (Option.some .int) ∈ TB := tb_in4 (i := 36) rfl rfl
theorem k_m_Mo_107 : Cond.methodLink "FieldFactorsModel" 107 ⟨"FieldFactorsModel", "at", "([II)I"⟩ ∈ TB := tb_in4 (i := 37) rfl rfl
theorem k_im_Mo_at : Cond.instanceMethod ⟨"FieldFactorsModel", "at", "([II)I"⟩ ∈ TB := tb_in4 (i := 39) rfl rfl
theorem k_co_Mo_at : Cond.code ⟨"FieldFactorsModel", "at", "([II)I"⟩ prog_7_method_22_code 5 (Option.some .int) ∈ TB := tb_in4 (i := 40) rfl rfl
theorem k_m_La_98 : Cond.methodLink "FieldFactorsLaw" 98 ⟨"FieldFactorsModel", "zeros", "(I)I"⟩ ∈ TB := tb_in4 (i := 41) rfl rfl
theorem k_im_Mo_zeros : Cond.instanceMethod ⟨"FieldFactorsModel", "zeros", "(I)I"⟩ ∈ TB := tb_in4 (i := 42) rfl rfl
theorem k_se_Mo_zeros : Cond.selects "FieldFactorsModel" ⟨"FieldFactorsModel", "zeros", "(I)I"⟩ ⟨"FieldFactorsModel", "zeros", "(I)I"⟩ ∈ TB := tb_in4 (i := 43) rfl rfl
theorem k_co_Mo_zeros : Cond.code ⟨"FieldFactorsModel", "zeros", "(I)I"⟩ prog_7_method_24_code 4 (Option.some .int) ∈ TB := tb_in4 (i := 44) rfl rfl
theorem k_m_La_101 : Cond.methodLink "FieldFactorsLaw" 101 ⟨"FieldFactorsModel", "factor", "(I)I"⟩ ∈ TB := tb_in4 (i := 45) rfl rfl
theorem k_im_Mo_factor : Cond.instanceMethod ⟨"FieldFactorsModel", "factor", "(I)I"⟩ ∈ TB := tb_in4 (i := 46) rfl rfl
theorem k_se_Mo_factor : Cond.selects "FieldFactorsModel" ⟨"FieldFactorsModel", "factor", "(I)I"⟩ ⟨"FieldFactorsModel", "factor", "(I)I"⟩ ∈ TB := tb_in4 (i := 47) rfl rfl
theorem k_co_Mo_factor : Cond.code ⟨"FieldFactorsModel", "factor", "(I)I"⟩ prog_7_method_26_code 3 (Option.some .int) ∈ TB := tb_in4 (i := 48) rfl rfl
theorem k_m_Mo_111 : Cond.methodLink "FieldFactorsModel" 111 ⟨"FieldFactorsModel", "all", "(I)V"⟩ ∈ TB := tb_in4 (i := 49) rfl rfl
theorem k_im_Mo_all : Cond.instanceMethod ⟨"FieldFactorsModel", "all", "(I)V"⟩ ∈ TB := tb_in4 (i := 51) rfl rfl
theorem k_co_Mo_all : Cond.code ⟨"FieldFactorsModel", "all", "(I)V"⟩ prog_7_method_30_code 4 none ∈ TB := tb_in4 (i := 52) rfl rfl
theorem k_m_Mo_126 : Cond.methodLink "FieldFactorsModel" 126 ⟨"FieldFactorsModel", "divides", "([I[I)Z"⟩ ∈ TB := tb_in4 (i := 53) rfl rfl
theorem k_im_Mo_divides : Cond.instanceMethod ⟨"FieldFactorsModel", "divides", "([I[I)Z"⟩ ∈ TB := tb_in4 (i := 55) rfl rfl
theorem k_co_Mo_divides : Cond.code ⟨"FieldFactorsModel", "divides", "([I[I)Z"⟩ prog_7_method_25_code 3 (Option.some .boolean) ∈ TB := tb_in4 (i := 56) rfl rfl
theorem k_m_Mo_115 : Cond.methodLink "FieldFactorsModel" 115 ⟨"FieldFactorsModel", "note", "([II)V"⟩ ∈ TB := tb_in4 (i := 57) rfl rfl
theorem k_im_Mo_note : Cond.instanceMethod ⟨"FieldFactorsModel", "note", "([II)V"⟩ ∈ TB := tb_in4 (i := 59) rfl rfl
theorem k_co_Mo_note : Cond.code ⟨"FieldFactorsModel", "note", "([II)V"⟩ prog_7_method_29_code 4 none ∈ TB := tb_in4 (i := 60) rfl rfl
theorem k_m_Mo_119 : Cond.methodLink "FieldFactorsModel" 119 ⟨"FieldFactorsModel", "same", "([I[I)Z"⟩ ∈ TB := tb_in4 (i := 61) rfl rfl
theorem k_st_Mo_same : Cond.static ⟨"FieldFactorsModel", "same", "([I[I)Z"⟩ ∈ TB := tb_in4 (i := 62) rfl rfl
theorem k_co_Mo_same : Cond.code ⟨"FieldFactorsModel", "same", "([I[I)Z"⟩ prog_7_method_27_code 3 (Option.some .boolean) ∈ TB := tb_in4 (i := 63) rfl rfl
theorem k_m_Mo_123 : Cond.methodLink "FieldFactorsModel" 123 ⟨"FieldFactorsModel", "before", "([I[I)Z"⟩ ∈ TB := tb_in4 (i := 64) rfl rfl
theorem k_st_Mo_before : Cond.static ⟨"FieldFactorsModel", "before", "([I[I)Z"⟩ ∈ TB := tb_in4 (i := 65) rfl rfl
theorem k_co_Mo_before : Cond.code ⟨"FieldFactorsModel", "before", "([I[I)Z"⟩ prog_7_method_28_code 3 (Option.some .boolean) ∈ TB := tb_in4 (i := 66) rfl rfl
theorem k_m_La_104 : Cond.methodLink "FieldFactorsLaw" 104 ⟨"FieldFactorsModel", "piece", "(II)I"⟩ ∈ TB := tb_in4 (i := 67) rfl rfl
theorem k_im_Mo_piece : Cond.instanceMethod ⟨"FieldFactorsModel", "piece", "(II)I"⟩ ∈ TB := tb_in4 (i := 68) rfl rfl
theorem k_se_Mo_piece : Cond.selects "FieldFactorsModel" ⟨"FieldFactorsModel", "piece", "(II)I"⟩ ⟨"FieldFactorsModel", "piece", "(II)I"⟩ ∈ TB := tb_in4 (i := 69) rfl rfl
theorem k_co_Mo_piece : Cond.code ⟨"FieldFactorsModel", "piece", "(II)I"⟩ prog_7_method_31_code 3 (Option.some .int) ∈ TB := tb_in4 (i := 70) rfl rfl
theorem k_m_La_107 : Cond.methodLink "FieldFactorsLaw" 107 ⟨"FieldFactorsModel", "irreducible", "(I)Z"⟩ ∈ TB := tb_in4 (i := 71) rfl rfl
theorem k_im_Mo_irreducible : Cond.instanceMethod ⟨"FieldFactorsModel", "irreducible", "(I)Z"⟩ ∈ TB := tb_in4 (i := 72) rfl rfl
theorem k_se_Mo_irreducible : Cond.selects "FieldFactorsModel" ⟨"FieldFactorsModel", "irreducible", "(I)Z"⟩ ⟨"FieldFactorsModel", "irreducible", "(I)Z"⟩ ∈ TB := tb_in4 (i := 73) rfl rfl
theorem k_co_Mo_irreducible : Cond.code ⟨"FieldFactorsModel", "irreducible", "(I)Z"⟩ prog_7_method_32_code 4 (Option.some .boolean) ∈ TB := tb_in4 (i := 74) rfl rfl
theorem k_m_La_110 : Cond.methodLink "FieldFactorsLaw" 110 ⟨"FieldFactorsModel", "order", "(I)I"⟩ ∈ TB := tb_in4 (i := 75) rfl rfl
theorem k_im_Mo_order : Cond.instanceMethod ⟨"FieldFactorsModel", "order", "(I)I"⟩ ∈ TB := tb_in4 (i := 76) rfl rfl
theorem k_se_Mo_order : Cond.selects "FieldFactorsModel" ⟨"FieldFactorsModel", "order", "(I)I"⟩ ⟨"FieldFactorsModel", "order", "(I)I"⟩ ∈ TB := tb_in4 (i := 77) rfl rfl
theorem k_co_Mo_order : Cond.code ⟨"FieldFactorsModel", "order", "(I)I"⟩ prog_7_method_33_code 8 (Option.some .int) ∈ TB := tb_in4 (i := 78) rfl rfl
theorem k_m_La_113 : Cond.methodLink "FieldFactorsLaw" 113 ⟨"FieldFactorsModel", "linear", "(II)I"⟩ ∈ TB := tb_in4 (i := 80) rfl rfl
theorem k_im_Mo_linear : Cond.instanceMethod ⟨"FieldFactorsModel", "linear", "(II)I"⟩ ∈ TB := tb_in4 (i := 81) rfl rfl
theorem k_se_Mo_linear : Cond.selects "FieldFactorsModel" ⟨"FieldFactorsModel", "linear", "(II)I"⟩ ⟨"FieldFactorsModel", "linear", "(II)I"⟩ ∈ TB := tb_in4 (i := 82) rfl rfl
theorem k_co_Mo_linear : Cond.code ⟨"FieldFactorsModel", "linear", "(II)I"⟩ prog_7_method_34_code 4 (Option.some .int) ∈ TB := tb_in4 (i := 83) rfl rfl
theorem k_m_La_117 : Cond.methodLink "FieldFactorsLaw" 117 ⟨"FieldFactorsModel", "count", "(I)I"⟩ ∈ TB := tb_in4 (i := 84) rfl rfl
theorem k_im_Mo_count : Cond.instanceMethod ⟨"FieldFactorsModel", "count", "(I)I"⟩ ∈ TB := tb_in4 (i := 85) rfl rfl
theorem k_se_Mo_count : Cond.selects "FieldFactorsModel" ⟨"FieldFactorsModel", "count", "(I)I"⟩ ⟨"FieldFactorsModel", "count", "(I)I"⟩ ∈ TB := tb_in4 (i := 86) rfl rfl
theorem k_co_Mo_count : Cond.code ⟨"FieldFactorsModel", "count", "(I)I"⟩ prog_7_method_35_code 2 (Option.some .int) ∈ TB := tb_in4 (i := 87) rfl rfl
theorem k_l_Po : ∀ w ∈ u_ws RPo FPo 2, w ∈ TB := by
  intro w hw
  obtain ⟨k, hk, rfl⟩ := List.mem_map.mp hw
  have hk := List.mem_range.mp hk
  match k, hk with
  | 0, _ => exact tb_in1 (i := 43) rfl rfl
  | 1, _ => exact tb_in1 (i := 45) rfl rfl
  | k + 2, h => exact absurd h (by omega)
theorem k_l_Ar : ∀ w ∈ u_ws RAr FAr 9, w ∈ TB := by
  intro w hw
  obtain ⟨k, hk, rfl⟩ := List.mem_map.mp hw
  have hk := List.mem_range.mp hk
  match k, hk with
  | 0, _ => exact tb_in1 (i := 68) rfl rfl
  | 1, _ => exact tb_in1 (i := 70) rfl rfl
  | 2, _ => exact tb_in1 (i := 72) rfl rfl
  | 3, _ => exact tb_in1 (i := 74) rfl rfl
  | 4, _ => exact tb_in1 (i := 76) rfl rfl
  | 5, _ => exact tb_in1 (i := 78) rfl rfl
  | 6, _ => exact tb_in1 (i := 80) rfl rfl
  | 7, _ => exact tb_in1 (i := 82) rfl rfl
  | 8, _ => exact tb_in1 (i := 84) rfl rfl
  | k + 9, h => exact absurd h (by omega)
theorem k_l_Cu : ∀ w ∈ u_ws RCu FCu 13, w ∈ TB := by
  intro w hw
  obtain ⟨k, hk, rfl⟩ := List.mem_map.mp hw
  have hk := List.mem_range.mp hk
  match k, hk with
  | 0, _ => exact tb_in1 (i := 120) rfl rfl
  | 1, _ => exact tb_in1 (i := 122) rfl rfl
  | 2, _ => exact tb_in1 (i := 124) rfl rfl
  | 3, _ => exact tb_in1 (i := 126) rfl rfl
  | 4, _ => exact tb_in1 (i := 128) rfl rfl
  | 5, _ => exact tb_in1 (i := 130) rfl rfl
  | 6, _ => exact tb_in1 (i := 132) rfl rfl
  | 7, _ => exact tb_in1 (i := 134) rfl rfl
  | 8, _ => exact tb_in1 (i := 136) rfl rfl
  | 9, _ => exact tb_in1 (i := 138) rfl rfl
  | 10, _ => exact tb_in1 (i := 140) rfl rfl
  | 11, _ => exact tb_in1 (i := 142) rfl rfl
  | 12, _ => exact tb_in1 (i := 144) rfl rfl
  | k + 13, h => exact absurd h (by omega)
theorem k_l_Os : ∀ w ∈ u_ws ROs FOs 6, w ∈ TB := by
  intro w hw
  obtain ⟨k, hk, rfl⟩ := List.mem_map.mp hw
  have hk := List.mem_range.mp hk
  match k, hk with
  | 0, _ => exact tb_in1 (i := 162) rfl rfl
  | 1, _ => exact tb_in1 (i := 164) rfl rfl
  | 2, _ => exact tb_in1 (i := 166) rfl rfl
  | 3, _ => exact tb_in1 (i := 168) rfl rfl
  | 4, _ => exact tb_in1 (i := 170) rfl rfl
  | 5, _ => exact tb_in1 (i := 172) rfl rfl
  | k + 6, h => exact absurd h (by omega)
theorem k_l_Ff : ∀ w ∈ u_ws RFf FFf 6, w ∈ TB := by
  intro w hw
  obtain ⟨k, hk, rfl⟩ := List.mem_map.mp hw
  have hk := List.mem_range.mp hk
  match k, hk with
  | 0, _ => exact tb_in1 (i := 184) rfl rfl
  | 1, _ => exact tb_in1 (i := 186) rfl rfl
  | 2, _ => exact tb_in1 (i := 188) rfl rfl
  | 3, _ => exact tb_in1 (i := 190) rfl rfl
  | 4, _ => exact tb_in1 (i := 192) rfl rfl
  | 5, _ => exact tb_in1 (i := 194) rfl rfl
  | k + 6, h => exact absurd h (by omega)
theorem k_l_Mo : ∀ w ∈ u_ws RMo FMo 16, w ∈ TB := by
  intro w hw
  obtain ⟨k, hk, rfl⟩ := List.mem_map.mp hw
  have hk := List.mem_range.mp hk
  match k, hk with
  | 0, _ => exact tb_in3 (i := 164) rfl rfl
  | 1, _ => exact tb_in3 (i := 166) rfl rfl
  | 2, _ => exact tb_in3 (i := 168) rfl rfl
  | 3, _ => exact tb_in3 (i := 170) rfl rfl
  | 4, _ => exact tb_in3 (i := 172) rfl rfl
  | 5, _ => exact tb_in3 (i := 174) rfl rfl
  | 6, _ => exact tb_in3 (i := 176) rfl rfl
  | 7, _ => exact tb_in3 (i := 178) rfl rfl
  | 8, _ => exact tb_in3 (i := 180) rfl rfl
  | 9, _ => exact tb_in3 (i := 182) rfl rfl
  | 10, _ => exact tb_in3 (i := 184) rfl rfl
  | 11, _ => exact tb_in3 (i := 186) rfl rfl
  | 12, _ => exact tb_in3 (i := 188) rfl rfl
  | 13, _ => exact tb_in3 (i := 190) rfl rfl
  | 14, _ => exact tb_in3 (i := 192) rfl rfl
  | 15, _ => exact tb_in3 (i := 194) rfl rfl
  | k + 16, h => exact absurd h (by omega)
end
section
/-! decode rows, by my own program -/
abbrev b_Po_init : ByteArray := prog_5_method_1_code
theorem d_Po_init_0 : decode b_Po_init 0 = .ok (.aload_n 0, 1) := by decide +kernel
theorem d_Po_init_1 : decode b_Po_init 1 = .ok (.invokespecial 1, 3) := by decide +kernel
theorem d_Po_init_4 : decode b_Po_init 4 = .ok (.aload_n 0, 1) := by decide +kernel
theorem d_Po_init_5 : decode b_Po_init 5 = .ok (.iload_n 1, 1) := by decide +kernel
theorem d_Po_init_6 : decode b_Po_init 6 = .ok (.newarray .int, 2) := by decide +kernel
theorem d_Po_init_8 : decode b_Po_init 8 = .ok (.putfield 7, 3) := by decide +kernel
theorem d_Po_init_11 : decode b_Po_init 11 = .ok (.aload_n 0, 1) := by decide +kernel
theorem d_Po_init_12 : decode b_Po_init 12 = .ok (.iconst (-1), 1) := by decide +kernel
theorem d_Po_init_13 : decode b_Po_init 13 = .ok (.putfield 13, 3) := by decide +kernel
theorem d_Po_init_16 : decode b_Po_init 16 = .ok (.return_, 1) := by decide +kernel
abbrev ws_Po_init : List Cond := .code y_Po_init b_Po_init 2 none :: TB
abbrev b_Po_clear : ByteArray := prog_5_method_2_code
theorem d_Po_clear_0 : decode b_Po_clear 0 = .ok (.iconst 0, 1) := by decide +kernel
theorem d_Po_clear_1 : decode b_Po_clear 1 = .ok (.istore_n 1, 1) := by decide +kernel
theorem d_Po_clear_2 : decode b_Po_clear 2 = .ok (.iload_n 1, 1) := by decide +kernel
theorem d_Po_clear_3 : decode b_Po_clear 3 = .ok (.aload_n 0, 1) := by decide +kernel
theorem d_Po_clear_4 : decode b_Po_clear 4 = .ok (.getfield 13, 3) := by decide +kernel
theorem d_Po_clear_7 : decode b_Po_clear 7 = .ok (.if_icmp .gt 16, 3) := by decide +kernel
theorem d_Po_clear_10 : decode b_Po_clear 10 = .ok (.aload_n 0, 1) := by decide +kernel
theorem d_Po_clear_11 : decode b_Po_clear 11 = .ok (.getfield 7, 3) := by decide +kernel
theorem d_Po_clear_14 : decode b_Po_clear 14 = .ok (.iload_n 1, 1) := by decide +kernel
theorem d_Po_clear_15 : decode b_Po_clear 15 = .ok (.iconst 0, 1) := by decide +kernel
theorem d_Po_clear_16 : decode b_Po_clear 16 = .ok (.iastore, 1) := by decide +kernel
theorem d_Po_clear_17 : decode b_Po_clear 17 = .ok (.iinc 1 1, 3) := by decide +kernel
theorem d_Po_clear_20 : decode b_Po_clear 20 = .ok (.goto (-18), 3) := by decide +kernel
theorem d_Po_clear_23 : decode b_Po_clear 23 = .ok (.aload_n 0, 1) := by decide +kernel
theorem d_Po_clear_24 : decode b_Po_clear 24 = .ok (.iconst (-1), 1) := by decide +kernel
theorem d_Po_clear_25 : decode b_Po_clear 25 = .ok (.putfield 13, 3) := by decide +kernel
theorem d_Po_clear_28 : decode b_Po_clear 28 = .ok (.return_, 1) := by decide +kernel
abbrev ws_Po_clear : List Cond := .code y_Po_clear b_Po_clear 2 none :: TB
abbrev b_Po_copyFrom : ByteArray := prog_5_method_3_code
theorem d_Po_copyFrom_0 : decode b_Po_copyFrom 0 = .ok (.aload_n 1, 1) := by decide +kernel
theorem d_Po_copyFrom_1 : decode b_Po_copyFrom 1 = .ok (.getfield 13, 3) := by decide +kernel
theorem d_Po_copyFrom_4 : decode b_Po_copyFrom 4 = .ok (.iconst 1, 1) := by decide +kernel
theorem d_Po_copyFrom_5 : decode b_Po_copyFrom 5 = .ok (.iadd, 1) := by decide +kernel
theorem d_Po_copyFrom_6 : decode b_Po_copyFrom 6 = .ok (.istore_n 2, 1) := by decide +kernel
theorem d_Po_copyFrom_7 : decode b_Po_copyFrom 7 = .ok (.iload_n 2, 1) := by decide +kernel
theorem d_Po_copyFrom_8 : decode b_Po_copyFrom 8 = .ok (.aload_n 0, 1) := by decide +kernel
theorem d_Po_copyFrom_9 : decode b_Po_copyFrom 9 = .ok (.getfield 13, 3) := by decide +kernel
theorem d_Po_copyFrom_12 : decode b_Po_copyFrom 12 = .ok (.if_icmp .gt 16, 3) := by decide +kernel
theorem d_Po_copyFrom_15 : decode b_Po_copyFrom 15 = .ok (.aload_n 0, 1) := by decide +kernel
theorem d_Po_copyFrom_16 : decode b_Po_copyFrom 16 = .ok (.getfield 7, 3) := by decide +kernel
theorem d_Po_copyFrom_19 : decode b_Po_copyFrom 19 = .ok (.iload_n 2, 1) := by decide +kernel
theorem d_Po_copyFrom_20 : decode b_Po_copyFrom 20 = .ok (.iconst 0, 1) := by decide +kernel
theorem d_Po_copyFrom_21 : decode b_Po_copyFrom 21 = .ok (.iastore, 1) := by decide +kernel
theorem d_Po_copyFrom_22 : decode b_Po_copyFrom 22 = .ok (.iinc 2 1, 3) := by decide +kernel
theorem d_Po_copyFrom_25 : decode b_Po_copyFrom 25 = .ok (.goto (-18), 3) := by decide +kernel
theorem d_Po_copyFrom_28 : decode b_Po_copyFrom 28 = .ok (.iconst 0, 1) := by decide +kernel
theorem d_Po_copyFrom_29 : decode b_Po_copyFrom 29 = .ok (.istore_n 2, 1) := by decide +kernel
theorem d_Po_copyFrom_30 : decode b_Po_copyFrom 30 = .ok (.iload_n 2, 1) := by decide +kernel
theorem d_Po_copyFrom_31 : decode b_Po_copyFrom 31 = .ok (.aload_n 1, 1) := by decide +kernel
theorem d_Po_copyFrom_32 : decode b_Po_copyFrom 32 = .ok (.getfield 13, 3) := by decide +kernel
theorem d_Po_copyFrom_35 : decode b_Po_copyFrom 35 = .ok (.if_icmp .gt 21, 3) := by decide +kernel
theorem d_Po_copyFrom_38 : decode b_Po_copyFrom 38 = .ok (.aload_n 0, 1) := by decide +kernel
theorem d_Po_copyFrom_39 : decode b_Po_copyFrom 39 = .ok (.getfield 7, 3) := by decide +kernel
theorem d_Po_copyFrom_42 : decode b_Po_copyFrom 42 = .ok (.iload_n 2, 1) := by decide +kernel
theorem d_Po_copyFrom_43 : decode b_Po_copyFrom 43 = .ok (.aload_n 1, 1) := by decide +kernel
theorem d_Po_copyFrom_44 : decode b_Po_copyFrom 44 = .ok (.getfield 7, 3) := by decide +kernel
theorem d_Po_copyFrom_47 : decode b_Po_copyFrom 47 = .ok (.iload_n 2, 1) := by decide +kernel
theorem d_Po_copyFrom_48 : decode b_Po_copyFrom 48 = .ok (.iaload, 1) := by decide +kernel
theorem d_Po_copyFrom_49 : decode b_Po_copyFrom 49 = .ok (.iastore, 1) := by decide +kernel
theorem d_Po_copyFrom_50 : decode b_Po_copyFrom 50 = .ok (.iinc 2 1, 3) := by decide +kernel
theorem d_Po_copyFrom_53 : decode b_Po_copyFrom 53 = .ok (.goto (-23), 3) := by decide +kernel
theorem d_Po_copyFrom_56 : decode b_Po_copyFrom 56 = .ok (.aload_n 0, 1) := by decide +kernel
theorem d_Po_copyFrom_57 : decode b_Po_copyFrom 57 = .ok (.aload_n 1, 1) := by decide +kernel
theorem d_Po_copyFrom_58 : decode b_Po_copyFrom 58 = .ok (.getfield 13, 3) := by decide +kernel
theorem d_Po_copyFrom_61 : decode b_Po_copyFrom 61 = .ok (.putfield 13, 3) := by decide +kernel
theorem d_Po_copyFrom_64 : decode b_Po_copyFrom 64 = .ok (.return_, 1) := by decide +kernel
abbrev ws_Po_copyFrom : List Cond := .code y_Po_copyFrom b_Po_copyFrom 3 none :: TB
abbrev b_Po_put : ByteArray := prog_5_method_4_code
theorem d_Po_put_0 : decode b_Po_put 0 = .ok (.aload_n 0, 1) := by decide +kernel
theorem d_Po_put_1 : decode b_Po_put 1 = .ok (.getfield 7, 3) := by decide +kernel
theorem d_Po_put_4 : decode b_Po_put 4 = .ok (.iload_n 1, 1) := by decide +kernel
theorem d_Po_put_5 : decode b_Po_put 5 = .ok (.iload_n 2, 1) := by decide +kernel
theorem d_Po_put_6 : decode b_Po_put 6 = .ok (.iastore, 1) := by decide +kernel
theorem d_Po_put_7 : decode b_Po_put 7 = .ok (.aload_n 0, 1) := by decide +kernel
theorem d_Po_put_8 : decode b_Po_put 8 = .ok (.aload_n 0, 1) := by decide +kernel
theorem d_Po_put_9 : decode b_Po_put 9 = .ok (.getfield 13, 3) := by decide +kernel
theorem d_Po_put_12 : decode b_Po_put 12 = .ok (.iload_n 1, 1) := by decide +kernel
theorem d_Po_put_13 : decode b_Po_put 13 = .ok (.invokestatic 17, 3) := by decide +kernel
theorem d_Po_put_16 : decode b_Po_put 16 = .ok (.putfield 13, 3) := by decide +kernel
theorem d_Po_put_19 : decode b_Po_put 19 = .ok (.aload_n 0, 1) := by decide +kernel
theorem d_Po_put_20 : decode b_Po_put 20 = .ok (.getfield 13, 3) := by decide +kernel
theorem d_Po_put_23 : decode b_Po_put 23 = .ok (.ifCond .lt 28, 3) := by decide +kernel
theorem d_Po_put_26 : decode b_Po_put 26 = .ok (.aload_n 0, 1) := by decide +kernel
theorem d_Po_put_27 : decode b_Po_put 27 = .ok (.getfield 7, 3) := by decide +kernel
theorem d_Po_put_30 : decode b_Po_put 30 = .ok (.aload_n 0, 1) := by decide +kernel
theorem d_Po_put_31 : decode b_Po_put 31 = .ok (.getfield 13, 3) := by decide +kernel
theorem d_Po_put_34 : decode b_Po_put 34 = .ok (.iaload, 1) := by decide +kernel
theorem d_Po_put_35 : decode b_Po_put 35 = .ok (.ifCond .ne 16, 3) := by decide +kernel
theorem d_Po_put_38 : decode b_Po_put 38 = .ok (.aload_n 0, 1) := by decide +kernel
theorem d_Po_put_39 : decode b_Po_put 39 = .ok (.dup, 1) := by decide +kernel
theorem d_Po_put_40 : decode b_Po_put 40 = .ok (.getfield 13, 3) := by decide +kernel
theorem d_Po_put_43 : decode b_Po_put 43 = .ok (.iconst 1, 1) := by decide +kernel
theorem d_Po_put_44 : decode b_Po_put 44 = .ok (.isub, 1) := by decide +kernel
theorem d_Po_put_45 : decode b_Po_put 45 = .ok (.putfield 13, 3) := by decide +kernel
theorem d_Po_put_48 : decode b_Po_put 48 = .ok (.goto (-29), 3) := by decide +kernel
theorem d_Po_put_51 : decode b_Po_put 51 = .ok (.return_, 1) := by decide +kernel
abbrev ws_Po_put : List Cond := .code y_Po_put b_Po_put 3 none :: TB
abbrev b_Po_becomePowerOfX : ByteArray := prog_5_method_5_code
theorem d_Po_becomePowerOfX_0 : decode b_Po_becomePowerOfX 0 = .ok (.aload_n 0, 1) := by decide +kernel
theorem d_Po_becomePowerOfX_1 : decode b_Po_becomePowerOfX 1 = .ok (.invokevirtual 23, 3) := by decide +kernel
theorem d_Po_becomePowerOfX_4 : decode b_Po_becomePowerOfX 4 = .ok (.aload_n 0, 1) := by decide +kernel
theorem d_Po_becomePowerOfX_5 : decode b_Po_becomePowerOfX 5 = .ok (.getfield 7, 3) := by decide +kernel
theorem d_Po_becomePowerOfX_8 : decode b_Po_becomePowerOfX 8 = .ok (.iload_n 1, 1) := by decide +kernel
theorem d_Po_becomePowerOfX_9 : decode b_Po_becomePowerOfX 9 = .ok (.iconst 1, 1) := by decide +kernel
theorem d_Po_becomePowerOfX_10 : decode b_Po_becomePowerOfX 10 = .ok (.iastore, 1) := by decide +kernel
theorem d_Po_becomePowerOfX_11 : decode b_Po_becomePowerOfX 11 = .ok (.aload_n 0, 1) := by decide +kernel
theorem d_Po_becomePowerOfX_12 : decode b_Po_becomePowerOfX 12 = .ok (.iload_n 1, 1) := by decide +kernel
theorem d_Po_becomePowerOfX_13 : decode b_Po_becomePowerOfX 13 = .ok (.putfield 13, 3) := by decide +kernel
theorem d_Po_becomePowerOfX_16 : decode b_Po_becomePowerOfX 16 = .ok (.return_, 1) := by decide +kernel
abbrev ws_Po_becomePowerOfX : List Cond := .code y_Po_becomePowerOfX b_Po_becomePowerOfX 2 none :: TB
abbrev b_Po_lead : ByteArray := prog_5_method_6_code
theorem d_Po_lead_0 : decode b_Po_lead 0 = .ok (.aload_n 0, 1) := by decide +kernel
theorem d_Po_lead_1 : decode b_Po_lead 1 = .ok (.getfield 13, 3) := by decide +kernel
theorem d_Po_lead_4 : decode b_Po_lead 4 = .ok (.ifCond .ge 7, 3) := by decide +kernel
theorem d_Po_lead_7 : decode b_Po_lead 7 = .ok (.iconst 0, 1) := by decide +kernel
theorem d_Po_lead_8 : decode b_Po_lead 8 = .ok (.goto 12, 3) := by decide +kernel
theorem d_Po_lead_11 : decode b_Po_lead 11 = .ok (.aload_n 0, 1) := by decide +kernel
theorem d_Po_lead_12 : decode b_Po_lead 12 = .ok (.getfield 7, 3) := by decide +kernel
theorem d_Po_lead_15 : decode b_Po_lead 15 = .ok (.aload_n 0, 1) := by decide +kernel
theorem d_Po_lead_16 : decode b_Po_lead 16 = .ok (.getfield 13, 3) := by decide +kernel
theorem d_Po_lead_19 : decode b_Po_lead 19 = .ok (.iaload, 1) := by decide +kernel
theorem d_Po_lead_20 : decode b_Po_lead 20 = .ok (.ireturn, 1) := by decide +kernel
abbrev ws_Po_lead : List Cond := .code y_Po_lead b_Po_lead 1 (Option.some .int) :: TB
abbrev b_Po_isOne : ByteArray := prog_5_method_7_code
theorem d_Po_isOne_0 : decode b_Po_isOne 0 = .ok (.aload_n 0, 1) := by decide +kernel
theorem d_Po_isOne_1 : decode b_Po_isOne 1 = .ok (.getfield 13, 3) := by decide +kernel
theorem d_Po_isOne_4 : decode b_Po_isOne 4 = .ok (.ifCond .ne 17, 3) := by decide +kernel
theorem d_Po_isOne_7 : decode b_Po_isOne 7 = .ok (.aload_n 0, 1) := by decide +kernel
theorem d_Po_isOne_8 : decode b_Po_isOne 8 = .ok (.getfield 7, 3) := by decide +kernel
theorem d_Po_isOne_11 : decode b_Po_isOne 11 = .ok (.iconst 0, 1) := by decide +kernel
theorem d_Po_isOne_12 : decode b_Po_isOne 12 = .ok (.iaload, 1) := by decide +kernel
theorem d_Po_isOne_13 : decode b_Po_isOne 13 = .ok (.iconst 1, 1) := by decide +kernel
theorem d_Po_isOne_14 : decode b_Po_isOne 14 = .ok (.if_icmp .ne 7, 3) := by decide +kernel
theorem d_Po_isOne_17 : decode b_Po_isOne 17 = .ok (.iconst 1, 1) := by decide +kernel
theorem d_Po_isOne_18 : decode b_Po_isOne 18 = .ok (.goto 4, 3) := by decide +kernel
theorem d_Po_isOne_21 : decode b_Po_isOne 21 = .ok (.iconst 0, 1) := by decide +kernel
theorem d_Po_isOne_22 : decode b_Po_isOne 22 = .ok (.ireturn, 1) := by decide +kernel
abbrev ws_Po_isOne : List Cond := .code y_Po_isOne b_Po_isOne 1 (Option.some .boolean) :: TB
abbrev b_Po_comesBefore : ByteArray := prog_5_method_8_code
theorem d_Po_comesBefore_0 : decode b_Po_comesBefore 0 = .ok (.aload_n 0, 1) := by decide +kernel
theorem d_Po_comesBefore_1 : decode b_Po_comesBefore 1 = .ok (.getfield 13, 3) := by decide +kernel
theorem d_Po_comesBefore_4 : decode b_Po_comesBefore 4 = .ok (.aload_n 1, 1) := by decide +kernel
theorem d_Po_comesBefore_5 : decode b_Po_comesBefore 5 = .ok (.getfield 13, 3) := by decide +kernel
theorem d_Po_comesBefore_8 : decode b_Po_comesBefore 8 = .ok (.if_icmp .eq 20, 3) := by decide +kernel
theorem d_Po_comesBefore_11 : decode b_Po_comesBefore 11 = .ok (.aload_n 0, 1) := by decide +kernel
theorem d_Po_comesBefore_12 : decode b_Po_comesBefore 12 = .ok (.getfield 13, 3) := by decide +kernel
theorem d_Po_comesBefore_15 : decode b_Po_comesBefore 15 = .ok (.aload_n 1, 1) := by decide +kernel
theorem d_Po_comesBefore_16 : decode b_Po_comesBefore 16 = .ok (.getfield 13, 3) := by decide +kernel
theorem d_Po_comesBefore_19 : decode b_Po_comesBefore 19 = .ok (.if_icmp .ge 7, 3) := by decide +kernel
theorem d_Po_comesBefore_22 : decode b_Po_comesBefore 22 = .ok (.iconst 1, 1) := by decide +kernel
theorem d_Po_comesBefore_23 : decode b_Po_comesBefore 23 = .ok (.goto 4, 3) := by decide +kernel
theorem d_Po_comesBefore_26 : decode b_Po_comesBefore 26 = .ok (.iconst 0, 1) := by decide +kernel
theorem d_Po_comesBefore_27 : decode b_Po_comesBefore 27 = .ok (.ireturn, 1) := by decide +kernel
theorem d_Po_comesBefore_28 : decode b_Po_comesBefore 28 = .ok (.aload_n 0, 1) := by decide +kernel
theorem d_Po_comesBefore_29 : decode b_Po_comesBefore 29 = .ok (.getfield 13, 3) := by decide +kernel
theorem d_Po_comesBefore_32 : decode b_Po_comesBefore 32 = .ok (.istore_n 2, 1) := by decide +kernel
theorem d_Po_comesBefore_33 : decode b_Po_comesBefore 33 = .ok (.iload_n 2, 1) := by decide +kernel
theorem d_Po_comesBefore_34 : decode b_Po_comesBefore 34 = .ok (.ifCond .lt 45, 3) := by decide +kernel
theorem d_Po_comesBefore_37 : decode b_Po_comesBefore 37 = .ok (.aload_n 0, 1) := by decide +kernel
theorem d_Po_comesBefore_38 : decode b_Po_comesBefore 38 = .ok (.getfield 7, 3) := by decide +kernel
theorem d_Po_comesBefore_41 : decode b_Po_comesBefore 41 = .ok (.iload_n 2, 1) := by decide +kernel
theorem d_Po_comesBefore_42 : decode b_Po_comesBefore 42 = .ok (.iaload, 1) := by decide +kernel
theorem d_Po_comesBefore_43 : decode b_Po_comesBefore 43 = .ok (.aload_n 1, 1) := by decide +kernel
theorem d_Po_comesBefore_44 : decode b_Po_comesBefore 44 = .ok (.getfield 7, 3) := by decide +kernel
theorem d_Po_comesBefore_47 : decode b_Po_comesBefore 47 = .ok (.iload_n 2, 1) := by decide +kernel
theorem d_Po_comesBefore_48 : decode b_Po_comesBefore 48 = .ok (.iaload, 1) := by decide +kernel
theorem d_Po_comesBefore_49 : decode b_Po_comesBefore 49 = .ok (.if_icmp .eq 24, 3) := by decide +kernel
theorem d_Po_comesBefore_52 : decode b_Po_comesBefore 52 = .ok (.aload_n 0, 1) := by decide +kernel
theorem d_Po_comesBefore_53 : decode b_Po_comesBefore 53 = .ok (.getfield 7, 3) := by decide +kernel
theorem d_Po_comesBefore_56 : decode b_Po_comesBefore 56 = .ok (.iload_n 2, 1) := by decide +kernel
theorem d_Po_comesBefore_57 : decode b_Po_comesBefore 57 = .ok (.iaload, 1) := by decide +kernel
theorem d_Po_comesBefore_58 : decode b_Po_comesBefore 58 = .ok (.aload_n 1, 1) := by decide +kernel
theorem d_Po_comesBefore_59 : decode b_Po_comesBefore 59 = .ok (.getfield 7, 3) := by decide +kernel
theorem d_Po_comesBefore_62 : decode b_Po_comesBefore 62 = .ok (.iload_n 2, 1) := by decide +kernel
theorem d_Po_comesBefore_63 : decode b_Po_comesBefore 63 = .ok (.iaload, 1) := by decide +kernel
theorem d_Po_comesBefore_64 : decode b_Po_comesBefore 64 = .ok (.if_icmp .ge 7, 3) := by decide +kernel
theorem d_Po_comesBefore_67 : decode b_Po_comesBefore 67 = .ok (.iconst 1, 1) := by decide +kernel
theorem d_Po_comesBefore_68 : decode b_Po_comesBefore 68 = .ok (.goto 4, 3) := by decide +kernel
theorem d_Po_comesBefore_71 : decode b_Po_comesBefore 71 = .ok (.iconst 0, 1) := by decide +kernel
theorem d_Po_comesBefore_72 : decode b_Po_comesBefore 72 = .ok (.ireturn, 1) := by decide +kernel
theorem d_Po_comesBefore_73 : decode b_Po_comesBefore 73 = .ok (.iinc 2 (-1), 3) := by decide +kernel
theorem d_Po_comesBefore_76 : decode b_Po_comesBefore 76 = .ok (.goto (-43), 3) := by decide +kernel
theorem d_Po_comesBefore_79 : decode b_Po_comesBefore 79 = .ok (.iconst 0, 1) := by decide +kernel
theorem d_Po_comesBefore_80 : decode b_Po_comesBefore 80 = .ok (.ireturn, 1) := by decide +kernel
abbrev ws_Po_comesBefore : List Cond := .code y_Po_comesBefore b_Po_comesBefore 3 (Option.some .boolean) :: TB
abbrev b_Ar_init : ByteArray := prog_2_method_1_code
theorem d_Ar_init_0 : decode b_Ar_init 0 = .ok (.aload_n 0, 1) := by decide +kernel
theorem d_Ar_init_1 : decode b_Ar_init 1 = .ok (.invokespecial 3, 3) := by decide +kernel
theorem d_Ar_init_4 : decode b_Ar_init 4 = .ok (.aload_n 0, 1) := by decide +kernel
theorem d_Ar_init_5 : decode b_Ar_init 5 = .ok (.bipush 13, 2) := by decide +kernel
theorem d_Ar_init_7 : decode b_Ar_init 7 = .ok (.newarray .int, 2) := by decide +kernel
theorem d_Ar_init_9 : decode b_Ar_init 9 = .ok (.putfield 9, 3) := by decide +kernel
theorem d_Ar_init_12 : decode b_Ar_init 12 = .ok (.aload_n 0, 1) := by decide +kernel
theorem d_Ar_init_13 : decode b_Ar_init 13 = .ok (.new 15, 3) := by decide +kernel
theorem d_Ar_init_16 : decode b_Ar_init 16 = .ok (.dup, 1) := by decide +kernel
theorem d_Ar_init_17 : decode b_Ar_init 17 = .ok (.sipush 300, 3) := by decide +kernel
theorem d_Ar_init_20 : decode b_Ar_init 20 = .ok (.invokespecial 17, 3) := by decide +kernel
theorem d_Ar_init_23 : decode b_Ar_init 23 = .ok (.putfield 20, 3) := by decide +kernel
theorem d_Ar_init_26 : decode b_Ar_init 26 = .ok (.aload_n 0, 1) := by decide +kernel
theorem d_Ar_init_27 : decode b_Ar_init 27 = .ok (.new 15, 3) := by decide +kernel
theorem d_Ar_init_30 : decode b_Ar_init 30 = .ok (.dup, 1) := by decide +kernel
theorem d_Ar_init_31 : decode b_Ar_init 31 = .ok (.sipush 300, 3) := by decide +kernel
theorem d_Ar_init_34 : decode b_Ar_init 34 = .ok (.invokespecial 17, 3) := by decide +kernel
theorem d_Ar_init_37 : decode b_Ar_init 37 = .ok (.putfield 24, 3) := by decide +kernel
theorem d_Ar_init_40 : decode b_Ar_init 40 = .ok (.aload_n 0, 1) := by decide +kernel
theorem d_Ar_init_41 : decode b_Ar_init 41 = .ok (.new 15, 3) := by decide +kernel
theorem d_Ar_init_44 : decode b_Ar_init 44 = .ok (.dup, 1) := by decide +kernel
theorem d_Ar_init_45 : decode b_Ar_init 45 = .ok (.bipush 25, 2) := by decide +kernel
theorem d_Ar_init_47 : decode b_Ar_init 47 = .ok (.invokespecial 17, 3) := by decide +kernel
theorem d_Ar_init_50 : decode b_Ar_init 50 = .ok (.putfield 27, 3) := by decide +kernel
theorem d_Ar_init_53 : decode b_Ar_init 53 = .ok (.aload_n 0, 1) := by decide +kernel
theorem d_Ar_init_54 : decode b_Ar_init 54 = .ok (.new 15, 3) := by decide +kernel
theorem d_Ar_init_57 : decode b_Ar_init 57 = .ok (.dup, 1) := by decide +kernel
theorem d_Ar_init_58 : decode b_Ar_init 58 = .ok (.bipush 25, 2) := by decide +kernel
theorem d_Ar_init_60 : decode b_Ar_init 60 = .ok (.invokespecial 17, 3) := by decide +kernel
theorem d_Ar_init_63 : decode b_Ar_init 63 = .ok (.putfield 30, 3) := by decide +kernel
theorem d_Ar_init_66 : decode b_Ar_init 66 = .ok (.aload_n 0, 1) := by decide +kernel
theorem d_Ar_init_67 : decode b_Ar_init 67 = .ok (.new 15, 3) := by decide +kernel
theorem d_Ar_init_70 : decode b_Ar_init 70 = .ok (.dup, 1) := by decide +kernel
theorem d_Ar_init_71 : decode b_Ar_init 71 = .ok (.bipush 25, 2) := by decide +kernel
theorem d_Ar_init_73 : decode b_Ar_init 73 = .ok (.invokespecial 17, 3) := by decide +kernel
theorem d_Ar_init_76 : decode b_Ar_init 76 = .ok (.putfield 33, 3) := by decide +kernel
theorem d_Ar_init_79 : decode b_Ar_init 79 = .ok (.aload_n 0, 1) := by decide +kernel
theorem d_Ar_init_80 : decode b_Ar_init 80 = .ok (.new 15, 3) := by decide +kernel
theorem d_Ar_init_83 : decode b_Ar_init 83 = .ok (.dup, 1) := by decide +kernel
theorem d_Ar_init_84 : decode b_Ar_init 84 = .ok (.bipush 25, 2) := by decide +kernel
theorem d_Ar_init_86 : decode b_Ar_init 86 = .ok (.invokespecial 17, 3) := by decide +kernel
theorem d_Ar_init_89 : decode b_Ar_init 89 = .ok (.putfield 36, 3) := by decide +kernel
theorem d_Ar_init_92 : decode b_Ar_init 92 = .ok (.aload_n 0, 1) := by decide +kernel
theorem d_Ar_init_93 : decode b_Ar_init 93 = .ok (.new 15, 3) := by decide +kernel
theorem d_Ar_init_96 : decode b_Ar_init 96 = .ok (.dup, 1) := by decide +kernel
theorem d_Ar_init_97 : decode b_Ar_init 97 = .ok (.bipush 25, 2) := by decide +kernel
theorem d_Ar_init_99 : decode b_Ar_init 99 = .ok (.invokespecial 17, 3) := by decide +kernel
theorem d_Ar_init_102 : decode b_Ar_init 102 = .ok (.putfield 39, 3) := by decide +kernel
theorem d_Ar_init_105 : decode b_Ar_init 105 = .ok (.aload_n 0, 1) := by decide +kernel
theorem d_Ar_init_106 : decode b_Ar_init 106 = .ok (.getstatic 42, 3) := by decide +kernel
theorem d_Ar_init_109 : decode b_Ar_init 109 = .ok (.iconst 0, 1) := by decide +kernel
theorem d_Ar_init_110 : decode b_Ar_init 110 = .ok (.iaload, 1) := by decide +kernel
theorem d_Ar_init_111 : decode b_Ar_init 111 = .ok (.invokevirtual 45, 3) := by decide +kernel
theorem d_Ar_init_114 : decode b_Ar_init 114 = .ok (.return_, 1) := by decide +kernel
abbrev ws_Ar_init : List Cond := .code y_Ar_init b_Ar_init 1 none :: TB
abbrev b_Ar_become : ByteArray := prog_2_method_2_code
theorem d_Ar_become_0 : decode b_Ar_become 0 = .ok (.aload_n 0, 1) := by decide +kernel
theorem d_Ar_become_1 : decode b_Ar_become 1 = .ok (.iload_n 1, 1) := by decide +kernel
theorem d_Ar_become_2 : decode b_Ar_become 2 = .ok (.putfield 48, 3) := by decide +kernel
theorem d_Ar_become_5 : decode b_Ar_become 5 = .ok (.iconst 1, 1) := by decide +kernel
theorem d_Ar_become_6 : decode b_Ar_become 6 = .ok (.istore_n 2, 1) := by decide +kernel
theorem d_Ar_become_7 : decode b_Ar_become 7 = .ok (.iload_n 2, 1) := by decide +kernel
theorem d_Ar_become_8 : decode b_Ar_become 8 = .ok (.aload_n 0, 1) := by decide +kernel
theorem d_Ar_become_9 : decode b_Ar_become 9 = .ok (.getfield 48, 3) := by decide +kernel
theorem d_Ar_become_12 : decode b_Ar_become 12 = .ok (.if_icmp .ge 44, 3) := by decide +kernel
theorem d_Ar_become_15 : decode b_Ar_become 15 = .ok (.iconst 1, 1) := by decide +kernel
theorem d_Ar_become_16 : decode b_Ar_become 16 = .ok (.istore_n 3, 1) := by decide +kernel
theorem d_Ar_become_17 : decode b_Ar_become 17 = .ok (.iload_n 3, 1) := by decide +kernel
theorem d_Ar_become_18 : decode b_Ar_become 18 = .ok (.aload_n 0, 1) := by decide +kernel
theorem d_Ar_become_19 : decode b_Ar_become 19 = .ok (.getfield 48, 3) := by decide +kernel
theorem d_Ar_become_22 : decode b_Ar_become 22 = .ok (.if_icmp .ge 28, 3) := by decide +kernel
theorem d_Ar_become_25 : decode b_Ar_become 25 = .ok (.iload_n 2, 1) := by decide +kernel
theorem d_Ar_become_26 : decode b_Ar_become 26 = .ok (.iload_n 3, 1) := by decide +kernel
theorem d_Ar_become_27 : decode b_Ar_become 27 = .ok (.imul, 1) := by decide +kernel
theorem d_Ar_become_28 : decode b_Ar_become 28 = .ok (.aload_n 0, 1) := by decide +kernel
theorem d_Ar_become_29 : decode b_Ar_become 29 = .ok (.getfield 48, 3) := by decide +kernel
theorem d_Ar_become_32 : decode b_Ar_become 32 = .ok (.irem, 1) := by decide +kernel
theorem d_Ar_become_33 : decode b_Ar_become 33 = .ok (.iconst 1, 1) := by decide +kernel
theorem d_Ar_become_34 : decode b_Ar_become 34 = .ok (.if_icmp .ne 10, 3) := by decide +kernel
theorem d_Ar_become_37 : decode b_Ar_become 37 = .ok (.aload_n 0, 1) := by decide +kernel
theorem d_Ar_become_38 : decode b_Ar_become 38 = .ok (.getfield 9, 3) := by decide +kernel
theorem d_Ar_become_41 : decode b_Ar_become 41 = .ok (.iload_n 2, 1) := by decide +kernel
theorem d_Ar_become_42 : decode b_Ar_become 42 = .ok (.iload_n 3, 1) := by decide +kernel
theorem d_Ar_become_43 : decode b_Ar_become 43 = .ok (.iastore, 1) := by decide +kernel
theorem d_Ar_become_44 : decode b_Ar_become 44 = .ok (.iinc 3 1, 3) := by decide +kernel
theorem d_Ar_become_47 : decode b_Ar_become 47 = .ok (.goto (-30), 3) := by decide +kernel
theorem d_Ar_become_50 : decode b_Ar_become 50 = .ok (.iinc 2 1, 3) := by decide +kernel
theorem d_Ar_become_53 : decode b_Ar_become 53 = .ok (.goto (-46), 3) := by decide +kernel
theorem d_Ar_become_56 : decode b_Ar_become 56 = .ok (.return_, 1) := by decide +kernel
abbrev ws_Ar_become : List Cond := .code y_Ar_become b_Ar_become 4 none :: TB
abbrev b_Ar_addShifted : ByteArray := prog_2_method_3_code
theorem d_Ar_addShifted_0 : decode b_Ar_addShifted 0 = .ok (.aload 4, 2) := by decide +kernel
theorem d_Ar_addShifted_2 : decode b_Ar_addShifted 2 = .ok (.getfield 52, 3) := by decide +kernel
theorem d_Ar_addShifted_5 : decode b_Ar_addShifted 5 = .ok (.ifCond .ge 4, 3) := by decide +kernel
theorem d_Ar_addShifted_8 : decode b_Ar_addShifted 8 = .ok (.return_, 1) := by decide +kernel
theorem d_Ar_addShifted_9 : decode b_Ar_addShifted 9 = .ok (.iconst 0, 1) := by decide +kernel
theorem d_Ar_addShifted_10 : decode b_Ar_addShifted 10 = .ok (.istore 5, 2) := by decide +kernel
theorem d_Ar_addShifted_12 : decode b_Ar_addShifted 12 = .ok (.iload 5, 2) := by decide +kernel
theorem d_Ar_addShifted_14 : decode b_Ar_addShifted 14 = .ok (.aload 4, 2) := by decide +kernel
theorem d_Ar_addShifted_16 : decode b_Ar_addShifted 16 = .ok (.getfield 52, 3) := by decide +kernel
theorem d_Ar_addShifted_19 : decode b_Ar_addShifted 19 = .ok (.if_icmp .gt 45, 3) := by decide +kernel
theorem d_Ar_addShifted_22 : decode b_Ar_addShifted 22 = .ok (.iload 5, 2) := by decide +kernel
theorem d_Ar_addShifted_24 : decode b_Ar_addShifted 24 = .ok (.iload_n 3, 1) := by decide +kernel
theorem d_Ar_addShifted_25 : decode b_Ar_addShifted 25 = .ok (.iadd, 1) := by decide +kernel
theorem d_Ar_addShifted_26 : decode b_Ar_addShifted 26 = .ok (.istore 6, 2) := by decide +kernel
theorem d_Ar_addShifted_28 : decode b_Ar_addShifted 28 = .ok (.aload_n 1, 1) := by decide +kernel
theorem d_Ar_addShifted_29 : decode b_Ar_addShifted 29 = .ok (.getfield 55, 3) := by decide +kernel
theorem d_Ar_addShifted_32 : decode b_Ar_addShifted 32 = .ok (.iload 6, 2) := by decide +kernel
theorem d_Ar_addShifted_34 : decode b_Ar_addShifted 34 = .ok (.aload_n 1, 1) := by decide +kernel
theorem d_Ar_addShifted_35 : decode b_Ar_addShifted 35 = .ok (.getfield 55, 3) := by decide +kernel
theorem d_Ar_addShifted_38 : decode b_Ar_addShifted 38 = .ok (.iload 6, 2) := by decide +kernel
theorem d_Ar_addShifted_40 : decode b_Ar_addShifted 40 = .ok (.iaload, 1) := by decide +kernel
theorem d_Ar_addShifted_41 : decode b_Ar_addShifted 41 = .ok (.iload_n 2, 1) := by decide +kernel
theorem d_Ar_addShifted_42 : decode b_Ar_addShifted 42 = .ok (.aload 4, 2) := by decide +kernel
theorem d_Ar_addShifted_44 : decode b_Ar_addShifted 44 = .ok (.getfield 55, 3) := by decide +kernel
theorem d_Ar_addShifted_47 : decode b_Ar_addShifted 47 = .ok (.iload 5, 2) := by decide +kernel
theorem d_Ar_addShifted_49 : decode b_Ar_addShifted 49 = .ok (.iaload, 1) := by decide +kernel
theorem d_Ar_addShifted_50 : decode b_Ar_addShifted 50 = .ok (.imul, 1) := by decide +kernel
theorem d_Ar_addShifted_51 : decode b_Ar_addShifted 51 = .ok (.iadd, 1) := by decide +kernel
theorem d_Ar_addShifted_52 : decode b_Ar_addShifted 52 = .ok (.aload_n 0, 1) := by decide +kernel
theorem d_Ar_addShifted_53 : decode b_Ar_addShifted 53 = .ok (.getfield 48, 3) := by decide +kernel
theorem d_Ar_addShifted_56 : decode b_Ar_addShifted 56 = .ok (.irem, 1) := by decide +kernel
theorem d_Ar_addShifted_57 : decode b_Ar_addShifted 57 = .ok (.iastore, 1) := by decide +kernel
theorem d_Ar_addShifted_58 : decode b_Ar_addShifted 58 = .ok (.iinc 5 1, 3) := by decide +kernel
theorem d_Ar_addShifted_61 : decode b_Ar_addShifted 61 = .ok (.goto (-49), 3) := by decide +kernel
theorem d_Ar_addShifted_64 : decode b_Ar_addShifted 64 = .ok (.aload_n 1, 1) := by decide +kernel
theorem d_Ar_addShifted_65 : decode b_Ar_addShifted 65 = .ok (.getfield 52, 3) := by decide +kernel
theorem d_Ar_addShifted_68 : decode b_Ar_addShifted 68 = .ok (.aload 4, 2) := by decide +kernel
theorem d_Ar_addShifted_70 : decode b_Ar_addShifted 70 = .ok (.getfield 52, 3) := by decide +kernel
theorem d_Ar_addShifted_73 : decode b_Ar_addShifted 73 = .ok (.iload_n 3, 1) := by decide +kernel
theorem d_Ar_addShifted_74 : decode b_Ar_addShifted 74 = .ok (.iadd, 1) := by decide +kernel
theorem d_Ar_addShifted_75 : decode b_Ar_addShifted 75 = .ok (.invokestatic 58, 3) := by decide +kernel
theorem d_Ar_addShifted_78 : decode b_Ar_addShifted 78 = .ok (.istore 5, 2) := by decide +kernel
theorem d_Ar_addShifted_80 : decode b_Ar_addShifted 80 = .ok (.iload 5, 2) := by decide +kernel
theorem d_Ar_addShifted_82 : decode b_Ar_addShifted 82 = .ok (.ifCond .lt 19, 3) := by decide +kernel
theorem d_Ar_addShifted_85 : decode b_Ar_addShifted 85 = .ok (.aload_n 1, 1) := by decide +kernel
theorem d_Ar_addShifted_86 : decode b_Ar_addShifted 86 = .ok (.getfield 55, 3) := by decide +kernel
theorem d_Ar_addShifted_89 : decode b_Ar_addShifted 89 = .ok (.iload 5, 2) := by decide +kernel
theorem d_Ar_addShifted_91 : decode b_Ar_addShifted 91 = .ok (.iaload, 1) := by decide +kernel
theorem d_Ar_addShifted_92 : decode b_Ar_addShifted 92 = .ok (.ifCond .ne 9, 3) := by decide +kernel
theorem d_Ar_addShifted_95 : decode b_Ar_addShifted 95 = .ok (.iinc 5 (-1), 3) := by decide +kernel
theorem d_Ar_addShifted_98 : decode b_Ar_addShifted 98 = .ok (.goto (-18), 3) := by decide +kernel
theorem d_Ar_addShifted_101 : decode b_Ar_addShifted 101 = .ok (.aload_n 1, 1) := by decide +kernel
theorem d_Ar_addShifted_102 : decode b_Ar_addShifted 102 = .ok (.iload 5, 2) := by decide +kernel
theorem d_Ar_addShifted_104 : decode b_Ar_addShifted 104 = .ok (.putfield 52, 3) := by decide +kernel
theorem d_Ar_addShifted_107 : decode b_Ar_addShifted 107 = .ok (.return_, 1) := by decide +kernel
abbrev ws_Ar_addShifted : List Cond := .code y_Ar_addShifted b_Ar_addShifted 7 none :: TB
abbrev b_Ar_addProduct : ByteArray := prog_2_method_4_code
theorem d_Ar_addProduct_0 : decode b_Ar_addProduct 0 = .ok (.iconst 0, 1) := by decide +kernel
theorem d_Ar_addProduct_1 : decode b_Ar_addProduct 1 = .ok (.istore 5, 2) := by decide +kernel
theorem d_Ar_addProduct_3 : decode b_Ar_addProduct 3 = .ok (.iload 5, 2) := by decide +kernel
theorem d_Ar_addProduct_5 : decode b_Ar_addProduct 5 = .ok (.aload_n 3, 1) := by decide +kernel
theorem d_Ar_addProduct_6 : decode b_Ar_addProduct 6 = .ok (.getfield 52, 3) := by decide +kernel
theorem d_Ar_addProduct_9 : decode b_Ar_addProduct 9 = .ok (.if_icmp .gt 37, 3) := by decide +kernel
theorem d_Ar_addProduct_12 : decode b_Ar_addProduct 12 = .ok (.aload_n 3, 1) := by decide +kernel
theorem d_Ar_addProduct_13 : decode b_Ar_addProduct 13 = .ok (.getfield 55, 3) := by decide +kernel
theorem d_Ar_addProduct_16 : decode b_Ar_addProduct 16 = .ok (.iload 5, 2) := by decide +kernel
theorem d_Ar_addProduct_18 : decode b_Ar_addProduct 18 = .ok (.iaload, 1) := by decide +kernel
theorem d_Ar_addProduct_19 : decode b_Ar_addProduct 19 = .ok (.ifCond .eq 21, 3) := by decide +kernel
theorem d_Ar_addProduct_22 : decode b_Ar_addProduct 22 = .ok (.aload_n 0, 1) := by decide +kernel
theorem d_Ar_addProduct_23 : decode b_Ar_addProduct 23 = .ok (.aload_n 1, 1) := by decide +kernel
theorem d_Ar_addProduct_24 : decode b_Ar_addProduct 24 = .ok (.iload_n 2, 1) := by decide +kernel
theorem d_Ar_addProduct_25 : decode b_Ar_addProduct 25 = .ok (.aload_n 3, 1) := by decide +kernel
theorem d_Ar_addProduct_26 : decode b_Ar_addProduct 26 = .ok (.getfield 55, 3) := by decide +kernel
theorem d_Ar_addProduct_29 : decode b_Ar_addProduct 29 = .ok (.iload 5, 2) := by decide +kernel
theorem d_Ar_addProduct_31 : decode b_Ar_addProduct 31 = .ok (.iaload, 1) := by decide +kernel
theorem d_Ar_addProduct_32 : decode b_Ar_addProduct 32 = .ok (.imul, 1) := by decide +kernel
theorem d_Ar_addProduct_33 : decode b_Ar_addProduct 33 = .ok (.iload 5, 2) := by decide +kernel
theorem d_Ar_addProduct_35 : decode b_Ar_addProduct 35 = .ok (.aload 4, 2) := by decide +kernel
theorem d_Ar_addProduct_37 : decode b_Ar_addProduct 37 = .ok (.invokevirtual 64, 3) := by decide +kernel
theorem d_Ar_addProduct_40 : decode b_Ar_addProduct 40 = .ok (.iinc 5 1, 3) := by decide +kernel
theorem d_Ar_addProduct_43 : decode b_Ar_addProduct 43 = .ok (.goto (-40), 3) := by decide +kernel
theorem d_Ar_addProduct_46 : decode b_Ar_addProduct 46 = .ok (.return_, 1) := by decide +kernel
abbrev ws_Ar_addProduct : List Cond := .code y_Ar_addProduct b_Ar_addProduct 6 none :: TB
abbrev b_Ar_scale : ByteArray := prog_2_method_5_code
theorem d_Ar_scale_0 : decode b_Ar_scale 0 = .ok (.iconst 0, 1) := by decide +kernel
theorem d_Ar_scale_1 : decode b_Ar_scale 1 = .ok (.istore_n 3, 1) := by decide +kernel
theorem d_Ar_scale_2 : decode b_Ar_scale 2 = .ok (.iload_n 3, 1) := by decide +kernel
theorem d_Ar_scale_3 : decode b_Ar_scale 3 = .ok (.aload_n 1, 1) := by decide +kernel
theorem d_Ar_scale_4 : decode b_Ar_scale 4 = .ok (.getfield 52, 3) := by decide +kernel
theorem d_Ar_scale_7 : decode b_Ar_scale 7 = .ok (.if_icmp .gt 28, 3) := by decide +kernel
theorem d_Ar_scale_10 : decode b_Ar_scale 10 = .ok (.aload_n 1, 1) := by decide +kernel
theorem d_Ar_scale_11 : decode b_Ar_scale 11 = .ok (.getfield 55, 3) := by decide +kernel
theorem d_Ar_scale_14 : decode b_Ar_scale 14 = .ok (.iload_n 3, 1) := by decide +kernel
theorem d_Ar_scale_15 : decode b_Ar_scale 15 = .ok (.aload_n 1, 1) := by decide +kernel
theorem d_Ar_scale_16 : decode b_Ar_scale 16 = .ok (.getfield 55, 3) := by decide +kernel
theorem d_Ar_scale_19 : decode b_Ar_scale 19 = .ok (.iload_n 3, 1) := by decide +kernel
theorem d_Ar_scale_20 : decode b_Ar_scale 20 = .ok (.iaload, 1) := by decide +kernel
theorem d_Ar_scale_21 : decode b_Ar_scale 21 = .ok (.iload_n 2, 1) := by decide +kernel
theorem d_Ar_scale_22 : decode b_Ar_scale 22 = .ok (.imul, 1) := by decide +kernel
theorem d_Ar_scale_23 : decode b_Ar_scale 23 = .ok (.aload_n 0, 1) := by decide +kernel
theorem d_Ar_scale_24 : decode b_Ar_scale 24 = .ok (.getfield 48, 3) := by decide +kernel
theorem d_Ar_scale_27 : decode b_Ar_scale 27 = .ok (.irem, 1) := by decide +kernel
theorem d_Ar_scale_28 : decode b_Ar_scale 28 = .ok (.iastore, 1) := by decide +kernel
theorem d_Ar_scale_29 : decode b_Ar_scale 29 = .ok (.iinc 3 1, 3) := by decide +kernel
theorem d_Ar_scale_32 : decode b_Ar_scale 32 = .ok (.goto (-30), 3) := by decide +kernel
theorem d_Ar_scale_35 : decode b_Ar_scale 35 = .ok (.return_, 1) := by decide +kernel
abbrev ws_Ar_scale : List Cond := .code y_Ar_scale b_Ar_scale 4 none :: TB
abbrev b_Ar_makeMonic : ByteArray := prog_2_method_6_code
theorem d_Ar_makeMonic_0 : decode b_Ar_makeMonic 0 = .ok (.aload_n 1, 1) := by decide +kernel
theorem d_Ar_makeMonic_1 : decode b_Ar_makeMonic 1 = .ok (.getfield 52, 3) := by decide +kernel
theorem d_Ar_makeMonic_4 : decode b_Ar_makeMonic 4 = .ok (.ifCond .lt 17, 3) := by decide +kernel
theorem d_Ar_makeMonic_7 : decode b_Ar_makeMonic 7 = .ok (.aload_n 0, 1) := by decide +kernel
theorem d_Ar_makeMonic_8 : decode b_Ar_makeMonic 8 = .ok (.aload_n 1, 1) := by decide +kernel
theorem d_Ar_makeMonic_9 : decode b_Ar_makeMonic 9 = .ok (.aload_n 0, 1) := by decide +kernel
theorem d_Ar_makeMonic_10 : decode b_Ar_makeMonic 10 = .ok (.getfield 9, 3) := by decide +kernel
theorem d_Ar_makeMonic_13 : decode b_Ar_makeMonic 13 = .ok (.aload_n 1, 1) := by decide +kernel
theorem d_Ar_makeMonic_14 : decode b_Ar_makeMonic 14 = .ok (.invokevirtual 68, 3) := by decide +kernel
theorem d_Ar_makeMonic_17 : decode b_Ar_makeMonic 17 = .ok (.iaload, 1) := by decide +kernel
theorem d_Ar_makeMonic_18 : decode b_Ar_makeMonic 18 = .ok (.invokevirtual 72, 3) := by decide +kernel
theorem d_Ar_makeMonic_21 : decode b_Ar_makeMonic 21 = .ok (.return_, 1) := by decide +kernel
abbrev ws_Ar_makeMonic : List Cond := .code y_Ar_makeMonic b_Ar_makeMonic 2 none :: TB
abbrev b_Ar_derive : ByteArray := prog_2_method_7_code
theorem d_Ar_derive_0 : decode b_Ar_derive 0 = .ok (.aload_n 1, 1) := by decide +kernel
theorem d_Ar_derive_1 : decode b_Ar_derive 1 = .ok (.invokevirtual 76, 3) := by decide +kernel
theorem d_Ar_derive_4 : decode b_Ar_derive 4 = .ok (.iconst 1, 1) := by decide +kernel
theorem d_Ar_derive_5 : decode b_Ar_derive 5 = .ok (.istore_n 3, 1) := by decide +kernel
theorem d_Ar_derive_6 : decode b_Ar_derive 6 = .ok (.iload_n 3, 1) := by decide +kernel
theorem d_Ar_derive_7 : decode b_Ar_derive 7 = .ok (.aload_n 2, 1) := by decide +kernel
theorem d_Ar_derive_8 : decode b_Ar_derive 8 = .ok (.getfield 52, 3) := by decide +kernel
theorem d_Ar_derive_11 : decode b_Ar_derive 11 = .ok (.if_icmp .gt 29, 3) := by decide +kernel
theorem d_Ar_derive_14 : decode b_Ar_derive 14 = .ok (.aload_n 1, 1) := by decide +kernel
theorem d_Ar_derive_15 : decode b_Ar_derive 15 = .ok (.iload_n 3, 1) := by decide +kernel
theorem d_Ar_derive_16 : decode b_Ar_derive 16 = .ok (.iconst 1, 1) := by decide +kernel
theorem d_Ar_derive_17 : decode b_Ar_derive 17 = .ok (.isub, 1) := by decide +kernel
theorem d_Ar_derive_18 : decode b_Ar_derive 18 = .ok (.iload_n 3, 1) := by decide +kernel
theorem d_Ar_derive_19 : decode b_Ar_derive 19 = .ok (.aload_n 2, 1) := by decide +kernel
theorem d_Ar_derive_20 : decode b_Ar_derive 20 = .ok (.getfield 55, 3) := by decide +kernel
theorem d_Ar_derive_23 : decode b_Ar_derive 23 = .ok (.iload_n 3, 1) := by decide +kernel
theorem d_Ar_derive_24 : decode b_Ar_derive 24 = .ok (.iaload, 1) := by decide +kernel
theorem d_Ar_derive_25 : decode b_Ar_derive 25 = .ok (.imul, 1) := by decide +kernel
theorem d_Ar_derive_26 : decode b_Ar_derive 26 = .ok (.aload_n 0, 1) := by decide +kernel
theorem d_Ar_derive_27 : decode b_Ar_derive 27 = .ok (.getfield 48, 3) := by decide +kernel
theorem d_Ar_derive_30 : decode b_Ar_derive 30 = .ok (.irem, 1) := by decide +kernel
theorem d_Ar_derive_31 : decode b_Ar_derive 31 = .ok (.invokevirtual 79, 3) := by decide +kernel
theorem d_Ar_derive_34 : decode b_Ar_derive 34 = .ok (.iinc 3 1, 3) := by decide +kernel
theorem d_Ar_derive_37 : decode b_Ar_derive 37 = .ok (.goto (-31), 3) := by decide +kernel
theorem d_Ar_derive_40 : decode b_Ar_derive 40 = .ok (.return_, 1) := by decide +kernel
abbrev ws_Ar_derive : List Cond := .code y_Ar_derive b_Ar_derive 4 none :: TB
abbrev b_Ar_evaluate : ByteArray := prog_2_method_8_code
theorem d_Ar_evaluate_0 : decode b_Ar_evaluate 0 = .ok (.iconst 0, 1) := by decide +kernel
theorem d_Ar_evaluate_1 : decode b_Ar_evaluate 1 = .ok (.istore_n 3, 1) := by decide +kernel
theorem d_Ar_evaluate_2 : decode b_Ar_evaluate 2 = .ok (.aload_n 1, 1) := by decide +kernel
theorem d_Ar_evaluate_3 : decode b_Ar_evaluate 3 = .ok (.getfield 52, 3) := by decide +kernel
theorem d_Ar_evaluate_6 : decode b_Ar_evaluate 6 = .ok (.istore 4, 2) := by decide +kernel
theorem d_Ar_evaluate_8 : decode b_Ar_evaluate 8 = .ok (.iload 4, 2) := by decide +kernel
theorem d_Ar_evaluate_10 : decode b_Ar_evaluate 10 = .ok (.ifCond .lt 26, 3) := by decide +kernel
theorem d_Ar_evaluate_13 : decode b_Ar_evaluate 13 = .ok (.iload_n 3, 1) := by decide +kernel
theorem d_Ar_evaluate_14 : decode b_Ar_evaluate 14 = .ok (.iload_n 2, 1) := by decide +kernel
theorem d_Ar_evaluate_15 : decode b_Ar_evaluate 15 = .ok (.imul, 1) := by decide +kernel
theorem d_Ar_evaluate_16 : decode b_Ar_evaluate 16 = .ok (.aload_n 1, 1) := by decide +kernel
theorem d_Ar_evaluate_17 : decode b_Ar_evaluate 17 = .ok (.getfield 55, 3) := by decide +kernel
theorem d_Ar_evaluate_20 : decode b_Ar_evaluate 20 = .ok (.iload 4, 2) := by decide +kernel
theorem d_Ar_evaluate_22 : decode b_Ar_evaluate 22 = .ok (.iaload, 1) := by decide +kernel
theorem d_Ar_evaluate_23 : decode b_Ar_evaluate 23 = .ok (.iadd, 1) := by decide +kernel
theorem d_Ar_evaluate_24 : decode b_Ar_evaluate 24 = .ok (.aload_n 0, 1) := by decide +kernel
theorem d_Ar_evaluate_25 : decode b_Ar_evaluate 25 = .ok (.getfield 48, 3) := by decide +kernel
theorem d_Ar_evaluate_28 : decode b_Ar_evaluate 28 = .ok (.irem, 1) := by decide +kernel
theorem d_Ar_evaluate_29 : decode b_Ar_evaluate 29 = .ok (.istore_n 3, 1) := by decide +kernel
theorem d_Ar_evaluate_30 : decode b_Ar_evaluate 30 = .ok (.iinc 4 (-1), 3) := by decide +kernel
theorem d_Ar_evaluate_33 : decode b_Ar_evaluate 33 = .ok (.goto (-25), 3) := by decide +kernel
theorem d_Ar_evaluate_36 : decode b_Ar_evaluate 36 = .ok (.iload_n 3, 1) := by decide +kernel
theorem d_Ar_evaluate_37 : decode b_Ar_evaluate 37 = .ok (.ireturn, 1) := by decide +kernel
abbrev ws_Ar_evaluate : List Cond := .code y_Ar_evaluate b_Ar_evaluate 5 (Option.some .int) :: TB
abbrev b_Ar_divide : ByteArray := prog_2_method_9_code
theorem d_Ar_divide_0 : decode b_Ar_divide 0 = .ok (.aload_n 3, 1) := by decide +kernel
theorem d_Ar_divide_1 : decode b_Ar_divide 1 = .ok (.invokevirtual 76, 3) := by decide +kernel
theorem d_Ar_divide_4 : decode b_Ar_divide 4 = .ok (.aload_n 2, 1) := by decide +kernel
theorem d_Ar_divide_5 : decode b_Ar_divide 5 = .ok (.getfield 52, 3) := by decide +kernel
theorem d_Ar_divide_8 : decode b_Ar_divide 8 = .ok (.ifCond .ge 4, 3) := by decide +kernel
theorem d_Ar_divide_11 : decode b_Ar_divide 11 = .ok (.return_, 1) := by decide +kernel
theorem d_Ar_divide_12 : decode b_Ar_divide 12 = .ok (.aload_n 0, 1) := by decide +kernel
theorem d_Ar_divide_13 : decode b_Ar_divide 13 = .ok (.getfield 9, 3) := by decide +kernel
theorem d_Ar_divide_16 : decode b_Ar_divide 16 = .ok (.aload_n 2, 1) := by decide +kernel
theorem d_Ar_divide_17 : decode b_Ar_divide 17 = .ok (.invokevirtual 68, 3) := by decide +kernel
theorem d_Ar_divide_20 : decode b_Ar_divide 20 = .ok (.iaload, 1) := by decide +kernel
theorem d_Ar_divide_21 : decode b_Ar_divide 21 = .ok (.istore 4, 2) := by decide +kernel
theorem d_Ar_divide_23 : decode b_Ar_divide 23 = .ok (.aload_n 1, 1) := by decide +kernel
theorem d_Ar_divide_24 : decode b_Ar_divide 24 = .ok (.getfield 52, 3) := by decide +kernel
theorem d_Ar_divide_27 : decode b_Ar_divide 27 = .ok (.aload_n 2, 1) := by decide +kernel
theorem d_Ar_divide_28 : decode b_Ar_divide 28 = .ok (.getfield 52, 3) := by decide +kernel
theorem d_Ar_divide_31 : decode b_Ar_divide 31 = .ok (.isub, 1) := by decide +kernel
theorem d_Ar_divide_32 : decode b_Ar_divide 32 = .ok (.istore 5, 2) := by decide +kernel
theorem d_Ar_divide_34 : decode b_Ar_divide 34 = .ok (.iload 5, 2) := by decide +kernel
theorem d_Ar_divide_36 : decode b_Ar_divide 36 = .ok (.ifCond .lt 59, 3) := by decide +kernel
theorem d_Ar_divide_39 : decode b_Ar_divide 39 = .ok (.aload_n 1, 1) := by decide +kernel
theorem d_Ar_divide_40 : decode b_Ar_divide 40 = .ok (.getfield 55, 3) := by decide +kernel
theorem d_Ar_divide_43 : decode b_Ar_divide 43 = .ok (.iload 5, 2) := by decide +kernel
theorem d_Ar_divide_45 : decode b_Ar_divide 45 = .ok (.aload_n 2, 1) := by decide +kernel
theorem d_Ar_divide_46 : decode b_Ar_divide 46 = .ok (.getfield 52, 3) := by decide +kernel
theorem d_Ar_divide_49 : decode b_Ar_divide 49 = .ok (.iadd, 1) := by decide +kernel
theorem d_Ar_divide_50 : decode b_Ar_divide 50 = .ok (.iaload, 1) := by decide +kernel
theorem d_Ar_divide_51 : decode b_Ar_divide 51 = .ok (.iload 4, 2) := by decide +kernel
theorem d_Ar_divide_53 : decode b_Ar_divide 53 = .ok (.imul, 1) := by decide +kernel
theorem d_Ar_divide_54 : decode b_Ar_divide 54 = .ok (.aload_n 0, 1) := by decide +kernel
theorem d_Ar_divide_55 : decode b_Ar_divide 55 = .ok (.getfield 48, 3) := by decide +kernel
theorem d_Ar_divide_58 : decode b_Ar_divide 58 = .ok (.irem, 1) := by decide +kernel
theorem d_Ar_divide_59 : decode b_Ar_divide 59 = .ok (.istore 6, 2) := by decide +kernel
theorem d_Ar_divide_61 : decode b_Ar_divide 61 = .ok (.iload 6, 2) := by decide +kernel
theorem d_Ar_divide_63 : decode b_Ar_divide 63 = .ok (.ifCond .eq 26, 3) := by decide +kernel
theorem d_Ar_divide_66 : decode b_Ar_divide 66 = .ok (.aload_n 3, 1) := by decide +kernel
theorem d_Ar_divide_67 : decode b_Ar_divide 67 = .ok (.iload 5, 2) := by decide +kernel
theorem d_Ar_divide_69 : decode b_Ar_divide 69 = .ok (.iload 6, 2) := by decide +kernel
theorem d_Ar_divide_71 : decode b_Ar_divide 71 = .ok (.invokevirtual 79, 3) := by decide +kernel
theorem d_Ar_divide_74 : decode b_Ar_divide 74 = .ok (.aload_n 0, 1) := by decide +kernel
theorem d_Ar_divide_75 : decode b_Ar_divide 75 = .ok (.aload_n 1, 1) := by decide +kernel
theorem d_Ar_divide_76 : decode b_Ar_divide 76 = .ok (.aload_n 0, 1) := by decide +kernel
theorem d_Ar_divide_77 : decode b_Ar_divide 77 = .ok (.getfield 48, 3) := by decide +kernel
theorem d_Ar_divide_80 : decode b_Ar_divide 80 = .ok (.iload 6, 2) := by decide +kernel
theorem d_Ar_divide_82 : decode b_Ar_divide 82 = .ok (.isub, 1) := by decide +kernel
theorem d_Ar_divide_83 : decode b_Ar_divide 83 = .ok (.iload 5, 2) := by decide +kernel
theorem d_Ar_divide_85 : decode b_Ar_divide 85 = .ok (.aload_n 2, 1) := by decide +kernel
theorem d_Ar_divide_86 : decode b_Ar_divide 86 = .ok (.invokevirtual 64, 3) := by decide +kernel
theorem d_Ar_divide_89 : decode b_Ar_divide 89 = .ok (.iinc 5 (-1), 3) := by decide +kernel
theorem d_Ar_divide_92 : decode b_Ar_divide 92 = .ok (.goto (-58), 3) := by decide +kernel
theorem d_Ar_divide_95 : decode b_Ar_divide 95 = .ok (.return_, 1) := by decide +kernel
abbrev ws_Ar_divide : List Cond := .code y_Ar_divide b_Ar_divide 7 none :: TB
abbrev b_Ar_findCommonDivisor : ByteArray := prog_2_method_10_code
theorem d_Ar_findCommonDivisor_0 : decode b_Ar_findCommonDivisor 0 = .ok (.aload_n 0, 1) := by decide +kernel
theorem d_Ar_findCommonDivisor_1 : decode b_Ar_findCommonDivisor 1 = .ok (.getfield 27, 3) := by decide +kernel
theorem d_Ar_findCommonDivisor_4 : decode b_Ar_findCommonDivisor 4 = .ok (.astore 4, 2) := by decide +kernel
theorem d_Ar_findCommonDivisor_6 : decode b_Ar_findCommonDivisor 6 = .ok (.aload_n 0, 1) := by decide +kernel
theorem d_Ar_findCommonDivisor_7 : decode b_Ar_findCommonDivisor 7 = .ok (.getfield 30, 3) := by decide +kernel
theorem d_Ar_findCommonDivisor_10 : decode b_Ar_findCommonDivisor 10 = .ok (.astore 5, 2) := by decide +kernel
theorem d_Ar_findCommonDivisor_12 : decode b_Ar_findCommonDivisor 12 = .ok (.aload 4, 2) := by decide +kernel
theorem d_Ar_findCommonDivisor_14 : decode b_Ar_findCommonDivisor 14 = .ok (.aload_n 2, 1) := by decide +kernel
theorem d_Ar_findCommonDivisor_15 : decode b_Ar_findCommonDivisor 15 = .ok (.invokevirtual 83, 3) := by decide +kernel
theorem d_Ar_findCommonDivisor_18 : decode b_Ar_findCommonDivisor 18 = .ok (.aload 5, 2) := by decide +kernel
theorem d_Ar_findCommonDivisor_20 : decode b_Ar_findCommonDivisor 20 = .ok (.aload_n 3, 1) := by decide +kernel
theorem d_Ar_findCommonDivisor_21 : decode b_Ar_findCommonDivisor 21 = .ok (.invokevirtual 83, 3) := by decide +kernel
theorem d_Ar_findCommonDivisor_24 : decode b_Ar_findCommonDivisor 24 = .ok (.iconst 0, 1) := by decide +kernel
theorem d_Ar_findCommonDivisor_25 : decode b_Ar_findCommonDivisor 25 = .ok (.istore 6, 2) := by decide +kernel
theorem d_Ar_findCommonDivisor_27 : decode b_Ar_findCommonDivisor 27 = .ok (.iload 6, 2) := by decide +kernel
theorem d_Ar_findCommonDivisor_29 : decode b_Ar_findCommonDivisor 29 = .ok (.bipush 25, 2) := by decide +kernel
theorem d_Ar_findCommonDivisor_31 : decode b_Ar_findCommonDivisor 31 = .ok (.if_icmp .gt 41, 3) := by decide +kernel
theorem d_Ar_findCommonDivisor_34 : decode b_Ar_findCommonDivisor 34 = .ok (.aload 5, 2) := by decide +kernel
theorem d_Ar_findCommonDivisor_36 : decode b_Ar_findCommonDivisor 36 = .ok (.getfield 52, 3) := by decide +kernel
theorem d_Ar_findCommonDivisor_39 : decode b_Ar_findCommonDivisor 39 = .ok (.ifCond .lt 33, 3) := by decide +kernel
theorem d_Ar_findCommonDivisor_42 : decode b_Ar_findCommonDivisor 42 = .ok (.aload_n 0, 1) := by decide +kernel
theorem d_Ar_findCommonDivisor_43 : decode b_Ar_findCommonDivisor 43 = .ok (.aload 4, 2) := by decide +kernel
theorem d_Ar_findCommonDivisor_45 : decode b_Ar_findCommonDivisor 45 = .ok (.aload 5, 2) := by decide +kernel
theorem d_Ar_findCommonDivisor_47 : decode b_Ar_findCommonDivisor 47 = .ok (.aload_n 0, 1) := by decide +kernel
theorem d_Ar_findCommonDivisor_48 : decode b_Ar_findCommonDivisor 48 = .ok (.getfield 20, 3) := by decide +kernel
theorem d_Ar_findCommonDivisor_51 : decode b_Ar_findCommonDivisor 51 = .ok (.invokevirtual 87, 3) := by decide +kernel
theorem d_Ar_findCommonDivisor_54 : decode b_Ar_findCommonDivisor 54 = .ok (.aload 4, 2) := by decide +kernel
theorem d_Ar_findCommonDivisor_56 : decode b_Ar_findCommonDivisor 56 = .ok (.astore 7, 2) := by decide +kernel
theorem d_Ar_findCommonDivisor_58 : decode b_Ar_findCommonDivisor 58 = .ok (.aload 5, 2) := by decide +kernel
theorem d_Ar_findCommonDivisor_60 : decode b_Ar_findCommonDivisor 60 = .ok (.astore 4, 2) := by decide +kernel
theorem d_Ar_findCommonDivisor_62 : decode b_Ar_findCommonDivisor 62 = .ok (.aload 7, 2) := by decide +kernel
theorem d_Ar_findCommonDivisor_64 : decode b_Ar_findCommonDivisor 64 = .ok (.astore 5, 2) := by decide +kernel
theorem d_Ar_findCommonDivisor_66 : decode b_Ar_findCommonDivisor 66 = .ok (.iinc 6 1, 3) := by decide +kernel
theorem d_Ar_findCommonDivisor_69 : decode b_Ar_findCommonDivisor 69 = .ok (.goto (-42), 3) := by decide +kernel
theorem d_Ar_findCommonDivisor_72 : decode b_Ar_findCommonDivisor 72 = .ok (.aload_n 1, 1) := by decide +kernel
theorem d_Ar_findCommonDivisor_73 : decode b_Ar_findCommonDivisor 73 = .ok (.aload 4, 2) := by decide +kernel
theorem d_Ar_findCommonDivisor_75 : decode b_Ar_findCommonDivisor 75 = .ok (.invokevirtual 83, 3) := by decide +kernel
theorem d_Ar_findCommonDivisor_78 : decode b_Ar_findCommonDivisor 78 = .ok (.aload_n 0, 1) := by decide +kernel
theorem d_Ar_findCommonDivisor_79 : decode b_Ar_findCommonDivisor 79 = .ok (.aload_n 1, 1) := by decide +kernel
theorem d_Ar_findCommonDivisor_80 : decode b_Ar_findCommonDivisor 80 = .ok (.invokevirtual 91, 3) := by decide +kernel
theorem d_Ar_findCommonDivisor_83 : decode b_Ar_findCommonDivisor 83 = .ok (.return_, 1) := by decide +kernel
abbrev ws_Ar_findCommonDivisor : List Cond := .code y_Ar_findCommonDivisor b_Ar_findCommonDivisor 8 none :: TB
abbrev b_Ar_multiply : ByteArray := prog_2_method_11_code
theorem d_Ar_multiply_0 : decode b_Ar_multiply 0 = .ok (.aload_n 0, 1) := by decide +kernel
theorem d_Ar_multiply_1 : decode b_Ar_multiply 1 = .ok (.getfield 24, 3) := by decide +kernel
theorem d_Ar_multiply_4 : decode b_Ar_multiply 4 = .ok (.invokevirtual 76, 3) := by decide +kernel
theorem d_Ar_multiply_7 : decode b_Ar_multiply 7 = .ok (.aload_n 0, 1) := by decide +kernel
theorem d_Ar_multiply_8 : decode b_Ar_multiply 8 = .ok (.aload_n 0, 1) := by decide +kernel
theorem d_Ar_multiply_9 : decode b_Ar_multiply 9 = .ok (.getfield 24, 3) := by decide +kernel
theorem d_Ar_multiply_12 : decode b_Ar_multiply 12 = .ok (.iconst 1, 1) := by decide +kernel
theorem d_Ar_multiply_13 : decode b_Ar_multiply 13 = .ok (.aload_n 2, 1) := by decide +kernel
theorem d_Ar_multiply_14 : decode b_Ar_multiply 14 = .ok (.aload_n 3, 1) := by decide +kernel
theorem d_Ar_multiply_15 : decode b_Ar_multiply 15 = .ok (.invokevirtual 94, 3) := by decide +kernel
theorem d_Ar_multiply_18 : decode b_Ar_multiply 18 = .ok (.aload_n 0, 1) := by decide +kernel
theorem d_Ar_multiply_19 : decode b_Ar_multiply 19 = .ok (.aload_n 0, 1) := by decide +kernel
theorem d_Ar_multiply_20 : decode b_Ar_multiply 20 = .ok (.getfield 24, 3) := by decide +kernel
theorem d_Ar_multiply_23 : decode b_Ar_multiply 23 = .ok (.aload 4, 2) := by decide +kernel
theorem d_Ar_multiply_25 : decode b_Ar_multiply 25 = .ok (.aload_n 0, 1) := by decide +kernel
theorem d_Ar_multiply_26 : decode b_Ar_multiply 26 = .ok (.getfield 20, 3) := by decide +kernel
theorem d_Ar_multiply_29 : decode b_Ar_multiply 29 = .ok (.invokevirtual 87, 3) := by decide +kernel
theorem d_Ar_multiply_32 : decode b_Ar_multiply 32 = .ok (.aload_n 1, 1) := by decide +kernel
theorem d_Ar_multiply_33 : decode b_Ar_multiply 33 = .ok (.aload_n 0, 1) := by decide +kernel
theorem d_Ar_multiply_34 : decode b_Ar_multiply 34 = .ok (.getfield 24, 3) := by decide +kernel
theorem d_Ar_multiply_37 : decode b_Ar_multiply 37 = .ok (.invokevirtual 83, 3) := by decide +kernel
theorem d_Ar_multiply_40 : decode b_Ar_multiply 40 = .ok (.return_, 1) := by decide +kernel
abbrev ws_Ar_multiply : List Cond := .code y_Ar_multiply b_Ar_multiply 5 none :: TB
abbrev b_Ar_raiseToP : ByteArray := prog_2_method_12_code
theorem d_Ar_raiseToP_0 : decode b_Ar_raiseToP 0 = .ok (.aload_n 0, 1) := by decide +kernel
theorem d_Ar_raiseToP_1 : decode b_Ar_raiseToP 1 = .ok (.getfield 24, 3) := by decide +kernel
theorem d_Ar_raiseToP_4 : decode b_Ar_raiseToP 4 = .ok (.invokevirtual 76, 3) := by decide +kernel
theorem d_Ar_raiseToP_7 : decode b_Ar_raiseToP 7 = .ok (.iconst 0, 1) := by decide +kernel
theorem d_Ar_raiseToP_8 : decode b_Ar_raiseToP 8 = .ok (.istore_n 3, 1) := by decide +kernel
theorem d_Ar_raiseToP_9 : decode b_Ar_raiseToP 9 = .ok (.iload_n 3, 1) := by decide +kernel
theorem d_Ar_raiseToP_10 : decode b_Ar_raiseToP 10 = .ok (.aload_n 1, 1) := by decide +kernel
theorem d_Ar_raiseToP_11 : decode b_Ar_raiseToP 11 = .ok (.getfield 52, 3) := by decide +kernel
theorem d_Ar_raiseToP_14 : decode b_Ar_raiseToP 14 = .ok (.if_icmp .gt 37, 3) := by decide +kernel
theorem d_Ar_raiseToP_17 : decode b_Ar_raiseToP 17 = .ok (.aload_n 1, 1) := by decide +kernel
theorem d_Ar_raiseToP_18 : decode b_Ar_raiseToP 18 = .ok (.getfield 55, 3) := by decide +kernel
theorem d_Ar_raiseToP_21 : decode b_Ar_raiseToP 21 = .ok (.iload_n 3, 1) := by decide +kernel
theorem d_Ar_raiseToP_22 : decode b_Ar_raiseToP 22 = .ok (.iaload, 1) := by decide +kernel
theorem d_Ar_raiseToP_23 : decode b_Ar_raiseToP 23 = .ok (.ifCond .eq 22, 3) := by decide +kernel
theorem d_Ar_raiseToP_26 : decode b_Ar_raiseToP 26 = .ok (.aload_n 0, 1) := by decide +kernel
theorem d_Ar_raiseToP_27 : decode b_Ar_raiseToP 27 = .ok (.getfield 24, 3) := by decide +kernel
theorem d_Ar_raiseToP_30 : decode b_Ar_raiseToP 30 = .ok (.iload_n 3, 1) := by decide +kernel
theorem d_Ar_raiseToP_31 : decode b_Ar_raiseToP 31 = .ok (.aload_n 0, 1) := by decide +kernel
theorem d_Ar_raiseToP_32 : decode b_Ar_raiseToP 32 = .ok (.getfield 48, 3) := by decide +kernel
theorem d_Ar_raiseToP_35 : decode b_Ar_raiseToP 35 = .ok (.imul, 1) := by decide +kernel
theorem d_Ar_raiseToP_36 : decode b_Ar_raiseToP 36 = .ok (.aload_n 1, 1) := by decide +kernel
theorem d_Ar_raiseToP_37 : decode b_Ar_raiseToP 37 = .ok (.getfield 55, 3) := by decide +kernel
theorem d_Ar_raiseToP_40 : decode b_Ar_raiseToP 40 = .ok (.iload_n 3, 1) := by decide +kernel
theorem d_Ar_raiseToP_41 : decode b_Ar_raiseToP 41 = .ok (.iaload, 1) := by decide +kernel
theorem d_Ar_raiseToP_42 : decode b_Ar_raiseToP 42 = .ok (.invokevirtual 79, 3) := by decide +kernel
theorem d_Ar_raiseToP_45 : decode b_Ar_raiseToP 45 = .ok (.iinc 3 1, 3) := by decide +kernel
theorem d_Ar_raiseToP_48 : decode b_Ar_raiseToP 48 = .ok (.goto (-39), 3) := by decide +kernel
theorem d_Ar_raiseToP_51 : decode b_Ar_raiseToP 51 = .ok (.aload_n 0, 1) := by decide +kernel
theorem d_Ar_raiseToP_52 : decode b_Ar_raiseToP 52 = .ok (.aload_n 0, 1) := by decide +kernel
theorem d_Ar_raiseToP_53 : decode b_Ar_raiseToP 53 = .ok (.getfield 24, 3) := by decide +kernel
theorem d_Ar_raiseToP_56 : decode b_Ar_raiseToP 56 = .ok (.aload_n 2, 1) := by decide +kernel
theorem d_Ar_raiseToP_57 : decode b_Ar_raiseToP 57 = .ok (.aload_n 0, 1) := by decide +kernel
theorem d_Ar_raiseToP_58 : decode b_Ar_raiseToP 58 = .ok (.getfield 20, 3) := by decide +kernel
theorem d_Ar_raiseToP_61 : decode b_Ar_raiseToP 61 = .ok (.invokevirtual 87, 3) := by decide +kernel
theorem d_Ar_raiseToP_64 : decode b_Ar_raiseToP 64 = .ok (.aload_n 1, 1) := by decide +kernel
theorem d_Ar_raiseToP_65 : decode b_Ar_raiseToP 65 = .ok (.aload_n 0, 1) := by decide +kernel
theorem d_Ar_raiseToP_66 : decode b_Ar_raiseToP 66 = .ok (.getfield 24, 3) := by decide +kernel
theorem d_Ar_raiseToP_69 : decode b_Ar_raiseToP 69 = .ok (.invokevirtual 83, 3) := by decide +kernel
theorem d_Ar_raiseToP_72 : decode b_Ar_raiseToP 72 = .ok (.return_, 1) := by decide +kernel
abbrev ws_Ar_raiseToP : List Cond := .code y_Ar_raiseToP b_Ar_raiseToP 4 none :: TB
abbrev b_Ar_raise : ByteArray := prog_2_method_13_code
theorem d_Ar_raise_0 : decode b_Ar_raise 0 = .ok (.aload_n 0, 1) := by decide +kernel
theorem d_Ar_raise_1 : decode b_Ar_raise 1 = .ok (.getfield 27, 3) := by decide +kernel
theorem d_Ar_raise_4 : decode b_Ar_raise 4 = .ok (.astore 5, 2) := by decide +kernel
theorem d_Ar_raise_6 : decode b_Ar_raise 6 = .ok (.aload 5, 2) := by decide +kernel
theorem d_Ar_raise_8 : decode b_Ar_raise 8 = .ok (.aload_n 2, 1) := by decide +kernel
theorem d_Ar_raise_9 : decode b_Ar_raise 9 = .ok (.invokevirtual 83, 3) := by decide +kernel
theorem d_Ar_raise_12 : decode b_Ar_raise 12 = .ok (.aload_n 1, 1) := by decide +kernel
theorem d_Ar_raise_13 : decode b_Ar_raise 13 = .ok (.iconst 0, 1) := by decide +kernel
theorem d_Ar_raise_14 : decode b_Ar_raise 14 = .ok (.invokevirtual 98, 3) := by decide +kernel
theorem d_Ar_raise_17 : decode b_Ar_raise 17 = .ok (.iload_n 3, 1) := by decide +kernel
theorem d_Ar_raise_18 : decode b_Ar_raise 18 = .ok (.istore 6, 2) := by decide +kernel
theorem d_Ar_raise_20 : decode b_Ar_raise 20 = .ok (.iload 6, 2) := by decide +kernel
theorem d_Ar_raise_22 : decode b_Ar_raise 22 = .ok (.ifCond .le 42, 3) := by decide +kernel
theorem d_Ar_raise_25 : decode b_Ar_raise 25 = .ok (.iload 6, 2) := by decide +kernel
theorem d_Ar_raise_27 : decode b_Ar_raise 27 = .ok (.iconst 1, 1) := by decide +kernel
theorem d_Ar_raise_28 : decode b_Ar_raise 28 = .ok (.iand, 1) := by decide +kernel
theorem d_Ar_raise_29 : decode b_Ar_raise 29 = .ok (.iconst 1, 1) := by decide +kernel
theorem d_Ar_raise_30 : decode b_Ar_raise 30 = .ok (.if_icmp .ne 13, 3) := by decide +kernel
theorem d_Ar_raise_33 : decode b_Ar_raise 33 = .ok (.aload_n 0, 1) := by decide +kernel
theorem d_Ar_raise_34 : decode b_Ar_raise 34 = .ok (.aload_n 1, 1) := by decide +kernel
theorem d_Ar_raise_35 : decode b_Ar_raise 35 = .ok (.aload_n 1, 1) := by decide +kernel
theorem d_Ar_raise_36 : decode b_Ar_raise 36 = .ok (.aload 5, 2) := by decide +kernel
theorem d_Ar_raise_38 : decode b_Ar_raise 38 = .ok (.aload 4, 2) := by decide +kernel
theorem d_Ar_raise_40 : decode b_Ar_raise 40 = .ok (.invokevirtual 101, 3) := by decide +kernel
theorem d_Ar_raise_43 : decode b_Ar_raise 43 = .ok (.aload_n 0, 1) := by decide +kernel
theorem d_Ar_raise_44 : decode b_Ar_raise 44 = .ok (.aload 5, 2) := by decide +kernel
theorem d_Ar_raise_46 : decode b_Ar_raise 46 = .ok (.aload 5, 2) := by decide +kernel
theorem d_Ar_raise_48 : decode b_Ar_raise 48 = .ok (.aload 5, 2) := by decide +kernel
theorem d_Ar_raise_50 : decode b_Ar_raise 50 = .ok (.aload 4, 2) := by decide +kernel
theorem d_Ar_raise_52 : decode b_Ar_raise 52 = .ok (.invokevirtual 101, 3) := by decide +kernel
theorem d_Ar_raise_55 : decode b_Ar_raise 55 = .ok (.iload 6, 2) := by decide +kernel
theorem d_Ar_raise_57 : decode b_Ar_raise 57 = .ok (.iconst 1, 1) := by decide +kernel
theorem d_Ar_raise_58 : decode b_Ar_raise 58 = .ok (.ishr, 1) := by decide +kernel
theorem d_Ar_raise_59 : decode b_Ar_raise 59 = .ok (.istore 6, 2) := by decide +kernel
theorem d_Ar_raise_61 : decode b_Ar_raise 61 = .ok (.goto (-41), 3) := by decide +kernel
theorem d_Ar_raise_64 : decode b_Ar_raise 64 = .ok (.return_, 1) := by decide +kernel
abbrev ws_Ar_raise : List Cond := .code y_Ar_raise b_Ar_raise 7 none :: TB
abbrev b_Ar_invert : ByteArray := prog_2_method_14_code
theorem d_Ar_invert_0 : decode b_Ar_invert 0 = .ok (.aload_n 0, 1) := by decide +kernel
theorem d_Ar_invert_1 : decode b_Ar_invert 1 = .ok (.getfield 27, 3) := by decide +kernel
theorem d_Ar_invert_4 : decode b_Ar_invert 4 = .ok (.astore 4, 2) := by decide +kernel
theorem d_Ar_invert_6 : decode b_Ar_invert 6 = .ok (.aload_n 0, 1) := by decide +kernel
theorem d_Ar_invert_7 : decode b_Ar_invert 7 = .ok (.getfield 30, 3) := by decide +kernel
theorem d_Ar_invert_10 : decode b_Ar_invert 10 = .ok (.astore 5, 2) := by decide +kernel
theorem d_Ar_invert_12 : decode b_Ar_invert 12 = .ok (.aload_n 0, 1) := by decide +kernel
theorem d_Ar_invert_13 : decode b_Ar_invert 13 = .ok (.getfield 33, 3) := by decide +kernel
theorem d_Ar_invert_16 : decode b_Ar_invert 16 = .ok (.astore 6, 2) := by decide +kernel
theorem d_Ar_invert_18 : decode b_Ar_invert 18 = .ok (.aload_n 0, 1) := by decide +kernel
theorem d_Ar_invert_19 : decode b_Ar_invert 19 = .ok (.getfield 36, 3) := by decide +kernel
theorem d_Ar_invert_22 : decode b_Ar_invert 22 = .ok (.astore 7, 2) := by decide +kernel
theorem d_Ar_invert_24 : decode b_Ar_invert 24 = .ok (.aload 4, 2) := by decide +kernel
theorem d_Ar_invert_26 : decode b_Ar_invert 26 = .ok (.aload_n 3, 1) := by decide +kernel
theorem d_Ar_invert_27 : decode b_Ar_invert 27 = .ok (.invokevirtual 83, 3) := by decide +kernel
theorem d_Ar_invert_30 : decode b_Ar_invert 30 = .ok (.aload 5, 2) := by decide +kernel
theorem d_Ar_invert_32 : decode b_Ar_invert 32 = .ok (.aload_n 2, 1) := by decide +kernel
theorem d_Ar_invert_33 : decode b_Ar_invert 33 = .ok (.invokevirtual 83, 3) := by decide +kernel
theorem d_Ar_invert_36 : decode b_Ar_invert 36 = .ok (.aload_n 0, 1) := by decide +kernel
theorem d_Ar_invert_37 : decode b_Ar_invert 37 = .ok (.aload 5, 2) := by decide +kernel
theorem d_Ar_invert_39 : decode b_Ar_invert 39 = .ok (.aload_n 3, 1) := by decide +kernel
theorem d_Ar_invert_40 : decode b_Ar_invert 40 = .ok (.aload_n 0, 1) := by decide +kernel
theorem d_Ar_invert_41 : decode b_Ar_invert 41 = .ok (.getfield 20, 3) := by decide +kernel
theorem d_Ar_invert_44 : decode b_Ar_invert 44 = .ok (.invokevirtual 87, 3) := by decide +kernel
theorem d_Ar_invert_47 : decode b_Ar_invert 47 = .ok (.aload 6, 2) := by decide +kernel
theorem d_Ar_invert_49 : decode b_Ar_invert 49 = .ok (.invokevirtual 76, 3) := by decide +kernel
theorem d_Ar_invert_52 : decode b_Ar_invert 52 = .ok (.aload 7, 2) := by decide +kernel
theorem d_Ar_invert_54 : decode b_Ar_invert 54 = .ok (.iconst 0, 1) := by decide +kernel
theorem d_Ar_invert_55 : decode b_Ar_invert 55 = .ok (.invokevirtual 98, 3) := by decide +kernel
theorem d_Ar_invert_58 : decode b_Ar_invert 58 = .ok (.iconst 0, 1) := by decide +kernel
theorem d_Ar_invert_59 : decode b_Ar_invert 59 = .ok (.istore 8, 2) := by decide +kernel
theorem d_Ar_invert_61 : decode b_Ar_invert 61 = .ok (.iload 8, 2) := by decide +kernel
theorem d_Ar_invert_63 : decode b_Ar_invert 63 = .ok (.bipush 25, 2) := by decide +kernel
theorem d_Ar_invert_65 : decode b_Ar_invert 65 = .ok (.if_icmp .gt 71, 3) := by decide +kernel
theorem d_Ar_invert_68 : decode b_Ar_invert 68 = .ok (.aload 5, 2) := by decide +kernel
theorem d_Ar_invert_70 : decode b_Ar_invert 70 = .ok (.getfield 52, 3) := by decide +kernel
theorem d_Ar_invert_73 : decode b_Ar_invert 73 = .ok (.ifCond .le 63, 3) := by decide +kernel
theorem d_Ar_invert_76 : decode b_Ar_invert 76 = .ok (.aload_n 0, 1) := by decide +kernel
theorem d_Ar_invert_77 : decode b_Ar_invert 77 = .ok (.aload 4, 2) := by decide +kernel
theorem d_Ar_invert_79 : decode b_Ar_invert 79 = .ok (.aload 5, 2) := by decide +kernel
theorem d_Ar_invert_81 : decode b_Ar_invert 81 = .ok (.aload_n 0, 1) := by decide +kernel
theorem d_Ar_invert_82 : decode b_Ar_invert 82 = .ok (.getfield 39, 3) := by decide +kernel
theorem d_Ar_invert_85 : decode b_Ar_invert 85 = .ok (.invokevirtual 87, 3) := by decide +kernel
theorem d_Ar_invert_88 : decode b_Ar_invert 88 = .ok (.aload_n 0, 1) := by decide +kernel
theorem d_Ar_invert_89 : decode b_Ar_invert 89 = .ok (.aload 6, 2) := by decide +kernel
theorem d_Ar_invert_91 : decode b_Ar_invert 91 = .ok (.aload_n 0, 1) := by decide +kernel
theorem d_Ar_invert_92 : decode b_Ar_invert 92 = .ok (.getfield 48, 3) := by decide +kernel
theorem d_Ar_invert_95 : decode b_Ar_invert 95 = .ok (.iconst 1, 1) := by decide +kernel
theorem d_Ar_invert_96 : decode b_Ar_invert 96 = .ok (.isub, 1) := by decide +kernel
theorem d_Ar_invert_97 : decode b_Ar_invert 97 = .ok (.aload_n 0, 1) := by decide +kernel
theorem d_Ar_invert_98 : decode b_Ar_invert 98 = .ok (.getfield 39, 3) := by decide +kernel
theorem d_Ar_invert_101 : decode b_Ar_invert 101 = .ok (.aload 7, 2) := by decide +kernel
theorem d_Ar_invert_103 : decode b_Ar_invert 103 = .ok (.invokevirtual 94, 3) := by decide +kernel
theorem d_Ar_invert_106 : decode b_Ar_invert 106 = .ok (.aload 4, 2) := by decide +kernel
theorem d_Ar_invert_108 : decode b_Ar_invert 108 = .ok (.astore 9, 2) := by decide +kernel
theorem d_Ar_invert_110 : decode b_Ar_invert 110 = .ok (.aload 5, 2) := by decide +kernel
theorem d_Ar_invert_112 : decode b_Ar_invert 112 = .ok (.astore 4, 2) := by decide +kernel
theorem d_Ar_invert_114 : decode b_Ar_invert 114 = .ok (.aload 9, 2) := by decide +kernel
theorem d_Ar_invert_116 : decode b_Ar_invert 116 = .ok (.astore 5, 2) := by decide +kernel
theorem d_Ar_invert_118 : decode b_Ar_invert 118 = .ok (.aload 6, 2) := by decide +kernel
theorem d_Ar_invert_120 : decode b_Ar_invert 120 = .ok (.astore 10, 2) := by decide +kernel
theorem d_Ar_invert_122 : decode b_Ar_invert 122 = .ok (.aload 7, 2) := by decide +kernel
theorem d_Ar_invert_124 : decode b_Ar_invert 124 = .ok (.astore 6, 2) := by decide +kernel
theorem d_Ar_invert_126 : decode b_Ar_invert 126 = .ok (.aload 10, 2) := by decide +kernel
theorem d_Ar_invert_128 : decode b_Ar_invert 128 = .ok (.astore 7, 2) := by decide +kernel
theorem d_Ar_invert_130 : decode b_Ar_invert 130 = .ok (.iinc 8 1, 3) := by decide +kernel
theorem d_Ar_invert_133 : decode b_Ar_invert 133 = .ok (.goto (-72), 3) := by decide +kernel
theorem d_Ar_invert_136 : decode b_Ar_invert 136 = .ok (.aload 5, 2) := by decide +kernel
theorem d_Ar_invert_138 : decode b_Ar_invert 138 = .ok (.getfield 52, 3) := by decide +kernel
theorem d_Ar_invert_141 : decode b_Ar_invert 141 = .ok (.ifCond .ge 5, 3) := by decide +kernel
theorem d_Ar_invert_144 : decode b_Ar_invert 144 = .ok (.iconst 0, 1) := by decide +kernel
theorem d_Ar_invert_145 : decode b_Ar_invert 145 = .ok (.ireturn, 1) := by decide +kernel
theorem d_Ar_invert_146 : decode b_Ar_invert 146 = .ok (.aload_n 1, 1) := by decide +kernel
theorem d_Ar_invert_147 : decode b_Ar_invert 147 = .ok (.aload 7, 2) := by decide +kernel
theorem d_Ar_invert_149 : decode b_Ar_invert 149 = .ok (.invokevirtual 83, 3) := by decide +kernel
theorem d_Ar_invert_152 : decode b_Ar_invert 152 = .ok (.aload_n 0, 1) := by decide +kernel
theorem d_Ar_invert_153 : decode b_Ar_invert 153 = .ok (.aload_n 1, 1) := by decide +kernel
theorem d_Ar_invert_154 : decode b_Ar_invert 154 = .ok (.aload_n 0, 1) := by decide +kernel
theorem d_Ar_invert_155 : decode b_Ar_invert 155 = .ok (.getfield 9, 3) := by decide +kernel
theorem d_Ar_invert_158 : decode b_Ar_invert 158 = .ok (.aload 5, 2) := by decide +kernel
theorem d_Ar_invert_160 : decode b_Ar_invert 160 = .ok (.invokevirtual 68, 3) := by decide +kernel
theorem d_Ar_invert_163 : decode b_Ar_invert 163 = .ok (.iaload, 1) := by decide +kernel
theorem d_Ar_invert_164 : decode b_Ar_invert 164 = .ok (.invokevirtual 72, 3) := by decide +kernel
theorem d_Ar_invert_167 : decode b_Ar_invert 167 = .ok (.iconst 1, 1) := by decide +kernel
theorem d_Ar_invert_168 : decode b_Ar_invert 168 = .ok (.ireturn, 1) := by decide +kernel
abbrev ws_Ar_invert : List Cond := .code y_Ar_invert b_Ar_invert 11 (Option.some .boolean) :: TB
abbrev b_Ar_takeOut : ByteArray := prog_2_method_15_code
theorem d_Ar_takeOut_0 : decode b_Ar_takeOut 0 = .ok (.iconst 0, 1) := by decide +kernel
theorem d_Ar_takeOut_1 : decode b_Ar_takeOut 1 = .ok (.istore_n 3, 1) := by decide +kernel
theorem d_Ar_takeOut_2 : decode b_Ar_takeOut 2 = .ok (.iload_n 3, 1) := by decide +kernel
theorem d_Ar_takeOut_3 : decode b_Ar_takeOut 3 = .ok (.bipush 24, 2) := by decide +kernel
theorem d_Ar_takeOut_5 : decode b_Ar_takeOut 5 = .ok (.if_icmp .ge 50, 3) := by decide +kernel
theorem d_Ar_takeOut_8 : decode b_Ar_takeOut 8 = .ok (.aload_n 0, 1) := by decide +kernel
theorem d_Ar_takeOut_9 : decode b_Ar_takeOut 9 = .ok (.getfield 27, 3) := by decide +kernel
theorem d_Ar_takeOut_12 : decode b_Ar_takeOut 12 = .ok (.aload_n 1, 1) := by decide +kernel
theorem d_Ar_takeOut_13 : decode b_Ar_takeOut 13 = .ok (.invokevirtual 83, 3) := by decide +kernel
theorem d_Ar_takeOut_16 : decode b_Ar_takeOut 16 = .ok (.aload_n 0, 1) := by decide +kernel
theorem d_Ar_takeOut_17 : decode b_Ar_takeOut 17 = .ok (.aload_n 0, 1) := by decide +kernel
theorem d_Ar_takeOut_18 : decode b_Ar_takeOut 18 = .ok (.getfield 27, 3) := by decide +kernel
theorem d_Ar_takeOut_21 : decode b_Ar_takeOut 21 = .ok (.aload_n 2, 1) := by decide +kernel
theorem d_Ar_takeOut_22 : decode b_Ar_takeOut 22 = .ok (.aload_n 0, 1) := by decide +kernel
theorem d_Ar_takeOut_23 : decode b_Ar_takeOut 23 = .ok (.getfield 39, 3) := by decide +kernel
theorem d_Ar_takeOut_26 : decode b_Ar_takeOut 26 = .ok (.invokevirtual 87, 3) := by decide +kernel
theorem d_Ar_takeOut_29 : decode b_Ar_takeOut 29 = .ok (.aload_n 0, 1) := by decide +kernel
theorem d_Ar_takeOut_30 : decode b_Ar_takeOut 30 = .ok (.getfield 27, 3) := by decide +kernel
theorem d_Ar_takeOut_33 : decode b_Ar_takeOut 33 = .ok (.getfield 52, 3) := by decide +kernel
theorem d_Ar_takeOut_36 : decode b_Ar_takeOut 36 = .ok (.ifCond .lt 5, 3) := by decide +kernel
theorem d_Ar_takeOut_39 : decode b_Ar_takeOut 39 = .ok (.iload_n 3, 1) := by decide +kernel
theorem d_Ar_takeOut_40 : decode b_Ar_takeOut 40 = .ok (.ireturn, 1) := by decide +kernel
theorem d_Ar_takeOut_41 : decode b_Ar_takeOut 41 = .ok (.aload_n 1, 1) := by decide +kernel
theorem d_Ar_takeOut_42 : decode b_Ar_takeOut 42 = .ok (.aload_n 0, 1) := by decide +kernel
theorem d_Ar_takeOut_43 : decode b_Ar_takeOut 43 = .ok (.getfield 39, 3) := by decide +kernel
theorem d_Ar_takeOut_46 : decode b_Ar_takeOut 46 = .ok (.invokevirtual 83, 3) := by decide +kernel
theorem d_Ar_takeOut_49 : decode b_Ar_takeOut 49 = .ok (.iinc 3 1, 3) := by decide +kernel
theorem d_Ar_takeOut_52 : decode b_Ar_takeOut 52 = .ok (.goto (-50), 3) := by decide +kernel
theorem d_Ar_takeOut_55 : decode b_Ar_takeOut 55 = .ok (.bipush 24, 2) := by decide +kernel
theorem d_Ar_takeOut_57 : decode b_Ar_takeOut 57 = .ok (.ireturn, 1) := by decide +kernel
abbrev ws_Ar_takeOut : List Cond := .code y_Ar_takeOut b_Ar_takeOut 4 (Option.some .int) :: TB
end
section
/-! ints as Int32: iI -/
def iI (z : Int) : Int32 := Int32.ofInt z
abbrev rg (z : Int) : Prop := -2147483648 ≤ z ∧ z < 2147483648
theorem iI_toInt {z : Int} (h : rg z) : (iI z).toInt = z := Int32.toInt_ofInt_of_le (by have := h.1; omega) (by have := h.2; omega)
theorem iI_add (a b : Int) : iI a + iI b = iI (a + b) := (Int32.ofInt_add a b).symm
theorem iI_sub (a b : Int) : iI a - iI b = iI (a - b) := (Int32.ofInt_sub a b).symm
theorem iI_mul (a b : Int) : iI a * iI b = iI (a * b) := (Int32.ofInt_mul a b).symm
theorem iI_neg (a : Int) : - iI a = iI (- a) := (Int32.ofInt_neg a).symm
theorem iI_lt {a b : Int} (ha : rg a) (hb : rg b) : iI a < iI b ↔ a < b := by rw [Int32.lt_iff_toInt_lt, iI_toInt ha, iI_toInt hb]
theorem iI_le {a b : Int} (ha : rg a) (hb : rg b) : iI a ≤ iI b ↔ a ≤ b := by rw [Int32.le_iff_toInt_le, iI_toInt ha, iI_toInt hb]
theorem iI_eq {a b : Int} (ha : rg a) (hb : rg b) : iI a = iI b ↔ a = b := by
  constructor
  · intro h
    have := congrArg Int32.toInt h
    rwa [iI_toInt ha, iI_toInt hb] at this
  · intro h; rw [h]
theorem iI_of (x : Int32) : ∃ z : Int, rg z ∧ x = iI z := ⟨x.toInt, ⟨by have := Int32.le_toInt x; omega, by have := Int32.toInt_lt x; omega⟩, (Int32.ofInt_toInt x).symm⟩
theorem iI_nI (n : Nat) : nI n = iI (n : Int) := by unfold nI iI; rw [Int32.ofInt_eq_ofNat]
theorem iI_0 : (0 : Int32) = iI 0 := rfl
theorem iI_rem {a b : Int} (ha : 0 ≤ a) (ha2 : a < 2147483648) (hb : 0 < b) (hb2 : b < 2147483648) : iI a - iI a / iI b * iI b = iI (a % b) := by
  obtain ⟨n, rfl⟩ := Int.eq_ofNat_of_zero_le ha
  obtain ⟨d, rfl⟩ := Int.eq_ofNat_of_zero_le (Int.le_of_lt hb)
  have h := pk_rem (a := n) (d := d) (by omega) (by omega) (by omega)
  rw [iI_nI, iI_nI, iI_nI] at h
  rw [h]; rfl
theorem iI_div {a b : Int} (ha : 0 ≤ a) (ha2 : a < 2147483648) (hb : 0 < b) (hb2 : b < 2147483648) : iI a / iI b = iI (a / b) := by
  obtain ⟨n, rfl⟩ := Int.eq_ofNat_of_zero_le ha
  obtain ⟨d, rfl⟩ := Int.eq_ofNat_of_zero_le (Int.le_of_lt hb)
  have h := pk_div (a := n) (d := d) (by omega) (by omega) (by omega)
  rw [iI_nI, iI_nI, iI_nI] at h
  rw [h]; rfl
theorem iI_clamp {j : Nat} (h : j < 2147483648) : (iI (j : Int)).toNatClampNeg = j := by rw [← iI_nI]; exact nI_clamp (by omega)
theorem iI_in {j n : Nat} (h : j < n) (hn : n < 2147483648) : vp_in (iI (j : Int)) n := by rw [← iI_nI]; exact vp_in_nI h (by omega)
/-! the world by virtual places: place i holds the content C i, at the address ad i -/
def vW (ad : Nat → Nat) (C : Nat → va_E) (T : Nat) : va_W := (List.range T).map (fun i => (ad i, C i))
theorem vW_get {ad : Nat → Nat} {C : Nat → va_E} {T i : Nat} (h : i < T) : (vW ad C T)[i]? = some (ad i, C i) := by simp [vW, h]
theorem vW_of {ad : Nat → Nat} {C : Nat → va_E} {T i : Nat} {q : Nat × va_E} (h : (vW ad C T)[i]? = some q) : i < T ∧ q = (ad i, C i) := by
  by_cases hi : i < T
  · rw [vW_get hi] at h; exact ⟨hi, (Option.some.inj h).symm⟩
  · have : (vW ad C T)[i]? = none := List.getElem?_eq_none (by simp [vW]; omega)
    rw [this] at h; cases h
theorem vW_set {ad : Nat → Nat} {C : Nat → va_E} {T i : Nat} {e : va_E} : (vW ad C T).set i (ad i, e) = vW ad (va_up C i e) T := by
  apply List.ext_getElem?
  intro j
  by_cases hj : j < T
  · by_cases hi : i = j
    · subst hi
      rw [List.getElem?_set_self (by simp [vW]; exact hj), vW_get hj, va_up_self]
    · rw [List.getElem?_set_ne hi, vW_get hj, vW_get hj, va_up_ne _ _ (Ne.symm hi)]
  · rw [List.getElem?_eq_none (by simp [vW]; omega), List.getElem?_eq_none (by simp [vW]; omega)]
def dW (A : Nat → Prop) (ad : Nat → Nat) (T : Nat) : Prop := (∀ i j, i < T → j < T → ad i = ad j → i = j) ∧ ∀ i, i < T → A (ad i)
theorem dW.va {A : Nat → Prop} {ad : Nat → Nat} {T : Nat} (h : dW A ad T) (C : Nat → va_E) : va_D A (vW ad C T) := by
  refine ⟨fun i j x y hi hj e => ?_, fun k q hk => ?_⟩
  · obtain ⟨h1, rfl⟩ := vW_of hi
    obtain ⟨h2, rfl⟩ := vW_of hj
    exact h.1 i j h1 h2 e
  · obtain ⟨h1, rfl⟩ := vW_of hk
    exact h.2 k h1
abbrev tyL (cs : Nat → ClassId) : List (ClassId × FieldType) := [(cs 0, .int), (cs 1, .long), (cs 2, .object RPo), (cs 3, .array .int)]
/-- the world of a method while it runs: from s to the heap H -/
def Wd (D : va_G) (cs : Nat → ClassId) (A : Nat → Prop) (ad : Nat → Nat) (T : Nat) (s : State) (C : Nat → va_E) (H : Heap) (locs : List Loc) : Prop :=
  va_K D classes (tyL cs) s ∧ dW A ad T ∧ (∀ q, s.heap.size ≤ q → A q) ∧ va_P D classes (vW ad C T) H ∧ va_S A s.heap H locs
/-- a contract's start and end, of the world -/
def PW (D : va_G) (cs : Nat → ClassId) (A : Nat → Prop) (ad : Nat → Nat) (T : Nat) (C : Nat → va_E) (U : State) : Prop :=
  va_K D classes (tyL cs) U ∧ dW A ad T ∧ (∀ q, U.heap.size ≤ q → A q) ∧ va_P D classes (vW ad C T) U.heap
def QW (D : va_G) (cs : Nat → ClassId) (ad : Nat → Nat) (T : Nat) (C : Nat → va_E) (t : State) : Prop :=
  va_K D classes (tyL cs) t ∧ va_P D classes (vW ad C T) t.heap
def Cv (l : Launch) (y : MethodName) (ws : List Cond) (rm : Room) (D : va_G) (cs : Nat → ClassId) (A : Nat → Prop) (ad : Nat → Nat) (T : Nat) (av : List Value) (C : Nat → va_E) (post : (Nat → va_E) → Prop) : Prop :=
  Met l y ws rm (va_Pc av (PW D cs A ad T C)) (va_Qv post (QW D cs ad T) A) 0 0 A
def Ci (l : Launch) (y : MethodName) (ws : List Cond) (rm : Room) (D : va_G) (cs : Nat → ClassId) (A : Nat → Prop) (ad : Nat → Nat) (T : Nat) (av : List Value) (C : Nat → va_E) (post : Int32 → (Nat → va_E) → Prop) : Prop :=
  Met l y ws rm (va_Pc av (PW D cs A ad T C)) (va_Qi post (QW D cs ad T) A) 0 0 A
/-- what stays the same through a method's run -/
def Cx (p : Program) (s : State) (m : MethodId) (args : Array Value) (c : Code) (cc : ByteArray) (own : String) : Prop :=
  p.tables.exec = Jvm.exec ∧ c.code = cc ∧ s.vm.findClass own = some m.cls ∧ ∀ w ∈ TB, w.before args s = true
/-- contents -/
abbrev iA (F : Nat → Int) : Nat → Int32 := fun j => iI (F j)
def aI (cs : Nat → ClassId) (n : Nat) (F : Nat → Int) : va_E := .inl (cs 0, n, .inl (iA F))
def pE (ad : Nat → Nat) (j : Nat) (d : Int) : va_E := .inr (0, [.ref (ad j), .int (iI d)])
theorem upd_iA (F : Nat → Int) (k : Nat) (v : Int) : upd (iA F) k (iI v) = iA (va_up F k v) := by
  funext j
  by_cases h : j = k
  · subst h; simp [upd, iA, va_up]
  · simp [upd, iA, va_up, h]
section RW
variable {p : Program} {l : Launch} {e : Env} {R : Room} {s : State} {m : MethodId} {args : Array Value} {below : List Frame} {meth : Method} {c : Code} {H : Heap} {locs : List Loc} {cells slots : Nat} {Q : State → Prop}
variable {cc : ByteArray} {own : String} {pc : Nat} {ls : Array Slot} {rest : List Value} {D : va_G} {cs : Nat → ClassId} {A : Nat → Prop} {ad : Nat → Nat} {T : Nat} {C : Nat → va_E}
theorem w_get (X : Cx p s m args c cc own) (w : Wd D cs A ad T s C H locs) {Cn : String} {Tn : u_T} {N ci index i : Nat} {fs : List Value} {v : Value} (hi : i < T) (hC : C i = .inr (ci, fs)) (hc : classes[ci]? = some (Cn, Tn, N)) (hin : ∀ w ∈ u_ws Cn Tn N, w ∈ TB) (k : Nat) (hk : k < N) (hlink : Cond.fieldLink own index (Tn k).1 (Tn k).2.1 (Tn k).2.2.1 ∈ TB) (hv : fs[k]? = some v) (hdg : decode cc pc = .ok (.getfield index, 3))
    (kk : W p l e R s m args below meth c H locs cells slots Q (F0 m (pc + 3) ls (v :: rest))) : W p l e R s m args below meth c H locs cells slots Q (F0 m pc ls (.ref (ad i) :: rest)) :=
  va_get X.1 X.2.1 X.2.2.2 hin X.2.2.1 w.1 w.2.2.2.1 i (by rw [vW_get hi, hC]) hc k hk (X.2.2.2 _ hlink) (fun _ h => h) hv hdg kk
theorem w_put (X : Cx p s m args c cc own) (w : Wd D cs A ad T s C H locs) {Cn : String} {Tn : u_T} {N ci index i : Nat} {fs : List Value} {v : Value} (hi : i < T) (hC : C i = .inr (ci, fs)) (hc : classes[ci]? = some (Cn, Tn, N)) (hin : ∀ w ∈ u_ws Cn Tn N, w ∈ TB) (ty0 : Nat → FieldType) (hty : ∀ k, k < N → parseFieldDescriptor (Tn k).2.2.1 = some (ty0 k)) (hnm : ∀ a, a < N → ∀ b, b < N → a ≠ b → (Tn a).2.1 ≠ (Tn b).2.1) (k : Nat) (hk : k < N) (hlink : Cond.fieldLink own index (Tn k).1 (Tn k).2.1 (Tn k).2.2.1 ∈ TB) (hfin : (Tn k).2.2.2 = false) (hn : narrow (ty0 k) v = v) (hfit : fits (ty0 k) v = true) (hl : k < fs.length) (hdg : decode cc pc = .ok (.putfield index, 3))
    (kk : ∀ (H1 : Heap) (locs1 : List Loc), Wd D cs A ad T s (va_up C i (.inr (ci, fs.set k v))) H1 locs1 → W p l e R s m args below meth c H1 locs1 cells slots Q (F0 m (pc + 3) ls rest)) : W p l e R s m args below meth c H locs cells slots Q (F0 m pc ls (v :: .ref (ad i) :: rest)) :=
  va_put X.1 X.2.1 X.2.2.2 hin ty0 hty hnm X.2.2.1 w.1 w.2.2.2.1 (w.2.1.va C) w.2.2.2.2 i (by rw [vW_get hi, hC]) hc k hk (X.2.2.2 _ hlink) (fun _ h => h) hfin (hty k hk) hn hfit hl hdg (fun H1 locs1 h1 _ h3 => kk H1 locs1 ⟨w.1, w.2.1, w.2.2.1, by rw [vW_set] at h1; exact h1, h3⟩)
theorem w_ild (X : Cx p s m args c cc own) (w : Wd D cs A ad T s C H locs) {i n : Nat} {F : Nat → Int} (hi : i < T) (hC : C i = aI cs n F) {z : Int} (j : Nat) (hz : z = (j : Int)) (hj : j < n) (hn : n < 2147483648) (hdg : decode cc pc = .ok (.iaload, 1))
    (kk : W p l e R s m args below meth c H locs cells slots Q (F0 m (pc + 1) ls (.int (iI (F j)) :: rest))) : W p l e R s m args below meth c H locs cells slots Q (F0 m pc ls (.int (iI z) :: .ref (ad i) :: rest)) := by
  subst hz
  refine va_iald X.1 X.2.1 w.1 w.2.2.2.1 i 0 (by rw [vW_get hi, hC]; rfl) rfl (iI_in hj hn) hdg ?_
  rw [iI_clamp (by omega)]
  exact kk
theorem w_ist (X : Cx p s m args c cc own) (w : Wd D cs A ad T s C H locs) {i n : Nat} {F : Nat → Int} (hi : i < T) (hC : C i = aI cs n F) {z v : Int} (j : Nat) (hz : z = (j : Int)) (hj : j < n) (hn : n < 2147483648) (hdg : decode cc pc = .ok (.iastore, 1))
    (kk : ∀ (H1 : Heap) (locs1 : List Loc), Wd D cs A ad T s (va_up C i (aI cs n (va_up F j v))) H1 locs1 → W p l e R s m args below meth c H1 locs1 cells slots Q (F0 m (pc + 1) ls rest)) : W p l e R s m args below meth c H locs cells slots Q (F0 m pc ls (.int (iI v) :: .int (iI z) :: .ref (ad i) :: rest)) := by
  subst hz
  refine va_iast X.1 X.2.1 w.1 w.2.2.2.1 (w.2.1.va C) w.2.2.2.2 i 0 (by rw [vW_get hi, hC]; rfl) rfl (iI_in hj hn) hdg (fun H1 locs1 h1 _ h3 => kk H1 locs1 ⟨w.1, w.2.1, w.2.2.1, ?_, h3⟩)
  rw [vW_set, iI_clamp (by omega), upd_iA] at h1
  exact h1
theorem i_add (X : Cx p s m args c cc own) {a b : Int} (hdg : decode cc pc = .ok (.iadd, 1)) (kk : W p l e R s m args below meth c H locs cells slots Q (F0 m (pc + 1) ls (.int (iI (a + b)) :: rest))) : W p l e R s m args below meth c H locs cells slots Q (F0 m pc ls (.int (iI b) :: .int (iI a) :: rest)) := lv_iadd X.1 X.2.1 hdg (by rw [iI_add]; exact kk)
theorem i_sub (X : Cx p s m args c cc own) {a b : Int} (hdg : decode cc pc = .ok (.isub, 1)) (kk : W p l e R s m args below meth c H locs cells slots Q (F0 m (pc + 1) ls (.int (iI (a - b)) :: rest))) : W p l e R s m args below meth c H locs cells slots Q (F0 m pc ls (.int (iI b) :: .int (iI a) :: rest)) := lv_isub X.1 X.2.1 hdg (by rw [iI_sub]; exact kk)
theorem i_mul (X : Cx p s m args c cc own) {a b : Int} (hdg : decode cc pc = .ok (.imul, 1)) (kk : W p l e R s m args below meth c H locs cells slots Q (F0 m (pc + 1) ls (.int (iI (a * b)) :: rest))) : W p l e R s m args below meth c H locs cells slots Q (F0 m pc ls (.int (iI b) :: .int (iI a) :: rest)) := lv_imul X.1 X.2.1 hdg (by rw [iI_mul]; exact kk)
theorem i_rem (X : Cx p s m args c cc own) {a b : Int} (ha : 0 ≤ a ∧ a < 2147483648) (hb : 0 < b ∧ b < 2147483648) (hdg : decode cc pc = .ok (.irem, 1)) (kk : W p l e R s m args below meth c H locs cells slots Q (F0 m (pc + 1) ls (.int (iI (a % b)) :: rest))) : W p l e R s m args below meth c H locs cells slots Q (F0 m pc ls (.int (iI b) :: .int (iI a) :: rest)) :=
  lv_irem X.1 X.2.1 hdg (fun h => by rw [iI_0, iI_eq ⟨by omega, by omega⟩ ⟨by omega, by omega⟩] at h; omega) (by rw [iI_rem ha.1 ha.2 hb.1 hb.2]; exact kk)
theorem i_ge (X : Cx p s m args c cc own) {a b off : Int} {tgt : Nat} (ha : rg a) (hb : rg b) (hdg : decode cc pc = .ok (.if_icmp .ge off, 3)) (ht : (pc : Int) + off = (tgt : Int)) (kt : b ≤ a → W p l e R s m args below meth c H locs cells slots Q (F0 m tgt ls rest)) (kf : a < b → W p l e R s m args below meth c H locs cells slots Q (F0 m (pc + 3) ls rest)) : W p l e R s m args below meth c H locs cells slots Q (F0 m pc ls (.int (iI b) :: .int (iI a) :: rest)) := lv_icmp_ge X.1 X.2.1 hdg ht (fun h => kt ((iI_le hb ha).mp h)) (fun h => kf (Int.not_le.mp fun g => h ((iI_le hb ha).mpr g)))
theorem i_lt (X : Cx p s m args c cc own) {a b off : Int} {tgt : Nat} (ha : rg a) (hb : rg b) (hdg : decode cc pc = .ok (.if_icmp .lt off, 3)) (ht : (pc : Int) + off = (tgt : Int)) (kt : a < b → W p l e R s m args below meth c H locs cells slots Q (F0 m tgt ls rest)) (kf : b ≤ a → W p l e R s m args below meth c H locs cells slots Q (F0 m (pc + 3) ls rest)) : W p l e R s m args below meth c H locs cells slots Q (F0 m pc ls (.int (iI b) :: .int (iI a) :: rest)) := lv_icmp_lt X.1 X.2.1 hdg ht (fun h => kt ((iI_lt ha hb).mp h)) (fun h => kf (Int.not_lt.mp fun g => h ((iI_lt ha hb).mpr g)))
theorem i_gt (X : Cx p s m args c cc own) {a b off : Int} {tgt : Nat} (ha : rg a) (hb : rg b) (hdg : decode cc pc = .ok (.if_icmp .gt off, 3)) (ht : (pc : Int) + off = (tgt : Int)) (kt : b < a → W p l e R s m args below meth c H locs cells slots Q (F0 m tgt ls rest)) (kf : a ≤ b → W p l e R s m args below meth c H locs cells slots Q (F0 m (pc + 3) ls rest)) : W p l e R s m args below meth c H locs cells slots Q (F0 m pc ls (.int (iI b) :: .int (iI a) :: rest)) := lv_icmp_gt X.1 X.2.1 hdg ht (fun h => kt ((iI_lt hb ha).mp h)) (fun h => kf (Int.not_lt.mp fun g => h ((iI_lt hb ha).mpr g)))
theorem i_le (X : Cx p s m args c cc own) {a b off : Int} {tgt : Nat} (ha : rg a) (hb : rg b) (hdg : decode cc pc = .ok (.if_icmp .le off, 3)) (ht : (pc : Int) + off = (tgt : Int)) (kt : a ≤ b → W p l e R s m args below meth c H locs cells slots Q (F0 m tgt ls rest)) (kf : b < a → W p l e R s m args below meth c H locs cells slots Q (F0 m (pc + 3) ls rest)) : W p l e R s m args below meth c H locs cells slots Q (F0 m pc ls (.int (iI b) :: .int (iI a) :: rest)) := lv_icmp_le X.1 X.2.1 hdg ht (fun h => kt ((iI_le ha hb).mp h)) (fun h => kf (Int.not_le.mp fun g => h ((iI_le ha hb).mpr g)))
theorem i_eq (X : Cx p s m args c cc own) {a b off : Int} {tgt : Nat} (ha : rg a) (hb : rg b) (hdg : decode cc pc = .ok (.if_icmp .eq off, 3)) (ht : (pc : Int) + off = (tgt : Int)) (kt : a = b → W p l e R s m args below meth c H locs cells slots Q (F0 m tgt ls rest)) (kf : a ≠ b → W p l e R s m args below meth c H locs cells slots Q (F0 m (pc + 3) ls rest)) : W p l e R s m args below meth c H locs cells slots Q (F0 m pc ls (.int (iI b) :: .int (iI a) :: rest)) := lv_icmp_eq X.1 X.2.1 hdg ht (fun h => kt ((iI_eq ha hb).mp h)) (fun h => kf (fun g => h ((iI_eq ha hb).mpr g)))
theorem i_ne (X : Cx p s m args c cc own) {a b off : Int} {tgt : Nat} (ha : rg a) (hb : rg b) (hdg : decode cc pc = .ok (.if_icmp .ne off, 3)) (ht : (pc : Int) + off = (tgt : Int)) (kt : a ≠ b → W p l e R s m args below meth c H locs cells slots Q (F0 m tgt ls rest)) (kf : a = b → W p l e R s m args below meth c H locs cells slots Q (F0 m (pc + 3) ls rest)) : W p l e R s m args below meth c H locs cells slots Q (F0 m pc ls (.int (iI b) :: .int (iI a) :: rest)) := lv_icmp_ne X.1 X.2.1 hdg ht (fun h => kt (fun g => h ((iI_eq ha hb).mpr g))) (fun h => kf (by first | exact (iI_eq ha hb).mp (Classical.not_not.mp h) | exact (iI_eq ha hb).mp h))
theorem z_lt (X : Cx p s m args c cc own) {a off : Int} {tgt : Nat} (ha : rg a) (hdg : decode cc pc = .ok (.ifCond .lt off, 3)) (ht : (pc : Int) + off = (tgt : Int)) (kt : a < 0 → W p l e R s m args below meth c H locs cells slots Q (F0 m tgt ls rest)) (kf : 0 ≤ a → W p l e R s m args below meth c H locs cells slots Q (F0 m (pc + 3) ls rest)) : W p l e R s m args below meth c H locs cells slots Q (F0 m pc ls (.int (iI a) :: rest)) := lv_if_lt X.1 X.2.1 hdg ht (fun h => kt ((iI_lt ha (by constructor <;> omega)).mp h)) (fun h => kf (Int.not_lt.mp fun g => h ((iI_lt ha (by constructor <;> omega)).mpr g)))
theorem z_ge (X : Cx p s m args c cc own) {a off : Int} {tgt : Nat} (ha : rg a) (hdg : decode cc pc = .ok (.ifCond .ge off, 3)) (ht : (pc : Int) + off = (tgt : Int)) (kt : 0 ≤ a → W p l e R s m args below meth c H locs cells slots Q (F0 m tgt ls rest)) (kf : a < 0 → W p l e R s m args below meth c H locs cells slots Q (F0 m (pc + 3) ls rest)) : W p l e R s m args below meth c H locs cells slots Q (F0 m pc ls (.int (iI a) :: rest)) := lv_if_ge X.1 X.2.1 hdg ht (fun h => kt ((iI_le (by constructor <;> omega) ha).mp h)) (fun h => kf (Int.not_le.mp fun g => h ((iI_le (by constructor <;> omega) ha).mpr g)))
theorem z_gt (X : Cx p s m args c cc own) {a off : Int} {tgt : Nat} (ha : rg a) (hdg : decode cc pc = .ok (.ifCond .gt off, 3)) (ht : (pc : Int) + off = (tgt : Int)) (kt : 0 < a → W p l e R s m args below meth c H locs cells slots Q (F0 m tgt ls rest)) (kf : a ≤ 0 → W p l e R s m args below meth c H locs cells slots Q (F0 m (pc + 3) ls rest)) : W p l e R s m args below meth c H locs cells slots Q (F0 m pc ls (.int (iI a) :: rest)) := lv_if_gt X.1 X.2.1 hdg ht (fun h => kt ((iI_lt (by constructor <;> omega) ha).mp h)) (fun h => kf (Int.not_lt.mp fun g => h ((iI_lt (by constructor <;> omega) ha).mpr g)))
theorem z_le (X : Cx p s m args c cc own) {a off : Int} {tgt : Nat} (ha : rg a) (hdg : decode cc pc = .ok (.ifCond .le off, 3)) (ht : (pc : Int) + off = (tgt : Int)) (kt : a ≤ 0 → W p l e R s m args below meth c H locs cells slots Q (F0 m tgt ls rest)) (kf : 0 < a → W p l e R s m args below meth c H locs cells slots Q (F0 m (pc + 3) ls rest)) : W p l e R s m args below meth c H locs cells slots Q (F0 m pc ls (.int (iI a) :: rest)) := lv_if_le X.1 X.2.1 hdg ht (fun h => kt ((iI_le ha (by constructor <;> omega)).mp h)) (fun h => kf (Int.not_le.mp fun g => h ((iI_le ha (by constructor <;> omega)).mpr g)))
theorem z_eq (X : Cx p s m args c cc own) {a off : Int} {tgt : Nat} (ha : rg a) (hdg : decode cc pc = .ok (.ifCond .eq off, 3)) (ht : (pc : Int) + off = (tgt : Int)) (kt : a = 0 → W p l e R s m args below meth c H locs cells slots Q (F0 m tgt ls rest)) (kf : a ≠ 0 → W p l e R s m args below meth c H locs cells slots Q (F0 m (pc + 3) ls rest)) : W p l e R s m args below meth c H locs cells slots Q (F0 m pc ls (.int (iI a) :: rest)) := lv_if_eq X.1 X.2.1 hdg ht (fun h => kt ((iI_eq ha (by constructor <;> omega)).mp h)) (fun h => kf (fun g => h ((iI_eq ha (by constructor <;> omega)).mpr g)))
theorem z_ne (X : Cx p s m args c cc own) {a off : Int} {tgt : Nat} (ha : rg a) (hdg : decode cc pc = .ok (.ifCond .ne off, 3)) (ht : (pc : Int) + off = (tgt : Int)) (kt : a ≠ 0 → W p l e R s m args below meth c H locs cells slots Q (F0 m tgt ls rest)) (kf : a = 0 → W p l e R s m args below meth c H locs cells slots Q (F0 m (pc + 3) ls rest)) : W p l e R s m args below meth c H locs cells slots Q (F0 m pc ls (.int (iI a) :: rest)) := lv_if_ne X.1 X.2.1 hdg ht (fun h => kt (fun g => h ((iI_eq ha (by constructor <;> omega)).mpr g))) (fun h => kf (by first | exact (iI_eq ha (by constructor <;> omega)).mp (Classical.not_not.mp h) | exact (iI_eq ha (by constructor <;> omega)).mp h))
theorem i_inc (X : Cx p s m args c cc own) {i nL k : Nat} {n x : Int} {lv lv' : List (Nat × Value)} (hdg : decode cc pc = .ok (.iinc i n, 3)) (h : lv_has ls nL lv) (hk : lv[k]? = some (i, .int (iI x))) (hn : i < nL) (hl : (i, Value.int (iI (x + n))) :: lv.filter (fun q => !(q.1 == i) && !(q.1 + 1 == i && q.2.category == 2)) = lv') (kk : ∀ ls' : Array Slot, lv_has ls' nL lv' → W p l e R s m args below meth c H locs cells slots Q (F0 m (pc + 3) ls' rest)) : W p l e R s m args below meth c H locs cells slots Q (F0 m pc ls rest) := lv_iinc X.1 X.2.1 hdg h hk (v := iI (x + n)) (by rw [← iI_add]; rfl) hn hl kk
end RW
end
section
/-! bodies, ends and calls -/
section WB
variable {l : Launch} {D : va_G} {cs : Nat → ClassId} {A : Nat → Prop} {ad : Nat → Nat} {T : Nat} {C : Nat → va_E}
theorem w_bodyV {y : MethodName} {bytes : ByteArray} {maxL : Nat} {ret : Option FieldType} {rm : Room} {av : List Value} {post : (Nat → va_E) → Prop} (hy : plainName y.cls = true) (hln : (lg_sl av).length ≤ maxL)
    (body : ∀ (p : Program) (e : Env) (s : State) (m : MethodId) (below : List Frame) (meth : Method) (c : Code), Cx p s m av.toArray c bytes y.cls → meth.sig.returnType = ret → meth.locks = false → c.maxLocals = maxL → Wd D cs A ad T s C s.heap [] → ∀ ls : Array Slot, lv_has ls maxL (lv_args 0 av) →
      W p l e rm s m av.toArray below meth c s.heap [] 0 0 (MQ below (va_Qv post (QW D cs ad T) A) av.toArray s 0 0 A) (F0 m 0 ls [])) : Cv l y (Cond.code y bytes maxL ret :: TB) rm D cs A ad T av C post := by
  refine Met.ofW (cc := bytes) (maxL := maxL) (ret := ret) hy rfl ?_
  intro p e s m args below meth c s₁ B hml hv
  obtain ⟨rfl, hK, hd, hA, hP⟩ := hv
  have hl := lv_entry av (n := maxL) hln
  rw [lg_entry_eq]
  exact body p e s m below meth c ⟨B.exec, B.bytes, findClass_of_methodNamed B.named, fun w hw => atoms_spec (ws := Cond.code y bytes maxL ret :: TB) B.pre w (List.mem_cons_of_mem _ hw)⟩ B.returns B.notSynchronized hml ⟨hK, hd, hA, hP, va_S.rf⟩ _ hl
theorem w_bodyI {y : MethodName} {bytes : ByteArray} {maxL : Nat} {ret : Option FieldType} {rm : Room} {av : List Value} {post : Int32 → (Nat → va_E) → Prop} (hy : plainName y.cls = true) (hln : (lg_sl av).length ≤ maxL)
    (body : ∀ (p : Program) (e : Env) (s : State) (m : MethodId) (below : List Frame) (meth : Method) (c : Code), Cx p s m av.toArray c bytes y.cls → meth.sig.returnType = ret → meth.locks = false → c.maxLocals = maxL → Wd D cs A ad T s C s.heap [] → ∀ ls : Array Slot, lv_has ls maxL (lv_args 0 av) →
      W p l e rm s m av.toArray below meth c s.heap [] 0 0 (MQ below (va_Qi post (QW D cs ad T) A) av.toArray s 0 0 A) (F0 m 0 ls [])) : Ci l y (Cond.code y bytes maxL ret :: TB) rm D cs A ad T av C post := by
  refine Met.ofW (cc := bytes) (maxL := maxL) (ret := ret) hy rfl ?_
  intro p e s m args below meth c s₁ B hml hv
  obtain ⟨rfl, hK, hd, hA, hP⟩ := hv
  have hl := lv_entry av (n := maxL) hln
  rw [lg_entry_eq]
  exact body p e s m below meth c ⟨B.exec, B.bytes, findClass_of_methodNamed B.named, fun w hw => atoms_spec (ws := Cond.code y bytes maxL ret :: TB) B.pre w (List.mem_cons_of_mem _ hw)⟩ B.returns B.notSynchronized hml ⟨hK, hd, hA, hP, va_S.rf⟩ _ hl
end WB
section WR
variable {p : Program} {l : Launch} {e : Env} {R : Room} {s : State} {m : MethodId} {args : Array Value} {below : List Frame} {meth : Method} {c : Code} {H : Heap} {locs : List Loc} {cells slots : Nat} {Q : State → Prop}
variable {cc : ByteArray} {own : String} {pc : Nat} {ls : Array Slot} {rest st : List Value} {D : va_G} {cs : Nat → ClassId} {A : Nat → Prop} {ad : Nat → Nat} {T : Nat} {C : Nat → va_E}
theorem w_vret {post : (Nat → va_E) → Prop} (X : Cx p s m args c cc own) (hr : meth.sig.returnType = none) (hlk : meth.locks = false) (w : Wd D cs A ad T s C H locs) (hp : post C) (hdg : decode cc pc = .ok (.return_, 1)) : W p l e R s m args below meth c H locs 0 0 (MQ below (va_Qv post (QW D cs ad T) A) args s 0 0 A) (F0 m pc ls []) :=
  W.vret X.1 X.2.1 hr (fun t ht hW => ⟨⟨C, rfl, hp, va_K.moved hW.alike w.1, by rw [ht]; exact w.2.2.2.1⟩, w.2.2.2.2.F ht⟩) w.2.2.2.2.2.2 hdg hlk
theorem w_iret {post : Int32 → (Nat → va_E) → Prop} {v : Int32} (X : Cx p s m args c cc own) (hr : meth.sig.returnType = some .int) (hlk : meth.locks = false) (w : Wd D cs A ad T s C H locs) (hp : post v C) (hdg : decode cc pc = .ok (.ireturn, 1)) : W p l e R s m args below meth c H locs 0 0 (MQ below (va_Qi post (QW D cs ad T) A) args s 0 0 A) (F0 m pc ls [.int v]) :=
  W.iret X.1 X.2.1 hr (fun t ht hW => ⟨⟨v, C, rfl, hp, va_K.moved hW.alike w.1, by rw [ht]; exact w.2.2.2.1⟩, w.2.2.2.2.F ht⟩) w.2.2.2.2.2.2 hdg hlk
theorem w_zret {post : Int32 → (Nat → va_E) → Prop} {v : Int32} (X : Cx p s m args c cc own) (hr : meth.sig.returnType = some .boolean) (hn : narrow .boolean (.int v) = .int v) (hlk : meth.locks = false) (w : Wd D cs A ad T s C H locs) (hp : post v C) (hdg : decode cc pc = .ok (.ireturn, 1)) : W p l e R s m args below meth c H locs 0 0 (MQ below (va_Qi post (QW D cs ad T) A) args s 0 0 A) (F0 m pc ls [.int v]) :=
  W.zret X.1 X.2.1 hr hn (fun t ht hW => ⟨⟨v, C, rfl, hp, va_K.moved hW.alike w.1, by rw [ht]; exact w.2.2.2.1⟩, w.2.2.2.2.F ht⟩) w.2.2.2.2.2.2 hdg hlk
theorem PW.blind {av : List Value} : FrameBlind (va_Pc av (PW D cs A ad T C)) := fun a U g mk q => by
  obtain ⟨q0, hK, hd, hA, hP⟩ := q
  exact ⟨q0, va_K.moved (u := U) (U := U.calling g mk a) (Vm.Alike.refl U.vm) hK, hd, hA, hP⟩
theorem Wd.pre (w : Wd D cs A ad T s C H locs) {U : State} (hU : U.heap = H) (hW : s.WarmedH U.vm) : PW D cs A ad T C U :=
  ⟨va_K.moved hW.alike w.1, w.2.1, fun q h => w.2.2.1 q (Nat.le_trans w.2.2.2.2.1 (by rw [← hU]; exact h)), by rw [hU]; exact w.2.2.2.1⟩
theorem Wd.post (w : Wd D cs A ad T s C H locs) {C' : Nat → va_E} {t : State} {H1 : Heap} {locs1 : List Loc} (ht : t.heap = H1) (hB : QW D cs ad T C' t) (hS : va_S A s.heap H1 locs1) : Wd D cs A ad T s C' H1 locs1 := ⟨w.1, w.2.1, w.2.2.1, by rw [← ht]; exact hB.2, hS⟩
theorem w_cVv {y : MethodName} {bytes : ByteArray} {n maxL nL index i ci N : Nat} {ret : Option FieldType} {rm : Room} {As : List Value} {post : (Nat → va_E) → Prop} {Cn : String} {Tn : u_T} {fs : List Value}
    (X : Cx p s m args c cc own) (w : Wd D cs A ad T s C H locs) (hml : c.maxLocals = nL) (hls : ls.size = nL) (hM : Cv l y (Cond.code y bytes maxL ret :: TB) rm D cs A ad T (.ref (ad i) :: As) C post)
    (hi : i < T) (hC : C i = .inr (ci, fs)) (hc : classes[ci]? = some (Cn, Tn, N)) (k1 : Cond.methodLink own index y ∈ TB) (k2 : Cond.instanceMethod y ∈ TB) (k3 : Cond.selects Cn y y ∈ TB) (k4 : Cond.initialized Cn ∈ TB) (k5 : Cond.code y bytes maxL ret ∈ TB)
    (hd : y.cls = Cn ∧ y.cls ≠ "java/lang/invoke/MethodHandle" ∧ y.cls ≠ "java/lang/invoke/VarHandle" ∧ (parseMethodDescriptor y.desc).map (fun d => d.parameters.length) = some n) (hn : As.length = n) (hR : rm.frames + 1 ≤ R.frames ∧ 8 + (maxL + 11) + rm.locals ≤ R.locals) (hrc : rm.cells = 0 ∧ rm.slots = 0) (hcl : cells ≤ R.cells ∧ slots ≤ R.slots)
    (hst : st = As.reverse ++ .ref (ad i) :: rest) (hW : (rest.map fun v => v.category).sum ≤ 8) (hdg : decode cc pc = .ok (.invokevirtual index, 3))
    (kk : ∀ (C' : Nat → va_E) (H' : Heap) (locs' : List Loc), post C' → Wd D cs A ad T s C' H' locs' → W p l e R s m args below meth c H' locs' cells slots Q (F0 m (pc + 3) ls rest)) : W p l e R s m args below meth c H locs cells slots Q (F0 m pc ls st) :=
  va_callv (va_runV (As := As) (rest := rest) ⟨X.1, X.2.1, hml, X.2.2.1, X.2.2.2⟩ hM (cwV n X.2.2.2 (tb_V k1 k2 k3 k4 (tb_cons k5 tb_good)) rfl hrc.1 hrc.2 hd hR) ⟨PW.blind, va_recv w.1 w.2.2.2.1 (ci := ci) (q0 := i) hc (by rw [vW_get hi, hC]), fun U hU hW => ⟨rfl, w.pre hU hW⟩⟩ rfl hn hls hst (lv_room hW) hdg hcl) w.2.2.2.2 (fun _ _ h => h) (fun _ h => h) (fun u t H1 locs1 ht hvm hp hB hz hk hS => kk u H1 locs1 hp (w.post ht hB hS))
theorem w_cVi {y : MethodName} {bytes : ByteArray} {n maxL nL index i ci N : Nat} {ret : Option FieldType} {rm : Room} {As : List Value} {post : Int32 → (Nat → va_E) → Prop} {Cn : String} {Tn : u_T} {fs : List Value}
    (X : Cx p s m args c cc own) (w : Wd D cs A ad T s C H locs) (hml : c.maxLocals = nL) (hls : ls.size = nL) (hM : Ci l y (Cond.code y bytes maxL ret :: TB) rm D cs A ad T (.ref (ad i) :: As) C post)
    (hi : i < T) (hC : C i = .inr (ci, fs)) (hc : classes[ci]? = some (Cn, Tn, N)) (k1 : Cond.methodLink own index y ∈ TB) (k2 : Cond.instanceMethod y ∈ TB) (k3 : Cond.selects Cn y y ∈ TB) (k4 : Cond.initialized Cn ∈ TB) (k5 : Cond.code y bytes maxL ret ∈ TB)
    (hd : y.cls = Cn ∧ y.cls ≠ "java/lang/invoke/MethodHandle" ∧ y.cls ≠ "java/lang/invoke/VarHandle" ∧ (parseMethodDescriptor y.desc).map (fun d => d.parameters.length) = some n) (hn : As.length = n) (hR : rm.frames + 1 ≤ R.frames ∧ 8 + (maxL + 11) + rm.locals ≤ R.locals) (hrc : rm.cells = 0 ∧ rm.slots = 0) (hcl : cells ≤ R.cells ∧ slots ≤ R.slots)
    (hst : st = As.reverse ++ .ref (ad i) :: rest) (hW : (rest.map fun v => v.category).sum ≤ 8) (hdg : decode cc pc = .ok (.invokevirtual index, 3))
    (kk : ∀ (r : Int32) (C' : Nat → va_E) (H' : Heap) (locs' : List Loc), post r C' → Wd D cs A ad T s C' H' locs' → W p l e R s m args below meth c H' locs' cells slots Q (F0 m (pc + 3) ls (.int r :: rest))) : W p l e R s m args below meth c H locs cells slots Q (F0 m pc ls st) :=
  va_calli (va_runV (As := As) (rest := rest) ⟨X.1, X.2.1, hml, X.2.2.1, X.2.2.2⟩ hM (cwV n X.2.2.2 (tb_V k1 k2 k3 k4 (tb_cons k5 tb_good)) rfl hrc.1 hrc.2 hd hR) ⟨PW.blind, va_recv w.1 w.2.2.2.1 (ci := ci) (q0 := i) hc (by rw [vW_get hi, hC]), fun U hU hW => ⟨rfl, w.pre hU hW⟩⟩ rfl hn hls hst (lv_room hW) hdg hcl) w.2.2.2.2 (fun _ _ h => h) (fun _ h => h) (fun r u t H1 locs1 ht hvm hp hB hz hk hS => kk r u H1 locs1 hp (w.post ht hB hS))
theorem w_cSv {y : MethodName} {bytes : ByteArray} {n maxL nL index : Nat} {ret : Option FieldType} {rm : Room} {As : List Value} {post : (Nat → va_E) → Prop}
    (X : Cx p s m args c cc own) (w : Wd D cs A ad T s C H locs) (hml : c.maxLocals = nL) (hls : ls.size = nL) (hM : Cv l y (Cond.code y bytes maxL ret :: TB) rm D cs A ad T As C post)
    (k1 : Cond.methodLink own index y ∈ TB) (k2 : Cond.static y ∈ TB) (k4 : Cond.initialized own ∈ TB) (k5 : Cond.code y bytes maxL ret ∈ TB)
    (hd : y.cls = own ∧ y.cls ≠ "java/lang/invoke/MethodHandle" ∧ y.cls ≠ "java/lang/invoke/VarHandle" ∧ (parseMethodDescriptor y.desc).map (fun d => d.parameters.length) = some n) (hn : As.length = n) (hR : rm.frames + 1 ≤ R.frames ∧ 8 + (maxL + 11) + rm.locals ≤ R.locals) (hrc : rm.cells = 0 ∧ rm.slots = 0) (hcl : cells ≤ R.cells ∧ slots ≤ R.slots)
    (hst : st = As.reverse ++ rest) (hW : (rest.map fun v => v.category).sum ≤ 8) (hdg : decode cc pc = .ok (.invokestatic index, 3))
    (kk : ∀ (C' : Nat → va_E) (H' : Heap) (locs' : List Loc), post C' → Wd D cs A ad T s C' H' locs' → W p l e R s m args below meth c H' locs' cells slots Q (F0 m (pc + 3) ls rest)) : W p l e R s m args below meth c H locs cells slots Q (F0 m pc ls st) :=
  va_callv (va_runS (As := As) (rest := rest) ⟨X.1, X.2.1, hml, X.2.2.1, X.2.2.2⟩ hM (cwS n X.2.2.2 (tb_S k1 k2 k4 (tb_cons k5 tb_good)) rfl hrc.1 hrc.2 hd hR) ⟨PW.blind, fun U hU hW => ⟨rfl, w.pre hU hW⟩⟩ rfl hn hls hst (lv_room hW) hdg hcl) w.2.2.2.2 (fun _ _ h => h) (fun _ h => h) (fun u t H1 locs1 ht hvm hp hB hz hk hS => kk u H1 locs1 hp (w.post ht hB hS))
theorem w_cSi {y : MethodName} {bytes : ByteArray} {n maxL nL index : Nat} {ret : Option FieldType} {rm : Room} {As : List Value} {post : Int32 → (Nat → va_E) → Prop}
    (X : Cx p s m args c cc own) (w : Wd D cs A ad T s C H locs) (hml : c.maxLocals = nL) (hls : ls.size = nL) (hM : Ci l y (Cond.code y bytes maxL ret :: TB) rm D cs A ad T As C post)
    (k1 : Cond.methodLink own index y ∈ TB) (k2 : Cond.static y ∈ TB) (k4 : Cond.initialized own ∈ TB) (k5 : Cond.code y bytes maxL ret ∈ TB)
    (hd : y.cls = own ∧ y.cls ≠ "java/lang/invoke/MethodHandle" ∧ y.cls ≠ "java/lang/invoke/VarHandle" ∧ (parseMethodDescriptor y.desc).map (fun d => d.parameters.length) = some n) (hn : As.length = n) (hR : rm.frames + 1 ≤ R.frames ∧ 8 + (maxL + 11) + rm.locals ≤ R.locals) (hrc : rm.cells = 0 ∧ rm.slots = 0) (hcl : cells ≤ R.cells ∧ slots ≤ R.slots)
    (hst : st = As.reverse ++ rest) (hW : (rest.map fun v => v.category).sum ≤ 8) (hdg : decode cc pc = .ok (.invokestatic index, 3))
    (kk : ∀ (r : Int32) (C' : Nat → va_E) (H' : Heap) (locs' : List Loc), post r C' → Wd D cs A ad T s C' H' locs' → W p l e R s m args below meth c H' locs' cells slots Q (F0 m (pc + 3) ls (.int r :: rest))) : W p l e R s m args below meth c H locs cells slots Q (F0 m pc ls st) :=
  va_calli (va_runS (As := As) (rest := rest) ⟨X.1, X.2.1, hml, X.2.2.1, X.2.2.2⟩ hM (cwS n X.2.2.2 (tb_S k1 k2 k4 (tb_cons k5 tb_good)) rfl hrc.1 hrc.2 hd hR) ⟨PW.blind, fun U hU hW => ⟨rfl, w.pre hU hW⟩⟩ rfl hn hls hst (lv_room hW) hdg hcl) w.2.2.2.2 (fun _ _ h => h) (fun _ h => h) (fun r u t H1 locs1 ht hvm hp hB hz hk hS => kk r u H1 locs1 hp (w.post ht hB hS))
end WR
/-! the typed world: 61 polynomials at the places 2 k (object) and 2 k + 1 (row), the other cells O from 122 on -/
abbrev PV : Type := Int × (Nat → Int)
def wd (k : Nat) : Nat := if k < 2 then 300 else 25
def mkV (cs : Nat → ClassId) (ad : Nat → Nat) (V : Nat → PV) (O : Nat → va_E) : Nat → va_E := fun i => if i < 122 then (if i % 2 = 0 then pE ad (i + 1) (V (i / 2)).1 else aI cs (wd (i / 2)) (V (i / 2)).2) else O i
theorem wd_lt (k : Nat) : wd k < 2147483648 := by unfold wd; split <;> omega
theorem wd_ge (k : Nat) : 25 ≤ wd k := by unfold wd; split <;> omega
theorem mkV_o {cs : Nat → ClassId} {ad : Nat → Nat} {V : Nat → PV} {O : Nat → va_E} {k : Nat} (h : k < 61) : mkV cs ad V O (2 * k) = pE ad (2 * k + 1) (V k).1 := by
  unfold mkV
  rw [if_pos (by omega), if_pos (by omega), show 2 * k / 2 = k by omega]
theorem mkV_a {cs : Nat → ClassId} {ad : Nat → Nat} {V : Nat → PV} {O : Nat → va_E} {k : Nat} (h : k < 61) : mkV cs ad V O (2 * k + 1) = aI cs (wd k) (V k).2 := by
  unfold mkV
  rw [if_pos (by omega), if_neg (by omega), show (2 * k + 1) / 2 = k by omega]
theorem mkV_O {cs : Nat → ClassId} {ad : Nat → Nat} {V : Nat → PV} {O : Nat → va_E} {i : Nat} (h : 122 ≤ i) : mkV cs ad V O i = O i := by
  unfold mkV
  rw [if_neg (by omega)]
theorem mkV_so {cs : Nat → ClassId} {ad : Nat → Nat} {V : Nat → PV} {O : Nat → va_E} {k : Nat} {z : Int} (h : k < 61) : va_up (mkV cs ad V O) (2 * k) (pE ad (2 * k + 1) z) = mkV cs ad (va_up V k (z, (V k).2)) O := by
  funext i
  by_cases hi : i = 2 * k
  · subst hi
    rw [va_up_self, mkV_o h, va_up_self]
  · rw [va_up_ne _ _ hi]
    unfold mkV
    by_cases h1 : i < 122
    · rw [if_pos h1, if_pos h1]
      by_cases h2 : i % 2 = 0
      · rw [if_pos h2, if_pos h2, va_up_ne _ _ (by omega)]
      · rw [if_neg h2, if_neg h2]
        by_cases h3 : i / 2 = k
        · rw [h3, va_up_self]
        · rw [va_up_ne _ _ h3]
    · rw [if_neg h1, if_neg h1]
theorem mkV_sa {cs : Nat → ClassId} {ad : Nat → Nat} {V : Nat → PV} {O : Nat → va_E} {k : Nat} {F : Nat → Int} (h : k < 61) : va_up (mkV cs ad V O) (2 * k + 1) (aI cs (wd k) F) = mkV cs ad (va_up V k ((V k).1, F)) O := by
  funext i
  by_cases hi : i = 2 * k + 1
  · subst hi
    rw [va_up_self, mkV_a h, va_up_self]
  · rw [va_up_ne _ _ hi]
    unfold mkV
    by_cases h1 : i < 122
    · rw [if_pos h1, if_pos h1]
      by_cases h2 : i % 2 = 0
      · rw [if_pos h2, if_pos h2]
        by_cases h3 : i / 2 = k
        · rw [h3, va_up_self]
        · rw [va_up_ne _ _ h3]
      · rw [if_neg h2, if_neg h2, va_up_ne _ _ (by omega)]
    · rw [if_neg h1, if_neg h1]
theorem mkV_sO {cs : Nat → ClassId} {ad : Nat → Nat} {V : Nat → PV} {O : Nat → va_E} {i : Nat} {x : va_E} (h : 122 ≤ i) : va_up (mkV cs ad V O) i x = mkV cs ad V (va_up O i x) := by
  funext j
  by_cases hj : j = i
  · subst hj
    rw [va_up_self, mkV_O h, va_up_self]
  · rw [va_up_ne _ _ hj]
    unfold mkV
    split
    · rfl
    · rw [va_up_ne _ _ hj]
section TR
variable {p : Program} {l : Launch} {e : Env} {R : Room} {s : State} {m : MethodId} {args : Array Value} {below : List Frame} {meth : Method} {c : Code} {H : Heap} {locs : List Loc} {cells slots : Nat} {Q : State → Prop}
variable {cc : ByteArray} {own : String} {pc : Nat} {ls : Array Slot} {rest st : List Value} {D : va_G} {cs : Nat → ClassId} {A : Nat → Prop} {ad : Nat → Nat} {T : Nat} {V : Nat → PV} {O : Nat → va_E}
theorem t_deg {k index : Nat} (X : Cx p s m args c cc own) (hT : 132 ≤ T) (w : Wd D cs A ad T s (mkV cs ad V O) H locs) (hk : k < 61) (hlink : Cond.fieldLink own index "FieldFactors$Polynomial" "degree" "I" ∈ TB) (hdg : decode cc pc = .ok (.getfield index, 3))
    (kk : W p l e R s m args below meth c H locs cells slots Q (F0 m (pc + 3) ls (.int (iI (V k).1) :: rest))) : W p l e R s m args below meth c H locs cells slots Q (F0 m pc ls (.ref (ad (2 * k)) :: rest)) :=
  w_get X w (Nat.lt_of_lt_of_le (by omega) hT) (mkV_o hk) (ci := 0) rfl k_l_Po 1 (by decide) hlink rfl hdg kk
theorem t_co {k index : Nat} (X : Cx p s m args c cc own) (hT : 132 ≤ T) (w : Wd D cs A ad T s (mkV cs ad V O) H locs) (hk : k < 61) (hlink : Cond.fieldLink own index "FieldFactors$Polynomial" "coefficients" "[I" ∈ TB) (hdg : decode cc pc = .ok (.getfield index, 3))
    (kk : W p l e R s m args below meth c H locs cells slots Q (F0 m (pc + 3) ls (.ref (ad (2 * k + 1)) :: rest))) : W p l e R s m args below meth c H locs cells slots Q (F0 m pc ls (.ref (ad (2 * k)) :: rest)) :=
  w_get X w (Nat.lt_of_lt_of_le (by omega) hT) (mkV_o hk) (ci := 0) rfl k_l_Po 0 (by decide) hlink rfl hdg kk
theorem t_ld {k : Nat} {z : Int} (X : Cx p s m args c cc own) (hT : 132 ≤ T) (w : Wd D cs A ad T s (mkV cs ad V O) H locs) (hk : k < 61) (j : Nat) (hz : z = (j : Int)) (hj : j < wd k) (hdg : decode cc pc = .ok (.iaload, 1))
    (kk : W p l e R s m args below meth c H locs cells slots Q (F0 m (pc + 1) ls (.int (iI ((V k).2 j)) :: rest))) : W p l e R s m args below meth c H locs cells slots Q (F0 m pc ls (.int (iI z) :: .ref (ad (2 * k + 1)) :: rest)) :=
  w_ild X w (Nat.lt_of_lt_of_le (by omega) hT) (mkV_a hk) j hz hj (wd_lt k) hdg kk
theorem t_st {k : Nat} {z v : Int} (X : Cx p s m args c cc own) (hT : 132 ≤ T) (w : Wd D cs A ad T s (mkV cs ad V O) H locs) (hk : k < 61) (j : Nat) (hz : z = (j : Int)) (hj : j < wd k) (hdg : decode cc pc = .ok (.iastore, 1))
    (kk : ∀ (H1 : Heap) (locs1 : List Loc), Wd D cs A ad T s (mkV cs ad (va_up V k ((V k).1, va_up (V k).2 j v)) O) H1 locs1 → W p l e R s m args below meth c H1 locs1 cells slots Q (F0 m (pc + 1) ls rest)) : W p l e R s m args below meth c H locs cells slots Q (F0 m pc ls (.int (iI v) :: .int (iI z) :: .ref (ad (2 * k + 1)) :: rest)) :=
  w_ist X w (Nat.lt_of_lt_of_le (by omega) hT) (mkV_a hk) j hz hj (wd_lt k) hdg (fun H1 locs1 h => kk H1 locs1 (by rw [mkV_sa hk] at h; exact h))
theorem t_pd {k index : Nat} {z : Int} (X : Cx p s m args c cc own) (hT : 132 ≤ T) (w : Wd D cs A ad T s (mkV cs ad V O) H locs) (hk : k < 61) (hlink : Cond.fieldLink own index "FieldFactors$Polynomial" "degree" "I" ∈ TB) (hdg : decode cc pc = .ok (.putfield index, 3))
    (kk : ∀ (H1 : Heap) (locs1 : List Loc), Wd D cs A ad T s (mkV cs ad (va_up V k (z, (V k).2)) O) H1 locs1 → W p l e R s m args below meth c H1 locs1 cells slots Q (F0 m (pc + 3) ls rest)) : W p l e R s m args below meth c H locs cells slots Q (F0 m pc ls (.int (iI z) :: .ref (ad (2 * k)) :: rest)) :=
  w_put X w (Nat.lt_of_lt_of_le (by omega) hT) (mkV_o hk) (ci := 0) rfl k_l_Po tPo tyPo nPo 1 (by decide) hlink rfl rfl rfl (Nat.le_of_ble_eq_true rfl) hdg (fun H1 locs1 h => kk H1 locs1 (by have h := h; rw [← mkV_so hk]; exact h))
end TR
end
section
/-! the degree of a row, rows that are in order -/
def dg : Nat → (Nat → Int) → Int
  | 0, _ => -1
  | n + 1, F => if F n = 0 then dg n F else (n : Int)
theorem dg_ge (n : Nat) (F : Nat → Int) : -1 ≤ dg n F := by
  induction n with
  | zero => simp [dg]
  | succ n ih => unfold dg; split <;> omega
theorem dg_lt (n : Nat) (F : Nat → Int) : dg n F < n := by
  induction n with
  | zero => simp [dg]
  | succ n ih => unfold dg; split <;> omega
theorem dg_top {n : Nat} {F : Nat → Int} {d : Nat} (h : dg n F = d) : F d ≠ 0 := by
  induction n with
  | zero => simp [dg] at h
  | succ n ih =>
    unfold dg at h
    split at h
    · exact ih h
    · next h1 => have : n = d := by omega
                 subst this; exact h1
theorem dg_above {n : Nat} {F : Nat → Int} {x : Nat} (h : dg n F < x) (hx : x < n) : F x = 0 := by
  induction n with
  | zero => omega
  | succ n ih =>
    unfold dg at h
    split at h
    · next h1 =>
      by_cases e : x = n
      · subst e; exact h1
      · exact ih h (by omega)
    · omega
theorem dg_eq {n : Nat} {F : Nat → Int} {d : Int} (h0 : -1 ≤ d) (h1 : d < n) (h2 : ∀ x : Nat, (x : Int) = d → F x ≠ 0) (h3 : ∀ x : Nat, d < x → x < n → F x = 0) : dg n F = d := by
  have a := dg_ge n F
  have b := dg_lt n F
  by_cases hd : d < dg n F
  · obtain ⟨q, hq⟩ := Int.eq_ofNat_of_zero_le (show 0 ≤ dg n F by omega)
    exact absurd (h3 q (by omega) (by omega)) (dg_top hq)
  · by_cases hd2 : dg n F < d
    · obtain ⟨q, hq⟩ := Int.eq_ofNat_of_zero_le (show 0 ≤ d by omega)
      exact absurd (dg_above (n := n) (x := q) (by omega) (by omega)) (h2 q hq.symm)
    · omega
def ok (n : Nat) (F : Nat → Int) : Prop := (∀ x, 0 ≤ F x ∧ F x < 13) ∧ ∀ x, n ≤ x → F x = 0
theorem ok.dlt {n : Nat} {F : Nat → Int} (h : ok n F) (N : Nat) : dg N F < n := by
  have a := dg_ge N F
  by_cases hd : dg N F < n
  · exact hd
  · obtain ⟨q, hq⟩ := Int.eq_ofNat_of_zero_le (show 0 ≤ dg N F by omega)
    exact absurd (h.2 q (by omega)) (dg_top hq)
theorem ok.above {n : Nat} {F : Nat → Int} (h : ok n F) {N x : Nat} (hN : n ≤ N) (hx : dg N F < x) : F x = 0 := by
  by_cases hd : x < N
  · exact dg_above hx hd
  · exact h.2 x (by omega)
theorem ok.mono {n m : Nat} {F : Nat → Int} (h : ok n F) (hm : n ≤ m) : ok m F := ⟨h.1, fun x hx => h.2 x (by omega)⟩
theorem ok.of_dg {n m : Nat} {F : Nat → Int} (h : ok n F) (hn : n ≤ 300) (hm : dg 300 F < m) : ok m F := ⟨h.1, fun x hx => h.above hn (by omega)⟩
theorem ok_0 (n : Nat) : ok n (fun _ => 0) := ⟨fun _ => ⟨Int.le_refl 0, (by decide : (0 : Int) < 13)⟩, fun _ _ => rfl⟩
theorem dg_0 (n : Nat) : dg n (fun _ => 0) = -1 := dg_eq (by omega) (by omega) (fun x h => by omega) (fun _ _ _ => rfl)
theorem wd_le (k : Nat) : wd k ≤ 300 := by unfold wd; split <;> omega
def rV (G : Nat → Nat → Int) : Nat → PV := fun k => (dg 300 (G k), G k)
theorem rV_up (G : Nat → Nat → Int) (k : Nat) (F : Nat → Int) : rV (va_up G k F) = va_up (rV G) k (dg 300 F, F) := by
  funext j
  by_cases h : j = k
  · subst h; simp [rV, va_up]
  · simp [rV, va_up, h]
/-- a world of polynomials out of another, by one that changed -/
theorem rV_of {G : Nat → Nat → Int} {V : Nat → PV} {k : Nat} {F : Nat → Int} (h1 : (V k).1 = dg 300 F) (h2 : (V k).2 = F) (h3 : ∀ j, j ≠ k → V j = rV G j) : V = rV (va_up G k F) := by
  rw [rV_up]
  funext j
  by_cases h : j = k
  · subst h; rw [va_up_self, ← h1, ← h2]
  · rw [va_up_ne _ _ h]; exact h3 j h
section PM
variable {p : Program} {l : Launch} {e : Env} {R : Room} {s : State} {m : MethodId} {args : Array Value} {below : List Frame} {meth : Method} {c : Code} {H : Heap} {locs : List Loc} {cells slots : Nat} {Q : State → Prop} {D : va_G} {cs : Nat → ClassId} {A : Nat → Prop} {ad : Nat → Nat} {T : Nat}
variable {cc : ByteArray} {own : String} {pc : Nat} {ls : Array Slot} {rest : List Value}
theorem i_max (X : Cx p s m args c cc own) (hml : c.maxLocals = ls.size) {index : Nat} (k1 : Cond.methodLink own index ⟨"java/lang/Math", "max", "(II)I"⟩ ∈ TB) {a b : Int} (ha : rg a) (hb : rg b) (hf : 1 ≤ R.frames) (hlo : (rest.map fun v => v.category).sum + 13 ≤ R.locals) (hc : cells ≤ R.cells ∧ slots ≤ R.slots) (hdg : decode cc pc = .ok (.invokestatic index, 3))
    (kk : W p l e R s m args below meth c H locs cells slots Q (F0 m (pc + 3) ls (.int (iI (max a b)) :: rest))) : W p l e R s m args below meth c H locs cells slots Q (F0 m pc ls (.int (iI b) :: .int (iI a) :: rest)) := by
  refine va_mmax X.1 X.2.1 hml X.2.2.1 (X.2.2.2 _ k1) (X.2.2.2 _ k_st_Math_max) (X.2.2.2 _ k_i_Math) (X.2.2.2 _ k_co_Math_max) hf hlo hc.1 hc.2 hdg ?_
  by_cases h : a < b
  · rw [if_pos ((iI_lt ha hb).mpr h), ← show max a b = b by omega]; exact kk
  · rw [if_neg (fun g => h ((iI_lt ha hb).mp g)), ← show max a b = a by omega]; exact kk
end PM

section CL
variable {p : Program} {l : Launch} {e : Env} {R : Room} {s : State} {m : MethodId} {args : Array Value} {below : List Frame} {meth : Method} {c : Code} {H : Heap} {locs : List Loc} {cells slots : Nat} {Q : State → Prop} {D : va_G} {cs : Nat → ClassId} {A : Nat → Prop} {ad : Nat → Nat} {T : Nat}
variable {k : Nat} {O : Nat → va_E}
theorem l_Po_clear (X : Cx p s m args c b_Po_clear RPo) (hT : 132 ≤ T) (hk : k < 61) {V0 : Nat → PV} {d : Int} {F : Nat → Int} (hd : -1 ≤ d ∧ d < wd k)
    (K : ∀ (V : Nat → PV) (H : Heap) (locs : List Loc) (ls : Array Slot), Wd D cs A ad T s (mkV cs ad V O) H locs → (V k).1 = d → (∀ x : Nat, (V k).2 x = if (x : Int) ≤ d then 0 else F x) → (∀ j, j ≠ k → V j = V0 j) → lv_has ls 2 [(0, .ref (ad (2 * k)))] → W p l e R s m args below meth c H locs cells slots Q (F0 m 23 ls [])) :
    ∀ (n i : Nat) (V : Nat → PV) (H : Heap) (locs : List Loc) (ls : Array Slot), d + 2 ≤ i + n → (i : Int) ≤ d + 1 → Wd D cs A ad T s (mkV cs ad V O) H locs → (V k).1 = d → (∀ x : Nat, (V k).2 x = if x < i then 0 else F x) → (∀ j, j ≠ k → V j = V0 j) → lv_has ls 2 [(0, .ref (ad (2 * k))), (1, .int (iI i))] → W p l e R s m args below meth c H locs cells slots Q (F0 m 2 ls []) := by
  have hw := wd_lt k
  intro n
  induction n with
  | zero => intro i V H locs ls h1 h2; omega
  | succ n ih =>
    intro i V H locs ls h1 h2 w hV1 hV2 hV3 hl
    refine lv_iload_n X.1 X.2.1 d_Po_clear_2 rfl (lv_at hl 1 rfl) ?_
    refine lv_aload_n X.1 X.2.1 d_Po_clear_3 rfl (lv_at hl 0 rfl) ?_
    refine t_deg (k := k) X hT w (by omega) k_f_Po_13 d_Po_clear_4 ?_
    refine i_gt (a := i) (b := (V k).1) (tgt := 23) X (by omega) (by omega) d_Po_clear_7 (by decide) (fun h_7 => ?_) (fun h_7 => ?_)
    · exact K V H locs ls w hV1 (by intro x; rw [hV2 x]; split <;> split <;> first | rfl | (exfalso; omega)) hV3 (lv_sub hl [0] rfl)
    · refine lv_aload_n X.1 X.2.1 d_Po_clear_10 rfl (lv_at hl 0 rfl) ?_
      refine t_co (k := k) X hT w (by omega) k_f_Po_7 d_Po_clear_11 ?_
      refine lv_iload_n X.1 X.2.1 d_Po_clear_14 rfl (lv_at hl 1 rfl) ?_
      refine lv_iconst (v := iI (0)) X.1 X.2.1 d_Po_clear_15 (by decide) ?_
      refine t_st (k := k) (z := i) (v := 0) X hT w (by omega) (i) (by omega) (by omega) d_Po_clear_16 (fun H locs w => ?_)
      obtain ⟨V1, eV1⟩ : ∃ U : Nat → PV, U = va_up V k ((V k).1, va_up (V k).2 i (0)) := ⟨_, rfl⟩
      rw [← eV1] at w
      refine i_inc (k := 1) (x := i) (lv' := [(1, .int (iI (i + 1))), (0, .ref (ad (2 * k)))]) X d_Po_clear_17 hl rfl (by decide) rfl (fun ls hl => ?_)
      refine lv_goto (tgt := 2) X.1 X.2.1 d_Po_clear_20 (by decide) ?_
      exact ih (i + 1) _ H locs ls (by omega) (by omega) w (by rw [eV1, va_up_self]; exact hV1) (by intro x; rw [eV1, va_up_self]; show va_up (V k).2 i 0 x = _; unfold va_up; rw [hV2 x]; split <;> split <;> first | rfl | (exfalso; omega) | (split <;> first | rfl | (exfalso; omega))) (by intro j hj; rw [eV1, va_up_ne _ _ hj]; exact hV3 j hj) (lv_sub hl [1, 0] rfl)
end CL
theorem c_Po_clear {l : Launch} {D : va_G} {cs : Nat → ClassId} {A : Nat → Prop} {ad : Nat → Nat} {T : Nat} (hT : 132 ≤ T) {G : Nat → Nat → Int} {O : Nat → va_E} {k : Nat} (hk : k < 61) (hG : ok (wd k) (G k)) : Cv l y_Po_clear ws_Po_clear { frames := 0, cells := 0, slots := 0, locals := 0 } D cs A ad T [.ref (ad (2 * k))] (mkV cs ad (rV G) O) (fun C' => C' = mkV cs ad (rV (va_up G k (fun _ => 0))) O) := by
  refine w_bodyV (by decide) (Nat.le_of_ble_eq_true rfl) ?_
  intro p e s m below meth c X hr hlk hml w ls hl
  have hl : lv_has ls 2 [(0, .ref (ad (2 * k)))] := hl
  have hd := hG.dlt 300
  have hd0 := dg_ge 300 (G k)
  refine lv_iconst (v := iI (0)) X.1 X.2.1 d_Po_clear_0 (by decide) ?_
  refine lv_istore_n (lv' := [(1, .int (iI (0))), (0, .ref (ad (2 * k)))]) X.1 X.2.1 d_Po_clear_1 rfl hl (by decide) rfl (fun ls hl => ?_)
  refine l_Po_clear X hT hk (V0 := rV G) (d := dg 300 (G k)) (F := G k) ⟨hd0, hd⟩ (fun V H locs ls w hV1 hV2 hV3 hl => ?_) (dg 300 (G k) + 2).toNat 0 _ _ _ _ (by omega) (by omega) w rfl (fun x => by rw [if_neg (by omega)]; rfl) (fun _ _ => rfl) (lv_sub hl [1, 0] rfl)
  refine lv_aload_n X.1 X.2.1 d_Po_clear_23 rfl (lv_at hl 0 rfl) ?_
  refine lv_iconst (v := iI (-1)) X.1 X.2.1 d_Po_clear_24 (by decide) ?_
  refine t_pd (k := k) (z := -1) X hT w (by omega) k_f_Po_13 d_Po_clear_25 (fun H locs w => ?_)
  obtain ⟨V1, eV1⟩ : ∃ U : Nat → PV, U = va_up V k (-1, (V k).2) := ⟨_, rfl⟩
  rw [← eV1] at w
  have hF : (V1 k).2 = fun _ => 0 := by
    funext x
    rw [eV1, va_up_self]
    show (V k).2 x = 0
    rw [hV2 x]
    split
    · rfl
    · exact hG.above (wd_le k) (by omega)
  refine w_vret X hr hlk w ?_ d_Po_clear_28
  rw [rV_of (G := G) (k := k) (F := fun _ => 0) (V := V1) (by rw [eV1, va_up_self, dg_0]) hF (by intro j hj; rw [eV1, va_up_ne _ _ hj]; exact hV3 j hj)]
section CF
variable {p : Program} {l : Launch} {e : Env} {R : Room} {s : State} {m : MethodId} {args : Array Value} {below : List Frame} {meth : Method} {c : Code} {H : Heap} {locs : List Loc} {cells slots : Nat} {Q : State → Prop} {D : va_G} {cs : Nat → ClassId} {A : Nat → Prop} {ad : Nat → Nat} {T : Nat}
variable {k q : Nat} {O : Nat → va_E}
theorem l_Po_copyFrom_7 (X : Cx p s m args c b_Po_copyFrom RPo) (hT : 132 ≤ T) (hk : k < 61) (hq : q < 61) (hkq : q ≠ k) {V0 : Nat → PV} {d b : Int} {F : Nat → Int} (hd : -1 ≤ d ∧ d < wd k) (hb : -1 ≤ b ∧ b < wd k)
    (K : ∀ (V : Nat → PV) (H : Heap) (locs : List Loc) (ls : Array Slot), Wd D cs A ad T s (mkV cs ad V O) H locs → (V k).1 = d → (∀ x : Nat, (V k).2 x = if b < x ∧ (x : Int) ≤ d then 0 else F x) → (∀ j, j ≠ k → V j = V0 j) → lv_has ls 3 [(0, .ref (ad (2 * k))), (1, .ref (ad (2 * q)))] → W p l e R s m args below meth c H locs cells slots Q (F0 m 28 ls [])) :
    ∀ (n i : Nat) (V : Nat → PV) (H : Heap) (locs : List Loc) (ls : Array Slot), d + 2 ≤ i + n → b + 1 ≤ i → Wd D cs A ad T s (mkV cs ad V O) H locs → (V k).1 = d → (∀ x : Nat, (V k).2 x = if b < x ∧ x < i then 0 else F x) → (∀ j, j ≠ k → V j = V0 j) → lv_has ls 3 [(0, .ref (ad (2 * k))), (1, .ref (ad (2 * q))), (2, .int (iI (i)))] → (i : Int) ≤ wd k → ((i : Int) ≤ d + 1 ∨ i = b + 1) → W p l e R s m args below meth c H locs cells slots Q (F0 m 7 ls []) := by
  have hw := wd_lt k
  intro n
  induction n with
  | zero =>
    intro i V H locs ls h1 h2 w hV1 hV2 hV3 hl h4 h5
    refine lv_iload_n X.1 X.2.1 d_Po_copyFrom_7 rfl (lv_at hl 2 rfl) ?_
    refine lv_aload_n X.1 X.2.1 d_Po_copyFrom_8 rfl (lv_at hl 0 rfl) ?_
    refine t_deg (k := k) X hT w (by omega) k_f_Po_13 d_Po_copyFrom_9 ?_
    refine i_gt (a := i) (b := (V k).1) (tgt := 28) X (by omega) (by omega) d_Po_copyFrom_12 (by decide) (fun h_12 => ?_) (fun h_12 => ?_)
    · exact K V H locs ls w hV1 (by intro x; rw [hV2 x]; split <;> split <;> first | rfl | (exfalso; omega)) hV3 (lv_sub hl [0, 1] rfl)
    · exact absurd h_12 (by omega)
  | succ n ih =>
    intro i V H locs ls h1 h2 w hV1 hV2 hV3 hl h4 h5
    refine lv_iload_n X.1 X.2.1 d_Po_copyFrom_7 rfl (lv_at hl 2 rfl) ?_
    refine lv_aload_n X.1 X.2.1 d_Po_copyFrom_8 rfl (lv_at hl 0 rfl) ?_
    refine t_deg (k := k) X hT w (by omega) k_f_Po_13 d_Po_copyFrom_9 ?_
    refine i_gt (a := i) (b := (V k).1) (tgt := 28) X (by omega) (by omega) d_Po_copyFrom_12 (by decide) (fun h_12 => ?_) (fun h_12 => ?_)
    · exact K V H locs ls w hV1 (by intro x; rw [hV2 x]; split <;> split <;> first | rfl | (exfalso; omega)) hV3 (lv_sub hl [0, 1] rfl)
    · refine lv_aload_n X.1 X.2.1 d_Po_copyFrom_15 rfl (lv_at hl 0 rfl) ?_
      refine t_co (k := k) X hT w (by omega) k_f_Po_7 d_Po_copyFrom_16 ?_
      refine lv_iload_n X.1 X.2.1 d_Po_copyFrom_19 rfl (lv_at hl 2 rfl) ?_
      refine lv_iconst (v := iI (0)) X.1 X.2.1 d_Po_copyFrom_20 (by decide) ?_
      refine t_st (k := k) (z := i) (v := 0) X hT w (by omega) (i) (by omega) (by omega) d_Po_copyFrom_21 (fun H locs w => ?_)
      obtain ⟨V1, eV1⟩ : ∃ U : Nat → PV, U = va_up V k ((V k).1, va_up (V k).2 i (0)) := ⟨_, rfl⟩
      rw [← eV1] at w
      refine i_inc (k := 2) (x := i) (lv' := [(2, .int (iI (i + 1))), (0, .ref (ad (2 * k))), (1, .ref (ad (2 * q)))]) X d_Po_copyFrom_22 hl rfl (by decide) rfl (fun ls hl => ?_)
      refine lv_goto (tgt := 7) X.1 X.2.1 d_Po_copyFrom_25 (by decide) ?_
      exact ih (i + 1) _ H locs ls (by omega) (by omega) w (by rw [eV1, va_up_self]; exact hV1) (by intro x; rw [eV1, va_up_self]; show va_up (V k).2 i 0 x = _; unfold va_up; rw [hV2 x]; split <;> split <;> first | rfl | (exfalso; omega) | (split <;> first | rfl | (exfalso; omega))) (by intro j hj; rw [eV1, va_up_ne _ _ hj]; exact hV3 j hj) (lv_sub hl [1, 2, 0] rfl) (by omega) (by omega)
theorem l_Po_copyFrom_30 (X : Cx p s m args c b_Po_copyFrom RPo) (hT : 132 ≤ T) (hk : k < 61) (hq : q < 61) (hkq : q ≠ k) {V0 : Nat → PV} {d b : Int} {F B : Nat → Int} (hb : -1 ≤ b ∧ b < wd k ∧ b < wd q) (hB1 : (V0 q).1 = b) (hB2 : (V0 q).2 = B)
    (K : ∀ (V : Nat → PV) (H : Heap) (locs : List Loc) (ls : Array Slot), Wd D cs A ad T s (mkV cs ad V O) H locs → (V k).1 = d → (∀ x : Nat, (V k).2 x = if (x : Int) ≤ b then B x else F x) → (∀ j, j ≠ k → V j = V0 j) → lv_has ls 3 [(0, .ref (ad (2 * k))), (1, .ref (ad (2 * q)))] → W p l e R s m args below meth c H locs cells slots Q (F0 m 56 ls [])) :
    ∀ (n i : Nat) (V : Nat → PV) (H : Heap) (locs : List Loc) (ls : Array Slot), b + 2 ≤ i + n → (i : Int) ≤ b + 1 → Wd D cs A ad T s (mkV cs ad V O) H locs → (V k).1 = d → (∀ x : Nat, (V k).2 x = if x < i then B x else F x) → (∀ j, j ≠ k → V j = V0 j) → lv_has ls 3 [(0, .ref (ad (2 * k))), (1, .ref (ad (2 * q))), (2, .int (iI (i)))] → W p l e R s m args below meth c H locs cells slots Q (F0 m 30 ls []) := by
  have hw := wd_lt k
  intro n
  induction n with
  | zero => intro i V H locs ls h1 h2; omega
  | succ n ih =>
    intro i V H locs ls h1 h2 w hV1 hV2 hV3 hl
    have hq1 : (V q).1 = b := by rw [hV3 q hkq]; exact hB1
    have hq2 : (V q).2 = B := by rw [hV3 q hkq]; exact hB2
    refine lv_iload_n X.1 X.2.1 d_Po_copyFrom_30 rfl (lv_at hl 2 rfl) ?_
    refine lv_aload_n X.1 X.2.1 d_Po_copyFrom_31 rfl (lv_at hl 1 rfl) ?_
    refine t_deg (k := q) X hT w (by omega) k_f_Po_13 d_Po_copyFrom_32 ?_
    refine i_gt (a := i) (b := (V q).1) (tgt := 56) X (by omega) (by omega) d_Po_copyFrom_35 (by decide) (fun h_35 => ?_) (fun h_35 => ?_)
    · exact K V H locs ls w hV1 (by intro x; rw [hV2 x]; split <;> split <;> first | rfl | (exfalso; omega)) hV3 (lv_sub hl [0, 1] rfl)
    · refine lv_aload_n X.1 X.2.1 d_Po_copyFrom_38 rfl (lv_at hl 0 rfl) ?_
      refine t_co (k := k) X hT w (by omega) k_f_Po_7 d_Po_copyFrom_39 ?_
      refine lv_iload_n X.1 X.2.1 d_Po_copyFrom_42 rfl (lv_at hl 2 rfl) ?_
      refine lv_aload_n X.1 X.2.1 d_Po_copyFrom_43 rfl (lv_at hl 1 rfl) ?_
      refine t_co (k := q) X hT w (by omega) k_f_Po_7 d_Po_copyFrom_44 ?_
      refine lv_iload_n X.1 X.2.1 d_Po_copyFrom_47 rfl (lv_at hl 2 rfl) ?_
      refine t_ld (k := q) (z := i) X hT w (by omega) (i) (by omega) (by omega) d_Po_copyFrom_48 ?_
      refine t_st (k := k) (z := i) (v := (V q).2 i) X hT w (by omega) (i) (by omega) (by omega) d_Po_copyFrom_49 (fun H locs w => ?_)
      obtain ⟨V1, eV1⟩ : ∃ U : Nat → PV, U = va_up V k ((V k).1, va_up (V k).2 i ((V q).2 i)) := ⟨_, rfl⟩
      rw [← eV1] at w
      refine i_inc (k := 2) (x := i) (lv' := [(2, .int (iI (i + 1))), (0, .ref (ad (2 * k))), (1, .ref (ad (2 * q)))]) X d_Po_copyFrom_50 hl rfl (by decide) rfl (fun ls hl => ?_)
      refine lv_goto (tgt := 30) X.1 X.2.1 d_Po_copyFrom_53 (by decide) ?_
      have hu : ∀ x : Nat, (V1 k).2 x = if x < i + 1 then B x else F x := by
        intro x
        rw [eV1, va_up_self]
        show va_up (V k).2 i ((V q).2 i) x = _
        by_cases hx : x = i
        · subst hx; rw [va_up_self, hq2, if_pos (by omega)]
        · rw [va_up_ne _ _ hx, hV2 x]; split <;> split <;> first | rfl | (exfalso; omega)
      exact ih (i + 1) _ H locs ls (by omega) (by omega) w (by rw [eV1, va_up_self]; exact hV1) hu (by intro j hj; rw [eV1, va_up_ne _ _ hj]; exact hV3 j hj) (lv_sub hl [1, 2, 0] rfl)
end CF
theorem c_Po_copyFrom {l : Launch} {D : va_G} {cs : Nat → ClassId} {A : Nat → Prop} {ad : Nat → Nat} {T : Nat} (hT : 132 ≤ T) {G : Nat → Nat → Int} {O : Nat → va_E} {k q : Nat} (hk : k < 61) (hq : q < 61) (hkq : q ≠ k) (hG : ok (wd k) (G k)) (hB : ok (wd q) (G q)) (hB2 : ok (wd k) (G q)) : Cv l y_Po_copyFrom ws_Po_copyFrom { frames := 0, cells := 0, slots := 0, locals := 0 } D cs A ad T [.ref (ad (2 * k)), .ref (ad (2 * q))] (mkV cs ad (rV G) O) (fun C' => C' = mkV cs ad (rV (va_up G k (G q))) O) := by
  refine w_bodyV (by decide) (Nat.le_of_ble_eq_true rfl) ?_
  intro p e s m below meth c X hr hlk hml w ls hl
  have hl : lv_has ls 3 [(0, .ref (ad (2 * k))), (1, .ref (ad (2 * q)))] := hl
  have hd := hG.dlt 300
  have hd0 := dg_ge 300 (G k)
  have hb := hB.dlt 300
  have hb2 := hB2.dlt 300
  have hb0 := dg_ge 300 (G q)
  have hwk := wd_lt k
  have hg1 : ((rV G) q).1 = dg 300 (G q) := rfl
  obtain ⟨i0, hi0⟩ := Int.eq_ofNat_of_zero_le (show 0 ≤ dg 300 (G q) + 1 by omega)
  refine lv_aload_n X.1 X.2.1 d_Po_copyFrom_0 rfl (lv_at hl 1 rfl) ?_
  refine t_deg (k := q) X hT w (by omega) k_f_Po_13 d_Po_copyFrom_1 ?_
  refine lv_iconst (v := iI (1)) X.1 X.2.1 d_Po_copyFrom_4 (by decide) ?_
  refine i_add (a := ((rV G) q).1) (b := 1) X d_Po_copyFrom_5 ?_
  refine lv_istore_n (lv' := [(2, .int (iI ((((rV G) q).1) + 1))), (0, .ref (ad (2 * k))), (1, .ref (ad (2 * q)))]) X.1 X.2.1 d_Po_copyFrom_6 rfl hl (by decide) rfl (fun ls hl => ?_)
  refine l_Po_copyFrom_7 X hT hk hq hkq (V0 := rV G) (d := dg 300 (G k)) (b := dg 300 (G q)) (F := G k) ⟨hd0, hd⟩ ⟨hb0, hb2⟩ (fun V H locs ls w hV1 hV2 hV3 hl => ?_) (dg 300 (G k) + 2).toNat i0 _ _ _ _ (by omega) (by omega) w rfl (fun x => by rw [if_neg (by omega)]; rfl) (fun _ _ => rfl) (by rw [← hi0]; exact lv_sub hl [1, 2, 0] rfl) (by omega) (by omega)
  refine lv_iconst (v := iI (0)) X.1 X.2.1 d_Po_copyFrom_28 (by decide) ?_
  refine lv_istore_n (lv' := [(2, .int (iI (0))), (0, .ref (ad (2 * k))), (1, .ref (ad (2 * q)))]) X.1 X.2.1 d_Po_copyFrom_29 rfl hl (by decide) rfl (fun ls hl => ?_)
  refine l_Po_copyFrom_30 X hT hk hq hkq (V0 := rV G) (d := dg 300 (G k)) (b := dg 300 (G q)) (F := (V k).2) (B := G q) ⟨hb0, hb2, hb⟩ rfl rfl (fun V' H locs ls w hW1 hW2 hW3 hl => ?_) (dg 300 (G q) + 2).toNat 0 _ _ _ _ (by omega) (by omega) w hV1 (fun x => by rw [if_neg (by omega)]) hV3 (lv_sub hl [1, 2, 0] rfl)
  refine lv_aload_n X.1 X.2.1 d_Po_copyFrom_56 rfl (lv_at hl 0 rfl) ?_
  refine lv_aload_n X.1 X.2.1 d_Po_copyFrom_57 rfl (lv_at hl 1 rfl) ?_
  refine t_deg (k := q) X hT w (by omega) k_f_Po_13 d_Po_copyFrom_58 ?_
  refine t_pd (k := k) (z := (V' q).1) X hT w (by omega) k_f_Po_13 d_Po_copyFrom_61 (fun H locs w => ?_)
  obtain ⟨V1, eV1⟩ : ∃ U : Nat → PV, U = va_up V' k ((V' q).1, (V' k).2) := ⟨_, rfl⟩
  rw [← eV1] at w
  have hF : (V1 k).2 = G q := by
    funext x
    rw [eV1, va_up_self]
    show (V' k).2 x = _
    rw [hW2 x]
    split
    · rfl
    · rw [hV2 x, hB.above (wd_le q) (by omega)]
      split
      · rfl
      · exact hG.above (wd_le k) (by omega)
  refine w_vret X hr hlk w ?_ d_Po_copyFrom_64
  rw [rV_of (G := G) (k := k) (F := G q) (V := V1) (by rw [eV1, va_up_self]; show (V' q).1 = _; rw [hW3 q hkq]; rfl) hF (by intro j hj; rw [eV1, va_up_ne _ _ hj]; exact hW3 j hj)]
end
section
section PU
variable {p : Program} {l : Launch} {e : Env} {R : Room} {s : State} {m : MethodId} {args : Array Value} {below : List Frame} {meth : Method} {c : Code} {H : Heap} {locs : List Loc} {cells slots : Nat} {Q : State → Prop} {D : va_G} {cs : Nat → ClassId} {A : Nat → Prop} {ad : Nat → Nat} {T : Nat}
variable {k : Nat} {O : Nat → va_E}
theorem l_Po_put (X : Cx p s m args c b_Po_put RPo) (hT : 132 ≤ T) (hk : k < 61) {V0 : Nat → PV} {F : Nat → Int} (hF : ok (wd k) F)
    (K : ∀ (V : Nat → PV) (H : Heap) (locs : List Loc) (ls : Array Slot), Wd D cs A ad T s (mkV cs ad V O) H locs → (V k).1 = dg 300 F → (V k).2 = F → (∀ j, j ≠ k → V j = V0 j) → W p l e R s m args below meth c H locs cells slots Q (F0 m 51 ls [])) :
    ∀ (n : Nat) (V : Nat → PV) (H : Heap) (locs : List Loc) (ls : Array Slot), (V k).1 + 2 ≤ n → -1 ≤ (V k).1 ∧ (V k).1 < wd k → Wd D cs A ad T s (mkV cs ad V O) H locs → (∀ x : Nat, (V k).1 < x → F x = 0) → (V k).2 = F → (∀ j, j ≠ k → V j = V0 j) → lv_has ls 3 [(0, .ref (ad (2 * k)))] → W p l e R s m args below meth c H locs cells slots Q (F0 m 19 ls []) := by
  have hw := wd_lt k
  have hw2 := wd_le k
  intro n
  induction n with
  | zero => intro V H locs ls h1 h2; omega
  | succ n ih =>
    intro V H locs ls h1 h2 w hV1 hV2 hV3 hl
    refine lv_aload_n X.1 X.2.1 d_Po_put_19 rfl (lv_at hl 0 rfl) ?_
    refine t_deg (k := k) X hT w (by omega) k_f_Po_13 d_Po_put_20 ?_
    refine z_lt (a := (V k).1) (tgt := 51) X (by omega) d_Po_put_23 (by decide) (fun h_23 => ?_) (fun h_23 => ?_)
    · exact K V H locs ls w (by refine (dg_eq (by omega) (by omega) (fun x hx => by omega) (fun x hx _ => hV1 x hx)).symm) hV2 hV3
    · refine lv_aload_n X.1 X.2.1 d_Po_put_26 rfl (lv_at hl 0 rfl) ?_
      refine t_co (k := k) X hT w (by omega) k_f_Po_7 d_Po_put_27 ?_
      refine lv_aload_n X.1 X.2.1 d_Po_put_30 rfl (lv_at hl 0 rfl) ?_
      refine t_deg (k := k) X hT w (by omega) k_f_Po_13 d_Po_put_31 ?_
      refine t_ld (k := k) (z := (V k).1) X hT w (by omega) ((V k).1.toNat) (by omega) (by omega) d_Po_put_34 ?_
      refine z_ne (a := (V k).2 ((V k).1.toNat)) (tgt := 51) X (by rw [hV2]; have := hF.1 (V k).1.toNat; omega) d_Po_put_35 (by decide) (fun h_35 => ?_) (fun h_35 => ?_)
      · exact K V H locs ls w (by refine (dg_eq (by omega) (by omega) (fun x hx => by rw [hV2] at h_35; rw [show x = (V k).1.toNat by omega]; exact h_35) (fun x hx _ => hV1 x hx)).symm) hV2 hV3
      · refine lv_aload_n X.1 X.2.1 d_Po_put_38 rfl (lv_at hl 0 rfl) ?_
        refine lv_dup X.1 X.2.1 d_Po_put_39 rfl ?_
        refine t_deg (k := k) X hT w (by omega) k_f_Po_13 d_Po_put_40 ?_
        refine lv_iconst (v := iI (1)) X.1 X.2.1 d_Po_put_43 (by decide) ?_
        refine i_sub (a := (V k).1) (b := 1) X d_Po_put_44 ?_
        refine t_pd (k := k) (z := ((V k).1) - 1) X hT w (by omega) k_f_Po_13 d_Po_put_45 (fun H locs w => ?_)
        obtain ⟨V1, eV1⟩ : ∃ U : Nat → PV, U = va_up V k (((V k).1) - 1, (V k).2) := ⟨_, rfl⟩
        rw [← eV1] at w
        refine lv_goto (tgt := 19) X.1 X.2.1 d_Po_put_48 (by decide) ?_
        refine ih V1 H locs ls ?_ ?_ w ?_ ?_ ?_ (lv_sub hl [0] rfl)
        · rw [eV1, va_up_self]; show (V k).1 - 1 + 2 ≤ _; omega
        · rw [eV1, va_up_self]; show -1 ≤ (V k).1 - 1 ∧ (V k).1 - 1 < _; omega
        · intro x hx
          rw [eV1, va_up_self] at hx
          have hx : (V k).1 - 1 < x := hx
          by_cases h9 : (x : Int) = (V k).1
          · rw [hV2] at h_35; rw [show x = (V k).1.toNat by omega]; exact h_35
          · exact hV1 x (by omega)
        · rw [eV1, va_up_self]; exact hV2
        · intro j hj; rw [eV1, va_up_ne _ _ hj]; exact hV3 j hj
end PU
theorem c_Po_put {l : Launch} {D : va_G} {cs : Nat → ClassId} {A : Nat → Prop} {ad : Nat → Nat} {T : Nat} (hT : 132 ≤ T) {G : Nat → Nat → Int} {O : Nat → va_E} {k i : Nat} {v : Int} (hk : k < 61) (hi : i < wd k) (hv : 0 ≤ v ∧ v < 13) (hG : ok (wd k) (G k)) : Cv l y_Po_put ws_Po_put { frames := 1, cells := 0, slots := 0, locals := 21 } D cs A ad T [.ref (ad (2 * k)), .int (iI (i)), .int (iI (v))] (mkV cs ad (rV G) O) (fun C' => C' = mkV cs ad (rV (va_up G k (va_up (G k) i v))) O) := by
  refine w_bodyV (by decide) (Nat.le_of_ble_eq_true rfl) ?_
  intro p e s m below meth c X hr hlk hml w ls hl
  have hl : lv_has ls 3 [(0, .ref (ad (2 * k))), (1, .int (iI (i))), (2, .int (iI (v)))] := hl
  have hd := hG.dlt 300
  have hd0 := dg_ge 300 (G k)
  have hw := wd_lt k
  have hF : ok (wd k) (va_up (G k) i v) := by
    refine ⟨fun x => ?_, fun x hx => ?_⟩
    · by_cases h : x = i
      · subst h; rw [va_up_self]; exact hv
      · rw [va_up_ne _ _ h]; exact hG.1 x
    · rw [va_up_ne _ _ (by omega)]; exact hG.2 x hx
  have hr1 : ∀ V1, V1 = va_up (rV G) k (((rV G) k).1, va_up ((rV G) k).2 i v) → (V1 k).1 = dg 300 (G k) := fun V1 h => by rw [h, va_up_self]; rfl
  refine lv_aload_n X.1 X.2.1 d_Po_put_0 rfl (lv_at hl 0 rfl) ?_
  refine t_co (k := k) X hT w (by omega) k_f_Po_7 d_Po_put_1 ?_
  refine lv_iload_n X.1 X.2.1 d_Po_put_4 rfl (lv_at hl 1 rfl) ?_
  refine lv_iload_n X.1 X.2.1 d_Po_put_5 rfl (lv_at hl 2 rfl) ?_
  refine t_st (k := k) (z := i) (v := v) X hT w (by omega) (i) (by omega) (by omega) d_Po_put_6 (fun H locs w => ?_)
  obtain ⟨V1, eV1⟩ : ∃ U : Nat → PV, U = va_up (rV G) k (((rV G) k).1, va_up ((rV G) k).2 i (v)) := ⟨_, rfl⟩
  rw [← eV1] at w
  refine lv_aload_n X.1 X.2.1 d_Po_put_7 rfl (lv_at hl 0 rfl) ?_
  refine lv_aload_n X.1 X.2.1 d_Po_put_8 rfl (lv_at hl 0 rfl) ?_
  refine t_deg (k := k) X hT w (by omega) k_f_Po_13 d_Po_put_9 ?_
  refine lv_iload_n X.1 X.2.1 d_Po_put_12 rfl (lv_at hl 1 rfl) ?_
  refine i_max (a := (V1 k).1) (b := i) X (by rw [hl.1]; exact hml) k_m_Po_17 (by rw [hr1 V1 eV1]; omega) (by omega) (Nat.le_of_ble_eq_true rfl) (Nat.le_of_ble_eq_true rfl) ⟨Nat.zero_le _, Nat.zero_le _⟩ d_Po_put_13 ?_
  refine t_pd (k := k) (z := max ((V1 k).1) (i)) X hT w (by omega) k_f_Po_13 d_Po_put_16 (fun H locs w => ?_)
  obtain ⟨V2, eV2⟩ : ∃ U : Nat → PV, U = va_up V1 k (max ((V1 k).1) (i), (V1 k).2) := ⟨_, rfl⟩
  rw [← eV2] at w
  have e1 : (V2 k).1 = max (dg 300 (G k)) i := by rw [eV2, va_up_self]; show max (V1 k).1 _ = _; rw [hr1 V1 eV1]
  have e2 : (V2 k).2 = va_up (G k) i v := by rw [eV2, va_up_self]; show (V1 k).2 = _; rw [eV1, va_up_self]; rfl
  refine l_Po_put X hT hk (V0 := rV G) hF (fun V H locs ls w hV1 hV2 hV3 => ?_) ((V2 k).1 + 2).toNat V2 _ _ _ (by omega) (by omega) w (fun x hx => ?_) e2 (fun j hj => by rw [eV2, va_up_ne _ _ hj, eV1, va_up_ne _ _ hj]) (lv_sub hl [0] rfl)
  · refine w_vret X hr hlk w ?_ d_Po_put_51
    rw [rV_of (G := G) (k := k) (V := V) hV1 hV2 hV3]
  · rw [va_up_ne _ _ (by omega)]
    exact hG.above (wd_le k) (by omega)
theorem c_Po_becomePowerOfX {l : Launch} {D : va_G} {cs : Nat → ClassId} {A : Nat → Prop} {ad : Nat → Nat} {T : Nat} (hT : 132 ≤ T) {G : Nat → Nat → Int} {O : Nat → va_E} {k i : Nat} (hk : k < 61) (hi : i < wd k) (hG : ok (wd k) (G k)) : Cv l y_Po_becomePowerOfX ws_Po_becomePowerOfX { frames := 1, cells := 0, slots := 0, locals := 21 } D cs A ad T [.ref (ad (2 * k)), .int (iI (i))] (mkV cs ad (rV G) O) (fun C' => C' = mkV cs ad (rV (va_up G k (fun x => if x = i then 1 else 0))) O) := by
  refine w_bodyV (by decide) (Nat.le_of_ble_eq_true rfl) ?_
  intro p e s m below meth c X hr hlk hml w ls hl
  have hl : lv_has ls 2 [(0, .ref (ad (2 * k))), (1, .int (iI (i)))] := hl
  have hw := wd_lt k
  have hw2 := wd_le k
  refine lv_aload_n X.1 X.2.1 d_Po_becomePowerOfX_0 rfl (lv_at hl 0 rfl) ?_
  refine w_cVv (n := 0) (i := 2 * k) (ci := 0) (As := []) (rest := []) X w hml hl.1 (c_Po_clear hT (G := G) (k := k) hk hG) (by omega) (mkV_o hk) rfl k_m_Po_23 k_im_Po_clear k_se_Po_clear k_i_Po k_co_Po_clear (by decide +kernel) rfl ⟨Nat.le_of_ble_eq_true rfl, Nat.le_of_ble_eq_true rfl⟩ ⟨rfl, rfl⟩ ⟨Nat.zero_le _, Nat.zero_le _⟩ rfl (Nat.le_of_ble_eq_true rfl) d_Po_becomePowerOfX_1 (fun C' H locs hp w => ?_)
  subst hp
  refine lv_aload_n X.1 X.2.1 d_Po_becomePowerOfX_4 rfl (lv_at hl 0 rfl) ?_
  refine t_co (k := k) X hT w (by omega) k_f_Po_7 d_Po_becomePowerOfX_5 ?_
  refine lv_iload_n X.1 X.2.1 d_Po_becomePowerOfX_8 rfl (lv_at hl 1 rfl) ?_
  refine lv_iconst (v := iI (1)) X.1 X.2.1 d_Po_becomePowerOfX_9 (by decide) ?_
  refine t_st (k := k) (z := i) (v := 1) X hT w (by omega) (i) (by omega) (by omega) d_Po_becomePowerOfX_10 (fun H locs w => ?_)
  obtain ⟨V1, eV1⟩ : ∃ U : Nat → PV, U = va_up (rV (va_up G k (fun _ => 0))) k (((rV (va_up G k (fun _ => 0))) k).1, va_up ((rV (va_up G k (fun _ => 0))) k).2 i (1)) := ⟨_, rfl⟩
  rw [← eV1] at w
  refine lv_aload_n X.1 X.2.1 d_Po_becomePowerOfX_11 rfl (lv_at hl 0 rfl) ?_
  refine lv_iload_n X.1 X.2.1 d_Po_becomePowerOfX_12 rfl (lv_at hl 1 rfl) ?_
  refine t_pd (k := k) (z := i) X hT w (by omega) k_f_Po_13 d_Po_becomePowerOfX_13 (fun H locs w => ?_)
  obtain ⟨V2, eV2⟩ : ∃ U : Nat → PV, U = va_up V1 k (i, (V1 k).2) := ⟨_, rfl⟩
  rw [← eV2] at w
  refine w_vret X hr hlk w ?_ d_Po_becomePowerOfX_16
  rw [rV_of (G := G) (k := k) (F := fun x => if x = i then 1 else 0) (V := V2) ?_ ?_ ?_]
  · rw [eV2, va_up_self]
    refine (dg_eq (by omega) (by omega) (fun x hx => ?_) (fun x hx _ => ?_)).symm
    · rw [if_pos (by omega)]; decide
    · rw [if_neg (by omega)]
  · rw [eV2, va_up_self]
    show (V1 k).2 = _
    rw [eV1, va_up_self, rV_up, va_up_self]
    funext x
    show va_up _ i 1 x = _
    unfold va_up
    rfl
  · intro j hj
    rw [eV2, va_up_ne _ _ hj, eV1, va_up_ne _ _ hj, rV_up, va_up_ne _ _ hj]
theorem c_Po_lead {l : Launch} {D : va_G} {cs : Nat → ClassId} {A : Nat → Prop} {ad : Nat → Nat} {T : Nat} (hT : 132 ≤ T) {G : Nat → Nat → Int} {O : Nat → va_E} {k : Nat} (hk : k < 61) (hG : ok (wd k) (G k)) : Ci l y_Po_lead ws_Po_lead { frames := 0, cells := 0, slots := 0, locals := 0 } D cs A ad T [.ref (ad (2 * k))] (mkV cs ad (rV G) O) (fun r C' => r = iI (if dg 300 (G k) < 0 then 0 else G k (dg 300 (G k)).toNat) ∧ C' = mkV cs ad (rV G) O) := by
  refine w_bodyI (by decide) (Nat.le_of_ble_eq_true rfl) ?_
  intro p e s m below meth c X hr hlk hml w ls hl
  have hl : lv_has ls 1 [(0, .ref (ad (2 * k)))] := hl
  have hd := hG.dlt 300
  have hd0 := dg_ge 300 (G k)
  have hw := wd_lt k
  have e1 : ((rV G) k).1 = dg 300 (G k) := rfl
  refine lv_aload_n X.1 X.2.1 d_Po_lead_0 rfl (lv_at hl 0 rfl) ?_
  refine t_deg (k := k) X hT w (by omega) k_f_Po_13 d_Po_lead_1 ?_
  refine z_ge (a := ((rV G) k).1) (tgt := 11) X (by omega) d_Po_lead_4 (by decide) (fun h_4 => ?_) (fun h_4 => ?_)
  · refine lv_aload_n X.1 X.2.1 d_Po_lead_11 rfl (lv_at hl 0 rfl) ?_
    refine t_co (k := k) X hT w (by omega) k_f_Po_7 d_Po_lead_12 ?_
    refine lv_aload_n X.1 X.2.1 d_Po_lead_15 rfl (lv_at hl 0 rfl) ?_
    refine t_deg (k := k) X hT w (by omega) k_f_Po_13 d_Po_lead_16 ?_
    refine t_ld (k := k) (z := ((rV G) k).1) X hT w (by omega) ((dg 300 (G k)).toNat) (by omega) (by omega) d_Po_lead_19 ?_
    exact w_iret X hr hlk w ⟨by rw [if_neg (by omega)]; rfl, rfl⟩ d_Po_lead_20
  · refine lv_iconst (v := iI (0)) X.1 X.2.1 d_Po_lead_7 (by decide) ?_
    refine lv_goto (tgt := 20) X.1 X.2.1 d_Po_lead_8 (by decide) ?_
    exact w_iret X hr hlk w ⟨by rw [if_pos (by omega)], rfl⟩ d_Po_lead_20
theorem c_Po_isOne {l : Launch} {D : va_G} {cs : Nat → ClassId} {A : Nat → Prop} {ad : Nat → Nat} {T : Nat} (hT : 132 ≤ T) {G : Nat → Nat → Int} {O : Nat → va_E} {k : Nat} (hk : k < 61) (hG : ok (wd k) (G k)) : Ci l y_Po_isOne ws_Po_isOne { frames := 0, cells := 0, slots := 0, locals := 0 } D cs A ad T [.ref (ad (2 * k))] (mkV cs ad (rV G) O) (fun r C' => r = (if dg 300 (G k) = 0 ∧ G k 0 = 1 then 1 else 0) ∧ C' = mkV cs ad (rV G) O) := by
  refine w_bodyI (by decide) (Nat.le_of_ble_eq_true rfl) ?_
  intro p e s m below meth c X hr hlk hml w ls hl
  have hl : lv_has ls 1 [(0, .ref (ad (2 * k)))] := hl
  have hd := hG.dlt 300
  have hd0 := dg_ge 300 (G k)
  have hw := wd_lt k
  have hw2 := wd_ge k
  have h0 := hG.1 0
  have e1 : ((rV G) k).1 = dg 300 (G k) := rfl
  have e2 : ((rV G) k).2 0 = G k 0 := rfl
  refine lv_aload_n X.1 X.2.1 d_Po_isOne_0 rfl (lv_at hl 0 rfl) ?_
  refine t_deg (k := k) X hT w (by omega) k_f_Po_13 d_Po_isOne_1 ?_
  refine z_ne (a := ((rV G) k).1) (tgt := 21) X (by omega) d_Po_isOne_4 (by decide) (fun h_4 => ?_) (fun h_4 => ?_)
  · refine lv_iconst (v := iI (0)) X.1 X.2.1 d_Po_isOne_21 (by decide) ?_
    exact w_zret X hr rfl hlk w ⟨by rw [if_neg (fun h => by omega)]; rfl, rfl⟩ d_Po_isOne_22
  · refine lv_aload_n X.1 X.2.1 d_Po_isOne_7 rfl (lv_at hl 0 rfl) ?_
    refine t_co (k := k) X hT w (by omega) k_f_Po_7 d_Po_isOne_8 ?_
    refine lv_iconst (v := iI (0)) X.1 X.2.1 d_Po_isOne_11 (by decide) ?_
    refine t_ld (k := k) (z := 0) X hT w (by omega) (0) (by omega) (by omega) d_Po_isOne_12 ?_
    refine lv_iconst (v := iI (1)) X.1 X.2.1 d_Po_isOne_13 (by decide) ?_
    refine i_ne (a := ((rV G) k).2 0) (b := 1) (tgt := 21) X (by omega) (by omega) d_Po_isOne_14 (by decide) (fun h_14 => ?_) (fun h_14 => ?_)
    · refine lv_iconst (v := iI (0)) X.1 X.2.1 d_Po_isOne_21 (by decide) ?_
      exact w_zret X hr rfl hlk w ⟨by rw [if_neg (fun h => by omega)]; rfl, rfl⟩ d_Po_isOne_22
    · refine lv_iconst (v := iI (1)) X.1 X.2.1 d_Po_isOne_17 (by decide) ?_
      refine lv_goto (tgt := 22) X.1 X.2.1 d_Po_isOne_18 (by decide) ?_
      exact w_zret X hr rfl hlk w ⟨by rw [if_pos ⟨by omega, by omega⟩]; rfl, rfl⟩ d_Po_isOne_22
end
section
/-- does F come before B: by degree, then by the coefficients from the top -/
def befL (F B : Nat → Int) : Nat → Bool
  | 0 => false
  | n + 1 => if F n = B n then befL F B n else decide (F n < B n)
def bef (F B : Nat → Int) : Bool := if dg 300 F = dg 300 B then befL F B (dg 300 F + 1).toNat else decide (dg 300 F < dg 300 B)
def bI (b : Bool) : Int32 := if b then iI 1 else iI 0
section CB
variable {p : Program} {l : Launch} {e : Env} {R : Room} {s : State} {m : MethodId} {args : Array Value} {below : List Frame} {meth : Method} {c : Code} {H : Heap} {locs : List Loc} {cells slots : Nat} {Q : State → Prop} {D : va_G} {cs : Nat → ClassId} {A : Nat → Prop} {ad : Nat → Nat} {T : Nat}
variable {k q : Nat} {G : Nat → Nat → Int} {O : Nat → va_E}
theorem l_Po_comesBefore {post : Int32 → (Nat → va_E) → Prop} (X : Cx p s m args c b_Po_comesBefore RPo) (hr : meth.sig.returnType = some .boolean) (hlk : meth.locks = false) (hT : 132 ≤ T) (hk : k < 61) (hq : q < 61) (hG : ok (wd k) (G k)) (hB : ok (wd q) (G q)) (w : Wd D cs A ad T s (mkV cs ad (rV G) O) H locs) (N : Nat) (hN : N ≤ wd k ∧ N ≤ wd q) (hp : post (bI (befL (G k) (G q) N)) (mkV cs ad (rV G) O)) :
    ∀ (n : Nat) (ls : Array Slot), n ≤ N → befL (G k) (G q) N = befL (G k) (G q) n → lv_has ls 3 [(0, .ref (ad (2 * k))), (1, .ref (ad (2 * q))), (2, .int (iI ((n : Int) - 1)))] → W p l e R s m args below meth c H locs 0 0 (MQ below (va_Qi post (QW D cs ad T) A) args s 0 0 A) (F0 m 33 ls []) := by
  have hw := wd_lt k
  intro n
  induction n with
  | zero =>
    intro ls hn hbe hl
    rw [hbe] at hp
    refine lv_iload_n X.1 X.2.1 d_Po_comesBefore_33 rfl (lv_at hl 2 rfl) ?_
    refine z_lt (a := ((0 : Nat) : Int) - 1) (tgt := 79) X (by omega) d_Po_comesBefore_34 (by decide) (fun h_34 => ?_) (fun h_34 => ?_)
    · refine lv_iconst (v := iI (0)) X.1 X.2.1 d_Po_comesBefore_79 (by decide) ?_
      exact w_zret X hr rfl hlk w hp d_Po_comesBefore_80
    · exact absurd h_34 (by omega)
  | succ n ih =>
    intro ls hn hbe hl
    have b1 := hG.1 n
    have b2 := hB.1 n
    have e1 : ((rV G) k).2 n = G k n := rfl
    have e2 : ((rV G) q).2 n = G q n := rfl
    refine lv_iload_n X.1 X.2.1 d_Po_comesBefore_33 rfl (lv_at hl 2 rfl) ?_
    refine z_lt (a := ((n + 1 : Nat) : Int) - 1) (tgt := 79) X (by omega) d_Po_comesBefore_34 (by decide) (fun h_34 => ?_) (fun h_34 => ?_)
    · exact absurd h_34 (by omega)
    · refine lv_aload_n X.1 X.2.1 d_Po_comesBefore_37 rfl (lv_at hl 0 rfl) ?_
      refine t_co (k := k) X hT w (by omega) k_f_Po_7 d_Po_comesBefore_38 ?_
      refine lv_iload_n X.1 X.2.1 d_Po_comesBefore_41 rfl (lv_at hl 2 rfl) ?_
      refine t_ld (k := k) (z := ((n + 1 : Nat) : Int) - 1) X hT w (by omega) (n) (by omega) (by omega) d_Po_comesBefore_42 ?_
      refine lv_aload_n X.1 X.2.1 d_Po_comesBefore_43 rfl (lv_at hl 1 rfl) ?_
      refine t_co (k := q) X hT w (by omega) k_f_Po_7 d_Po_comesBefore_44 ?_
      refine lv_iload_n X.1 X.2.1 d_Po_comesBefore_47 rfl (lv_at hl 2 rfl) ?_
      refine t_ld (k := q) (z := ((n + 1 : Nat) : Int) - 1) X hT w (by omega) (n) (by omega) (by omega) d_Po_comesBefore_48 ?_
      refine i_eq (a := ((rV G) k).2 n) (b := ((rV G) q).2 n) (tgt := 73) X (by omega) (by omega) d_Po_comesBefore_49 (by decide) (fun h_49 => ?_) (fun h_49 => ?_)
      · refine i_inc (k := 2) (x := ((n + 1 : Nat) : Int) - 1) (lv' := [(2, .int (iI ((((n + 1 : Nat) : Int) - 1) + (-1)))), (0, .ref (ad (2 * k))), (1, .ref (ad (2 * q)))]) X d_Po_comesBefore_73 hl rfl (by decide) rfl (fun ls hl => ?_)
        refine lv_goto (tgt := 33) X.1 X.2.1 d_Po_comesBefore_76 (by decide) ?_
        refine ih ls (by omega) ?_ ?_
        · rw [hbe]; show (if _ then _ else _) = _; rw [if_pos (by omega)]
        · rw [show (n : Int) - 1 = ((n + 1 : Nat) : Int) - 1 + (-1) by omega]; exact lv_sub hl [1, 2, 0] rfl
      · refine lv_aload_n X.1 X.2.1 d_Po_comesBefore_52 rfl (lv_at hl 0 rfl) ?_
        refine t_co (k := k) X hT w (by omega) k_f_Po_7 d_Po_comesBefore_53 ?_
        refine lv_iload_n X.1 X.2.1 d_Po_comesBefore_56 rfl (lv_at hl 2 rfl) ?_
        refine t_ld (k := k) (z := ((n + 1 : Nat) : Int) - 1) X hT w (by omega) (n) (by omega) (by omega) d_Po_comesBefore_57 ?_
        refine lv_aload_n X.1 X.2.1 d_Po_comesBefore_58 rfl (lv_at hl 1 rfl) ?_
        refine t_co (k := q) X hT w (by omega) k_f_Po_7 d_Po_comesBefore_59 ?_
        refine lv_iload_n X.1 X.2.1 d_Po_comesBefore_62 rfl (lv_at hl 2 rfl) ?_
        refine t_ld (k := q) (z := ((n + 1 : Nat) : Int) - 1) X hT w (by omega) (n) (by omega) (by omega) d_Po_comesBefore_63 ?_
        refine i_ge (a := ((rV G) k).2 n) (b := ((rV G) q).2 n) (tgt := 71) X (by omega) (by omega) d_Po_comesBefore_64 (by decide) (fun h_64 => ?_) (fun h_64 => ?_)
        · refine lv_iconst (v := iI (0)) X.1 X.2.1 d_Po_comesBefore_71 (by decide) ?_
          refine w_zret X hr rfl hlk w ?_ d_Po_comesBefore_72
          rw [hbe] at hp
          unfold befL at hp
          rw [if_neg (by omega), decide_eq_false (by omega)] at hp
          exact hp
        · refine lv_iconst (v := iI (1)) X.1 X.2.1 d_Po_comesBefore_67 (by decide) ?_
          refine lv_goto (tgt := 72) X.1 X.2.1 d_Po_comesBefore_68 (by decide) ?_
          refine w_zret X hr rfl hlk w ?_ d_Po_comesBefore_72
          rw [hbe] at hp
          unfold befL at hp
          rw [if_neg (by omega), decide_eq_true (by omega)] at hp
          exact hp
end CB
theorem c_Po_comesBefore {l : Launch} {D : va_G} {cs : Nat → ClassId} {A : Nat → Prop} {ad : Nat → Nat} {T : Nat} (hT : 132 ≤ T) {G : Nat → Nat → Int} {O : Nat → va_E} {k q : Nat} (hk : k < 61) (hq : q < 61) (hG : ok (wd k) (G k)) (hB : ok (wd q) (G q)) : Ci l y_Po_comesBefore ws_Po_comesBefore { frames := 0, cells := 0, slots := 0, locals := 0 } D cs A ad T [.ref (ad (2 * k)), .ref (ad (2 * q))] (mkV cs ad (rV G) O) (fun r C' => r = bI (bef (G k) (G q)) ∧ C' = mkV cs ad (rV G) O) := by
  refine w_bodyI (by decide) (Nat.le_of_ble_eq_true rfl) ?_
  intro p e s m below meth c X hr hlk hml w ls hl
  have hl : lv_has ls 3 [(0, .ref (ad (2 * k))), (1, .ref (ad (2 * q)))] := hl
  have hd := hG.dlt 300
  have hd0 := dg_ge 300 (G k)
  have hb := hB.dlt 300
  have hb0 := dg_ge 300 (G q)
  have hw := wd_lt k
  have hw2 := wd_lt q
  have e1 : ((rV G) k).1 = dg 300 (G k) := rfl
  have e2 : ((rV G) q).1 = dg 300 (G q) := rfl
  refine lv_aload_n X.1 X.2.1 d_Po_comesBefore_0 rfl (lv_at hl 0 rfl) ?_
  refine t_deg (k := k) X hT w (by omega) k_f_Po_13 d_Po_comesBefore_1 ?_
  refine lv_aload_n X.1 X.2.1 d_Po_comesBefore_4 rfl (lv_at hl 1 rfl) ?_
  refine t_deg (k := q) X hT w (by omega) k_f_Po_13 d_Po_comesBefore_5 ?_
  refine i_eq (a := ((rV G) k).1) (b := ((rV G) q).1) (tgt := 28) X (by omega) (by omega) d_Po_comesBefore_8 (by decide) (fun h_8 => ?_) (fun h_8 => ?_)
  · refine lv_aload_n X.1 X.2.1 d_Po_comesBefore_28 rfl (lv_at hl 0 rfl) ?_
    refine t_deg (k := k) X hT w (by omega) k_f_Po_13 d_Po_comesBefore_29 ?_
    refine lv_istore_n (lv' := [(2, .int (iI (((rV G) k).1))), (0, .ref (ad (2 * k))), (1, .ref (ad (2 * q)))]) X.1 X.2.1 d_Po_comesBefore_32 rfl hl (by decide) rfl (fun ls hl => ?_)
    refine l_Po_comesBefore X hr hlk hT hk hq hG hB w (dg 300 (G k) + 1).toNat (by omega) ⟨?_, rfl⟩ _ ls (Nat.le_refl _) rfl ?_
    · rw [show (((dg 300 (G k) + 1).toNat : Nat) : Int) - 1 = ((rV G) k).1 by omega]; exact lv_sub hl [1, 2, 0] rfl
    · unfold bef; rw [if_pos (by omega)]
  · refine lv_aload_n X.1 X.2.1 d_Po_comesBefore_11 rfl (lv_at hl 0 rfl) ?_
    refine t_deg (k := k) X hT w (by omega) k_f_Po_13 d_Po_comesBefore_12 ?_
    refine lv_aload_n X.1 X.2.1 d_Po_comesBefore_15 rfl (lv_at hl 1 rfl) ?_
    refine t_deg (k := q) X hT w (by omega) k_f_Po_13 d_Po_comesBefore_16 ?_
    refine i_ge (a := ((rV G) k).1) (b := ((rV G) q).1) (tgt := 26) X (by omega) (by omega) d_Po_comesBefore_19 (by decide) (fun h_19 => ?_) (fun h_19 => ?_)
    · refine lv_iconst (v := iI (0)) X.1 X.2.1 d_Po_comesBefore_26 (by decide) ?_
      refine w_zret X hr rfl hlk w ⟨?_, rfl⟩ d_Po_comesBefore_27
      unfold bef
      rw [if_neg (by omega), decide_eq_false (by omega)]
      rfl
    · refine lv_iconst (v := iI (1)) X.1 X.2.1 d_Po_comesBefore_22 (by decide) ?_
      refine lv_goto (tgt := 27) X.1 X.2.1 d_Po_comesBefore_23 (by decide) ?_
      refine w_zret X hr rfl hlk w ⟨?_, rfl⟩ d_Po_comesBefore_27
      unfold bef
      rw [if_neg (by omega), decide_eq_true (by omega)]
      rfl
/-! Arithmetic: its object at the place 123, its row of inverses at 124 -/
def arF (ad : Nat → Nat) (pr : Int) : List Value := [.int (iI pr), .ref (ad (2 * 0)), .ref (ad 124), .ref (ad (2 * 1)), .ref (ad (2 * 2)), .ref (ad (2 * 3)), .ref (ad (2 * 4)), .ref (ad (2 * 5)), .ref (ad (2 * 6))]
/-- the rows' field: pr is one of the six, inv holds the inverses -/
def arO (cs : Nat → ClassId) (ad : Nat → Nat) (pr : Int) (inv : Nat → Int) (O : Nat → va_E) : Prop := O 123 = .inr (1, arF ad pr) ∧ O 124 = aI cs 13 inv ∧ (2 ≤ pr ∧ pr ≤ 13) ∧ ∀ v : Nat, 1 ≤ v → (v : Int) < pr → (1 ≤ inv v ∧ inv v < pr) ∧ (v * inv v) % pr = 1
def okp (pr : Int) (n : Nat) (F : Nat → Int) : Prop := (∀ x, 0 ≤ F x ∧ F x < pr) ∧ ∀ x, n ≤ x → F x = 0
theorem okp.ok {pr : Int} {n : Nat} {F : Nat → Int} (h : okp pr n F) (hp : pr ≤ 13) : ok n F := ⟨fun x => ⟨(h.1 x).1, by have := (h.1 x).2; omega⟩, h.2⟩
/-- F + f x^t B, modulo pr -/
def addS (pr : Int) (F : Nat → Int) (f : Int) (t : Nat) (B : Nat → Int) : Nat → Int := fun x => if x < t then F x else (F x + f * B (x - t)) % pr
theorem addS_ok {pr : Int} {n t : Nat} {F B : Nat → Int} {f : Int} (hp : 0 < pr) (hF : okp pr n F) (hB : ∀ x, n ≤ x + t → B x = 0) : okp pr n (addS pr F f t B) := by
  refine ⟨fun x => ?_, fun x hx => ?_⟩
  · unfold addS
    split
    · exact hF.1 x
    · exact ⟨Int.emod_nonneg _ (by omega), Int.emod_lt_of_pos _ hp⟩
  · unfold addS
    split
    · exact hF.2 x hx
    · rw [hF.2 x hx, hB (x - t) (by omega)]; simp
section AT
variable {p : Program} {l : Launch} {e : Env} {R : Room} {s : State} {m : MethodId} {args : Array Value} {below : List Frame} {meth : Method} {c : Code} {H : Heap} {locs : List Loc} {cells slots : Nat} {Q : State → Prop} {D : va_G} {cs : Nat → ClassId} {A : Nat → Prop} {ad : Nat → Nat} {T : Nat}
variable {cc : ByteArray} {own : String} {pc : Nat} {ls : Array Slot} {rest st : List Value} {V : Nat → PV} {O : Nat → va_E} {pr : Int} {inv : Nat → Int}
theorem t_ar {index : Nat} (X : Cx p s m args c cc own) (hT : 132 ≤ T) (w : Wd D cs A ad T s (mkV cs ad V O) H locs) (hO : arO cs ad pr inv O) (k : Nat) (hk : k < 9) (hlink : Cond.fieldLink own index (FAr k).1 (FAr k).2.1 (FAr k).2.2.1 ∈ TB) {v : Value} (hv : (arF ad pr)[k]? = some v) (hdg : decode cc pc = .ok (.getfield index, 3))
    (kk : W p l e R s m args below meth c H locs cells slots Q (F0 m (pc + 3) ls (v :: rest))) : W p l e R s m args below meth c H locs cells slots Q (F0 m pc ls (.ref (ad 123) :: rest)) :=
  w_get X w (Nat.lt_of_lt_of_le (by decide) hT) (by rw [mkV_O (by decide)]; exact hO.1) (ci := 1) rfl k_l_Ar k hk hlink hv hdg kk
theorem t_in {z : Int} (X : Cx p s m args c cc own) (hT : 132 ≤ T) (w : Wd D cs A ad T s (mkV cs ad V O) H locs) (hO : arO cs ad pr inv O) (j : Nat) (hz : z = (j : Int)) (hj : j < 13) (hdg : decode cc pc = .ok (.iaload, 1))
    (kk : W p l e R s m args below meth c H locs cells slots Q (F0 m (pc + 1) ls (.int (iI (inv j)) :: rest))) : W p l e R s m args below meth c H locs cells slots Q (F0 m pc ls (.int (iI z) :: .ref (ad 124) :: rest)) :=
  w_ild X w (Nat.lt_of_lt_of_le (by decide) hT) (by rw [mkV_O (by decide)]; exact hO.2.1) j hz hj (by decide) hdg kk
end AT
section AS
variable {p : Program} {l : Launch} {e : Env} {R : Room} {s : State} {m : MethodId} {args : Array Value} {below : List Frame} {meth : Method} {c : Code} {H : Heap} {locs : List Loc} {cells slots : Nat} {Q : State → Prop} {D : va_G} {cs : Nat → ClassId} {A : Nat → Prop} {ad : Nat → Nat} {T : Nat}
variable {k q t : Nat} {f : Int} {O : Nat → va_E} {pr : Int} {inv : Nat → Int}
theorem l_Ar_addShifted_12 (X : Cx p s m args c b_Ar_addShifted RAr) (hT : 132 ≤ T) (hO : arO cs ad pr inv O) (hk : k < 61) (hq : q < 61) (hkq : q ≠ k) {V0 : Nat → PV} {d b : Int} {F B : Nat → Int} (hF : okp pr (wd k) F) (hB : ok (wd q) B) (hf : 0 ≤ f ∧ f ≤ 1000) (hb : -1 ≤ b ∧ b < wd q ∧ b + t < wd k) (hB1 : (V0 q).1 = b) (hB2 : (V0 q).2 = B)
    (K : ∀ (V : Nat → PV) (H : Heap) (locs : List Loc) (ls : Array Slot), Wd D cs A ad T s (mkV cs ad V O) H locs → (V k).1 = d → (∀ x : Nat, (V k).2 x = if t ≤ x ∧ (x : Int) ≤ t + b then (F x + f * B (x - t)) % pr else F x) → (∀ j, j ≠ k → V j = V0 j) → lv_has ls 7 [(0, .ref (ad (123))), (1, .ref (ad (2 * k))), (2, .int (iI (f))), (3, .int (iI (t))), (4, .ref (ad (2 * q)))] → W p l e R s m args below meth c H locs cells slots Q (F0 m 64 ls [])) :
    ∀ (n i : Nat) (V : Nat → PV) (H : Heap) (locs : List Loc) (ls : Array Slot), b + 2 ≤ i + n → (i : Int) ≤ b + 1 → Wd D cs A ad T s (mkV cs ad V O) H locs → (V k).1 = d → (∀ x : Nat, (V k).2 x = if t ≤ x ∧ x < t + i then (F x + f * B (x - t)) % pr else F x) → (∀ j, j ≠ k → V j = V0 j) → lv_has ls 7 [(0, .ref (ad (123))), (1, .ref (ad (2 * k))), (2, .int (iI (f))), (3, .int (iI (t))), (4, .ref (ad (2 * q))), (5, .int (iI (i)))] → W p l e R s m args below meth c H locs cells slots Q (F0 m 12 ls []) := by
  have hw := wd_lt k
  have hw2 := wd_lt q
  have hpr := hO.2.2.1
  intro n
  induction n with
  | zero => intro i V H locs ls h1 h2; omega
  | succ n ih =>
    intro i V H locs ls h1 h2 w hV1 hV2 hV3 hl
    have hq1 : (V q).1 = b := by rw [hV3 q hkq]; exact hB1
    have hq2 : (V q).2 = B := by rw [hV3 q hkq]; exact hB2
    have hx := hV2 (i + t)
    rw [if_neg (by omega)] at hx
    have hx2 := hF.1 (i + t)
    have hx3 := hB.1 i
    have hm : 0 ≤ f * (V q).2 i ∧ f * (V q).2 i ≤ 13000 := by
      rw [hq2]
      refine ⟨Int.mul_nonneg hf.1 hx3.1, ?_⟩
      have := Int.mul_le_mul hf.2 (show B i ≤ 13 by omega) hx3.1 (by decide)
      omega
    refine lv_iload X.1 X.2.1 d_Ar_addShifted_12 (lv_at hl 5 rfl) ?_
    refine lv_aload X.1 X.2.1 d_Ar_addShifted_14 (lv_at hl 4 rfl) ?_
    refine t_deg (k := q) X hT w (by omega) k_f_Ar_52 d_Ar_addShifted_16 ?_
    refine i_gt (a := i) (b := (V q).1) (tgt := 64) X (by omega) (by omega) d_Ar_addShifted_19 (by decide) (fun h_19 => ?_) (fun h_19 => ?_)
    · exact K V H locs ls w hV1 (by intro x; rw [hV2 x]; split <;> split <;> first | rfl | (exfalso; omega)) hV3 (lv_sub hl [0, 1, 2, 3, 4] rfl)
    · refine lv_iload X.1 X.2.1 d_Ar_addShifted_22 (lv_at hl 5 rfl) ?_
      refine lv_iload_n X.1 X.2.1 d_Ar_addShifted_24 rfl (lv_at hl 3 rfl) ?_
      refine i_add (a := i) (b := t) X d_Ar_addShifted_25 ?_
      refine lv_istore (lv' := [(6, .int (iI (i + t))), (0, .ref (ad (123))), (1, .ref (ad (2 * k))), (2, .int (iI (f))), (3, .int (iI (t))), (4, .ref (ad (2 * q))), (5, .int (iI (i)))]) X.1 X.2.1 d_Ar_addShifted_26 hl (by decide) rfl (fun ls hl => ?_)
      refine lv_aload_n X.1 X.2.1 d_Ar_addShifted_28 rfl (lv_at hl 2 rfl) ?_
      refine t_co (k := k) X hT w (by omega) k_f_Ar_55 d_Ar_addShifted_29 ?_
      refine lv_iload X.1 X.2.1 d_Ar_addShifted_32 (lv_at hl 0 rfl) ?_
      refine lv_aload_n X.1 X.2.1 d_Ar_addShifted_34 rfl (lv_at hl 2 rfl) ?_
      refine t_co (k := k) X hT w (by omega) k_f_Ar_55 d_Ar_addShifted_35 ?_
      refine lv_iload X.1 X.2.1 d_Ar_addShifted_38 (lv_at hl 0 rfl) ?_
      refine t_ld (k := k) (z := i + t) X hT w (by omega) (i + t) (by omega) (by omega) d_Ar_addShifted_40 ?_
      refine lv_iload_n X.1 X.2.1 d_Ar_addShifted_41 rfl (lv_at hl 3 rfl) ?_
      refine lv_aload X.1 X.2.1 d_Ar_addShifted_42 (lv_at hl 5 rfl) ?_
      refine t_co (k := q) X hT w (by omega) k_f_Ar_55 d_Ar_addShifted_44 ?_
      refine lv_iload X.1 X.2.1 d_Ar_addShifted_47 (lv_at hl 6 rfl) ?_
      refine t_ld (k := q) (z := i) X hT w (by omega) (i) (by omega) (by omega) d_Ar_addShifted_49 ?_
      refine i_mul (a := f) (b := (V q).2 i) X d_Ar_addShifted_50 ?_
      refine i_add (a := (V k).2 (i + t)) (b := f * ((V q).2 i)) X d_Ar_addShifted_51 ?_
      refine lv_aload_n X.1 X.2.1 d_Ar_addShifted_52 rfl (lv_at hl 1 rfl) ?_
      refine t_ar X hT w hO 0 (by decide) k_f_Ar_48 rfl d_Ar_addShifted_53 ?_
      refine i_rem (a := ((V k).2 (i + t)) + (f * ((V q).2 i))) (b := pr) X (by omega) (by omega) d_Ar_addShifted_56 ?_
      refine t_st (k := k) (z := i + t) (v := (((V k).2 (i + t)) + (f * ((V q).2 i))) % pr) X hT w (by omega) (i + t) (by omega) (by omega) d_Ar_addShifted_57 (fun H locs w => ?_)
      obtain ⟨V1, eV1⟩ : ∃ U : Nat → PV, U = va_up V k ((V k).1, va_up (V k).2 (i + t) ((((V k).2 (i + t)) + (f * ((V q).2 i))) % pr)) := ⟨_, rfl⟩
      rw [← eV1] at w
      refine i_inc (k := 6) (x := i) (lv' := [(5, .int (iI (i + 1))), (6, .int (iI (i + t))), (0, .ref (ad (123))), (1, .ref (ad (2 * k))), (2, .int (iI (f))), (3, .int (iI (t))), (4, .ref (ad (2 * q)))]) X d_Ar_addShifted_58 hl rfl (by decide) rfl (fun ls hl => ?_)
      refine lv_goto (tgt := 12) X.1 X.2.1 d_Ar_addShifted_61 (by decide) ?_
      have hu : ∀ x : Nat, (V1 k).2 x = if t ≤ x ∧ x < t + (i + 1) then (F x + f * B (x - t)) % pr else F x := by
        intro x
        rw [eV1, va_up_self]
        show va_up (V k).2 (i + t) (((V k).2 (i + t) + (f * (V q).2 i)) % pr) x = _
        by_cases h9 : x = i + t
        · subst h9; rw [va_up_self, hx, hq2, if_pos (by omega), show i + t - t = i by omega]
        · rw [va_up_ne _ _ h9, hV2 x]; split <;> split <;> first | rfl | (exfalso; omega)
      exact ih (i + 1) _ H locs ls (by omega) (by omega) w (by rw [eV1, va_up_self]; exact hV1) hu (by intro j hj; rw [eV1, va_up_ne _ _ hj]; exact hV3 j hj) (lv_sub hl [2, 3, 4, 5, 6, 0] rfl)
theorem l_Ar_addShifted_80 (X : Cx p s m args c b_Ar_addShifted RAr) (hT : 132 ≤ T) (hk : k < 61) {V : Nat → PV} {F : Nat → Int} (hF : ok (wd k) F) (w : Wd D cs A ad T s (mkV cs ad V O) H locs) (hV2 : (V k).2 = F)
    (K : ∀ (ls : Array Slot), lv_has ls 7 [(0, .ref (ad (123))), (1, .ref (ad (2 * k))), (5, .int (iI (dg 300 F)))] → W p l e R s m args below meth c H locs cells slots Q (F0 m 101 ls [])) :
    ∀ (n : Nat) (z : Int) (ls : Array Slot), z + 2 ≤ n → -1 ≤ z ∧ z < wd k → (∀ x : Nat, z < x → F x = 0) → lv_has ls 7 [(0, .ref (ad (123))), (1, .ref (ad (2 * k))), (5, .int (iI (z)))] → W p l e R s m args below meth c H locs cells slots Q (F0 m 80 ls []) := by
  have hw := wd_lt k
  have hw2 := wd_le k
  intro n
  induction n with
  | zero => intro z ls h1 h2; omega
  | succ n ih =>
    intro z ls h1 h2 hV1 hl
    refine lv_iload X.1 X.2.1 d_Ar_addShifted_80 (lv_at hl 2 rfl) ?_
    refine z_lt (a := z) (tgt := 101) X (by omega) d_Ar_addShifted_82 (by decide) (fun h_82 => ?_) (fun h_82 => ?_)
    · refine K ls ?_
      rw [show dg 300 F = z from dg_eq (by omega) (by omega) (fun x hx => by omega) (fun x hx _ => hV1 x hx)]
      exact hl
    · refine lv_aload_n X.1 X.2.1 d_Ar_addShifted_85 rfl (lv_at hl 1 rfl) ?_
      refine t_co (k := k) X hT w (by omega) k_f_Ar_55 d_Ar_addShifted_86 ?_
      refine lv_iload X.1 X.2.1 d_Ar_addShifted_89 (lv_at hl 2 rfl) ?_
      refine t_ld (k := k) (z := z) X hT w (by omega) (z.toNat) (by omega) (by omega) d_Ar_addShifted_91 ?_
      refine z_ne (a := (V k).2 z.toNat) (tgt := 101) X (by rw [hV2]; have := hF.1 z.toNat; omega) d_Ar_addShifted_92 (by decide) (fun h_92 => ?_) (fun h_92 => ?_)
      · refine K ls ?_
        rw [show dg 300 F = z from dg_eq (by omega) (by omega) (fun x hx => by rw [hV2] at h_92; rw [show x = z.toNat by omega]; exact h_92) (fun x hx _ => hV1 x hx)]
        exact hl
      · refine i_inc (k := 2) (x := z) (lv' := [(5, .int (iI (z + (-1)))), (0, .ref (ad (123))), (1, .ref (ad (2 * k)))]) X d_Ar_addShifted_95 hl rfl (by decide) rfl (fun ls hl => ?_)
        refine lv_goto (tgt := 80) X.1 X.2.1 d_Ar_addShifted_98 (by decide) ?_
        refine ih (z + (-1)) ls (by omega) (by omega) (fun x hx => ?_) (lv_sub hl [1, 2, 0] rfl)
        by_cases h9 : (x : Int) = z
        · rw [hV2] at h_92; rw [show x = z.toNat by omega]; exact h_92
        · exact hV1 x (by omega)
end AS
theorem c_Ar_addShifted {l : Launch} {D : va_G} {cs : Nat → ClassId} {A : Nat → Prop} {ad : Nat → Nat} {T : Nat} (hT : 132 ≤ T) {G : Nat → Nat → Int} {O : Nat → va_E} {pr : Int} {inv : Nat → Int} (hO : arO cs ad pr inv O) {k q t : Nat} {f : Int} (hk : k < 61) (hq : q < 61) (hkq : q ≠ k) (hF : okp pr (wd k) (G k)) (hB : ok (wd q) (G q)) (hf : 0 ≤ f ∧ f ≤ 1000) (ht : dg 300 (G q) + t < wd k) : Cv l y_Ar_addShifted ws_Ar_addShifted { frames := 1, cells := 0, slots := 0, locals := 21 } D cs A ad T [.ref (ad (123)), .ref (ad (2 * k)), .int (iI (f)), .int (iI (t)), .ref (ad (2 * q))] (mkV cs ad (rV G) O) (fun C' => C' = mkV cs ad (rV (va_up G k (addS pr (G k) f t (G q)))) O) := by
  refine w_bodyV (by decide) (Nat.le_of_ble_eq_true rfl) ?_
  intro p e s m below meth c X hr hlk hml w ls hl
  have hl : lv_has ls 7 [(0, .ref (ad (123))), (1, .ref (ad (2 * k))), (2, .int (iI (f))), (3, .int (iI (t))), (4, .ref (ad (2 * q)))] := hl
  have hpr := hO.2.2.1
  have hG := hF.ok hpr.2
  have hd := hG.dlt 300
  have hd0 := dg_ge 300 (G k)
  have hb := hB.dlt 300
  have hb0 := dg_ge 300 (G q)
  have hw := wd_lt k
  have hw2 := wd_lt q
  have e1 : ((rV G) k).1 = dg 300 (G k) := rfl
  have e2 : ((rV G) q).1 = dg 300 (G q) := rfl
  have hS : ∀ x : Nat, addS pr (G k) f t (G q) x = if t ≤ x ∧ (x : Int) ≤ t + dg 300 (G q) then (G k x + f * G q (x - t)) % pr else G k x := by
    intro x
    unfold addS
    by_cases h1 : x < t
    · rw [if_pos h1, if_neg (by omega)]
    · rw [if_neg h1]
      by_cases h2 : (x : Int) ≤ t + dg 300 (G q)
      · rw [if_pos (by omega)]
      · have b1 := hF.1 x
        rw [if_neg (by omega), hB.above (wd_le q) (by omega), Int.mul_zero, Int.add_zero, Int.emod_eq_of_lt b1.1 b1.2]
  have hSo : ok (wd k) (addS pr (G k) f t (G q)) := (addS_ok (by omega) hF (fun x hx => hB.above (wd_le q) (by omega))).ok hpr.2
  refine lv_aload X.1 X.2.1 d_Ar_addShifted_0 (lv_at hl 4 rfl) ?_
  refine t_deg (k := q) X hT w (by omega) k_f_Ar_52 d_Ar_addShifted_2 ?_
  refine z_ge (a := ((rV G) q).1) (tgt := 9) X (by omega) d_Ar_addShifted_5 (by decide) (fun h_5 => ?_) (fun h_5 => ?_)
  · refine lv_iconst (v := iI (0)) X.1 X.2.1 d_Ar_addShifted_9 (by decide) ?_
    refine lv_istore (lv' := [(5, .int (iI (0))), (0, .ref (ad (123))), (1, .ref (ad (2 * k))), (2, .int (iI (f))), (3, .int (iI (t))), (4, .ref (ad (2 * q)))]) X.1 X.2.1 d_Ar_addShifted_10 hl (by decide) rfl (fun ls hl => ?_)
    refine l_Ar_addShifted_12 X hT hO hk hq hkq (V0 := rV G) (d := dg 300 (G k)) (b := dg 300 (G q)) (F := G k) (B := G q) hF hB hf ⟨hb0, hb, ht⟩ rfl rfl (fun V H locs ls w hV1 hV2 hV3 hl => ?_) (dg 300 (G q) + 2).toNat 0 _ _ _ _ (by omega) (by omega) w rfl (fun x => by rw [if_neg (by omega)]; rfl) (fun _ _ => rfl) (lv_sub hl [1, 2, 3, 4, 5, 0] rfl)
    have hVF : (V k).2 = addS pr (G k) f t (G q) := funext fun x => by rw [hV2 x, hS x]
    have hVq : (V q).1 = dg 300 (G q) := by rw [hV3 q hkq]; rfl
    refine lv_aload_n X.1 X.2.1 d_Ar_addShifted_64 rfl (lv_at hl 1 rfl) ?_
    refine t_deg (k := k) X hT w (by omega) k_f_Ar_52 d_Ar_addShifted_65 ?_
    refine lv_aload X.1 X.2.1 d_Ar_addShifted_68 (lv_at hl 4 rfl) ?_
    refine t_deg (k := q) X hT w (by omega) k_f_Ar_52 d_Ar_addShifted_70 ?_
    refine lv_iload_n X.1 X.2.1 d_Ar_addShifted_73 rfl (lv_at hl 3 rfl) ?_
    refine i_add (a := (V q).1) (b := t) X d_Ar_addShifted_74 ?_
    refine i_max (a := (V k).1) (b := ((V q).1) + t) X (by rw [hl.1]; exact hml) k_m_Ar_58 (by omega) (by omega) (Nat.le_of_ble_eq_true rfl) (Nat.le_of_ble_eq_true rfl) ⟨Nat.zero_le _, Nat.zero_le _⟩ d_Ar_addShifted_75 ?_
    refine lv_istore (lv' := [(5, .int (iI (max ((V k).1) (((V q).1) + t)))), (0, .ref (ad (123))), (1, .ref (ad (2 * k))), (2, .int (iI (f))), (3, .int (iI (t))), (4, .ref (ad (2 * q)))]) X.1 X.2.1 d_Ar_addShifted_78 hl (by decide) rfl (fun ls hl => ?_)
    refine l_Ar_addShifted_80 X hT hk hSo w hVF (fun ls hl => ?_) (max (V k).1 ((V q).1 + t) + 2).toNat _ ls (by omega) (by omega) (fun x hx => ?_) (lv_sub hl [1, 2, 0] rfl)
    · refine lv_aload_n X.1 X.2.1 d_Ar_addShifted_101 rfl (lv_at hl 1 rfl) ?_
      refine lv_iload X.1 X.2.1 d_Ar_addShifted_102 (lv_at hl 2 rfl) ?_
      refine t_pd (k := k) (z := dg 300 (addS pr (G k) f t (G q))) X hT w (by omega) k_f_Ar_52 d_Ar_addShifted_104 (fun H locs w => ?_)
      obtain ⟨V1, eV1⟩ : ∃ U : Nat → PV, U = va_up V k (dg 300 (addS pr (G k) f t (G q)), (V k).2) := ⟨_, rfl⟩
      rw [← eV1] at w
      refine w_vret X hr hlk w ?_ d_Ar_addShifted_107
      rw [rV_of (G := G) (k := k) (V := V1) (by rw [eV1, va_up_self]) (by rw [eV1, va_up_self]; exact hVF) (by intro j hj; rw [eV1, va_up_ne _ _ hj]; exact hV3 j hj)]
    · rw [hS x, if_neg (by omega)]; exact hG.above (wd_le k) (by omega)
  · refine w_vret X hr hlk w ?_ d_Ar_addShifted_8
    have hz : addS pr (G k) f t (G q) = G k := by
      funext x
      rw [hS x, if_neg (by omega)]
    rw [hz, show va_up G k (G k) = G from by funext j; by_cases h : j = k; (subst h; rw [va_up_self]); rw [va_up_ne _ _ h]]
end
section
section GL
variable {p : Program} {l : Launch} {e : Env} {R : Room} {s : State} {m : MethodId} {args : Array Value} {below : List Frame} {meth : Method} {c : Code} {H : Heap} {locs : List Loc} {cells slots : Nat} {Q : State → Prop} {D : va_G} {cs : Nat → ClassId} {A : Nat → Prop} {ad : Nat → Nat} {T : Nat}
variable {cc : ByteArray} {own : String} {pc : Nat} {ls : Array Slot} {rest st : List Value} {G : Nat → Nat → Int} {O : Nat → va_E}
theorem g_deg {k index : Nat} (X : Cx p s m args c cc own) (hT : 132 ≤ T) (w : Wd D cs A ad T s (mkV cs ad (rV G) O) H locs) (hk : k < 61) (hlink : Cond.fieldLink own index "FieldFactors$Polynomial" "degree" "I" ∈ TB) (hdg : decode cc pc = .ok (.getfield index, 3))
    (kk : W p l e R s m args below meth c H locs cells slots Q (F0 m (pc + 3) ls (.int (iI (dg 300 (G k))) :: rest))) : W p l e R s m args below meth c H locs cells slots Q (F0 m pc ls (.ref (ad (2 * k)) :: rest)) := t_deg X hT w hk hlink hdg kk
theorem g_ld {k : Nat} {z : Int} (X : Cx p s m args c cc own) (hT : 132 ≤ T) (w : Wd D cs A ad T s (mkV cs ad (rV G) O) H locs) (hk : k < 61) (j : Nat) (hz : z = (j : Int)) (hj : j < wd k) (hdg : decode cc pc = .ok (.iaload, 1))
    (kk : W p l e R s m args below meth c H locs cells slots Q (F0 m (pc + 1) ls (.int (iI (G k j)) :: rest))) : W p l e R s m args below meth c H locs cells slots Q (F0 m pc ls (.int (iI z) :: .ref (ad (2 * k + 1)) :: rest)) := t_ld X hT w hk j hz hj hdg kk
end GL
theorem va_uu {α : Type} (f : Nat → α) (k : Nat) (v u : α) : va_up (va_up f k v) k u = va_up f k u := by
  funext j
  unfold va_up
  split <;> rfl
theorem va_id {α : Type} (f : Nat → α) (k : Nat) : va_up f k (f k) = f := by
  funext j
  by_cases h : j = k
  · subst h; rw [va_up_self]
  · rw [va_up_ne _ _ h]
/-- F + f A B, modulo pr, by the first n coefficients of A -/
def addP (pr : Int) (F : Nat → Int) (f : Int) (A B : Nat → Int) : Nat → Nat → Int
  | 0 => F
  | n + 1 => addS pr (addP pr F f A B n) (f * A n) n B
theorem addP_ok {pr : Int} {N : Nat} {F A B : Nat → Int} {f : Int} (hp : 0 < pr) (hF : okp pr N F) : ∀ n : Nat, (∀ i x, i < n → N ≤ x + i → B x = 0) → okp pr N (addP pr F f A B n)
  | 0, _ => hF
  | n + 1, h => addS_ok hp (addP_ok hp hF n (fun i x hi => h i x (by omega))) (fun x hx => h n x (by omega) hx)
theorem addS_0 {pr : Int} {N t : Nat} {F B : Nat → Int} (hF : okp pr N F) : addS pr F 0 t B = F := by
  funext x
  unfold addS
  split
  · rfl
  · rw [Int.zero_mul, Int.add_zero, Int.emod_eq_of_lt (hF.1 x).1 (hF.1 x).2]
section AP
variable {p : Program} {l : Launch} {e : Env} {s : State} {m : MethodId} {args : Array Value} {below : List Frame} {meth : Method} {c : Code} {H : Heap} {locs : List Loc} {Q : State → Prop} {D : va_G} {cs : Nat → ClassId} {A : Nat → Prop} {ad : Nat → Nat} {T : Nat} {O : Nat → va_E} {pr : Int} {inv : Nat → Int}
variable {k q r : Nat} {f : Int} {G : Nat → Nat → Int}
theorem l_Ar_addProduct (X : Cx p s m args c b_Ar_addProduct RAr) (hml : c.maxLocals = 6) (hT : 132 ≤ T) (hO : arO cs ad pr inv O) (hk : k < 61) (hq : q < 61) (hr' : r < 61) (hqk : q ≠ k) (hrk : r ≠ k) (hF : okp pr (wd k) (G k)) (hA : ok (wd q) (G q)) (hB : ok (wd r) (G r)) (hf : 0 ≤ f ∧ f ≤ 13) (ht : dg 300 (G q) + dg 300 (G r) < wd k)
    (K : ∀ (H : Heap) (locs : List Loc) (ls : Array Slot), Wd D cs A ad T s (mkV cs ad (rV (va_up G k (addP pr (G k) f (G q) (G r) (dg 300 (G q) + 1).toNat))) O) H locs → W p l e { frames := 2, cells := 0, slots := 0, locals := 47 } s m args below meth c H locs 0 0 Q (F0 m 46 ls [])) :
    ∀ (n i : Nat) (G1 : Nat → Nat → Int) (H : Heap) (locs : List Loc) (ls : Array Slot), dg 300 (G q) + 2 ≤ i + n → (i : Int) ≤ dg 300 (G q) + 1 → Wd D cs A ad T s (mkV cs ad (rV G1) O) H locs → G1 = va_up G k (addP pr (G k) f (G q) (G r) i) → lv_has ls 6 [(0, .ref (ad (123))), (1, .ref (ad (2 * k))), (2, .int (iI (f))), (3, .ref (ad (2 * q))), (4, .ref (ad (2 * r))), (5, .int (iI (i)))] → W p l e { frames := 2, cells := 0, slots := 0, locals := 47 } s m args below meth c H locs 0 0 Q (F0 m 3 ls []) := by
  have hpr := hO.2.2.1
  have hw := wd_lt k
  have hw2 := wd_lt q
  have hd := hA.dlt 300
  intro n
  induction n with
  | zero => intro i G1 H locs ls h1 h2; omega
  | succ n ih =>
    intro i G1 H locs ls h1 h2 w eG hl
    have hGq : G1 q = G q := by rw [eG, va_up_ne _ _ hqk]
    have hdq : dg 300 (G1 q) = dg 300 (G q) := by rw [hGq]
    have hqi : G1 q i = G q i := by rw [hGq]
    have hGr : G1 r = G r := by rw [eG, va_up_ne _ _ hrk]
    have hGk : G1 k = addP pr (G k) f (G q) (G r) i := by rw [eG, va_up_self]
    have hok : okp pr (wd k) (addP pr (G k) f (G q) (G r) i) := addP_ok (by omega) hF i (fun j x hj hx => hB.above (wd_le r) (by omega))
    have hai := hA.1 i
    have hm : 0 ≤ f * G1 q i ∧ f * G1 q i ≤ 1000 := by
      rw [hGq]
      refine ⟨Int.mul_nonneg hf.1 hai.1, ?_⟩
      have := Int.mul_le_mul hf.2 (show G q i ≤ 13 by omega) hai.1 (by decide)
      omega
    refine lv_iload X.1 X.2.1 d_Ar_addProduct_3 (lv_at hl 5 rfl) ?_
    refine lv_aload_n X.1 X.2.1 d_Ar_addProduct_5 rfl (lv_at hl 3 rfl) ?_
    refine g_deg (k := q) X hT w (by omega) k_f_Ar_52 d_Ar_addProduct_6 ?_
    refine i_gt (a := i) (b := dg 300 (G1 q)) (tgt := 46) X (by omega) (by omega) d_Ar_addProduct_9 (by decide) (fun h_9 => ?_) (fun h_9 => ?_)
    · refine K H locs ls ?_
      rw [hGq] at h_9
      rw [show (dg 300 (G q) + 1).toNat = i by omega, ← eG]
      exact w
    · refine lv_aload_n X.1 X.2.1 d_Ar_addProduct_12 rfl (lv_at hl 3 rfl) ?_
      refine t_co (k := q) X hT w (by omega) k_f_Ar_55 d_Ar_addProduct_13 ?_
      refine lv_iload X.1 X.2.1 d_Ar_addProduct_16 (lv_at hl 5 rfl) ?_
      refine g_ld (k := q) (z := i) X hT w (by omega) (i) (by omega) (by omega) d_Ar_addProduct_18 ?_
      refine z_eq (a := G1 q i) (tgt := 40) X (by omega) d_Ar_addProduct_19 (by decide) (fun h_19 => ?_) (fun h_19 => ?_)
      · refine i_inc (k := 5) (x := i) (lv' := [(5, .int (iI (i + 1))), (0, .ref (ad (123))), (1, .ref (ad (2 * k))), (2, .int (iI (f))), (3, .ref (ad (2 * q))), (4, .ref (ad (2 * r)))]) X d_Ar_addProduct_40 hl rfl (by decide) rfl (fun ls hl => ?_)
        refine lv_goto (tgt := 3) X.1 X.2.1 d_Ar_addProduct_43 (by decide) ?_
        refine ih (i + 1) _ H locs ls (by omega) (by omega) w ?_ (lv_sub hl [1, 2, 3, 4, 5, 0] rfl)
        rw [eG]
        congr 1
        show _ = addS pr (addP pr (G k) f (G q) (G r) i) (f * G q i) i (G r)
        rw [show G q i = 0 by rw [← hGq]; exact h_19, Int.mul_zero, addS_0 hok]
      · refine lv_aload_n X.1 X.2.1 d_Ar_addProduct_22 rfl (lv_at hl 0 rfl) ?_
        refine lv_aload_n X.1 X.2.1 d_Ar_addProduct_23 rfl (lv_at hl 1 rfl) ?_
        refine lv_iload_n X.1 X.2.1 d_Ar_addProduct_24 rfl (lv_at hl 2 rfl) ?_
        refine lv_aload_n X.1 X.2.1 d_Ar_addProduct_25 rfl (lv_at hl 3 rfl) ?_
        refine t_co (k := q) X hT w (by omega) k_f_Ar_55 d_Ar_addProduct_26 ?_
        refine lv_iload X.1 X.2.1 d_Ar_addProduct_29 (lv_at hl 5 rfl) ?_
        refine g_ld (k := q) (z := i) X hT w (by omega) (i) (by omega) (by omega) d_Ar_addProduct_31 ?_
        refine i_mul (a := f) (b := G1 q i) X d_Ar_addProduct_32 ?_
        refine lv_iload X.1 X.2.1 d_Ar_addProduct_33 (lv_at hl 5 rfl) ?_
        refine lv_aload X.1 X.2.1 d_Ar_addProduct_35 (lv_at hl 4 rfl) ?_
        refine w_cVv (n := 4) (i := 123) (ci := 1) (As := [.ref (ad (2 * k)), .int (iI (f * (G1 q i))), .int (iI (i)), .ref (ad (2 * r))]) (rest := []) X w hml hl.1 (c_Ar_addShifted hT (G := G1) hO (k := k) (q := r) (t := i) (f := f * G1 q i) hk hr' hrk (by rw [hGk]; exact hok) (by rw [hGr]; exact hB) hm (by rw [hGr]; omega)) (by omega) (by rw [mkV_O (by decide)]; exact hO.1) rfl k_m_Ar_64 k_im_Ar_addShifted k_se_Ar_addShifted k_i_Ar k_co_Ar_addShifted (by decide +kernel) rfl ⟨Nat.le_of_ble_eq_true rfl, Nat.le_of_ble_eq_true rfl⟩ ⟨rfl, rfl⟩ ⟨Nat.zero_le _, Nat.zero_le _⟩ rfl (Nat.le_of_ble_eq_true rfl) d_Ar_addProduct_37 (fun C' H locs hp w => ?_)
        subst hp
        obtain ⟨Gw1, eGw1⟩ : ∃ gg : Nat → Nat → Int, gg = va_up G1 k (addS pr (G1 k) (f * G1 q i) i (G1 r)) := ⟨_, rfl⟩
        rw [← eGw1] at w
        refine i_inc (k := 5) (x := i) (lv' := [(5, .int (iI (i + 1))), (0, .ref (ad (123))), (1, .ref (ad (2 * k))), (2, .int (iI (f))), (3, .ref (ad (2 * q))), (4, .ref (ad (2 * r)))]) X d_Ar_addProduct_40 hl rfl (by decide) rfl (fun ls hl => ?_)
        refine lv_goto (tgt := 3) X.1 X.2.1 d_Ar_addProduct_43 (by decide) ?_
        refine ih (i + 1) _ H locs ls (by omega) (by omega) w ?_ (lv_sub hl [1, 2, 3, 4, 5, 0] rfl)
        rw [eGw1, hGk, hGq, hGr, eG, va_uu]
        rfl
end AP
theorem c_Ar_addProduct {l : Launch} {D : va_G} {cs : Nat → ClassId} {A : Nat → Prop} {ad : Nat → Nat} {T : Nat} (hT : 132 ≤ T) {G : Nat → Nat → Int} {O : Nat → va_E} {pr : Int} {inv : Nat → Int} (hO : arO cs ad pr inv O) {k q r : Nat} {f : Int} (hk : k < 61) (hq : q < 61) (hr' : r < 61) (hqk : q ≠ k) (hrk : r ≠ k) (hF : okp pr (wd k) (G k)) (hA : ok (wd q) (G q)) (hB : ok (wd r) (G r)) (hf : 0 ≤ f ∧ f ≤ 13) (ht : dg 300 (G q) + dg 300 (G r) < wd k) : Cv l y_Ar_addProduct ws_Ar_addProduct { frames := 2, cells := 0, slots := 0, locals := 47 } D cs A ad T [.ref (ad (123)), .ref (ad (2 * k)), .int (iI (f)), .ref (ad (2 * q)), .ref (ad (2 * r))] (mkV cs ad (rV G) O) (fun C' => C' = mkV cs ad (rV (va_up G k (addP pr (G k) f (G q) (G r) (dg 300 (G q) + 1).toNat))) O) := by
  refine w_bodyV (by decide) (Nat.le_of_ble_eq_true rfl) ?_
  intro p e s m below meth c X hr hlk hml w ls hl
  have hl : lv_has ls 6 [(0, .ref (ad (123))), (1, .ref (ad (2 * k))), (2, .int (iI (f))), (3, .ref (ad (2 * q))), (4, .ref (ad (2 * r)))] := hl
  have hd0 := dg_ge 300 (G q)
  refine lv_iconst (v := iI (0)) X.1 X.2.1 d_Ar_addProduct_0 (by decide) ?_
  refine lv_istore (lv' := [(5, .int (iI (0))), (0, .ref (ad (123))), (1, .ref (ad (2 * k))), (2, .int (iI (f))), (3, .ref (ad (2 * q))), (4, .ref (ad (2 * r)))]) X.1 X.2.1 d_Ar_addProduct_1 hl (by decide) rfl (fun ls hl => ?_)
  refine l_Ar_addProduct X hml hT hO hk hq hr' hqk hrk hF hA hB hf ht (fun H locs ls w => ?_) (dg 300 (G q) + 2).toNat 0 G _ _ _ (by omega) (by omega) w ?_ (lv_sub hl [1, 2, 3, 4, 5, 0] rfl)
  · exact w_vret X hr hlk w rfl d_Ar_addProduct_46
  · exact (va_id G k).symm
section SC
variable {p : Program} {l : Launch} {e : Env} {R : Room} {s : State} {m : MethodId} {args : Array Value} {below : List Frame} {meth : Method} {c : Code} {H : Heap} {locs : List Loc} {cells slots : Nat} {Q : State → Prop} {D : va_G} {cs : Nat → ClassId} {A : Nat → Prop} {ad : Nat → Nat} {T : Nat}
variable {k : Nat} {f : Int} {O : Nat → va_E} {pr : Int} {inv : Nat → Int}
theorem l_Ar_scale (X : Cx p s m args c b_Ar_scale RAr) (hT : 132 ≤ T) (hO : arO cs ad pr inv O) (hk : k < 61) {V0 : Nat → PV} {d : Int} {F : Nat → Int} (hF : ok (wd k) F) (hf : 0 ≤ f ∧ f ≤ 13) (hd : -1 ≤ d ∧ d < wd k)
    (K : ∀ (V : Nat → PV) (H : Heap) (locs : List Loc) (ls : Array Slot), Wd D cs A ad T s (mkV cs ad V O) H locs → (V k).1 = d → (∀ x : Nat, (V k).2 x = if (x : Int) ≤ d then F x * f % pr else F x) → (∀ j, j ≠ k → V j = V0 j) → W p l e R s m args below meth c H locs cells slots Q (F0 m 35 ls [])) :
    ∀ (n i : Nat) (V : Nat → PV) (H : Heap) (locs : List Loc) (ls : Array Slot), d + 2 ≤ i + n → (i : Int) ≤ d + 1 → Wd D cs A ad T s (mkV cs ad V O) H locs → (V k).1 = d → (∀ x : Nat, (V k).2 x = if x < i then F x * f % pr else F x) → (∀ j, j ≠ k → V j = V0 j) → lv_has ls 4 [(0, .ref (ad (123))), (1, .ref (ad (2 * k))), (2, .int (iI (f))), (3, .int (iI (i)))] → W p l e R s m args below meth c H locs cells slots Q (F0 m 2 ls []) := by
  have hw := wd_lt k
  have hpr := hO.2.2.1
  intro n
  induction n with
  | zero => intro i V H locs ls h1 h2; omega
  | succ n ih =>
    intro i V H locs ls h1 h2 w hV1 hV2 hV3 hl
    have hx := hV2 i
    rw [if_neg (by omega)] at hx
    have hx3 := hF.1 i
    have hm : 0 ≤ (V k).2 i * f ∧ (V k).2 i * f ≤ 1000 := by
      rw [hx]
      refine ⟨Int.mul_nonneg hx3.1 hf.1, ?_⟩
      have := Int.mul_le_mul (show F i ≤ 13 by omega) hf.2 hf.1 (by decide)
      omega
    refine lv_iload_n X.1 X.2.1 d_Ar_scale_2 rfl (lv_at hl 3 rfl) ?_
    refine lv_aload_n X.1 X.2.1 d_Ar_scale_3 rfl (lv_at hl 1 rfl) ?_
    refine t_deg (k := k) X hT w (by omega) k_f_Ar_52 d_Ar_scale_4 ?_
    refine i_gt (a := i) (b := (V k).1) (tgt := 35) X (by omega) (by omega) d_Ar_scale_7 (by decide) (fun h_7 => ?_) (fun h_7 => ?_)
    · exact K V H locs ls w hV1 (by intro x; rw [hV2 x]; split <;> split <;> first | rfl | (exfalso; omega)) hV3
    · refine lv_aload_n X.1 X.2.1 d_Ar_scale_10 rfl (lv_at hl 1 rfl) ?_
      refine t_co (k := k) X hT w (by omega) k_f_Ar_55 d_Ar_scale_11 ?_
      refine lv_iload_n X.1 X.2.1 d_Ar_scale_14 rfl (lv_at hl 3 rfl) ?_
      refine lv_aload_n X.1 X.2.1 d_Ar_scale_15 rfl (lv_at hl 1 rfl) ?_
      refine t_co (k := k) X hT w (by omega) k_f_Ar_55 d_Ar_scale_16 ?_
      refine lv_iload_n X.1 X.2.1 d_Ar_scale_19 rfl (lv_at hl 3 rfl) ?_
      refine t_ld (k := k) (z := i) X hT w (by omega) (i) (by omega) (by omega) d_Ar_scale_20 ?_
      refine lv_iload_n X.1 X.2.1 d_Ar_scale_21 rfl (lv_at hl 2 rfl) ?_
      refine i_mul (a := (V k).2 i) (b := f) X d_Ar_scale_22 ?_
      refine lv_aload_n X.1 X.2.1 d_Ar_scale_23 rfl (lv_at hl 0 rfl) ?_
      refine t_ar X hT w hO 0 (by decide) k_f_Ar_48 rfl d_Ar_scale_24 ?_
      refine i_rem (a := ((V k).2 i) * f) (b := pr) X (by omega) (by omega) d_Ar_scale_27 ?_
      refine t_st (k := k) (z := i) (v := (((V k).2 i) * f) % pr) X hT w (by omega) (i) (by omega) (by omega) d_Ar_scale_28 (fun H locs w => ?_)
      obtain ⟨V1, eV1⟩ : ∃ U : Nat → PV, U = va_up V k ((V k).1, va_up (V k).2 i ((((V k).2 i) * f) % pr)) := ⟨_, rfl⟩
      rw [← eV1] at w
      refine i_inc (k := 3) (x := i) (lv' := [(3, .int (iI (i + 1))), (0, .ref (ad (123))), (1, .ref (ad (2 * k))), (2, .int (iI (f)))]) X d_Ar_scale_29 hl rfl (by decide) rfl (fun ls hl => ?_)
      refine lv_goto (tgt := 2) X.1 X.2.1 d_Ar_scale_32 (by decide) ?_
      have hu : ∀ x : Nat, (V1 k).2 x = if x < i + 1 then F x * f % pr else F x := by
        intro x
        rw [eV1, va_up_self]
        show va_up (V k).2 i (((V k).2 i * f) % pr) x = _
        by_cases h9 : x = i
        · subst h9; rw [va_up_self, hx, if_pos (by omega)]
        · rw [va_up_ne _ _ h9, hV2 x]; split <;> split <;> first | rfl | (exfalso; omega)
      exact ih (i + 1) _ H locs ls (by omega) (by omega) w (by rw [eV1, va_up_self]; exact hV1) hu (by intro j hj; rw [eV1, va_up_ne _ _ hj]; exact hV3 j hj) (lv_sub hl [1, 2, 3, 0] rfl)
end SC
theorem c_Ar_scale {l : Launch} {D : va_G} {cs : Nat → ClassId} {A : Nat → Prop} {ad : Nat → Nat} {T : Nat} (hT : 132 ≤ T) {G : Nat → Nat → Int} {O : Nat → va_E} {pr : Int} {inv : Nat → Int} (hO : arO cs ad pr inv O) {k : Nat} {f : Int} (hk : k < 61) (hF : ok (wd k) (G k)) (hf : 0 ≤ f ∧ f ≤ 13) (hdg : dg 300 (fun x => G k x * f % pr) = dg 300 (G k)) : Cv l y_Ar_scale ws_Ar_scale { frames := 0, cells := 0, slots := 0, locals := 0 } D cs A ad T [.ref (ad (123)), .ref (ad (2 * k)), .int (iI (f))] (mkV cs ad (rV G) O) (fun C' => C' = mkV cs ad (rV (va_up G k (fun x => G k x * f % pr))) O) := by
  refine w_bodyV (by decide) (Nat.le_of_ble_eq_true rfl) ?_
  intro p e s m below meth c X hr hlk hml w ls hl
  have hl : lv_has ls 4 [(0, .ref (ad (123))), (1, .ref (ad (2 * k))), (2, .int (iI (f)))] := hl
  have hd := hF.dlt 300
  have hd0 := dg_ge 300 (G k)
  refine lv_iconst (v := iI (0)) X.1 X.2.1 d_Ar_scale_0 (by decide) ?_
  refine lv_istore_n (lv' := [(3, .int (iI (0))), (0, .ref (ad (123))), (1, .ref (ad (2 * k))), (2, .int (iI (f)))]) X.1 X.2.1 d_Ar_scale_1 rfl hl (by decide) rfl (fun ls hl => ?_)
  refine l_Ar_scale X hT hO hk (V0 := rV G) (d := dg 300 (G k)) (F := G k) hF hf ⟨hd0, hd⟩ (fun V H locs ls w hV1 hV2 hV3 => ?_) (dg 300 (G k) + 2).toNat 0 _ _ _ _ (by omega) (by omega) w rfl (fun x => by rw [if_neg (by omega)]; rfl) (fun _ _ => rfl) (lv_sub hl [1, 2, 3, 0] rfl)
  refine w_vret X hr hlk w ?_ d_Ar_scale_35
  rw [rV_of (G := G) (k := k) (V := V) (F := fun x => G k x * f % pr) (by rw [hV1, hdg]) ?_ hV3]
  funext x
  rw [hV2 x]
  split
  · rfl
  · rw [hF.above (wd_le k) (by omega)]; simp
end
section
/-- made monic -/
def mon (pr : Int) (inv : Nat → Int) (F : Nat → Int) : Nat → Int := if dg 300 F < 0 then F else fun x => F x * inv (F (dg 300 F).toNat).toNat % pr
theorem okp.lead {pr : Int} {n : Nat} {F : Nat → Int} (h : okp pr n F) (hd : 0 ≤ dg 300 F) : 1 ≤ F (dg 300 F).toNat ∧ F (dg 300 F).toNat < pr := by
  have h1 := h.1 (dg 300 F).toNat
  have h2 := dg_top (n := 300) (F := F) (d := (dg 300 F).toNat) (by omega)
  omega
theorem arO.inv {cs : Nat → ClassId} {ad : Nat → Nat} {pr : Int} {inv : Nat → Int} {O : Nat → va_E} (hO : arO cs ad pr inv O) {v : Int} (h : 1 ≤ v ∧ v < pr) : (1 ≤ inv v.toNat ∧ inv v.toNat < pr) ∧ (v * inv v.toNat) % pr = 1 := by
  have := hO.2.2.2 v.toNat (by omega) (by omega)
  rw [show ((v.toNat : Nat) : Int) = v by omega] at this
  exact this
theorem mon_dg {pr : Int} {n : Nat} {F : Nat → Int} {f : Int} (hF : okp pr n F) (hn : n ≤ 300) (h : 0 ≤ dg 300 F → F (dg 300 F).toNat * f % pr ≠ 0) : dg 300 (fun x => F x * f % pr) = dg 300 F := by
  have a := dg_ge 300 F
  have b := dg_lt 300 F
  refine dg_eq a b (fun x hx => ?_) (fun x hx h3 => ?_)
  · have := h (by omega)
    rw [← hx] at this
    simpa using this
  · rw [dg_above hx h3]; simp
theorem scal_ok {pr : Int} {n : Nat} {F : Nat → Int} {f : Int} (hp : 0 < pr) (hF : okp pr n F) : okp pr n (fun x => F x * f % pr) := ⟨fun x => ⟨Int.emod_nonneg _ (by omega), Int.emod_lt_of_pos _ hp⟩, fun x hx => by show F x * f % pr = 0; rw [hF.2 x hx]; simp⟩
theorem mon_ok {pr : Int} {inv : Nat → Int} {n : Nat} {F : Nat → Int} (hp : 0 < pr) (hF : okp pr n F) : okp pr n (mon pr inv F) := by
  unfold mon
  split
  · exact hF
  · exact scal_ok hp hF
theorem c_Ar_makeMonic {l : Launch} {D : va_G} {cs : Nat → ClassId} {A : Nat → Prop} {ad : Nat → Nat} {T : Nat} (hT : 132 ≤ T) {G : Nat → Nat → Int} {O : Nat → va_E} {pr : Int} {inv : Nat → Int} (hO : arO cs ad pr inv O) {k : Nat} (hk : k < 61) (hF : okp pr (wd k) (G k)) : Cv l y_Ar_makeMonic ws_Ar_makeMonic { frames := 1, cells := 0, slots := 0, locals := 23 } D cs A ad T [.ref (ad (123)), .ref (ad (2 * k))] (mkV cs ad (rV G) O) (fun C' => C' = mkV cs ad (rV (va_up G k (mon pr inv (G k)))) O) := by
  refine w_bodyV (by decide) (Nat.le_of_ble_eq_true rfl) ?_
  intro p e s m below meth c X hr hlk hml w ls hl
  have hl : lv_has ls 2 [(0, .ref (ad (123))), (1, .ref (ad (2 * k)))] := hl
  have hpr := hO.2.2.1
  have hG := hF.ok hpr.2
  have hd := hG.dlt 300
  have hd0 := dg_ge 300 (G k)
  have hw := wd_lt k
  refine lv_aload_n X.1 X.2.1 d_Ar_makeMonic_0 rfl (lv_at hl 1 rfl) ?_
  refine g_deg (k := k) X hT w (by omega) k_f_Ar_52 d_Ar_makeMonic_1 ?_
  refine z_lt (a := dg 300 (G k)) (tgt := 21) X (by omega) d_Ar_makeMonic_4 (by decide) (fun h_4 => ?_) (fun h_4 => ?_)
  · refine w_vret X hr hlk w ?_ d_Ar_makeMonic_21
    unfold mon
    rw [if_pos (by omega), va_id]
  · refine lv_aload_n X.1 X.2.1 d_Ar_makeMonic_7 rfl (lv_at hl 0 rfl) ?_
    refine lv_aload_n X.1 X.2.1 d_Ar_makeMonic_8 rfl (lv_at hl 1 rfl) ?_
    refine lv_aload_n X.1 X.2.1 d_Ar_makeMonic_9 rfl (lv_at hl 0 rfl) ?_
    refine t_ar X hT w hO 2 (by decide) k_f_Ar_9 rfl d_Ar_makeMonic_10 ?_
    refine lv_aload_n X.1 X.2.1 d_Ar_makeMonic_13 rfl (lv_at hl 1 rfl) ?_
    refine w_cVi (n := 0) (i := 2 * k) (ci := 0) (As := []) (rest := [.ref (ad (124)), .ref (ad (2 * k)), .ref (ad (123))]) X w hml hl.1 (c_Po_lead hT (G := G) (k := k) hk hG) (by omega) (mkV_o hk) rfl k_m_Ar_68 k_im_Po_lead k_se_Po_lead k_i_Po k_co_Po_lead (by decide +kernel) rfl ⟨Nat.le_of_ble_eq_true rfl, Nat.le_of_ble_eq_true rfl⟩ ⟨rfl, rfl⟩ ⟨Nat.zero_le _, Nat.zero_le _⟩ rfl (Nat.le_of_ble_eq_true rfl) d_Ar_makeMonic_14 (fun r' C' H locs hp w => ?_)
    obtain ⟨rfl, rfl⟩ := hp
    rw [if_neg (show ¬ dg 300 (G k) < 0 by omega)]
    have hld := hF.lead (by omega)
    have hiv := hO.inv hld
    refine t_in (z := G k (dg 300 (G k)).toNat) X hT w hO ((G k (dg 300 (G k)).toNat).toNat) (by omega) (by omega) d_Ar_makeMonic_17 ?_
    refine w_cVv (n := 2) (i := 123) (ci := 1) (As := [.ref (ad (2 * k)), .int (iI (inv ((G k (dg 300 (G k)).toNat).toNat)))]) (rest := []) X w hml hl.1 (c_Ar_scale hT (G := G) hO (k := k) (f := inv (G k (dg 300 (G k)).toNat).toNat) hk hG (by omega) (mon_dg hF (wd_le k) (fun _ => by rw [hiv.2]; decide))) (by omega) (by rw [mkV_O (by decide)]; exact hO.1) rfl k_m_Ar_72 k_im_Ar_scale k_se_Ar_scale k_i_Ar k_co_Ar_scale (by decide +kernel) rfl ⟨Nat.le_of_ble_eq_true rfl, Nat.le_of_ble_eq_true rfl⟩ ⟨rfl, rfl⟩ ⟨Nat.zero_le _, Nat.zero_le _⟩ rfl (Nat.le_of_ble_eq_true rfl) d_Ar_makeMonic_18 (fun C' H locs hp w => ?_)
    subst hp
    obtain ⟨Gw1, eGw1⟩ : ∃ gg : Nat → Nat → Int, gg = va_up G k (fun x => G k x * inv (G k (dg 300 (G k)).toNat).toNat % pr) := ⟨_, rfl⟩
    rw [← eGw1] at w
    refine w_vret X hr hlk w ?_ d_Ar_makeMonic_21
    unfold mon
    rw [if_neg (by omega), eGw1]
/-- the derivative -/
def der (pr : Int) (F : Nat → Int) : Nat → Int := fun x => ((x : Int) + 1) * F (x + 1) % pr
section DE
variable {p : Program} {l : Launch} {e : Env} {s : State} {m : MethodId} {args : Array Value} {below : List Frame} {meth : Method} {c : Code} {H : Heap} {locs : List Loc} {Q : State → Prop} {D : va_G} {cs : Nat → ClassId} {A : Nat → Prop} {ad : Nat → Nat} {T : Nat} {O : Nat → va_E} {pr : Int} {inv : Nat → Int}
variable {k q : Nat} {G : Nat → Nat → Int}
theorem l_Ar_derive (X : Cx p s m args c b_Ar_derive RAr) (hml : c.maxLocals = 4) (hT : 132 ≤ T) (hO : arO cs ad pr inv O) (hk : k < 61) (hq : q < 61) (hqk : q ≠ k) (hA : ok (wd q) (G q)) (ht : dg 300 (G q) ≤ wd k)
    (K : ∀ (H : Heap) (locs : List Loc) (ls : Array Slot), Wd D cs A ad T s (mkV cs ad (rV (va_up G k (der pr (G q)))) O) H locs → W p l e { frames := 2, cells := 0, slots := 0, locals := 43 } s m args below meth c H locs 0 0 Q (F0 m 40 ls [])) :
    ∀ (n i : Nat) (G1 : Nat → Nat → Int) (H : Heap) (locs : List Loc) (ls : Array Slot), dg 300 (G q) + 2 ≤ i + n → 1 ≤ i → (i : Int) ≤ dg 300 (G q) + 1 ∨ i = 1 → Wd D cs A ad T s (mkV cs ad (rV G1) O) H locs → G1 = va_up G k (fun x => if x + 1 < i then ((x : Int) + 1) * G q (x + 1) % pr else 0) → lv_has ls 4 [(0, .ref (ad (123))), (1, .ref (ad (2 * k))), (2, .ref (ad (2 * q))), (3, .int (iI (i)))] → W p l e { frames := 2, cells := 0, slots := 0, locals := 43 } s m args below meth c H locs 0 0 Q (F0 m 6 ls []) := by
  have hpr := hO.2.2.1
  have hw := wd_lt k
  have hw2 := wd_le q
  have hd := hA.dlt 300
  have hd0 := dg_ge 300 (G q)
  intro n
  induction n with
  | zero =>
    intro i G1 H locs ls h1 h2 h3 w eG hl
    have hGq : G1 q = G q := by rw [eG, va_up_ne _ _ hqk]
    have hdq : dg 300 (G1 q) = dg 300 (G q) := by rw [hGq]
    refine lv_iload_n X.1 X.2.1 d_Ar_derive_6 rfl (lv_at hl 3 rfl) ?_
    refine lv_aload_n X.1 X.2.1 d_Ar_derive_7 rfl (lv_at hl 2 rfl) ?_
    refine g_deg (k := q) X hT w (by omega) k_f_Ar_52 d_Ar_derive_8 ?_
    refine i_gt (a := i) (b := dg 300 (G1 q)) (tgt := 40) X (by omega) (by omega) d_Ar_derive_11 (by decide) (fun h_11 => ?_) (fun h_11 => ?_)
    · refine K H locs ls ?_
      rw [show va_up G k (der pr (G q)) = G1 from ?_]
      · exact w
      · rw [eG]
        congr 1
        funext x
        unfold der
        split
        · rfl
        · rw [hA.above hw2 (by omega)]; simp
    · exact absurd h_11 (by omega)
  | succ n ih =>
    intro i G1 H locs ls h1 h2 h3 w eG hl
    have hGq : G1 q = G q := by rw [eG, va_up_ne _ _ hqk]
    have hdq : dg 300 (G1 q) = dg 300 (G q) := by rw [hGq]
    have hGk : G1 k = fun x => if x + 1 < i then ((x : Int) + 1) * G q (x + 1) % pr else 0 := by rw [eG, va_up_self]
    have hqi : G1 q i = G q i := by rw [hGq]
    have hai := hA.1 i
    have hm : (i : Int) ≤ 300 → 0 ≤ (i : Int) * G1 q i ∧ (i : Int) * G1 q i ≤ 10000 := by
      intro hi
      rw [hGq]
      refine ⟨Int.mul_nonneg (by omega) hai.1, ?_⟩
      have := Int.mul_le_mul hi (show G q i ≤ 13 by omega) hai.1 (by decide)
      omega
    have hok : ok (wd k) (G1 k) ∨ ¬ (i : Int) ≤ dg 300 (G1 q) := by
      by_cases h9 : (i : Int) ≤ dg 300 (G1 q)
      · refine Or.inl ?_
        rw [hGk]
        refine ⟨fun x => ?_, fun x hx => ?_⟩
        · show 0 ≤ (if x + 1 < i then ((x : Int) + 1) * G q (x + 1) % pr else 0) ∧ (if x + 1 < i then ((x : Int) + 1) * G q (x + 1) % pr else 0) < 13
          split
          · exact ⟨Int.emod_nonneg _ (by omega), by have := Int.emod_lt_of_pos (((x : Int) + 1) * G q (x + 1)) (show 0 < pr by omega); omega⟩
          · omega
        · show (if x + 1 < i then ((x : Int) + 1) * G q (x + 1) % pr else 0) = 0
          rw [if_neg (by omega)]
      · exact Or.inr h9
    refine lv_iload_n X.1 X.2.1 d_Ar_derive_6 rfl (lv_at hl 3 rfl) ?_
    refine lv_aload_n X.1 X.2.1 d_Ar_derive_7 rfl (lv_at hl 2 rfl) ?_
    refine g_deg (k := q) X hT w (by omega) k_f_Ar_52 d_Ar_derive_8 ?_
    refine i_gt (a := i) (b := dg 300 (G1 q)) (tgt := 40) X (by omega) (by omega) d_Ar_derive_11 (by decide) (fun h_11 => ?_) (fun h_11 => ?_)
    · refine K H locs ls ?_
      rw [show va_up G k (der pr (G q)) = G1 from ?_]
      · exact w
      · rw [eG]
        congr 1
        funext x
        unfold der
        split
        · rfl
        · rw [hA.above hw2 (by omega)]; simp
    · refine lv_aload_n X.1 X.2.1 d_Ar_derive_14 rfl (lv_at hl 1 rfl) ?_
      refine lv_iload_n X.1 X.2.1 d_Ar_derive_15 rfl (lv_at hl 3 rfl) ?_
      refine lv_iconst (v := iI (1)) X.1 X.2.1 d_Ar_derive_16 (by decide) ?_
      refine i_sub (a := i) (b := 1) X d_Ar_derive_17 ?_
      rw [show (i : Int) - 1 = ((i - 1 : Nat) : Int) by omega]
      refine lv_iload_n X.1 X.2.1 d_Ar_derive_18 rfl (lv_at hl 3 rfl) ?_
      refine lv_aload_n X.1 X.2.1 d_Ar_derive_19 rfl (lv_at hl 2 rfl) ?_
      refine t_co (k := q) X hT w (by omega) k_f_Ar_55 d_Ar_derive_20 ?_
      refine lv_iload_n X.1 X.2.1 d_Ar_derive_23 rfl (lv_at hl 3 rfl) ?_
      refine g_ld (k := q) (z := i) X hT w (by omega) (i) rfl (by omega) d_Ar_derive_24 ?_
      refine i_mul (a := i) (b := G1 q i) X d_Ar_derive_25 ?_
      refine lv_aload_n X.1 X.2.1 d_Ar_derive_26 rfl (lv_at hl 0 rfl) ?_
      refine t_ar X hT w hO 0 (by decide) k_f_Ar_48 rfl d_Ar_derive_27 ?_
      refine i_rem (a := i * (G1 q i)) (b := pr) X (by have := hm (by omega); omega) (by omega) d_Ar_derive_30 ?_
      refine w_cVv (n := 2) (i := 2 * k) (ci := 0) (As := [.int (iI ((i - 1 : Nat) : Int)), .int (iI ((i * (G1 q i)) % pr))]) (rest := []) X w hml hl.1 (c_Po_put hT (G := G1) (k := k) (i := i - 1) (v := (i * G1 q i) % pr) hk (by omega) ⟨Int.emod_nonneg _ (by omega), by have := Int.emod_lt_of_pos (i * G1 q i) (show 0 < pr by omega); omega⟩ (hok.resolve_right (fun h => h h_11))) (by omega) (mkV_o hk) rfl k_m_Ar_79 k_im_Po_put k_se_Po_put k_i_Po k_co_Po_put (by decide +kernel) rfl ⟨Nat.le_of_ble_eq_true rfl, Nat.le_of_ble_eq_true rfl⟩ ⟨rfl, rfl⟩ ⟨Nat.zero_le _, Nat.zero_le _⟩ rfl (Nat.le_of_ble_eq_true rfl) d_Ar_derive_31 (fun C' H locs hp w => ?_)
      subst hp
      obtain ⟨Gw1, eGw1⟩ : ∃ gg : Nat → Nat → Int, gg = va_up G1 k (va_up (G1 k) (i - 1) ((i * G1 q i) % pr)) := ⟨_, rfl⟩
      rw [← eGw1] at w
      refine i_inc (k := 3) (x := i) (lv' := [(3, .int (iI (i + 1))), (0, .ref (ad (123))), (1, .ref (ad (2 * k))), (2, .ref (ad (2 * q)))]) X d_Ar_derive_34 hl rfl (by decide) rfl (fun ls hl => ?_)
      refine lv_goto (tgt := 6) X.1 X.2.1 d_Ar_derive_37 (by decide) ?_
      refine ih (i + 1) _ H locs ls (by omega) (by omega) (by omega) w ?_ (lv_sub hl [1, 2, 3, 0] rfl)
      rw [eGw1, eG, va_uu, va_up_self, va_up_ne _ _ hqk]
      congr 1
      funext x
      by_cases h9 : x = i - 1
      · rw [h9, va_up_self, if_pos (by omega), show i - 1 + 1 = i by omega, show ((i - 1 : Nat) : Int) + 1 = i by omega]
      · rw [va_up_ne _ _ h9]; split <;> split <;> first | rfl | (exfalso; omega)
end DE
theorem c_Ar_derive {l : Launch} {D : va_G} {cs : Nat → ClassId} {A : Nat → Prop} {ad : Nat → Nat} {T : Nat} (hT : 132 ≤ T) {G : Nat → Nat → Int} {O : Nat → va_E} {pr : Int} {inv : Nat → Int} (hO : arO cs ad pr inv O) {k q : Nat} (hk : k < 61) (hq : q < 61) (hqk : q ≠ k) (hG : ok (wd k) (G k)) (hA : ok (wd q) (G q)) (ht : dg 300 (G q) ≤ wd k) : Cv l y_Ar_derive ws_Ar_derive { frames := 2, cells := 0, slots := 0, locals := 43 } D cs A ad T [.ref (ad (123)), .ref (ad (2 * k)), .ref (ad (2 * q))] (mkV cs ad (rV G) O) (fun C' => C' = mkV cs ad (rV (va_up G k (der pr (G q)))) O) := by
  refine w_bodyV (by decide) (Nat.le_of_ble_eq_true rfl) ?_
  intro p e s m below meth c X hr hlk hml w ls hl
  have hl : lv_has ls 4 [(0, .ref (ad (123))), (1, .ref (ad (2 * k))), (2, .ref (ad (2 * q)))] := hl
  have hd0 := dg_ge 300 (G q)
  refine lv_aload_n X.1 X.2.1 d_Ar_derive_0 rfl (lv_at hl 1 rfl) ?_
  refine w_cVv (n := 0) (i := 2 * k) (ci := 0) (As := []) (rest := []) X w hml hl.1 (c_Po_clear hT (G := G) (k := k) (by omega) hG) (by omega) (mkV_o (by omega)) rfl k_m_Ar_76 k_im_Po_clear k_se_Po_clear k_i_Po k_co_Po_clear (by decide +kernel) rfl ⟨Nat.le_of_ble_eq_true rfl, Nat.le_of_ble_eq_true rfl⟩ ⟨rfl, rfl⟩ ⟨Nat.zero_le _, Nat.zero_le _⟩ rfl (Nat.le_of_ble_eq_true rfl) d_Ar_derive_1 (fun C' H locs hp w => ?_)
  subst hp
  obtain ⟨Gw1, eGw1⟩ : ∃ gg : Nat → Nat → Int, gg = va_up G k (fun _ => 0) := ⟨_, rfl⟩
  rw [← eGw1] at w
  refine lv_iconst (v := iI (1)) X.1 X.2.1 d_Ar_derive_4 (by decide) ?_
  refine lv_istore_n (lv' := [(3, .int (iI (1))), (0, .ref (ad (123))), (1, .ref (ad (2 * k))), (2, .ref (ad (2 * q)))]) X.1 X.2.1 d_Ar_derive_5 rfl hl (by decide) rfl (fun ls hl => ?_)
  have e2 : Gw1 q = G q := by rw [eGw1, va_up_ne _ _ hqk]
  refine l_Ar_derive (G := Gw1) X hml hT hO hk hq hqk (by rw [e2]; exact hA) (by rw [e2]; exact ht) (fun H locs ls w => ?_) (dg 300 (G q) + 2).toNat 1 Gw1 _ _ _ (by rw [e2]; omega) (by omega) (by omega) w ?_ (lv_sub hl [1, 2, 3, 0] rfl)
  · refine w_vret X hr hlk w ?_ d_Ar_derive_40
    rw [e2, eGw1, va_uu]
  · rw [eGw1, va_uu]
    congr 1
/-- the value at v, from the n-th coefficient down -/
def hor (pr : Int) (F : Nat → Int) (v : Int) : Nat → Int → Int
  | 0, a => a
  | n + 1, a => hor pr F v n ((a * v + F n) % pr)
section EV
variable {p : Program} {l : Launch} {e : Env} {R : Room} {s : State} {m : MethodId} {args : Array Value} {below : List Frame} {meth : Method} {c : Code} {H : Heap} {locs : List Loc} {cells slots : Nat} {Q : State → Prop} {D : va_G} {cs : Nat → ClassId} {A : Nat → Prop} {ad : Nat → Nat} {T : Nat}
variable {k : Nat} {v : Int} {O : Nat → va_E} {pr : Int} {inv : Nat → Int} {G : Nat → Nat → Int}
theorem l_Ar_evaluate (X : Cx p s m args c b_Ar_evaluate RAr) {N0 : Nat} (hT : 132 ≤ T) (hO : arO cs ad pr inv O) (hk : k < 61) (hF : ok (wd k) (G k)) (hv : 0 ≤ v ∧ v < pr) (w : Wd D cs A ad T s (mkV cs ad (rV G) O) H locs)
    (K : ∀ (ls : Array Slot) (a : Int), a = hor pr (G k) v N0 0 → lv_has ls 5 [(3, .int (iI a))] → W p l e R s m args below meth c H locs cells slots Q (F0 m 36 ls [])) :
    ∀ (n : Nat) (a : Int) (ls : Array Slot), n ≤ wd k → (0 ≤ a ∧ a < pr) → hor pr (G k) v N0 0 = hor pr (G k) v n a → lv_has ls 5 [(0, .ref (ad (123))), (1, .ref (ad (2 * k))), (2, .int (iI (v))), (3, .int (iI (a))), (4, .int (iI ((n : Int) - 1)))] → W p l e R s m args below meth c H locs cells slots Q (F0 m 8 ls []) := by
  have hw := wd_lt k
  have hpr := hO.2.2.1
  intro n
  induction n with
  | zero =>
    intro a ls hn ha hh hl
    refine lv_iload X.1 X.2.1 d_Ar_evaluate_8 (lv_at hl 4 rfl) ?_
    refine z_lt (a := ((0 : Nat) : Int) - 1) (tgt := 36) X (by omega) d_Ar_evaluate_10 (by decide) (fun h_10 => ?_) (fun h_10 => ?_)
    · exact K ls a hh.symm (lv_sub hl [3] rfl)
    · exact absurd h_10 (by omega)
  | succ n ih =>
    intro a ls hn ha hh hl
    have hai := hF.1 n
    have hm : 0 ≤ a * v ∧ a * v ≤ 169 := by
      refine ⟨Int.mul_nonneg ha.1 hv.1, ?_⟩
      have := Int.mul_le_mul (show a ≤ 13 by omega) (show v ≤ 13 by omega) hv.1 (by decide)
      omega
    refine lv_iload X.1 X.2.1 d_Ar_evaluate_8 (lv_at hl 4 rfl) ?_
    refine z_lt (a := ((n + 1 : Nat) : Int) - 1) (tgt := 36) X (by omega) d_Ar_evaluate_10 (by decide) (fun h_10 => ?_) (fun h_10 => ?_)
    · exact absurd h_10 (by omega)
    · refine lv_iload_n X.1 X.2.1 d_Ar_evaluate_13 rfl (lv_at hl 3 rfl) ?_
      refine lv_iload_n X.1 X.2.1 d_Ar_evaluate_14 rfl (lv_at hl 2 rfl) ?_
      refine i_mul (a := a) (b := v) X d_Ar_evaluate_15 ?_
      refine lv_aload_n X.1 X.2.1 d_Ar_evaluate_16 rfl (lv_at hl 1 rfl) ?_
      refine t_co (k := k) X hT w (by omega) k_f_Ar_55 d_Ar_evaluate_17 ?_
      refine lv_iload X.1 X.2.1 d_Ar_evaluate_20 (lv_at hl 4 rfl) ?_
      refine g_ld (k := k) (z := ((n + 1 : Nat) : Int) - 1) X hT w (by omega) (n) (by omega) (by omega) d_Ar_evaluate_22 ?_
      refine i_add (a := a * v) (b := G k n) X d_Ar_evaluate_23 ?_
      refine lv_aload_n X.1 X.2.1 d_Ar_evaluate_24 rfl (lv_at hl 0 rfl) ?_
      refine t_ar X hT w hO 0 (by decide) k_f_Ar_48 rfl d_Ar_evaluate_25 ?_
      refine i_rem (a := (a * v) + (G k n)) (b := pr) X (by omega) (by omega) d_Ar_evaluate_28 ?_
      refine lv_istore_n (lv' := [(3, .int (iI (((a * v) + (G k n)) % pr))), (0, .ref (ad (123))), (1, .ref (ad (2 * k))), (2, .int (iI (v))), (4, .int (iI (((n + 1 : Nat) : Int) - 1)))]) X.1 X.2.1 d_Ar_evaluate_29 rfl hl (by decide) rfl (fun ls hl => ?_)
      refine i_inc (k := 4) (x := ((n + 1 : Nat) : Int) - 1) (lv' := [(4, .int (iI ((((n + 1 : Nat) : Int) - 1) + (-1)))), (3, .int (iI (((a * v) + (G k n)) % pr))), (0, .ref (ad (123))), (1, .ref (ad (2 * k))), (2, .int (iI (v)))]) X d_Ar_evaluate_30 hl rfl (by decide) rfl (fun ls hl => ?_)
      refine lv_goto (tgt := 8) X.1 X.2.1 d_Ar_evaluate_33 (by decide) ?_
      refine ih _ ls (by omega) ⟨Int.emod_nonneg _ (by omega), Int.emod_lt_of_pos _ (by omega)⟩ hh ?_
      rw [show (n : Int) - 1 = ((n + 1 : Nat) : Int) - 1 + (-1) by omega]
      exact lv_sub hl [2, 3, 4, 1, 0] rfl
end EV
theorem c_Ar_evaluate {l : Launch} {D : va_G} {cs : Nat → ClassId} {A : Nat → Prop} {ad : Nat → Nat} {T : Nat} (hT : 132 ≤ T) {G : Nat → Nat → Int} {O : Nat → va_E} {pr : Int} {inv : Nat → Int} (hO : arO cs ad pr inv O) {k : Nat} {v : Int} (hk : k < 61) (hF : ok (wd k) (G k)) (hv : 0 ≤ v ∧ v < pr) : Ci l y_Ar_evaluate ws_Ar_evaluate { frames := 0, cells := 0, slots := 0, locals := 0 } D cs A ad T [.ref (ad (123)), .ref (ad (2 * k)), .int (iI (v))] (mkV cs ad (rV G) O) (fun r C' => r = iI (hor pr (G k) v (dg 300 (G k) + 1).toNat 0) ∧ C' = mkV cs ad (rV G) O) := by
  refine w_bodyI (by decide) (Nat.le_of_ble_eq_true rfl) ?_
  intro p e s m below meth c X hr hlk hml w ls hl
  have hl : lv_has ls 5 [(0, .ref (ad (123))), (1, .ref (ad (2 * k))), (2, .int (iI (v)))] := hl
  have hpr := hO.2.2.1
  have hd := hF.dlt 300
  have hd0 := dg_ge 300 (G k)
  have hw := wd_lt k
  refine lv_iconst (v := iI (0)) X.1 X.2.1 d_Ar_evaluate_0 (by decide) ?_
  refine lv_istore_n (lv' := [(3, .int (iI (0))), (0, .ref (ad (123))), (1, .ref (ad (2 * k))), (2, .int (iI (v)))]) X.1 X.2.1 d_Ar_evaluate_1 rfl hl (by decide) rfl (fun ls hl => ?_)
  refine lv_aload_n X.1 X.2.1 d_Ar_evaluate_2 rfl (lv_at hl 2 rfl) ?_
  refine g_deg (k := k) X hT w (by omega) k_f_Ar_52 d_Ar_evaluate_3 ?_
  refine lv_istore (lv' := [(4, .int (iI (dg 300 (G k)))), (3, .int (iI (0))), (0, .ref (ad (123))), (1, .ref (ad (2 * k))), (2, .int (iI (v)))]) X.1 X.2.1 d_Ar_evaluate_6 hl (by decide) rfl (fun ls hl => ?_)
  refine l_Ar_evaluate (N0 := (dg 300 (G k) + 1).toNat) X hT hO hk hF hv w (fun ls a ha hl => ?_) (dg 300 (G k) + 1).toNat 0 ls (by omega) ⟨by omega, by omega⟩ rfl ?_
  · refine lv_iload_n X.1 X.2.1 d_Ar_evaluate_36 rfl (lv_at hl 0 rfl) ?_
    exact w_iret X hr hlk w ⟨by rw [ha], rfl⟩ d_Ar_evaluate_37
  · rw [show (((dg 300 (G k) + 1).toNat : Nat) : Int) - 1 = dg 300 (G k) by omega]
    exact lv_sub hl [2, 3, 4, 1, 0] rfl
end
section
/-! division: the rest and the quotient, step by step -/
abbrev P2 : Type := (Nat → Int) × (Nat → Int)
def divS (pr iv : Int) (B : Nat → Int) (e : Nat) (s : P2) (sh : Nat) : P2 := if s.1 (sh + e) * iv % pr = 0 then s else (addS pr s.1 (pr - s.1 (sh + e) * iv % pr) sh B, va_up s.2 sh (s.1 (sh + e) * iv % pr))
def divL (pr iv : Int) (B : Nat → Int) (e : Nat) : Nat → P2 → P2
  | 0, s => s
  | n + 1, s => divL pr iv B e n (divS pr iv B e s n)
def dvm (pr : Int) (inv : Nat → Int) (A B : Nat → Int) : P2 := if dg 300 B < 0 then (A, fun _ => 0) else divL pr (inv (B (dg 300 B).toNat).toNat) B (dg 300 B).toNat (dg 300 A - dg 300 B + 1).toNat (A, fun _ => 0)
theorem up_okp {pr : Int} {n i : Nat} {F : Nat → Int} {v : Int} (h : okp pr n F) (hi : i < n) (hv : 0 ≤ v ∧ v < pr) : okp pr n (va_up F i v) := by
  refine ⟨fun x => ?_, fun x hx => ?_⟩
  · by_cases e : x = i
    · subst e; rw [va_up_self]; exact hv
    · rw [va_up_ne _ _ e]; exact h.1 x
  · rw [va_up_ne _ _ (by omega)]; exact h.2 x hx
theorem okp_0 {pr : Int} (n : Nat) (h : 0 < pr) : okp pr n (fun _ => 0) := ⟨fun _ => ⟨Int.le_refl 0, h⟩, fun _ _ => rfl⟩
theorem divS_ok {pr iv : Int} {B : Nat → Int} {e N M sh : Nat} {s : P2} (hp : 0 < pr) (h1 : okp pr N s.1) (h2 : okp pr M s.2) (hB : ∀ x, N ≤ x + sh → B x = 0) (hM : sh < M) : okp pr N (divS pr iv B e s sh).1 ∧ okp pr M (divS pr iv B e s sh).2 := by
  unfold divS
  split
  · exact ⟨h1, h2⟩
  · exact ⟨addS_ok hp h1 hB, up_okp h2 hM ⟨Int.emod_nonneg _ (by omega), Int.emod_lt_of_pos _ hp⟩⟩
theorem divL_ok {pr iv : Int} {B : Nat → Int} {e N M : Nat} (hp : 0 < pr) : ∀ (n : Nat) (s : P2), okp pr N s.1 → okp pr M s.2 → (∀ i x, i < n → N ≤ x + i → B x = 0) → n ≤ M → okp pr N (divL pr iv B e n s).1 ∧ okp pr M (divL pr iv B e n s).2
  | 0, s, h1, h2, _, _ => ⟨h1, h2⟩
  | n + 1, s, h1, h2, hB, hM => by
    obtain ⟨a, b⟩ := divS_ok (e := e) (iv := iv) hp h1 h2 (fun x hx => hB n x (by omega) hx) (by omega)
    exact divL_ok hp n _ a b (fun i x hi => hB i x (by omega)) (by omega)
theorem dvm_ok {pr : Int} {inv : Nat → Int} {A B : Nat → Int} {N M K : Nat} (hp : 0 < pr) (hA : okp pr N A) (hB : okp pr K B) (hN : N ≤ 300) (hK : K ≤ 300) (h13 : pr ≤ 13) (hM : dg 300 A - dg 300 B < M) : okp pr N (dvm pr inv A B).1 ∧ okp pr M (dvm pr inv A B).2 := by
  unfold dvm
  split
  · exact ⟨hA, okp_0 M hp⟩
  · have h1 := (hA.ok h13).dlt 300
    exact divL_ok hp _ _ hA (okp_0 M hp) (fun i x hi hx => (hB.ok h13).above hK (by omega)) (by omega)
section DV
variable {p : Program} {l : Launch} {e : Env} {s : State} {m : MethodId} {args : Array Value} {below : List Frame} {meth : Method} {c : Code} {H : Heap} {locs : List Loc} {Q : State → Prop} {D : va_G} {cs : Nat → ClassId} {A : Nat → Prop} {ad : Nat → Nat} {T : Nat} {O : Nat → va_E} {pr : Int} {inv : Nat → Int}
variable {k q t : Nat} {iv : Int} {G : Nat → Nat → Int}
theorem l_Ar_divide (X : Cx p s m args c b_Ar_divide RAr) (hml : c.maxLocals = 7) (hT : 132 ≤ T) (hO : arO cs ad pr inv O) (hk : k < 61) (hq : q < 61) (ht : t < 61) (hqk : q ≠ k) (htk : t ≠ k) (hqt : q ≠ t) (hB : okp pr (wd q) (G q)) (hd0 : 0 ≤ dg 300 (G q)) (hiv : 0 ≤ iv ∧ iv ≤ 13) {z : P2}
    (K : ∀ (H : Heap) (locs : List Loc) (ls : Array Slot), Wd D cs A ad T s (mkV cs ad (rV (va_up (va_up G t z.2) k z.1)) O) H locs → W p l e { frames := 2, cells := 0, slots := 0, locals := 47 } s m args below meth c H locs 0 0 Q (F0 m 95 ls [])) :
    ∀ (n : Nat) (u : P2) (G1 : Nat → Nat → Int) (H : Heap) (locs : List Loc) (ls : Array Slot), okp pr (wd k) u.1 → okp pr (wd t) u.2 → (n : Int) + dg 300 (G q) ≤ wd k → n ≤ wd t → divL pr iv (G q) (dg 300 (G q)).toNat n u = z → Wd D cs A ad T s (mkV cs ad (rV G1) O) H locs → G1 = (va_up (va_up G t u.2) k u.1) → lv_has ls 7 [(0, .ref (ad (123))), (1, .ref (ad (2 * k))), (2, .ref (ad (2 * q))), (3, .ref (ad (2 * t))), (4, .int (iI (iv))), (5, .int (iI ((n : Int) - 1)))] → W p l e { frames := 2, cells := 0, slots := 0, locals := 47 } s m args below meth c H locs 0 0 Q (F0 m 34 ls []) := by
  have hpr := hO.2.2.1
  have hw := wd_lt k
  have hw2 := wd_lt t
  have hBo := hB.ok hpr.2
  have hdq := hBo.dlt 300
  intro n
  induction n with
  | zero =>
    intro u G1 H locs ls h1 h2 h3 h4 hz w eG hl
    refine lv_iload X.1 X.2.1 d_Ar_divide_34 (lv_at hl 5 rfl) ?_
    refine z_lt (a := ((0 : Nat) : Int) - 1) (tgt := 95) X (by omega) d_Ar_divide_36 (by decide) (fun h_36 => ?_) (fun h_36 => ?_)
    · have hz : u = z := hz
      refine K H locs ls ?_
      rw [← hz, ← eG]
      exact w
    · exact absurd h_36 (by omega)
  | succ n ih =>
    intro u G1 H locs ls h1 h2 h3 h4 hz w eG hl
    have hGk : G1 k = u.1 := by rw [eG, va_up_self]
    have hGq : G1 q = G q := by rw [eG, va_up_ne _ _ hqk, va_up_ne _ _ hqt]
    have hGt : G1 t = u.2 := by rw [eG, va_up_ne _ _ htk, va_up_self]
    have hdG : dg 300 (G1 q) = dg 300 (G q) := by rw [hGq]
    obtain ⟨e, he⟩ : ∃ e : Nat, e = (dg 300 (G q)).toNat := ⟨_, rfl⟩
    have hai := h1.1 (n + e)
    have hak : G1 k (n + e) = u.1 (n + e) := by rw [hGk]
    have hm : 0 ≤ G1 k (n + e) * iv ∧ G1 k (n + e) * iv ≤ 1000 := by
      rw [hak]
      refine ⟨Int.mul_nonneg hai.1 hiv.1, ?_⟩
      have := Int.mul_le_mul (show u.1 (n + e) ≤ 13 by omega) hiv.2 hiv.1 (by decide)
      omega
    obtain ⟨g, hg⟩ : ∃ g : Int, g = (G1 k (n + e) * iv) % pr := ⟨_, rfl⟩
    have hg2 : g = u.1 (n + e) * iv % pr := by rw [hg, hak]
    have hgr : 0 ≤ g ∧ g < pr := by rw [hg]; exact ⟨Int.emod_nonneg _ (by omega), Int.emod_lt_of_pos _ (by omega)⟩
    have hz : divL pr iv (G q) e n (divS pr iv (G q) e u n) = z := by rw [he]; exact hz
    refine lv_iload X.1 X.2.1 d_Ar_divide_34 (lv_at hl 5 rfl) ?_
    refine z_lt (a := ((n + 1 : Nat) : Int) - 1) (tgt := 95) X (by omega) d_Ar_divide_36 (by decide) (fun h_36 => ?_) (fun h_36 => ?_)
    · exact absurd h_36 (by omega)
    · refine lv_aload_n X.1 X.2.1 d_Ar_divide_39 rfl (lv_at hl 1 rfl) ?_
      refine t_co (k := k) X hT w (by omega) k_f_Ar_55 d_Ar_divide_40 ?_
      refine lv_iload X.1 X.2.1 d_Ar_divide_43 (lv_at hl 5 rfl) ?_
      refine lv_aload_n X.1 X.2.1 d_Ar_divide_45 rfl (lv_at hl 2 rfl) ?_
      refine g_deg (k := q) X hT w (by omega) k_f_Ar_52 d_Ar_divide_46 ?_
      refine i_add (a := ((n + 1 : Nat) : Int) - 1) (b := dg 300 (G1 q)) X d_Ar_divide_49 ?_
      refine g_ld (k := k) (z := (((n + 1 : Nat) : Int) - 1) + (dg 300 (G1 q))) X hT w (by omega) (n + e) (by omega) (by omega) d_Ar_divide_50 ?_
      refine lv_iload X.1 X.2.1 d_Ar_divide_51 (lv_at hl 4 rfl) ?_
      refine i_mul (a := G1 k (n + e)) (b := iv) X d_Ar_divide_53 ?_
      refine lv_aload_n X.1 X.2.1 d_Ar_divide_54 rfl (lv_at hl 0 rfl) ?_
      refine t_ar X hT w hO 0 (by decide) k_f_Ar_48 rfl d_Ar_divide_55 ?_
      refine i_rem (a := (G1 k (n + e)) * iv) (b := pr) X (by omega) (by omega) d_Ar_divide_58 ?_
      rw [← hg]
      refine lv_istore (lv' := [(6, .int (iI (g))), (0, .ref (ad (123))), (1, .ref (ad (2 * k))), (2, .ref (ad (2 * q))), (3, .ref (ad (2 * t))), (4, .int (iI (iv))), (5, .int (iI (((n + 1 : Nat) : Int) - 1)))]) X.1 X.2.1 d_Ar_divide_59 hl (by decide) rfl (fun ls hl => ?_)
      refine lv_iload X.1 X.2.1 d_Ar_divide_61 (lv_at hl 0 rfl) ?_
      refine z_eq (a := g) (tgt := 89) X (by omega) d_Ar_divide_63 (by decide) (fun h_63 => ?_) (fun h_63 => ?_)
      · refine i_inc (k := 6) (x := ((n + 1 : Nat) : Int) - 1) (lv' := [(5, .int (iI ((((n + 1 : Nat) : Int) - 1) + (-1)))), (6, .int (iI (g))), (0, .ref (ad (123))), (1, .ref (ad (2 * k))), (2, .ref (ad (2 * q))), (3, .ref (ad (2 * t))), (4, .int (iI (iv)))]) X d_Ar_divide_89 hl rfl (by decide) rfl (fun ls hl => ?_)
        refine lv_goto (tgt := 34) X.1 X.2.1 d_Ar_divide_92 (by decide) ?_
        refine ih u _ H locs ls h1 h2 (by omega) (by omega) ?_ w eG ?_
        · have e1 : divS pr iv (G q) e u n = u := by unfold divS; rw [if_pos (by omega)]
          rw [e1] at hz; rw [← he]; exact hz
        · rw [show (n : Int) - 1 = ((n + 1 : Nat) : Int) - 1 + (-1) by omega]; exact lv_sub hl [2, 3, 4, 5, 6, 0] rfl
      · refine lv_aload_n X.1 X.2.1 d_Ar_divide_66 rfl (lv_at hl 4 rfl) ?_
        refine lv_iload X.1 X.2.1 d_Ar_divide_67 (lv_at hl 6 rfl) ?_
        refine lv_iload X.1 X.2.1 d_Ar_divide_69 (lv_at hl 0 rfl) ?_
        rw [show ((n + 1 : Nat) : Int) - 1 = (n : Int) by omega]
        refine w_cVv (n := 2) (i := 2 * t) (ci := 0) (As := [.int (iI (n)), .int (iI (g))]) (rest := []) X w hml hl.1 (c_Po_put hT (G := G1) (k := t) (i := n) (v := g) ht (by omega) (by omega) (by rw [hGt]; exact h2.ok hpr.2)) (by omega) (mkV_o ht) rfl k_m_Ar_79 k_im_Po_put k_se_Po_put k_i_Po k_co_Po_put (by decide +kernel) rfl ⟨Nat.le_of_ble_eq_true rfl, Nat.le_of_ble_eq_true rfl⟩ ⟨rfl, rfl⟩ ⟨Nat.zero_le _, Nat.zero_le _⟩ rfl (Nat.le_of_ble_eq_true rfl) d_Ar_divide_71 (fun C' H locs hp w => ?_)
        subst hp
        obtain ⟨Gw1, eGw1⟩ : ∃ gg : Nat → Nat → Int, gg = va_up G1 t (va_up (G1 t) n g) := ⟨_, rfl⟩
        rw [← eGw1] at w
        refine lv_aload_n X.1 X.2.1 d_Ar_divide_74 rfl (lv_at hl 1 rfl) ?_
        refine lv_aload_n X.1 X.2.1 d_Ar_divide_75 rfl (lv_at hl 2 rfl) ?_
        refine lv_aload_n X.1 X.2.1 d_Ar_divide_76 rfl (lv_at hl 1 rfl) ?_
        refine t_ar X hT w hO 0 (by decide) k_f_Ar_48 rfl d_Ar_divide_77 ?_
        refine lv_iload X.1 X.2.1 d_Ar_divide_80 (lv_at hl 0 rfl) ?_
        refine i_sub (a := pr) (b := g) X d_Ar_divide_82 ?_
        refine lv_iload X.1 X.2.1 d_Ar_divide_83 (lv_at hl 6 rfl) ?_
        refine lv_aload_n X.1 X.2.1 d_Ar_divide_85 rfl (lv_at hl 3 rfl) ?_
        rw [show ((n + 1 : Nat) : Int) - 1 = (n : Int) by omega]
        refine w_cVv (n := 4) (i := 123) (ci := 1) (As := [.ref (ad (2 * k)), .int (iI (pr - g)), .int (iI (n)), .ref (ad (2 * q))]) (rest := []) X w hml hl.1 (c_Ar_addShifted hT (G := Gw1) hO (k := k) (q := q) (t := n) (f := pr - g) hk hq hqk (by rw [eGw1, va_up_ne _ _ (Ne.symm htk), hGk]; exact h1) (by rw [eGw1, va_up_ne _ _ hqt, hGq]; exact hBo) (by omega) (by rw [eGw1, va_up_ne _ _ hqt, hGq]; omega)) (by omega) (by rw [mkV_O (by decide)]; exact hO.1) rfl k_m_Ar_64 k_im_Ar_addShifted k_se_Ar_addShifted k_i_Ar k_co_Ar_addShifted (by decide +kernel) rfl ⟨Nat.le_of_ble_eq_true rfl, Nat.le_of_ble_eq_true rfl⟩ ⟨rfl, rfl⟩ ⟨Nat.zero_le _, Nat.zero_le _⟩ rfl (Nat.le_of_ble_eq_true rfl) d_Ar_divide_86 (fun C' H locs hp w => ?_)
        subst hp
        obtain ⟨Gw2, eGw2⟩ : ∃ gg : Nat → Nat → Int, gg = va_up Gw1 k (addS pr (Gw1 k) (pr - g) n (Gw1 q)) := ⟨_, rfl⟩
        rw [← eGw2] at w
        refine i_inc (k := 6) (x := ((n + 1 : Nat) : Int) - 1) (lv' := [(5, .int (iI ((((n + 1 : Nat) : Int) - 1) + (-1)))), (6, .int (iI (g))), (0, .ref (ad (123))), (1, .ref (ad (2 * k))), (2, .ref (ad (2 * q))), (3, .ref (ad (2 * t))), (4, .int (iI (iv)))]) X d_Ar_divide_89 hl rfl (by decide) rfl (fun ls hl => ?_)
        refine lv_goto (tgt := 34) X.1 X.2.1 d_Ar_divide_92 (by decide) ?_
        have e1 : divS pr iv (G q) e u n = (addS pr u.1 (pr - g) n (G q), va_up u.2 n g) := by unfold divS; rw [← hg2, if_neg h_63]
        have hok := divS_ok (e := e) (iv := iv) (B := G q) (sh := n) (by omega) h1 h2 (fun x hx => hBo.above (wd_le q) (by omega)) (by omega)
        refine ih (divS pr iv (G q) e u n) _ H locs ls hok.1 hok.2 (by omega) (by omega) (by rw [← he]; exact hz) w ?_ ?_
        · rw [e1, eGw2, eGw1]
          show va_up (va_up G1 t (va_up (G1 t) n g)) k _ = va_up (va_up G t (va_up u.2 n g)) k (addS pr u.1 (pr - g) n (G q))
          rw [va_up_ne _ _ (Ne.symm htk), va_up_ne _ _ hqt, hGk, hGq, hGt, eG]
          funext j
          unfold va_up
          split
          · rfl
          · split <;> rfl
        · rw [show (n : Int) - 1 = ((n + 1 : Nat) : Int) - 1 + (-1) by omega]; exact lv_sub hl [2, 3, 4, 5, 6, 0] rfl
end DV
theorem c_Ar_divide {l : Launch} {D : va_G} {cs : Nat → ClassId} {A : Nat → Prop} {ad : Nat → Nat} {T : Nat} (hT : 132 ≤ T) {G : Nat → Nat → Int} {O : Nat → va_E} {pr : Int} {inv : Nat → Int} (hO : arO cs ad pr inv O) {k q t : Nat} (hk : k < 61) (hq : q < 61) (ht : t < 61) (hqk : q ≠ k) (htk : t ≠ k) (hqt : q ≠ t) (hA : okp pr (wd k) (G k)) (hB : okp pr (wd q) (G q)) (hQ : ok (wd t) (G t)) (hdt : dg 300 (G k) - dg 300 (G q) < wd t) : Cv l y_Ar_divide ws_Ar_divide { frames := 2, cells := 0, slots := 0, locals := 47 } D cs A ad T [.ref (ad (123)), .ref (ad (2 * k)), .ref (ad (2 * q)), .ref (ad (2 * t))] (mkV cs ad (rV G) O) (fun C' => C' = mkV cs ad (rV (va_up (va_up G t (dvm pr inv (G k) (G q)).2) k (dvm pr inv (G k) (G q)).1)) O) := by
  refine w_bodyV (by decide) (Nat.le_of_ble_eq_true rfl) ?_
  intro p e s m below meth c X hr hlk hml w ls hl
  have hl : lv_has ls 7 [(0, .ref (ad (123))), (1, .ref (ad (2 * k))), (2, .ref (ad (2 * q))), (3, .ref (ad (2 * t)))] := hl
  have hpr := hO.2.2.1
  have hAo := hA.ok hpr.2
  have hBo := hB.ok hpr.2
  have hd := hAo.dlt 300
  have hd0 := dg_ge 300 (G k)
  have hdq := hBo.dlt 300
  have hdq0 := dg_ge 300 (G q)
  have hw := wd_lt k
  have hw2 := wd_lt q
  refine lv_aload_n X.1 X.2.1 d_Ar_divide_0 rfl (lv_at hl 3 rfl) ?_
  refine w_cVv (n := 0) (i := 2 * t) (ci := 0) (As := []) (rest := []) X w hml hl.1 (c_Po_clear hT (G := G) (k := t) ht hQ) (by omega) (mkV_o ht) rfl k_m_Ar_76 k_im_Po_clear k_se_Po_clear k_i_Po k_co_Po_clear (by decide +kernel) rfl ⟨Nat.le_of_ble_eq_true rfl, Nat.le_of_ble_eq_true rfl⟩ ⟨rfl, rfl⟩ ⟨Nat.zero_le _, Nat.zero_le _⟩ rfl (Nat.le_of_ble_eq_true rfl) d_Ar_divide_1 (fun C' H locs hp w => ?_)
  subst hp
  obtain ⟨Gw1, eGw1⟩ : ∃ gg : Nat → Nat → Int, gg = va_up G t (fun _ => 0) := ⟨_, rfl⟩
  rw [← eGw1] at w
  have hGq : Gw1 q = G q := by rw [eGw1, va_up_ne _ _ hqt]
  have hGk : Gw1 k = G k := by rw [eGw1, va_up_ne _ _ (Ne.symm htk)]
  have hdG : dg 300 (Gw1 q) = dg 300 (G q) := by rw [hGq]
  have hdK : dg 300 (Gw1 k) = dg 300 (G k) := by rw [hGk]
  refine lv_aload_n X.1 X.2.1 d_Ar_divide_4 rfl (lv_at hl 2 rfl) ?_
  refine g_deg (k := q) X hT w (by omega) k_f_Ar_52 d_Ar_divide_5 ?_
  refine z_ge (a := dg 300 (Gw1 q)) (tgt := 12) X (by omega) d_Ar_divide_8 (by decide) (fun h_8 => ?_) (fun h_8 => ?_)
  · refine lv_aload_n X.1 X.2.1 d_Ar_divide_12 rfl (lv_at hl 0 rfl) ?_
    refine t_ar X hT w hO 2 (by decide) k_f_Ar_9 rfl d_Ar_divide_13 ?_
    refine lv_aload_n X.1 X.2.1 d_Ar_divide_16 rfl (lv_at hl 2 rfl) ?_
    refine w_cVi (n := 0) (i := 2 * q) (ci := 0) (As := []) (rest := [.ref (ad (124))]) X w hml hl.1 (c_Po_lead hT (G := Gw1) (k := q) hq (by rw [hGq]; exact hBo)) (by omega) (mkV_o hq) rfl k_m_Ar_68 k_im_Po_lead k_se_Po_lead k_i_Po k_co_Po_lead (by decide +kernel) rfl ⟨Nat.le_of_ble_eq_true rfl, Nat.le_of_ble_eq_true rfl⟩ ⟨rfl, rfl⟩ ⟨Nat.zero_le _, Nat.zero_le _⟩ rfl (Nat.le_of_ble_eq_true rfl) d_Ar_divide_17 (fun r' C' H locs hp w => ?_)
    obtain ⟨rfl, rfl⟩ := hp
    rw [hGq, if_neg (show ¬ dg 300 (G q) < 0 by omega)]
    have hld := hB.lead (by omega)
    have hiv := hO.inv hld
    refine t_in (z := G q (dg 300 (G q)).toNat) X hT w hO ((G q (dg 300 (G q)).toNat).toNat) (by omega) (by omega) d_Ar_divide_20 ?_
    refine lv_istore (lv' := [(4, .int (iI (inv ((G q (dg 300 (G q)).toNat).toNat)))), (0, .ref (ad (123))), (1, .ref (ad (2 * k))), (2, .ref (ad (2 * q))), (3, .ref (ad (2 * t)))]) X.1 X.2.1 d_Ar_divide_21 hl (by decide) rfl (fun ls hl => ?_)
    refine lv_aload_n X.1 X.2.1 d_Ar_divide_23 rfl (lv_at hl 2 rfl) ?_
    refine g_deg (k := k) X hT w (by omega) k_f_Ar_52 d_Ar_divide_24 ?_
    refine lv_aload_n X.1 X.2.1 d_Ar_divide_27 rfl (lv_at hl 3 rfl) ?_
    refine g_deg (k := q) X hT w (by omega) k_f_Ar_52 d_Ar_divide_28 ?_
    refine i_sub (a := dg 300 (Gw1 k)) (b := dg 300 (Gw1 q)) X d_Ar_divide_31 ?_
    refine lv_istore (lv' := [(5, .int (iI ((dg 300 (Gw1 k)) - (dg 300 (Gw1 q))))), (4, .int (iI (inv ((G q (dg 300 (G q)).toNat).toNat)))), (0, .ref (ad (123))), (1, .ref (ad (2 * k))), (2, .ref (ad (2 * q))), (3, .ref (ad (2 * t)))]) X.1 X.2.1 d_Ar_divide_32 hl (by decide) rfl (fun ls hl => ?_)
    by_cases h9 : 0 ≤ dg 300 (G k) - dg 300 (G q) + 1
    · refine l_Ar_divide (G := G) (iv := inv (G q (dg 300 (G q)).toNat).toNat) X hml hT hO hk hq ht hqk htk hqt hB (by omega) (by omega) (fun H locs ls w => ?_) (dg 300 (G k) - dg 300 (G q) + 1).toNat (G k, fun _ => 0) Gw1 _ _ _ hA (okp_0 _ (by omega)) (by omega) (by omega) rfl w ?_ ?_
      · refine w_vret X hr hlk w ?_ d_Ar_divide_95
        unfold dvm
        rw [if_neg (by omega)]
      · rw [eGw1]
        show _ = va_up (va_up G t (fun _ => 0)) k (G k)
        rw [show G k = va_up G t (fun _ => 0) k from (va_up_ne _ _ (Ne.symm htk)).symm, va_id]
      · rw [show (((dg 300 (G k) - dg 300 (G q) + 1).toNat : Nat) : Int) - 1 = dg 300 (Gw1 k) - dg 300 (Gw1 q) by omega]
        exact lv_sub hl [2, 3, 4, 5, 1, 0] rfl
    · refine lv_iload X.1 X.2.1 d_Ar_divide_34 (lv_at hl 0 rfl) ?_
      refine z_lt (a := (dg 300 (Gw1 k)) - (dg 300 (Gw1 q))) (tgt := 95) X (by omega) d_Ar_divide_36 (by decide) (fun h_36 => ?_) (fun h_36 => ?_)
      · refine w_vret X hr hlk w ?_ d_Ar_divide_95
        unfold dvm
        rw [if_neg (by omega), show (dg 300 (G k) - dg 300 (G q) + 1).toNat = 0 by omega]
        show mkV cs ad (rV Gw1) O = mkV cs ad (rV (va_up (va_up G t (fun _ => 0)) k (G k))) O
        rw [← eGw1, ← hGk, va_id]
      · exact absurd h_36 (by omega)
  · refine w_vret X hr hlk w ?_ d_Ar_divide_11
    unfold dvm
    rw [if_pos (by omega)]
    show mkV cs ad (rV Gw1) O = mkV cs ad (rV (va_up (va_up G t (fun _ => 0)) k (G k))) O
    rw [← eGw1, ← hGk, va_id]
end
section
/-- all polynomials are in order -/
def WF (G : Nat → Nat → Int) : Prop := ∀ j, j < 61 → ok (wd j) (G j)
theorem WF.up {G : Nat → Nat → Int} (h : WF G) {k : Nat} {F : Nat → Int} (hF : ok (wd k) F) : WF (va_up G k F) := by
  intro j hj
  by_cases e : j = k
  · subst e; rw [va_up_self]; exact hF
  · rw [va_up_ne _ _ e]; exact h j hj
theorem wd_2 {k : Nat} (h : 2 ≤ k) : wd k = 25 := by unfold wd; rw [if_neg (by omega)]
theorem wd_01 {k : Nat} (h : k < 2) : wd k = 300 := by unfold wd; rw [if_pos h]
/-- one step of division takes the coefficient away -/
theorem divS_top {pr iv : Int} {B : Nat → Int} {e n N : Nat} {u : P2} (hp : 1 < pr) (h1 : okp pr N u.1) (hB : ∀ x, e < x → B x = 0) (hiv : B e * iv % pr = 1) (hz : ∀ x, n + 1 + e ≤ x → u.1 x = 0) : ∀ x, n + e ≤ x → (divS pr iv B e u n).1 x = 0 := by
  intro x hx
  have hr := h1.1 (n + e)
  obtain ⟨a, ha⟩ : ∃ a : Int, a = u.1 (n + e) := ⟨_, rfl⟩
  have e1 := Int.mul_ediv_add_emod (a * iv) pr
  have e2 := Int.mul_ediv_add_emod (B e * iv) pr
  rw [hiv] at e2
  by_cases hxe : x = n + e
  · subst hxe
    unfold divS
    rw [← ha]
    split
    · next hg =>
      rw [hg] at e1
      show u.1 (n + e) = 0
      rw [← ha] at hr ⊢
      have h3 : a = pr * (a * iv / pr * B e - a * (B e * iv / pr)) := by grind
      rw [h3] at hr
      obtain ⟨c, hc⟩ : ∃ c : Int, c = a * iv / pr * B e - a * (B e * iv / pr) := ⟨_, rfl⟩
      rw [← hc] at hr h3
      rw [h3]
      have h4 : ¬ 1 ≤ c := fun h => by have := Int.mul_le_mul_of_nonneg_left h (show 0 ≤ pr by omega); omega
      have h5 : ¬ c ≤ -1 := fun h => by have := Int.mul_le_mul_of_nonneg_left h (show 0 ≤ pr by omega); omega
      rw [show c = 0 by omega]; simp
    · show addS pr u.1 (pr - a * iv % pr) n B (n + e) = 0
      unfold addS
      rw [if_neg (by omega), show n + e - n = e by omega, ← ha]
      have h3 : a + (pr - a * iv % pr) * B e = pr * (B e + a * iv / pr * B e - a * (B e * iv / pr)) := by grind
      rw [h3, Int.mul_emod_right]
  · unfold divS
    split
    · exact hz x (by omega)
    · show addS pr u.1 _ n B x = 0
      unfold addS
      rw [if_neg (by omega), hz x (by omega), hB (x - n) (by omega)]; simp
theorem divL_top {pr iv : Int} {B : Nat → Int} {e N M : Nat} (hp : 1 < pr) (hB : ∀ x, e < x → B x = 0) (hiv : B e * iv % pr = 1) : ∀ (n : Nat) (u : P2), okp pr N u.1 → okp pr M u.2 → (∀ i x, i < n → N ≤ x + i → B x = 0) → n ≤ M → (∀ x, n + e ≤ x → u.1 x = 0) → ∀ x, e ≤ x → (divL pr iv B e n u).1 x = 0
  | 0, u, _, _, _, _, hz, x, hx => hz x (by omega)
  | n + 1, u, h1, h2, hN, hM, hz, x, hx => by
    obtain ⟨a, b⟩ := divS_ok (e := e) (iv := iv) (by omega) h1 h2 (fun x hx => hN n x (by omega) hx) (by omega)
    exact divL_top hp hB hiv n _ a b (fun i x hi => hN i x (by omega)) (by omega) (divS_top hp h1 hB hiv (fun x hx => hz x (by omega))) x hx
/-- the rest is of a lower degree -/
theorem dvm_top {cs : Nat → ClassId} {ad : Nat → Nat} {pr : Int} {inv : Nat → Int} {O : Nat → va_E} (hO : arO cs ad pr inv O) {A B : Nat → Int} {N K : Nat} (hA : okp pr N A) (hB : okp pr K B) (hN : N ≤ 300) (hK : K ≤ 300) (hd : 0 ≤ dg 300 B) : ∀ x : Nat, dg 300 B ≤ x → (dvm pr inv A B).1 x = 0 := by
  have hpr := hO.2.2.1
  have hBo := hB.ok hpr.2
  have hAo := hA.ok hpr.2
  have h1 := hAo.dlt 300
  intro x hx
  unfold dvm
  rw [if_neg (by omega)]
  refine divL_top (iv := inv (B (dg 300 B).toNat).toNat) (B := B) (e := (dg 300 B).toNat) (N := N) (M := (dg 300 A - dg 300 B + 1).toNat) (by omega) (fun x hx => hBo.above hK (by omega)) (hO.inv (hB.lead hd)).2 (dg 300 A - dg 300 B + 1).toNat (A, fun _ => 0) hA (okp_0 _ (by omega)) (fun i x hi hx => hBo.above hK (by omega)) (Nat.le_refl _) (fun x hx => hAo.above hN (by omega)) x (by omega)
theorem dvm_ok25 {cs : Nat → ClassId} {ad : Nat → Nat} {pr : Int} {inv : Nat → Int} {O : Nat → va_E} (hO : arO cs ad pr inv O) {A B : Nat → Int} {N K : Nat} (hA : okp pr N A) (hB : okp pr K B) (hN : N ≤ 300) (hK : K ≤ 300) (hd : 0 ≤ dg 300 B) {M : Nat} (hM : dg 300 B ≤ M) : okp pr M (dvm pr inv A B).1 :=
  ⟨(dvm_ok (M := 600) (by have := hO.2.2.1; omega) hA hB hN hK (hO.2.2.1).2 (by have := dg_lt 300 A; have := dg_ge 300 B; omega)).1.1, fun x hx => dvm_top hO hA hB hN hK hd x (by omega)⟩
theorem okp.mono {pr : Int} {n m : Nat} {F : Nat → Int} (h : okp pr n F) (hm : n ≤ m) : okp pr m F := ⟨h.1, fun x hx => h.2 x (by omega)⟩
/-- the product, and the product modulo M -/
def prd (pr : Int) (A B : Nat → Int) : Nat → Int := addP pr (fun _ => 0) 1 A B (dg 300 A + 1).toNat
def mulm (pr : Int) (inv : Nat → Int) (A B M : Nat → Int) : Nat → Int := (dvm pr inv (prd pr A B) M).1
theorem prd_ok {pr : Int} {A B : Nat → Int} {N n1 n2 : Nat} (hp : 0 < pr) (h13 : pr ≤ 13) (hA : okp pr n1 A) (hB : okp pr n2 B) (h2 : n2 ≤ 300) (hN : dg 300 A + dg 300 B < N) : okp pr N (prd pr A B) :=
  addP_ok hp (okp_0 N hp) _ (fun i x hi hx => (hB.ok h13).above h2 (by omega))
theorem c_Ar_multiply {l : Launch} {D : va_G} {cs : Nat → ClassId} {A : Nat → Prop} {ad : Nat → Nat} {T : Nat} (hT : 132 ≤ T) {G : Nat → Nat → Int} {O : Nat → va_E} {pr : Int} {inv : Nat → Int} (hO : arO cs ad pr inv O) {t a b d : Nat} (ht : 2 ≤ t ∧ t < 61) (ha : 2 ≤ a ∧ a < 61) (hb : 2 ≤ b ∧ b < 61) (hd : 2 ≤ d ∧ d < 61) (hW : WF G) (hA : okp pr 25 (G a)) (hB : okp pr 25 (G b)) (hM : okp pr 25 (G d)) (hdd : 0 ≤ dg 300 (G d)) : Cv l y_Ar_multiply ws_Ar_multiply { frames := 3, cells := 0, slots := 0, locals := 73 } D cs A ad T [.ref (ad (123)), .ref (ad (2 * t)), .ref (ad (2 * a)), .ref (ad (2 * b)), .ref (ad (2 * d))] (mkV cs ad (rV G) O) (fun C' => C' = mkV cs ad (rV (va_up (va_up (va_up G 0 (dvm pr inv (prd pr (G a) (G b)) (G d)).2) 1 (dvm pr inv (prd pr (G a) (G b)) (G d)).1) t (dvm pr inv (prd pr (G a) (G b)) (G d)).1)) O) := by
  refine w_bodyV (by decide) (Nat.le_of_ble_eq_true rfl) ?_
  intro p e s m below meth c X hr hlk hml w ls hl
  have hl : lv_has ls 5 [(0, .ref (ad (123))), (1, .ref (ad (2 * t))), (2, .ref (ad (2 * a))), (3, .ref (ad (2 * b))), (4, .ref (ad (2 * d)))] := hl
  have hpr := hO.2.2.1
  have hda := (hA.ok hpr.2).dlt 300
  have hdb := (hB.ok hpr.2).dlt 300
  have hdm := (hM.ok hpr.2).dlt 300
  have hda0 := dg_ge 300 (G a)
  have hdb0 := dg_ge 300 (G b)
  have w0 : wd 0 = 300 := rfl
  have w1 : wd 1 = 300 := rfl
  have wa := wd_2 ha.1
  have wb := wd_2 hb.1
  have wm := wd_2 hd.1
  have wt := wd_2 ht.1
  have hP : okp pr 300 (prd pr (G a) (G b)) := prd_ok (by omega) hpr.2 hA hB (by omega) (by omega)
  have hdP := (hP.ok hpr.2).dlt 300
  have hR : okp pr 25 (dvm pr inv (prd pr (G a) (G b)) (G d)).1 := dvm_ok25 hO hP hM (by omega) (by omega) hdd (by omega)
  refine lv_aload_n X.1 X.2.1 d_Ar_multiply_0 rfl (lv_at hl 0 rfl) ?_
  refine t_ar X hT w hO 3 (by decide) k_f_Ar_24 rfl d_Ar_multiply_1 ?_
  refine w_cVv (n := 0) (i := 2 * 1) (ci := 0) (As := []) (rest := []) X w hml hl.1 (c_Po_clear hT (G := G) (k := 1) (by omega) (hW 1 (by omega))) (by omega) (mkV_o (by omega)) rfl k_m_Ar_76 k_im_Po_clear k_se_Po_clear k_i_Po k_co_Po_clear (by decide +kernel) rfl ⟨Nat.le_of_ble_eq_true rfl, Nat.le_of_ble_eq_true rfl⟩ ⟨rfl, rfl⟩ ⟨Nat.zero_le _, Nat.zero_le _⟩ rfl (Nat.le_of_ble_eq_true rfl) d_Ar_multiply_4 (fun C' H locs hp w => ?_)
  subst hp
  obtain ⟨Gw1, eGw1⟩ : ∃ gg : Nat → Nat → Int, gg = va_up G 1 (fun _ => 0) := ⟨_, rfl⟩
  rw [← eGw1] at w
  have f1 : Gw1 1 = fun _ => 0 := by rw [eGw1, va_up_self]
  have fa : Gw1 a = G a := by rw [eGw1, va_up_ne _ _ (by omega)]
  have fb : Gw1 b = G b := by rw [eGw1, va_up_ne _ _ (by omega)]
  refine lv_aload_n X.1 X.2.1 d_Ar_multiply_7 rfl (lv_at hl 0 rfl) ?_
  refine lv_aload_n X.1 X.2.1 d_Ar_multiply_8 rfl (lv_at hl 0 rfl) ?_
  refine t_ar X hT w hO 3 (by decide) k_f_Ar_24 rfl d_Ar_multiply_9 ?_
  refine lv_iconst (v := iI (1)) X.1 X.2.1 d_Ar_multiply_12 (by decide) ?_
  refine lv_aload_n X.1 X.2.1 d_Ar_multiply_13 rfl (lv_at hl 2 rfl) ?_
  refine lv_aload_n X.1 X.2.1 d_Ar_multiply_14 rfl (lv_at hl 3 rfl) ?_
  refine w_cVv (n := 4) (i := 123) (ci := 1) (As := [.ref (ad (2 * 1)), .int (iI (1)), .ref (ad (2 * a)), .ref (ad (2 * b))]) (rest := []) X w hml hl.1 (c_Ar_addProduct hT (G := Gw1) hO (k := 1) (q := a) (r := b) (f := 1) (by omega) (by omega) (by omega) (by omega) (by omega) (by rw [f1]; exact okp_0 _ (by omega)) (by rw [fa, wa]; exact hA.ok hpr.2) (by rw [fb, wb]; exact hB.ok hpr.2) (by omega) (by rw [fa, fb, w1]; omega)) (by omega) (by rw [mkV_O (by decide)]; exact hO.1) rfl k_m_Ar_94 k_im_Ar_addProduct k_se_Ar_addProduct k_i_Ar k_co_Ar_addProduct (by decide +kernel) rfl ⟨Nat.le_of_ble_eq_true rfl, Nat.le_of_ble_eq_true rfl⟩ ⟨rfl, rfl⟩ ⟨Nat.zero_le _, Nat.zero_le _⟩ rfl (Nat.le_of_ble_eq_true rfl) d_Ar_multiply_15 (fun C' H locs hp w => ?_)
  subst hp
  obtain ⟨Gw2, eGw2⟩ : ∃ gg : Nat → Nat → Int, gg = va_up Gw1 1 (addP pr (Gw1 1) 1 (Gw1 a) (Gw1 b) (dg 300 (Gw1 a) + 1).toNat) := ⟨_, rfl⟩
  rw [← eGw2] at w
  have g1 : Gw2 1 = prd pr (G a) (G b) := by rw [eGw2, va_up_self, f1, fa, fb]; rfl
  have gm : Gw2 d = G d := by rw [eGw2, va_up_ne _ _ (by omega), eGw1, va_up_ne _ _ (by omega)]
  have g0 : Gw2 0 = G 0 := by rw [eGw2, va_up_ne _ _ (by omega), eGw1, va_up_ne _ _ (by omega)]
  refine lv_aload_n X.1 X.2.1 d_Ar_multiply_18 rfl (lv_at hl 0 rfl) ?_
  refine lv_aload_n X.1 X.2.1 d_Ar_multiply_19 rfl (lv_at hl 0 rfl) ?_
  refine t_ar X hT w hO 3 (by decide) k_f_Ar_24 rfl d_Ar_multiply_20 ?_
  refine lv_aload X.1 X.2.1 d_Ar_multiply_23 (lv_at hl 4 rfl) ?_
  refine lv_aload_n X.1 X.2.1 d_Ar_multiply_25 rfl (lv_at hl 0 rfl) ?_
  refine t_ar X hT w hO 1 (by decide) k_f_Ar_20 rfl d_Ar_multiply_26 ?_
  refine w_cVv (n := 3) (i := 123) (ci := 1) (As := [.ref (ad (2 * 1)), .ref (ad (2 * d)), .ref (ad (2 * 0))]) (rest := []) X w hml hl.1 (c_Ar_divide hT (G := Gw2) hO (k := 1) (q := d) (t := 0) (by omega) (by omega) (by omega) (by omega) (by omega) (by omega) (by rw [g1]; exact hP) (by rw [gm, wm]; exact hM) (by rw [g0]; exact hW 0 (by omega)) (by rw [g1, gm, w0]; omega)) (by omega) (by rw [mkV_O (by decide)]; exact hO.1) rfl k_m_Ar_87 k_im_Ar_divide k_se_Ar_divide k_i_Ar k_co_Ar_divide (by decide +kernel) rfl ⟨Nat.le_of_ble_eq_true rfl, Nat.le_of_ble_eq_true rfl⟩ ⟨rfl, rfl⟩ ⟨Nat.zero_le _, Nat.zero_le _⟩ rfl (Nat.le_of_ble_eq_true rfl) d_Ar_multiply_29 (fun C' H locs hp w => ?_)
  subst hp
  obtain ⟨Gw3, eGw3⟩ : ∃ gg : Nat → Nat → Int, gg = va_up (va_up Gw2 0 (dvm pr inv (Gw2 1) (Gw2 d)).2) 1 (dvm pr inv (Gw2 1) (Gw2 d)).1 := ⟨_, rfl⟩
  rw [← eGw3] at w
  rw [g1, gm] at eGw3
  have k1 : Gw3 1 = (dvm pr inv (prd pr (G a) (G b)) (G d)).1 := by rw [eGw3, va_up_self]
  have kt : Gw3 t = G t := by rw [eGw3, va_up_ne _ _ (by omega), va_up_ne _ _ (by omega), eGw2, va_up_ne _ _ (by omega), eGw1, va_up_ne _ _ (by omega)]
  refine lv_aload_n X.1 X.2.1 d_Ar_multiply_32 rfl (lv_at hl 1 rfl) ?_
  refine lv_aload_n X.1 X.2.1 d_Ar_multiply_33 rfl (lv_at hl 0 rfl) ?_
  refine t_ar X hT w hO 3 (by decide) k_f_Ar_24 rfl d_Ar_multiply_34 ?_
  refine w_cVv (n := 1) (i := 2 * t) (ci := 0) (As := [.ref (ad (2 * 1))]) (rest := []) X w hml hl.1 (c_Po_copyFrom hT (G := Gw3) (k := t) (q := 1) (by omega) (by omega) (by omega) (by rw [kt]; exact hW t (by omega)) (by rw [k1]; exact (hR.mono (by omega)).ok hpr.2) (by rw [k1, wt]; exact hR.ok hpr.2)) (by omega) (mkV_o (by omega)) rfl k_m_Ar_83 k_im_Po_copyFrom k_se_Po_copyFrom k_i_Po k_co_Po_copyFrom (by decide +kernel) rfl ⟨Nat.le_of_ble_eq_true rfl, Nat.le_of_ble_eq_true rfl⟩ ⟨rfl, rfl⟩ ⟨Nat.zero_le _, Nat.zero_le _⟩ rfl (Nat.le_of_ble_eq_true rfl) d_Ar_multiply_37 (fun C' H locs hp w => ?_)
  subst hp
  obtain ⟨Gw4, eGw4⟩ : ∃ gg : Nat → Nat → Int, gg = va_up Gw3 t (Gw3 1) := ⟨_, rfl⟩
  rw [← eGw4] at w
  refine w_vret X hr hlk w ?_ d_Ar_multiply_40
  congr 2
  rw [eGw4, k1, eGw3, eGw2, eGw1]
  funext j
  simp only [va_up]
  repeat' (first | rfl | (exfalso; omega) | split)
/-- Euclid's steps -/
def gcdL (pr : Int) (inv : Nat → Int) : Nat → (Nat → Int) → (Nat → Int) → Nat → Int
  | 0, U, _ => U
  | n + 1, U, L => if dg 300 L < 0 then U else gcdL pr inv n L (dvm pr inv U L).1
def gcdP (pr : Int) (inv : Nat → Int) (A B : Nat → Int) : Nat → Int := mon pr inv (gcdL pr inv 26 A B)
section GC
variable {p : Program} {l : Launch} {e : Env} {s : State} {m : MethodId} {args : Array Value} {below : List Frame} {meth : Method} {c : Code} {H : Heap} {locs : List Loc} {Q : State → Prop} {D : va_G} {cs : Nat → ClassId} {A : Nat → Prop} {ad : Nat → Nat} {T : Nat} {O : Nat → va_E} {pr : Int} {inv : Nat → Int}
variable {t : Nat} {G : Nat → Nat → Int}
theorem l_Ar_gcd (X : Cx p s m args c b_Ar_findCommonDivisor RAr) (hml : c.maxLocals = 8) (hT : 132 ≤ T) (hO : arO cs ad pr inv O) {Z : Nat → Int}
    (K : ∀ (u : Nat) (G1 : Nat → Nat → Int) (H : Heap) (locs : List Loc) (ls : Array Slot), Wd D cs A ad T s (mkV cs ad (rV G1) O) H locs → u = 2 ∨ u = 3 → okp pr 25 Z → G1 u = Z → WF G1 → (∀ j, j ≠ 0 → j ≠ 2 → j ≠ 3 → G1 j = G j) → lv_has ls 8 [(0, .ref (ad (123))), (1, .ref (ad (2 * t))), (4, .ref (ad (2 * u)))] → W p l e { frames := 3, cells := 0, slots := 0, locals := 73 } s m args below meth c H locs 0 0 Q (F0 m 72 ls [])) :
    ∀ (n i : Nat) (u v : Nat) (G1 : Nat → Nat → Int) (H : Heap) (locs : List Loc) (ls : Array Slot), i + n = 26 → (u = 2 ∧ v = 3) ∨ (u = 3 ∧ v = 2) → okp pr 25 (G1 u) → okp pr 25 (G1 v) → gcdL pr inv n (G1 u) (G1 v) = Z → WF G1 → (∀ j, j ≠ 0 → j ≠ 2 → j ≠ 3 → G1 j = G j) → Wd D cs A ad T s (mkV cs ad (rV G1) O) H locs → lv_has ls 8 [(0, .ref (ad (123))), (1, .ref (ad (2 * t))), (4, .ref (ad (2 * u))), (5, .ref (ad (2 * v))), (6, .int (iI (i)))] → W p l e { frames := 3, cells := 0, slots := 0, locals := 73 } s m args below meth c H locs 0 0 Q (F0 m 27 ls []) := by
  have hpr := hO.2.2.1
  intro n
  induction n with
  | zero =>
    intro i u v G1 H locs ls h1 h2 hU hL hz hW hF w hl
    refine lv_iload X.1 X.2.1 d_Ar_findCommonDivisor_27 (lv_at hl 4 rfl) ?_
    refine lv_bipush (v := iI (25)) X.1 X.2.1 d_Ar_findCommonDivisor_29 (by decide) ?_
    refine i_gt (a := i) (b := 25) (tgt := 72) X (by omega) (by omega) d_Ar_findCommonDivisor_31 (by decide) (fun h_31 => ?_) (fun h_31 => ?_)
    · exact K u G1 H locs ls w (by omega) (by rw [← hz]; exact hU) hz hW hF (lv_sub hl [0, 1, 2] rfl)
    · exact absurd h_31 (by omega)
  | succ n ih =>
    intro i u v G1 H locs ls h1 h2 hU hL hz hW hF w hl
    have hdu := (hU.ok hpr.2).dlt 300
    have hdv := (hL.ok hpr.2).dlt 300
    have hdv0 := dg_ge 300 (G1 v)
    have w0 : wd 0 = 300 := rfl
    have wu : wd u = 25 := wd_2 (by omega)
    have wv : wd v = 25 := wd_2 (by omega)
    unfold gcdL at hz
    refine lv_iload X.1 X.2.1 d_Ar_findCommonDivisor_27 (lv_at hl 4 rfl) ?_
    refine lv_bipush (v := iI (25)) X.1 X.2.1 d_Ar_findCommonDivisor_29 (by decide) ?_
    refine i_gt (a := i) (b := 25) (tgt := 72) X (by omega) (by omega) d_Ar_findCommonDivisor_31 (by decide) (fun h_31 => ?_) (fun h_31 => ?_)
    · exact absurd h_31 (by omega)
    · refine lv_aload X.1 X.2.1 d_Ar_findCommonDivisor_34 (lv_at hl 3 rfl) ?_
      refine g_deg (k := v) X hT w (by omega) k_f_Ar_52 d_Ar_findCommonDivisor_36 ?_
      refine z_lt (a := dg 300 (G1 v)) (tgt := 72) X (by omega) d_Ar_findCommonDivisor_39 (by decide) (fun h_39 => ?_) (fun h_39 => ?_)
      · rw [if_pos (by omega)] at hz
        exact K u G1 H locs ls w (by omega) (by rw [← hz]; exact hU) hz hW hF (lv_sub hl [0, 1, 2] rfl)
      · refine lv_aload_n X.1 X.2.1 d_Ar_findCommonDivisor_42 rfl (lv_at hl 0 rfl) ?_
        refine lv_aload X.1 X.2.1 d_Ar_findCommonDivisor_43 (lv_at hl 2 rfl) ?_
        refine lv_aload X.1 X.2.1 d_Ar_findCommonDivisor_45 (lv_at hl 3 rfl) ?_
        refine lv_aload_n X.1 X.2.1 d_Ar_findCommonDivisor_47 rfl (lv_at hl 0 rfl) ?_
        refine t_ar X hT w hO 1 (by decide) k_f_Ar_20 rfl d_Ar_findCommonDivisor_48 ?_
        refine w_cVv (n := 3) (i := 123) (ci := 1) (As := [.ref (ad (2 * u)), .ref (ad (2 * v)), .ref (ad (2 * 0))]) (rest := []) X w hml hl.1 (c_Ar_divide hT (G := G1) hO (k := u) (q := v) (t := 0) (by omega) (by omega) (by omega) (by omega) (by omega) (by omega) (by rw [wu]; exact hU) (by rw [wv]; exact hL) (hW 0 (by omega)) (by rw [w0]; omega)) (by omega) (by rw [mkV_O (by decide)]; exact hO.1) rfl k_m_Ar_87 k_im_Ar_divide k_se_Ar_divide k_i_Ar k_co_Ar_divide (by decide +kernel) rfl ⟨Nat.le_of_ble_eq_true rfl, Nat.le_of_ble_eq_true rfl⟩ ⟨rfl, rfl⟩ ⟨Nat.zero_le _, Nat.zero_le _⟩ rfl (Nat.le_of_ble_eq_true rfl) d_Ar_findCommonDivisor_51 (fun C' H locs hp w => ?_)
        subst hp
        obtain ⟨Gw1, eGw1⟩ : ∃ gg : Nat → Nat → Int, gg = va_up (va_up G1 0 (dvm pr inv (G1 u) (G1 v)).2) u (dvm pr inv (G1 u) (G1 v)).1 := ⟨_, rfl⟩
        rw [← eGw1] at w
        refine lv_aload X.1 X.2.1 d_Ar_findCommonDivisor_54 (lv_at hl 2 rfl) ?_
        refine lv_astore (lv' := [(7, .ref (ad (2 * u))), (0, .ref (ad (123))), (1, .ref (ad (2 * t))), (4, .ref (ad (2 * u))), (5, .ref (ad (2 * v))), (6, .int (iI (i)))]) X.1 X.2.1 d_Ar_findCommonDivisor_56 hl (by decide) rfl (fun ls hl => ?_)
        refine lv_aload X.1 X.2.1 d_Ar_findCommonDivisor_58 (lv_at hl 4 rfl) ?_
        refine lv_astore (lv' := [(4, .ref (ad (2 * v))), (7, .ref (ad (2 * u))), (0, .ref (ad (123))), (1, .ref (ad (2 * t))), (5, .ref (ad (2 * v))), (6, .int (iI (i)))]) X.1 X.2.1 d_Ar_findCommonDivisor_60 hl (by decide) rfl (fun ls hl => ?_)
        refine lv_aload X.1 X.2.1 d_Ar_findCommonDivisor_62 (lv_at hl 1 rfl) ?_
        refine lv_astore (lv' := [(5, .ref (ad (2 * u))), (4, .ref (ad (2 * v))), (7, .ref (ad (2 * u))), (0, .ref (ad (123))), (1, .ref (ad (2 * t))), (6, .int (iI (i)))]) X.1 X.2.1 d_Ar_findCommonDivisor_64 hl (by decide) rfl (fun ls hl => ?_)
        refine i_inc (k := 5) (x := i) (lv' := [(6, .int (iI (i + 1))), (5, .ref (ad (2 * u))), (4, .ref (ad (2 * v))), (7, .ref (ad (2 * u))), (0, .ref (ad (123))), (1, .ref (ad (2 * t)))]) X d_Ar_findCommonDivisor_66 hl rfl (by decide) rfl (fun ls hl => ?_)
        refine lv_goto (tgt := 27) X.1 X.2.1 d_Ar_findCommonDivisor_69 (by decide) ?_
        rw [if_neg (by omega)] at hz
        have hq := dvm_ok (inv := inv) (M := 300) (by omega) hU hL (by omega) (by omega) hpr.2 (by omega)
        have hr : okp pr 25 (dvm pr inv (G1 u) (G1 v)).1 := dvm_ok25 hO hU hL (by omega) (by omega) (by omega) (by omega)
        have fu : Gw1 u = (dvm pr inv (G1 u) (G1 v)).1 := by rw [eGw1, va_up_self]
        have fv : Gw1 v = G1 v := by rw [eGw1, va_up_ne _ _ (by omega), va_up_ne _ _ (by omega)]
        refine ih (i + 1) v u Gw1 H locs ls (by omega) (by omega) (by rw [fv]; exact hL) (by rw [fu]; exact hr) (by rw [fu, fv]; exact hz) ?_ ?_ w (lv_sub hl [4, 5, 2, 1, 0] rfl)
        · rw [eGw1]; exact (hW.up (k := 0) (hq.2.ok hpr.2)).up (k := u) (by rw [wu]; exact hr.ok hpr.2)
        · intro j j0 j2 j3; rw [eGw1, va_up_ne _ _ (by omega), va_up_ne _ _ (by omega)]; exact hF j j0 j2 j3
end GC
theorem c_Ar_findCommonDivisor {l : Launch} {D : va_G} {cs : Nat → ClassId} {A : Nat → Prop} {ad : Nat → Nat} {T : Nat} (hT : 132 ≤ T) {G : Nat → Nat → Int} {O : Nat → va_E} {pr : Int} {inv : Nat → Int} (hO : arO cs ad pr inv O) {t a b : Nat} (ht : 4 ≤ t ∧ t < 61) (ha : 4 ≤ a ∧ a < 61) (hb : 4 ≤ b ∧ b < 61) (hW : WF G) (hA : okp pr 25 (G a)) (hB : okp pr 25 (G b)) : Cv l y_Ar_findCommonDivisor ws_Ar_findCommonDivisor { frames := 3, cells := 0, slots := 0, locals := 73 } D cs A ad T [.ref (ad (123)), .ref (ad (2 * t)), .ref (ad (2 * a)), .ref (ad (2 * b))] (mkV cs ad (rV G) O) (fun C' => ∃ G', C' = mkV cs ad (rV G') O ∧ WF G' ∧ G' t = gcdP pr inv (G a) (G b) ∧ okp pr 25 (G' t) ∧ ∀ j, j ≠ 0 → j ≠ 2 → j ≠ 3 → j ≠ t → G' j = G j) := by
  refine w_bodyV (by decide) (Nat.le_of_ble_eq_true rfl) ?_
  intro p e s m below meth c X hr hlk hml w ls hl
  have hl : lv_has ls 8 [(0, .ref (ad (123))), (1, .ref (ad (2 * t))), (2, .ref (ad (2 * a))), (3, .ref (ad (2 * b)))] := hl
  have hpr := hO.2.2.1
  have wa := wd_2 (show 2 ≤ a by omega)
  have wb := wd_2 (show 2 ≤ b by omega)
  have wt := wd_2 (show 2 ≤ t by omega)
  have w2 : wd 2 = 25 := rfl
  have w3 : wd 3 = 25 := rfl
  refine lv_aload_n X.1 X.2.1 d_Ar_findCommonDivisor_0 rfl (lv_at hl 0 rfl) ?_
  refine t_ar X hT w hO 4 (by decide) k_f_Ar_27 rfl d_Ar_findCommonDivisor_1 ?_
  refine lv_astore (lv' := [(4, .ref (ad (2 * 2))), (0, .ref (ad (123))), (1, .ref (ad (2 * t))), (2, .ref (ad (2 * a))), (3, .ref (ad (2 * b)))]) X.1 X.2.1 d_Ar_findCommonDivisor_4 hl (by decide) rfl (fun ls hl => ?_)
  refine lv_aload_n X.1 X.2.1 d_Ar_findCommonDivisor_6 rfl (lv_at hl 1 rfl) ?_
  refine t_ar X hT w hO 5 (by decide) k_f_Ar_30 rfl d_Ar_findCommonDivisor_7 ?_
  refine lv_astore (lv' := [(5, .ref (ad (2 * 3))), (4, .ref (ad (2 * 2))), (0, .ref (ad (123))), (1, .ref (ad (2 * t))), (2, .ref (ad (2 * a))), (3, .ref (ad (2 * b)))]) X.1 X.2.1 d_Ar_findCommonDivisor_10 hl (by decide) rfl (fun ls hl => ?_)
  refine lv_aload X.1 X.2.1 d_Ar_findCommonDivisor_12 (lv_at hl 1 rfl) ?_
  refine lv_aload_n X.1 X.2.1 d_Ar_findCommonDivisor_14 rfl (lv_at hl 4 rfl) ?_
  refine w_cVv (n := 1) (i := 2 * 2) (ci := 0) (As := [.ref (ad (2 * a))]) (rest := []) X w hml hl.1 (c_Po_copyFrom hT (G := G) (k := 2) (q := a) (by omega) (by omega) (by omega) (hW 2 (by omega)) (hW a (by omega)) (hA.ok hpr.2)) (by omega) (mkV_o (by omega)) rfl k_m_Ar_83 k_im_Po_copyFrom k_se_Po_copyFrom k_i_Po k_co_Po_copyFrom (by decide +kernel) rfl ⟨Nat.le_of_ble_eq_true rfl, Nat.le_of_ble_eq_true rfl⟩ ⟨rfl, rfl⟩ ⟨Nat.zero_le _, Nat.zero_le _⟩ rfl (Nat.le_of_ble_eq_true rfl) d_Ar_findCommonDivisor_15 (fun C' H locs hp w => ?_)
  subst hp
  obtain ⟨Gw1, eGw1⟩ : ∃ gg : Nat → Nat → Int, gg = va_up G 2 (G a) := ⟨_, rfl⟩
  rw [← eGw1] at w
  refine lv_aload X.1 X.2.1 d_Ar_findCommonDivisor_18 (lv_at hl 0 rfl) ?_
  refine lv_aload_n X.1 X.2.1 d_Ar_findCommonDivisor_20 rfl (lv_at hl 5 rfl) ?_
  refine w_cVv (n := 1) (i := 2 * 3) (ci := 0) (As := [.ref (ad (2 * b))]) (rest := []) X w hml hl.1 (c_Po_copyFrom hT (G := Gw1) (k := 3) (q := b) (by omega) (by omega) (by omega) (by rw [eGw1, va_up_ne _ _ (by omega)]; exact hW 3 (by omega)) (by rw [eGw1, va_up_ne _ _ (by omega)]; exact hW b (by omega)) (by rw [eGw1, va_up_ne _ _ (by omega)]; exact hB.ok hpr.2)) (by omega) (mkV_o (by omega)) rfl k_m_Ar_83 k_im_Po_copyFrom k_se_Po_copyFrom k_i_Po k_co_Po_copyFrom (by decide +kernel) rfl ⟨Nat.le_of_ble_eq_true rfl, Nat.le_of_ble_eq_true rfl⟩ ⟨rfl, rfl⟩ ⟨Nat.zero_le _, Nat.zero_le _⟩ rfl (Nat.le_of_ble_eq_true rfl) d_Ar_findCommonDivisor_21 (fun C' H locs hp w => ?_)
  subst hp
  obtain ⟨Gw2, eGw2⟩ : ∃ gg : Nat → Nat → Int, gg = va_up Gw1 3 (Gw1 b) := ⟨_, rfl⟩
  rw [← eGw2] at w
  refine lv_iconst (v := iI (0)) X.1 X.2.1 d_Ar_findCommonDivisor_24 (by decide) ?_
  refine lv_istore (lv' := [(6, .int (iI (0))), (5, .ref (ad (2 * 3))), (4, .ref (ad (2 * 2))), (0, .ref (ad (123))), (1, .ref (ad (2 * t))), (2, .ref (ad (2 * a))), (3, .ref (ad (2 * b)))]) X.1 X.2.1 d_Ar_findCommonDivisor_25 hl (by decide) rfl (fun ls hl => ?_)
  have f2 : Gw2 2 = G a := by rw [eGw2, va_up_ne _ _ (by omega), eGw1, va_up_self]
  have f3 : Gw2 3 = G b := by rw [eGw2, va_up_self, eGw1, va_up_ne _ _ (by omega)]
  have eGa := eGw2
  have eGb := eGw1
  refine l_Ar_gcd (G := Gw2) (t := t) (Z := gcdL pr inv 26 (G a) (G b)) X hml hT hO (fun u G1 H locs ls w hu hZ hz hW1 hF hl => ?_) 26 0 2 3 Gw2 _ _ _ (by omega) (by omega) (by rw [f2]; exact hA) (by rw [f3]; exact hB) (by rw [f2, f3]) ?_ (fun _ _ _ _ => rfl) w (lv_sub hl [3, 4, 2, 1, 0] rfl)
  · refine lv_aload_n X.1 X.2.1 d_Ar_findCommonDivisor_72 rfl (lv_at hl 1 rfl) ?_
    refine lv_aload X.1 X.2.1 d_Ar_findCommonDivisor_73 (lv_at hl 2 rfl) ?_
    refine w_cVv (n := 1) (i := 2 * t) (ci := 0) (As := [.ref (ad (2 * u))]) (rest := []) X w hml hl.1 (c_Po_copyFrom hT (G := G1) (k := t) (q := u) (by omega) (by omega) (by omega) (hW1 t (by omega)) (hW1 u (by omega)) (by rw [hz, wt]; exact hZ.ok hpr.2)) (by omega) (mkV_o (by omega)) rfl k_m_Ar_83 k_im_Po_copyFrom k_se_Po_copyFrom k_i_Po k_co_Po_copyFrom (by decide +kernel) rfl ⟨Nat.le_of_ble_eq_true rfl, Nat.le_of_ble_eq_true rfl⟩ ⟨rfl, rfl⟩ ⟨Nat.zero_le _, Nat.zero_le _⟩ rfl (Nat.le_of_ble_eq_true rfl) d_Ar_findCommonDivisor_75 (fun C' H locs hp w => ?_)
    subst hp
    obtain ⟨Gw1, eGw1⟩ : ∃ gg : Nat → Nat → Int, gg = va_up G1 t (G1 u) := ⟨_, rfl⟩
    rw [← eGw1] at w
    refine lv_aload_n X.1 X.2.1 d_Ar_findCommonDivisor_78 rfl (lv_at hl 0 rfl) ?_
    refine lv_aload_n X.1 X.2.1 d_Ar_findCommonDivisor_79 rfl (lv_at hl 1 rfl) ?_
    refine w_cVv (n := 1) (i := 123) (ci := 1) (As := [.ref (ad (2 * t))]) (rest := []) X w hml hl.1 (c_Ar_makeMonic hT (G := Gw1) hO (k := t) (by omega) (by rw [eGw1, va_up_self, hz, wt]; exact hZ)) (by omega) (by rw [mkV_O (by decide)]; exact hO.1) rfl k_m_Ar_91 k_im_Ar_makeMonic k_se_Ar_makeMonic k_i_Ar k_co_Ar_makeMonic (by decide +kernel) rfl ⟨Nat.le_of_ble_eq_true rfl, Nat.le_of_ble_eq_true rfl⟩ ⟨rfl, rfl⟩ ⟨Nat.zero_le _, Nat.zero_le _⟩ rfl (Nat.le_of_ble_eq_true rfl) d_Ar_findCommonDivisor_80 (fun C' H locs hp w => ?_)
    subst hp
    obtain ⟨Gw2, eGw2⟩ : ∃ gg : Nat → Nat → Int, gg = va_up Gw1 t (mon pr inv (Gw1 t)) := ⟨_, rfl⟩
    rw [← eGw2] at w
    have ft : Gw2 t = gcdP pr inv (G a) (G b) := by rw [eGw2, va_up_self, eGw1, va_up_self, hz]; rfl
    have hg : okp pr 25 (gcdP pr inv (G a) (G b)) := mon_ok (by omega) hZ
    refine w_vret X hr hlk w ⟨Gw2, rfl, ?_, ft, by rw [ft]; exact hg, fun j j0 j2 j3 jt => ?_⟩ d_Ar_findCommonDivisor_83
    · rw [eGw2, eGw1]; exact (hW1.up (by rw [hz, wt]; exact hZ.ok hpr.2)).up (by rw [va_up_self, hz, wt]; exact (mon_ok (by omega) hZ).ok hpr.2)
    · rw [eGw2, va_up_ne _ _ jt, eGw1, va_up_ne _ _ jt, hF j j0 j2 j3, eGa, va_up_ne _ _ j3, eGb, va_up_ne _ _ j2]
  · rw [eGw2, eGw1]; exact (hW.up (k := 2) (hA.ok hpr.2)).up (k := 3) (by rw [va_up_ne _ _ (by omega)]; exact hB.ok hpr.2)
end
section
/-- A(x^n) -/
def fro (n : Nat) (A : Nat → Int) : Nat → Int := fun x => if x % n = 0 then A (x / n) else 0
def froL (n : Nat) (A : Nat → Int) (i : Nat) : Nat → Int := fun x => if x % n = 0 ∧ x / n < i then A (x / n) else 0
theorem froL_up {n i : Nat} {A : Nat → Int} (hn : 0 < n) : va_up (froL n A i) (i * n) (A i) = froL n A (i + 1) := by
  funext x
  by_cases h : x = i * n
  · subst h
    rw [va_up_self]
    unfold froL
    rw [Nat.mul_mod_left, Nat.mul_div_cancel _ hn, if_pos ⟨rfl, by omega⟩]
  · rw [va_up_ne _ _ h]
    unfold froL
    by_cases h1 : x % n = 0
    · have h2 : x / n * n = x := Nat.div_mul_cancel (Nat.dvd_of_mod_eq_zero h1)
      have h3 : x / n ≠ i := fun e => h (by rw [← e, h2])
      by_cases h4 : x / n < i
      · rw [if_pos ⟨h1, h4⟩, if_pos ⟨h1, by omega⟩]
      · rw [if_neg (fun e => h4 e.2), if_neg (fun e => by omega)]
    · rw [if_neg (fun e => h1 e.1), if_neg (fun e => h1 e.1)]
theorem froL_0 {n i : Nat} {A : Nat → Int} (hA : A i = 0) : froL n A i = froL n A (i + 1) := by
  funext x
  unfold froL
  by_cases h1 : x % n = 0
  · by_cases h3 : x / n = i
    · rw [if_neg (fun e => by omega), if_pos ⟨h1, by omega⟩, h3, hA]
    · by_cases h4 : x / n < i
      · rw [if_pos ⟨h1, h4⟩, if_pos ⟨h1, by omega⟩]
      · rw [if_neg (fun e => h4 e.2), if_neg (fun e => by omega)]
  · rw [if_neg (fun e => h1 e.1), if_neg (fun e => h1 e.1)]
theorem froL_ok {pr : Int} {n i N M : Nat} {A : Nat → Int} (hn : 0 < n) (hp : 0 < pr) (hA : okp pr M A) (h : ∀ j, j < i → A j ≠ 0 → j * n < N) : okp pr N (froL n A i) := by
  refine ⟨fun x => ?_, fun x hx => ?_⟩
  · unfold froL
    split
    · exact hA.1 _
    · exact ⟨Int.le_refl 0, hp⟩
  · unfold froL
    split
    · next h1 =>
      have h2 : x / n * n = x := Nat.div_mul_cancel (Nat.dvd_of_mod_eq_zero h1.1)
      by_cases h3 : A (x / n) = 0
      · exact h3
      · have := h _ h1.2 h3; omega
    · rfl
/-- a(x^p) modulo M -/
def frm (pr : Int) (inv : Nat → Int) (A M : Nat → Int) : Nat → Int := (dvm pr inv (fro pr.toNat A) M).1
section RP
variable {p : Program} {l : Launch} {e : Env} {s : State} {m : MethodId} {args : Array Value} {below : List Frame} {meth : Method} {c : Code} {H : Heap} {locs : List Loc} {Q : State → Prop} {D : va_G} {cs : Nat → ClassId} {A : Nat → Prop} {ad : Nat → Nat} {T : Nat} {O : Nat → va_E} {pr : Int} {inv : Nat → Int}
variable {k d : Nat} {G : Nat → Nat → Int}
theorem l_Ar_raiseToP (X : Cx p s m args c b_Ar_raiseToP RAr) (hml : c.maxLocals = 4) (hT : 132 ≤ T) (hO : arO cs ad pr inv O) (hk : 2 ≤ k ∧ k < 61) (hA : okp pr 25 (G k)) (hdk : dg 300 (G k) ≤ 23)
    (K : ∀ (H : Heap) (locs : List Loc) (ls : Array Slot), Wd D cs A ad T s (mkV cs ad (rV (va_up G 1 (fro pr.toNat (G k)))) O) H locs → okp pr 300 (fro pr.toNat (G k)) → lv_has ls 4 [(0, .ref (ad (123))), (1, .ref (ad (2 * k))), (2, .ref (ad (2 * d)))] → W p l e { frames := 3, cells := 0, slots := 0, locals := 73 } s m args below meth c H locs 0 0 Q (F0 m 51 ls [])) :
    ∀ (n i : Nat) (G1 : Nat → Nat → Int) (H : Heap) (locs : List Loc) (ls : Array Slot), dg 300 (G k) + 2 ≤ i + n → (i : Int) ≤ dg 300 (G k) + 1 → Wd D cs A ad T s (mkV cs ad (rV G1) O) H locs → G1 = va_up G 1 (froL pr.toNat (G k) i) → lv_has ls 4 [(0, .ref (ad (123))), (1, .ref (ad (2 * k))), (2, .ref (ad (2 * d))), (3, .int (iI (i)))] → W p l e { frames := 3, cells := 0, slots := 0, locals := 73 } s m args below meth c H locs 0 0 Q (F0 m 9 ls []) := by
  have hpr := hO.2.2.1
  have hAo := hA.ok hpr.2
  have wk := wd_2 hk.1
  have w1 : wd 1 = 300 := rfl
  have hd0 := dg_ge 300 (G k)
  have hmul : ∀ j : Nat, (j : Int) ≤ dg 300 (G k) → j * pr.toNat < 300 := fun j hj => by
    have := Nat.mul_le_mul (show j ≤ 23 by omega) (show pr.toNat ≤ 13 by omega)
    omega
  have hok : ∀ i : Nat, okp pr 300 (froL pr.toNat (G k) i) := fun i => froL_ok (by omega) (by omega) hA (fun j _ hj => by
    by_cases h : (j : Int) ≤ dg 300 (G k)
    · exact hmul j h
    · exact absurd (hAo.above (N := 300) (by omega) (by omega)) hj)
  intro n
  induction n with
  | zero => intro i G1 H locs ls h1 h2; omega
  | succ n ih =>
    intro i G1 H locs ls h1 h2 w eG hl
    have hGk : G1 k = G k := by rw [eG, va_up_ne _ _ (by omega)]
    have hG1 : G1 1 = froL pr.toNat (G k) i := by rw [eG, va_up_self]
    have hdG : dg 300 (G1 k) = dg 300 (G k) := by rw [hGk]
    have hki : G1 k i = G k i := by rw [hGk]
    have hai := hA.1 i
    have hpi : (i : Int) * pr = ((i * pr.toNat : Nat) : Int) := by
      rw [Int.natCast_mul, Int.toNat_of_nonneg (by omega)]
    refine lv_iload_n X.1 X.2.1 d_Ar_raiseToP_9 rfl (lv_at hl 3 rfl) ?_
    refine lv_aload_n X.1 X.2.1 d_Ar_raiseToP_10 rfl (lv_at hl 1 rfl) ?_
    refine g_deg (k := k) X hT w (by omega) k_f_Ar_52 d_Ar_raiseToP_11 ?_
    refine i_gt (a := i) (b := dg 300 (G1 k)) (tgt := 51) X (by omega) (by omega) d_Ar_raiseToP_14 (by decide) (fun h_14 => ?_) (fun h_14 => ?_)
    · have e1 : fro pr.toNat (G k) = froL pr.toNat (G k) i := by
        funext x
        unfold fro froL
        by_cases hx : x % pr.toNat = 0
        · rw [if_pos hx]
          by_cases h9 : x / pr.toNat < i
          · rw [if_pos ⟨hx, h9⟩]
          · rw [if_neg (fun e => h9 e.2)]; exact hAo.above (N := 300) (by omega) (by omega)
        · rw [if_neg hx, if_neg (fun e => hx e.1)]
      refine K H locs ls ?_ (by rw [e1]; exact hok i) (lv_sub hl [0, 1, 2] rfl)
      rw [e1, ← eG]
      exact w
    · refine lv_aload_n X.1 X.2.1 d_Ar_raiseToP_17 rfl (lv_at hl 1 rfl) ?_
      refine t_co (k := k) X hT w (by omega) k_f_Ar_55 d_Ar_raiseToP_18 ?_
      refine lv_iload_n X.1 X.2.1 d_Ar_raiseToP_21 rfl (lv_at hl 3 rfl) ?_
      refine g_ld (k := k) (z := i) X hT w (by omega) (i) (by omega) (by omega) d_Ar_raiseToP_22 ?_
      refine z_eq (a := G1 k i) (tgt := 45) X (by omega) d_Ar_raiseToP_23 (by decide) (fun h_23 => ?_) (fun h_23 => ?_)
      · refine i_inc (k := 3) (x := i) (lv' := [(3, .int (iI (i + 1))), (0, .ref (ad (123))), (1, .ref (ad (2 * k))), (2, .ref (ad (2 * d)))]) X d_Ar_raiseToP_45 hl rfl (by decide) rfl (fun ls hl => ?_)
        refine lv_goto (tgt := 9) X.1 X.2.1 d_Ar_raiseToP_48 (by decide) ?_
        refine ih (i + 1) _ H locs ls (by omega) (by omega) w ?_ (lv_sub hl [1, 2, 3, 0] rfl)
        rw [eG, froL_0 (show G k i = 0 by omega)]
      · refine lv_aload_n X.1 X.2.1 d_Ar_raiseToP_26 rfl (lv_at hl 0 rfl) ?_
        refine t_ar X hT w hO 3 (by decide) k_f_Ar_24 rfl d_Ar_raiseToP_27 ?_
        refine lv_iload_n X.1 X.2.1 d_Ar_raiseToP_30 rfl (lv_at hl 3 rfl) ?_
        refine lv_aload_n X.1 X.2.1 d_Ar_raiseToP_31 rfl (lv_at hl 0 rfl) ?_
        refine t_ar X hT w hO 0 (by decide) k_f_Ar_48 rfl d_Ar_raiseToP_32 ?_
        refine i_mul (a := i) (b := pr) X d_Ar_raiseToP_35 ?_
        rw [hpi]
        refine lv_aload_n X.1 X.2.1 d_Ar_raiseToP_36 rfl (lv_at hl 1 rfl) ?_
        refine t_co (k := k) X hT w (by omega) k_f_Ar_55 d_Ar_raiseToP_37 ?_
        refine lv_iload_n X.1 X.2.1 d_Ar_raiseToP_40 rfl (lv_at hl 3 rfl) ?_
        refine g_ld (k := k) (z := i) X hT w (by omega) (i) (by omega) (by omega) d_Ar_raiseToP_41 ?_
        refine w_cVv (n := 2) (i := 2 * 1) (ci := 0) (As := [.int (iI (((i * pr.toNat : Nat) : Int))), .int (iI (G1 k i))]) (rest := []) X w hml hl.1 (c_Po_put hT (G := G1) (k := 1) (i := i * pr.toNat) (v := G1 k i) (by omega) (hmul i (by omega)) (by omega) (by rw [hG1]; exact (hok i).ok hpr.2)) (by omega) (mkV_o (by omega)) rfl k_m_Ar_79 k_im_Po_put k_se_Po_put k_i_Po k_co_Po_put (by decide +kernel) rfl ⟨Nat.le_of_ble_eq_true rfl, Nat.le_of_ble_eq_true rfl⟩ ⟨rfl, rfl⟩ ⟨Nat.zero_le _, Nat.zero_le _⟩ rfl (Nat.le_of_ble_eq_true rfl) d_Ar_raiseToP_42 (fun C' H locs hp w => ?_)
        subst hp
        obtain ⟨Gw1, eGw1⟩ : ∃ gg : Nat → Nat → Int, gg = va_up G1 1 (va_up (G1 1) (i * pr.toNat) (G1 k i)) := ⟨_, rfl⟩
        rw [← eGw1] at w
        refine i_inc (k := 3) (x := i) (lv' := [(3, .int (iI (i + 1))), (0, .ref (ad (123))), (1, .ref (ad (2 * k))), (2, .ref (ad (2 * d)))]) X d_Ar_raiseToP_45 hl rfl (by decide) rfl (fun ls hl => ?_)
        refine lv_goto (tgt := 9) X.1 X.2.1 d_Ar_raiseToP_48 (by decide) ?_
        refine ih (i + 1) _ H locs ls (by omega) (by omega) w ?_ (lv_sub hl [1, 2, 3, 0] rfl)
        rw [eGw1, hG1, hki, froL_up (by omega), eG, va_uu]
end RP
theorem c_Ar_raiseToP {l : Launch} {D : va_G} {cs : Nat → ClassId} {A : Nat → Prop} {ad : Nat → Nat} {T : Nat} (hT : 132 ≤ T) {G : Nat → Nat → Int} {O : Nat → va_E} {pr : Int} {inv : Nat → Int} (hO : arO cs ad pr inv O) {k d : Nat} (hk : 2 ≤ k ∧ k < 61) (hd : 2 ≤ d ∧ d < 61) (hW : WF G) (hA : okp pr 25 (G k)) (hM : okp pr 25 (G d)) (hdk : dg 300 (G k) ≤ 23) (hdd : 0 ≤ dg 300 (G d)) : Cv l y_Ar_raiseToP ws_Ar_raiseToP { frames := 3, cells := 0, slots := 0, locals := 73 } D cs A ad T [.ref (ad (123)), .ref (ad (2 * k)), .ref (ad (2 * d))] (mkV cs ad (rV G) O) (fun C' => C' = mkV cs ad (rV (va_up (va_up (va_up G 0 (dvm pr inv (fro pr.toNat (G k)) (G d)).2) 1 (dvm pr inv (fro pr.toNat (G k)) (G d)).1) k (dvm pr inv (fro pr.toNat (G k)) (G d)).1)) O) := by
  refine w_bodyV (by decide) (Nat.le_of_ble_eq_true rfl) ?_
  intro p e s m below meth c X hr hlk hml w ls hl
  have hl : lv_has ls 4 [(0, .ref (ad (123))), (1, .ref (ad (2 * k))), (2, .ref (ad (2 * d)))] := hl
  have hpr := hO.2.2.1
  have hAo := hA.ok hpr.2
  have hd0 := dg_ge 300 (G k)
  have hdm := (hM.ok hpr.2).dlt 300
  have wk := wd_2 hk.1
  have wm := wd_2 hd.1
  have w0 : wd 0 = 300 := rfl
  have w1 : wd 1 = 300 := rfl
  refine lv_aload_n X.1 X.2.1 d_Ar_raiseToP_0 rfl (lv_at hl 0 rfl) ?_
  refine t_ar X hT w hO 3 (by decide) k_f_Ar_24 rfl d_Ar_raiseToP_1 ?_
  refine w_cVv (n := 0) (i := 2 * 1) (ci := 0) (As := []) (rest := []) X w hml hl.1 (c_Po_clear hT (G := G) (k := 1) (by omega) (hW 1 (by omega))) (by omega) (mkV_o (by omega)) rfl k_m_Ar_76 k_im_Po_clear k_se_Po_clear k_i_Po k_co_Po_clear (by decide +kernel) rfl ⟨Nat.le_of_ble_eq_true rfl, Nat.le_of_ble_eq_true rfl⟩ ⟨rfl, rfl⟩ ⟨Nat.zero_le _, Nat.zero_le _⟩ rfl (Nat.le_of_ble_eq_true rfl) d_Ar_raiseToP_4 (fun C' H locs hp w => ?_)
  subst hp
  obtain ⟨Gw1, eGw1⟩ : ∃ gg : Nat → Nat → Int, gg = va_up G 1 (fun _ => 0) := ⟨_, rfl⟩
  rw [← eGw1] at w
  refine lv_iconst (v := iI (0)) X.1 X.2.1 d_Ar_raiseToP_7 (by decide) ?_
  refine lv_istore_n (lv' := [(3, .int (iI (0))), (0, .ref (ad (123))), (1, .ref (ad (2 * k))), (2, .ref (ad (2 * d)))]) X.1 X.2.1 d_Ar_raiseToP_8 rfl hl (by decide) rfl (fun ls hl => ?_)
  have fk : Gw1 k = G k := by rw [eGw1, va_up_ne _ _ (by omega)]
  have fd : Gw1 d = G d := by rw [eGw1, va_up_ne _ _ (by omega)]
  refine l_Ar_raiseToP (G := Gw1) (k := k) (d := d) X hml hT hO hk (by rw [fk]; exact hA) (by rw [fk]; exact hdk) (fun H locs ls w hf hl => ?_) (dg 300 (G k) + 2).toNat 0 Gw1 _ _ _ (by rw [fk]; omega) (by rw [fk]; omega) w ?_ (lv_sub hl [1, 2, 3, 0] rfl)
  · rw [fk] at w hf
    have hR : okp pr 25 (dvm pr inv (fro pr.toNat (G k)) (G d)).1 := dvm_ok25 hO hf hM (by omega) (by omega) hdd (by omega)
    obtain ⟨G2, eG2⟩ : ∃ gg : Nat → Nat → Int, gg = va_up Gw1 1 (fro pr.toNat (G k)) := ⟨_, rfl⟩
    rw [← eG2] at w
    have g1 : G2 1 = fro pr.toNat (G k) := by rw [eG2, va_up_self]
    have gd : G2 d = G d := by rw [eG2, va_up_ne _ _ (by omega), fd]
    have gk : G2 k = G k := by rw [eG2, va_up_ne _ _ (by omega), fk]
    have g0 : G2 0 = G 0 := by rw [eG2, va_up_ne _ _ (by omega), eGw1, va_up_ne _ _ (by omega)]
    refine lv_aload_n X.1 X.2.1 d_Ar_raiseToP_51 rfl (lv_at hl 0 rfl) ?_
    refine lv_aload_n X.1 X.2.1 d_Ar_raiseToP_52 rfl (lv_at hl 0 rfl) ?_
    refine t_ar X hT w hO 3 (by decide) k_f_Ar_24 rfl d_Ar_raiseToP_53 ?_
    refine lv_aload_n X.1 X.2.1 d_Ar_raiseToP_56 rfl (lv_at hl 2 rfl) ?_
    refine lv_aload_n X.1 X.2.1 d_Ar_raiseToP_57 rfl (lv_at hl 0 rfl) ?_
    refine t_ar X hT w hO 1 (by decide) k_f_Ar_20 rfl d_Ar_raiseToP_58 ?_
    refine w_cVv (n := 3) (i := 123) (ci := 1) (As := [.ref (ad (2 * 1)), .ref (ad (2 * d)), .ref (ad (2 * 0))]) (rest := []) X w hml hl.1 (c_Ar_divide hT (G := G2) hO (k := 1) (q := d) (t := 0) (by omega) (by omega) (by omega) (by omega) (by omega) (by omega) (by rw [g1]; exact hf) (by rw [gd, wm]; exact hM) (by rw [g0]; exact hW 0 (by omega)) (by rw [g1, gd, w0]; have := dg_lt 300 (fro pr.toNat (G k)); omega)) (by omega) (by rw [mkV_O (by decide)]; exact hO.1) rfl k_m_Ar_87 k_im_Ar_divide k_se_Ar_divide k_i_Ar k_co_Ar_divide (by decide +kernel) rfl ⟨Nat.le_of_ble_eq_true rfl, Nat.le_of_ble_eq_true rfl⟩ ⟨rfl, rfl⟩ ⟨Nat.zero_le _, Nat.zero_le _⟩ rfl (Nat.le_of_ble_eq_true rfl) d_Ar_raiseToP_61 (fun C' H locs hp w => ?_)
    subst hp
    obtain ⟨Gw2, eGw2⟩ : ∃ gg : Nat → Nat → Int, gg = va_up (va_up G2 0 (dvm pr inv (G2 1) (G2 d)).2) 1 (dvm pr inv (G2 1) (G2 d)).1 := ⟨_, rfl⟩
    rw [← eGw2] at w
    rw [g1, gd] at eGw2
    have k1 : Gw2 1 = (dvm pr inv (fro pr.toNat (G k)) (G d)).1 := by rw [eGw2, va_up_self]
    have kt : Gw2 k = G k := by rw [eGw2, va_up_ne _ _ (by omega), va_up_ne _ _ (by omega), gk]
    refine lv_aload_n X.1 X.2.1 d_Ar_raiseToP_64 rfl (lv_at hl 1 rfl) ?_
    refine lv_aload_n X.1 X.2.1 d_Ar_raiseToP_65 rfl (lv_at hl 0 rfl) ?_
    refine t_ar X hT w hO 3 (by decide) k_f_Ar_24 rfl d_Ar_raiseToP_66 ?_
    refine w_cVv (n := 1) (i := 2 * k) (ci := 0) (As := [.ref (ad (2 * 1))]) (rest := []) X w hml hl.1 (c_Po_copyFrom hT (G := Gw2) (k := k) (q := 1) (by omega) (by omega) (by omega) (by rw [kt]; exact hW k (by omega)) (by rw [k1]; exact (hR.mono (by omega)).ok hpr.2) (by rw [k1, wk]; exact hR.ok hpr.2)) (by omega) (mkV_o (by omega)) rfl k_m_Ar_83 k_im_Po_copyFrom k_se_Po_copyFrom k_i_Po k_co_Po_copyFrom (by decide +kernel) rfl ⟨Nat.le_of_ble_eq_true rfl, Nat.le_of_ble_eq_true rfl⟩ ⟨rfl, rfl⟩ ⟨Nat.zero_le _, Nat.zero_le _⟩ rfl (Nat.le_of_ble_eq_true rfl) d_Ar_raiseToP_69 (fun C' H locs hp w => ?_)
    subst hp
    obtain ⟨Gw3, eGw3⟩ : ∃ gg : Nat → Nat → Int, gg = va_up Gw2 k (Gw2 1) := ⟨_, rfl⟩
    rw [← eGw3] at w
    refine w_vret X hr hlk w ?_ d_Ar_raiseToP_72
    congr 2
    rw [eGw3, k1, eGw2, eG2, eGw1]
    funext j
    simp only [va_up]
    repeat' (first | rfl | (exfalso; omega) | split)
  · rw [fk, eGw1, va_uu]
    congr 1
    funext x
    unfold froL
    rw [if_neg (fun e => Nat.not_lt_zero _ e.2)]
/-- how often B divides F (at most n times), and what is left -/
def tko (pr : Int) (inv : Nat → Int) (B : Nat → Int) : Nat → Nat → (Nat → Int) → Nat × (Nat → Int)
  | 0, i, F => (i, F)
  | n + 1, i, F => if 0 ≤ dg 300 (dvm pr inv F B).1 then (i, F) else tko pr inv B n (i + 1) (dvm pr inv F B).2
section TK
variable {p : Program} {l : Launch} {e : Env} {s : State} {m : MethodId} {args : Array Value} {below : List Frame} {meth : Method} {c : Code} {H : Heap} {locs : List Loc} {Q : State → Prop} {D : va_G} {cs : Nat → ClassId} {A : Nat → Prop} {ad : Nat → Nat} {T : Nat} {O : Nat → va_E} {pr : Int} {inv : Nat → Int}
variable {k q : Nat} {G : Nat → Nat → Int}
theorem l_Ar_takeOut {post : Int32 → (Nat → va_E) → Prop} (X : Cx p s m args c b_Ar_takeOut RAr) (hr : meth.sig.returnType = some .int) (hlk : meth.locks = false) (hml : c.maxLocals = 4) (hT : 132 ≤ T) (hO : arO cs ad pr inv O) (hk : 7 ≤ k ∧ k < 61) (hq : 7 ≤ q ∧ q < 61) (hqk : q ≠ k) (hB : okp pr 25 (G q)) (hdq : 0 ≤ dg 300 (G q)) {Z : Nat × (Nat → Int)}
    (hp : ∀ G1 : Nat → Nat → Int, WF G1 → G1 k = Z.2 → okp pr 25 Z.2 → (∀ j, j ≠ 2 → j ≠ 6 → j ≠ k → G1 j = G j) → post (iI (Z.1 : Int)) (mkV cs ad (rV G1) O)) :
    ∀ (n i : Nat) (G1 : Nat → Nat → Int) (H : Heap) (locs : List Loc) (ls : Array Slot), i + n = 24 → Wd D cs A ad T s (mkV cs ad (rV G1) O) H locs → okp pr 25 (G1 k) → tko pr inv (G q) n i (G1 k) = Z → WF G1 → (∀ j, j ≠ 2 → j ≠ 6 → j ≠ k → G1 j = G j) → lv_has ls 4 [(0, .ref (ad (123))), (1, .ref (ad (2 * k))), (2, .ref (ad (2 * q))), (3, .int (iI (i)))] → W p l e { frames := 3, cells := 0, slots := 0, locals := 73 } s m args below meth c H locs 0 0 (MQ below (va_Qi post (QW D cs ad T) A) args s 0 0 A) (F0 m 2 ls []) := by
  have hpr := hO.2.2.1
  have wk := wd_2 (show 2 ≤ k by omega)
  have wq := wd_2 (show 2 ≤ q by omega)
  have w2 : wd 2 = 25 := rfl
  have w6 : wd 6 = 25 := rfl
  have hdq2 := (hB.ok hpr.2).dlt 300
  intro n
  induction n with
  | zero =>
    intro i G1 H locs ls h1 w hA hz hW hF hl
    have hz : (i, G1 k) = Z := hz
    subst hz
    refine lv_iload_n X.1 X.2.1 d_Ar_takeOut_2 rfl (lv_at hl 3 rfl) ?_
    refine lv_bipush (v := iI (24)) X.1 X.2.1 d_Ar_takeOut_3 (by decide) ?_
    refine i_ge (a := i) (b := 24) (tgt := 55) X (by omega) (by omega) d_Ar_takeOut_5 (by decide) (fun h_5 => ?_) (fun h_5 => ?_)
    · refine lv_bipush (v := iI (24)) X.1 X.2.1 d_Ar_takeOut_55 (by decide) ?_
      have e9 : (24 : Int) = (i : Int) := by omega
      rw [e9]
      exact w_iret X hr hlk w (hp G1 hW rfl hA hF) d_Ar_takeOut_57
    · exact absurd h_5 (by omega)
  | succ n ih =>
    intro i G1 H locs ls h1 w hA hz hW hF hl
    have hGq : G1 q = G q := hF q (by omega) (by omega) hqk
    have hdk := (hA.ok hpr.2).dlt 300
    have hq2 := dvm_ok (inv := inv) (M := 25) (by omega) hA hB (by omega) (by omega) hpr.2 (by omega)
    unfold tko at hz
    refine lv_iload_n X.1 X.2.1 d_Ar_takeOut_2 rfl (lv_at hl 3 rfl) ?_
    refine lv_bipush (v := iI (24)) X.1 X.2.1 d_Ar_takeOut_3 (by decide) ?_
    refine i_ge (a := i) (b := 24) (tgt := 55) X (by omega) (by omega) d_Ar_takeOut_5 (by decide) (fun h_5 => ?_) (fun h_5 => ?_)
    · exact absurd h_5 (by omega)
    · refine lv_aload_n X.1 X.2.1 d_Ar_takeOut_8 rfl (lv_at hl 0 rfl) ?_
      refine t_ar X hT w hO 4 (by decide) k_f_Ar_27 rfl d_Ar_takeOut_9 ?_
      refine lv_aload_n X.1 X.2.1 d_Ar_takeOut_12 rfl (lv_at hl 1 rfl) ?_
      refine w_cVv (n := 1) (i := 2 * 2) (ci := 0) (As := [.ref (ad (2 * k))]) (rest := []) X w hml hl.1 (c_Po_copyFrom hT (G := G1) (k := 2) (q := k) (by omega) (by omega) (by omega) (hW 2 (by omega)) (hW k (by omega)) (hA.ok hpr.2)) (by omega) (mkV_o (by omega)) rfl k_m_Ar_83 k_im_Po_copyFrom k_se_Po_copyFrom k_i_Po k_co_Po_copyFrom (by decide +kernel) rfl ⟨Nat.le_of_ble_eq_true rfl, Nat.le_of_ble_eq_true rfl⟩ ⟨rfl, rfl⟩ ⟨Nat.zero_le _, Nat.zero_le _⟩ rfl (Nat.le_of_ble_eq_true rfl) d_Ar_takeOut_13 (fun C' H locs hp w => ?_)
      subst hp
      obtain ⟨Gw1, eGw1⟩ : ∃ gg : Nat → Nat → Int, gg = va_up G1 2 (G1 k) := ⟨_, rfl⟩
      rw [← eGw1] at w
      have f2 : Gw1 2 = G1 k := by rw [eGw1, va_up_self]
      have fq : Gw1 q = G q := by rw [eGw1, va_up_ne _ _ (by omega), hGq]
      refine lv_aload_n X.1 X.2.1 d_Ar_takeOut_16 rfl (lv_at hl 0 rfl) ?_
      refine lv_aload_n X.1 X.2.1 d_Ar_takeOut_17 rfl (lv_at hl 0 rfl) ?_
      refine t_ar X hT w hO 4 (by decide) k_f_Ar_27 rfl d_Ar_takeOut_18 ?_
      refine lv_aload_n X.1 X.2.1 d_Ar_takeOut_21 rfl (lv_at hl 2 rfl) ?_
      refine lv_aload_n X.1 X.2.1 d_Ar_takeOut_22 rfl (lv_at hl 0 rfl) ?_
      refine t_ar X hT w hO 8 (by decide) k_f_Ar_39 rfl d_Ar_takeOut_23 ?_
      refine w_cVv (n := 3) (i := 123) (ci := 1) (As := [.ref (ad (2 * 2)), .ref (ad (2 * q)), .ref (ad (2 * 6))]) (rest := []) X w hml hl.1 (c_Ar_divide hT (G := Gw1) hO (k := 2) (q := q) (t := 6) (by omega) (by omega) (by omega) (by omega) (by omega) (by omega) (by rw [f2]; exact hA) (by rw [fq, wq]; exact hB) (by rw [eGw1, va_up_ne _ _ (by omega)]; exact hW 6 (by omega)) (by rw [f2, fq, w6]; omega)) (by omega) (by rw [mkV_O (by decide)]; exact hO.1) rfl k_m_Ar_87 k_im_Ar_divide k_se_Ar_divide k_i_Ar k_co_Ar_divide (by decide +kernel) rfl ⟨Nat.le_of_ble_eq_true rfl, Nat.le_of_ble_eq_true rfl⟩ ⟨rfl, rfl⟩ ⟨Nat.zero_le _, Nat.zero_le _⟩ rfl (Nat.le_of_ble_eq_true rfl) d_Ar_takeOut_26 (fun C' H locs hp w => ?_)
      subst hp
      obtain ⟨Gw2, eGw2⟩ : ∃ gg : Nat → Nat → Int, gg = va_up (va_up Gw1 6 (dvm pr inv (Gw1 2) (Gw1 q)).2) 2 (dvm pr inv (Gw1 2) (Gw1 q)).1 := ⟨_, rfl⟩
      rw [← eGw2] at w
      rw [f2, fq] at eGw2
      have g2 : Gw2 2 = (dvm pr inv (G1 k) (G q)).1 := by rw [eGw2, va_up_self]
      have g6 : Gw2 6 = (dvm pr inv (G1 k) (G q)).2 := by rw [eGw2, va_up_ne _ _ (by omega), va_up_self]
      have gk : Gw2 k = G1 k := by rw [eGw2, va_up_ne _ _ (by omega), va_up_ne _ _ (by omega), eGw1, va_up_ne _ _ (by omega)]
      have hd2 : dg 300 (Gw2 2) = dg 300 (dvm pr inv (G1 k) (G q)).1 := by rw [g2]
      have hd3 := dg_ge 300 (dvm pr inv (G1 k) (G q)).1
      have hd4 := dg_lt 300 (dvm pr inv (G1 k) (G q)).1
      have hW2 : WF Gw2 := by rw [eGw2, eGw1]; exact ((hW.up (k := 2) (hA.ok hpr.2)).up (k := 6) (hq2.2.ok hpr.2)).up (k := 2) (hq2.1.ok hpr.2)
      have hF2 : ∀ j, j ≠ 2 → j ≠ 6 → Gw2 j = G1 j := fun j j2 j6 => by rw [eGw2, va_up_ne _ _ j2, va_up_ne _ _ j6, eGw1, va_up_ne _ _ j2]
      refine lv_aload_n X.1 X.2.1 d_Ar_takeOut_29 rfl (lv_at hl 0 rfl) ?_
      refine t_ar X hT w hO 4 (by decide) k_f_Ar_27 rfl d_Ar_takeOut_30 ?_
      refine g_deg (k := 2) X hT w (by omega) k_f_Ar_52 d_Ar_takeOut_33 ?_
      refine z_lt (a := dg 300 (Gw2 2)) (tgt := 41) X (by omega) d_Ar_takeOut_36 (by decide) (fun h_36 => ?_) (fun h_36 => ?_)
      · refine lv_aload_n X.1 X.2.1 d_Ar_takeOut_41 rfl (lv_at hl 1 rfl) ?_
        refine lv_aload_n X.1 X.2.1 d_Ar_takeOut_42 rfl (lv_at hl 0 rfl) ?_
        refine t_ar X hT w hO 8 (by decide) k_f_Ar_39 rfl d_Ar_takeOut_43 ?_
        refine w_cVv (n := 1) (i := 2 * k) (ci := 0) (As := [.ref (ad (2 * 6))]) (rest := []) X w hml hl.1 (c_Po_copyFrom hT (G := Gw2) (k := k) (q := 6) (by omega) (by omega) (by omega) (hW2 k (by omega)) (hW2 6 (by omega)) (by rw [g6, wk]; exact hq2.2.ok hpr.2)) (by omega) (mkV_o (by omega)) rfl k_m_Ar_83 k_im_Po_copyFrom k_se_Po_copyFrom k_i_Po k_co_Po_copyFrom (by decide +kernel) rfl ⟨Nat.le_of_ble_eq_true rfl, Nat.le_of_ble_eq_true rfl⟩ ⟨rfl, rfl⟩ ⟨Nat.zero_le _, Nat.zero_le _⟩ rfl (Nat.le_of_ble_eq_true rfl) d_Ar_takeOut_46 (fun C' H locs hp w => ?_)
        subst hp
        obtain ⟨Gw3, eGw3⟩ : ∃ gg : Nat → Nat → Int, gg = va_up Gw2 k (Gw2 6) := ⟨_, rfl⟩
        rw [← eGw3] at w
        refine i_inc (k := 3) (x := i) (lv' := [(3, .int (iI (i + 1))), (0, .ref (ad (123))), (1, .ref (ad (2 * k))), (2, .ref (ad (2 * q)))]) X d_Ar_takeOut_49 hl rfl (by decide) rfl (fun ls hl => ?_)
        refine lv_goto (tgt := 2) X.1 X.2.1 d_Ar_takeOut_52 (by decide) ?_
        rw [if_neg (by omega)] at hz
        have ek : Gw3 k = (dvm pr inv (G1 k) (G q)).2 := by rw [eGw3, va_up_self, g6]
        refine ih (i + 1) Gw3 H locs ls (by omega) w (by rw [ek]; exact hq2.2) (by rw [ek]; exact hz) (by rw [eGw3]; exact hW2.up (by rw [g6, wk]; exact hq2.2.ok hpr.2)) (fun j j2 j6 jk => by rw [eGw3, va_up_ne _ _ jk, hF2 j j2 j6]; exact hF j j2 j6 jk) (lv_sub hl [1, 2, 3, 0] rfl)
      · refine lv_iload_n X.1 X.2.1 d_Ar_takeOut_39 rfl (lv_at hl 3 rfl) ?_
        rw [if_pos (by omega)] at hz
        subst hz
        exact w_iret X hr hlk w (hp Gw2 hW2 gk hA (fun j j2 j6 jk => by rw [hF2 j j2 j6]; exact hF j j2 j6 jk)) d_Ar_takeOut_40
end TK
theorem c_Ar_takeOut {l : Launch} {D : va_G} {cs : Nat → ClassId} {A : Nat → Prop} {ad : Nat → Nat} {T : Nat} (hT : 132 ≤ T) {G : Nat → Nat → Int} {O : Nat → va_E} {pr : Int} {inv : Nat → Int} (hO : arO cs ad pr inv O) {k q : Nat} (hk : 7 ≤ k ∧ k < 61) (hq : 7 ≤ q ∧ q < 61) (hqk : q ≠ k) (hW : WF G) (hA : okp pr 25 (G k)) (hB : okp pr 25 (G q)) (hdq : 0 ≤ dg 300 (G q)) : Ci l y_Ar_takeOut ws_Ar_takeOut { frames := 3, cells := 0, slots := 0, locals := 73 } D cs A ad T [.ref (ad (123)), .ref (ad (2 * k)), .ref (ad (2 * q))] (mkV cs ad (rV G) O) (fun r C' => ∃ G', C' = mkV cs ad (rV G') O ∧ r = iI ((tko pr inv (G q) 24 0 (G k)).1 : Int) ∧ WF G' ∧ G' k = (tko pr inv (G q) 24 0 (G k)).2 ∧ okp pr 25 (G' k) ∧ ∀ j, j ≠ 2 → j ≠ 6 → j ≠ k → G' j = G j) := by
  refine w_bodyI (by decide) (Nat.le_of_ble_eq_true rfl) ?_
  intro p e s m below meth c X hr hlk hml w ls hl
  have hl : lv_has ls 4 [(0, .ref (ad (123))), (1, .ref (ad (2 * k))), (2, .ref (ad (2 * q)))] := hl
  refine lv_iconst (v := iI (0)) X.1 X.2.1 d_Ar_takeOut_0 (by decide) ?_
  refine lv_istore_n (lv' := [(3, .int (iI (0))), (0, .ref (ad (123))), (1, .ref (ad (2 * k))), (2, .ref (ad (2 * q)))]) X.1 X.2.1 d_Ar_takeOut_1 rfl hl (by decide) rfl (fun ls hl => ?_)
  exact l_Ar_takeOut (G := G) X hr hlk hml hT hO hk hq hqk hB hdq (Z := tko pr inv (G q) 24 0 (G k)) (fun G1 h1 h2 h3 h4 => ⟨G1, rfl, rfl, h1, h2, by rw [h2]; exact h3, h4⟩) 24 0 G _ _ _ (by omega) w hA rfl hW (fun _ _ _ _ => rfl) (lv_sub hl [1, 2, 3, 0] rfl)
end
section
section PB
variable {p : Program} {l : Launch} {e : Env} {R : Room} {s : State} {m : MethodId} {args : Array Value} {below : List Frame} {meth : Method} {c : Code} {H : Heap} {locs : List Loc} {cells slots : Nat} {Q : State → Prop} {D : va_G} {cs : Nat → ClassId} {A : Nat → Prop} {ad : Nat → Nat} {T : Nat}
variable {cc : ByteArray} {own : String} {pc : Nat} {ls : Array Slot} {rest : List Value}
theorem i_and1 (X : Cx p s m args c cc own) {a : Int} (ha : 0 ≤ a ∧ a < 2147483648) (hdg : decode cc pc = .ok (.iand, 1)) (kk : W p l e R s m args below meth c H locs cells slots Q (F0 m (pc + 1) ls (.int (iI (a % 2)) :: rest))) : W p l e R s m args below meth c H locs cells slots Q (F0 m pc ls (.int (iI 1) :: .int (iI a) :: rest)) := by
  obtain ⟨n, rfl⟩ := Int.eq_ofNat_of_zero_le ha.1
  refine lv_iand X.1 X.2.1 hdg ?_
  have h := pk_andN (n := n) (by omega) (m := 1) 1 (by decide)
  rw [iI_nI, iI_nI] at h
  rw [show iI 1 = (1 : Int32) from rfl, h]
  exact kk
theorem i_shr1 (X : Cx p s m args c cc own) {a : Int} (ha : 0 ≤ a ∧ a < 2147483648) (hdg : decode cc pc = .ok (.ishr, 1)) (kk : W p l e R s m args below meth c H locs cells slots Q (F0 m (pc + 1) ls (.int (iI (a / 2)) :: rest))) : W p l e R s m args below meth c H locs cells slots Q (F0 m pc ls (.int (iI 1) :: .int (iI a) :: rest)) := by
  obtain ⟨n, rfl⟩ := Int.eq_ofNat_of_zero_le ha.1
  refine lv_ishr X.1 X.2.1 hdg ?_
  have h := pk_shrN (n := n) (by omega) (iI 1 &&& 31) 1 (by decide)
  rw [iI_nI, iI_nI] at h
  rw [h]
  exact kk
end PB
theorem mulm_ok {cs : Nat → ClassId} {ad : Nat → Nat} {pr : Int} {inv : Nat → Int} {O : Nat → va_E} (hO : arO cs ad pr inv O) {A B M : Nat → Int} (hA : okp pr 25 A) (hB : okp pr 25 B) (hM : okp pr 25 M) (hd : 0 ≤ dg 300 M) : okp pr 25 (mulm pr inv A B M) ∧ okp pr 300 (dvm pr inv (prd pr A B) M).1 ∧ okp pr 300 (dvm pr inv (prd pr A B) M).2 := by
  have hpr := hO.2.2.1
  have hda := (hA.ok hpr.2).dlt 300
  have hdb := (hB.ok hpr.2).dlt 300
  have hdm := (hM.ok hpr.2).dlt 300
  have hP : okp pr 300 (prd pr A B) := prd_ok (by omega) hpr.2 hA hB (by omega) (by omega)
  have h := dvm_ok (inv := inv) (M := 300) (by omega) hP hM (by omega) (by omega) hpr.2 (by have := dg_lt 300 (prd pr A B); omega)
  exact ⟨dvm_ok25 hO hP hM (by omega) (by omega) hd (by omega), h.1, h.2⟩
theorem WF.mul {cs : Nat → ClassId} {ad : Nat → Nat} {pr : Int} {inv : Nat → Int} {O : Nat → va_E} (hO : arO cs ad pr inv O) {G : Nat → Nat → Int} (hW : WF G) {A B M : Nat → Int} (hA : okp pr 25 A) (hB : okp pr 25 B) (hM : okp pr 25 M) (hd : 0 ≤ dg 300 M) {t : Nat} (ht : 2 ≤ t) : WF (va_up (va_up (va_up G 0 (dvm pr inv (prd pr A B) M).2) 1 (dvm pr inv (prd pr A B) M).1) t (dvm pr inv (prd pr A B) M).1) := by
  have h := mulm_ok hO hA hB hM hd
  have hpr := hO.2.2.1
  exact ((hW.up (k := 0) (h.2.2.ok hpr.2)).up (k := 1) (h.2.1.ok hpr.2)).up (k := t) (by rw [wd_2 ht]; exact h.1.ok hpr.2)
/-- powers by squaring -/
def powL (pr : Int) (inv : Nat → Int) (M : Nat → Int) : Nat → Nat → (Nat → Int) → (Nat → Int) → Nat → Int
  | 0, _, U, _ => U
  | f + 1, n, U, S => if n = 0 then U else powL pr inv M f (n / 2) (if n % 2 = 1 then mulm pr inv U S M else U) (mulm pr inv S S M)
def oneP : Nat → Int := fun x => if x = 0 then 1 else 0
theorem oneP_ok {pr : Int} {N : Nat} (hp : 1 < pr) (hN : 0 < N) : okp pr N oneP := by
  refine ⟨fun x => ?_, fun x hx => ?_⟩
  · unfold oneP; split <;> omega
  · unfold oneP; rw [if_neg (by omega)]
def powP (pr : Int) (inv : Nat → Int) (A : Nat → Int) (n : Nat) (M : Nat → Int) : Nat → Int := powL pr inv M 31 n oneP A
section RA
variable {p : Program} {l : Launch} {e : Env} {s : State} {m : MethodId} {args : Array Value} {below : List Frame} {meth : Method} {c : Code} {H : Heap} {locs : List Loc} {Q : State → Prop} {D : va_G} {cs : Nat → ClassId} {A : Nat → Prop} {ad : Nat → Nat} {T : Nat} {O : Nat → va_E} {pr : Int} {inv : Nat → Int}
variable {t d : Nat} {G : Nat → Nat → Int}
theorem l_Ar_raise (X : Cx p s m args c b_Ar_raise RAr) (hml : c.maxLocals = 7) (hT : 132 ≤ T) (hO : arO cs ad pr inv O) (ht : 7 ≤ t ∧ t < 61) (hd : 7 ≤ d ∧ d < 61) (hdt : d ≠ t) (hM : okp pr 25 (G d)) (hdd : 0 ≤ dg 300 (G d)) {Z : Nat → Int}
    (K : ∀ (G1 : Nat → Nat → Int) (H : Heap) (locs : List Loc) (ls : Array Slot), Wd D cs A ad T s (mkV cs ad (rV G1) O) H locs → okp pr 25 Z → G1 t = Z → WF G1 → (∀ j, j ≠ 0 → j ≠ 1 → j ≠ 2 → j ≠ t → G1 j = G j) → W p l e { frames := 4, cells := 0, slots := 0, locals := 97 } s m args below meth c H locs 0 0 Q (F0 m 64 ls [])) :
    ∀ (f n : Nat) (G1 : Nat → Nat → Int) (H : Heap) (locs : List Loc) (ls : Array Slot), n < 2 ^ f → n < 2147483648 → okp pr 25 (G1 t) → okp pr 25 (G1 2) → powL pr inv (G d) f n (G1 t) (G1 2) = Z → WF G1 → (∀ j, j ≠ 0 → j ≠ 1 → j ≠ 2 → j ≠ t → G1 j = G j) → Wd D cs A ad T s (mkV cs ad (rV G1) O) H locs → lv_has ls 7 [(0, .ref (ad (123))), (1, .ref (ad (2 * t))), (4, .ref (ad (2 * d))), (5, .ref (ad (2 * 2))), (6, .int (iI (n)))] → W p l e { frames := 4, cells := 0, slots := 0, locals := 97 } s m args below meth c H locs 0 0 Q (F0 m 20 ls []) := by
  have hpr := hO.2.2.1
  intro f
  induction f with
  | zero =>
    intro n G1 H locs ls h1 h2 hU hS hz hW hF w hl
    refine lv_iload X.1 X.2.1 d_Ar_raise_20 (lv_at hl 4 rfl) ?_
    refine z_le (a := n) (tgt := 64) X (by omega) d_Ar_raise_22 (by decide) (fun h_22 => ?_) (fun h_22 => ?_)
    · exact K G1 H locs ls w (by rw [← hz]; exact hU) hz hW hF
    · exact absurd h_22 (by simp at h1; omega)
  | succ f ih =>
    intro n G1 H locs ls h1 h2 hU hS hz hW hF w hl
    have hGd : G1 d = G d := hF d (by omega) (by omega) (by omega) hdt
    unfold powL at hz
    have hn2 : n / 2 < 2 ^ f := by rw [Nat.pow_succ] at h1; omega
    refine lv_iload X.1 X.2.1 d_Ar_raise_20 (lv_at hl 4 rfl) ?_
    refine z_le (a := n) (tgt := 64) X (by omega) d_Ar_raise_22 (by decide) (fun h_22 => ?_) (fun h_22 => ?_)
    · rw [if_pos (by omega)] at hz
      exact K G1 H locs ls w (by rw [← hz]; exact hU) hz hW hF
    · refine lv_iload X.1 X.2.1 d_Ar_raise_25 (lv_at hl 4 rfl) ?_
      refine lv_iconst (v := iI (1)) X.1 X.2.1 d_Ar_raise_27 (by decide) ?_
      refine i_and1 (a := n) X (by omega) d_Ar_raise_28 ?_
      refine lv_iconst (v := iI (1)) X.1 X.2.1 d_Ar_raise_29 (by decide) ?_
      refine i_ne (a := n % 2) (b := 1) (tgt := 43) X (by omega) (by omega) d_Ar_raise_30 (by decide) (fun h_30 => ?_) (fun h_30 => ?_)
      · refine lv_aload_n X.1 X.2.1 d_Ar_raise_43 rfl (lv_at hl 0 rfl) ?_
        refine lv_aload X.1 X.2.1 d_Ar_raise_44 (lv_at hl 3 rfl) ?_
        refine lv_aload X.1 X.2.1 d_Ar_raise_46 (lv_at hl 3 rfl) ?_
        refine lv_aload X.1 X.2.1 d_Ar_raise_48 (lv_at hl 3 rfl) ?_
        refine lv_aload X.1 X.2.1 d_Ar_raise_50 (lv_at hl 2 rfl) ?_
        refine w_cVv (n := 4) (i := 123) (ci := 1) (As := [.ref (ad (2 * 2)), .ref (ad (2 * 2)), .ref (ad (2 * 2)), .ref (ad (2 * d))]) (rest := []) X w hml hl.1 (c_Ar_multiply hT (G := G1) hO (t := 2) (a := 2) (b := 2) (d := d) (by omega) (by omega) (by omega) (by omega) hW (by exact hS) (by exact hS) (by rw [hGd]; exact hM) (by rw [hGd]; exact hdd)) (by omega) (by rw [mkV_O (by decide)]; exact hO.1) rfl k_m_Ar_101 k_im_Ar_multiply k_se_Ar_multiply k_i_Ar k_co_Ar_multiply (by decide +kernel) rfl ⟨Nat.le_of_ble_eq_true rfl, Nat.le_of_ble_eq_true rfl⟩ ⟨rfl, rfl⟩ ⟨Nat.zero_le _, Nat.zero_le _⟩ rfl (Nat.le_of_ble_eq_true rfl) d_Ar_raise_52 (fun C' H locs hp w => ?_)
        subst hp
        obtain ⟨Gw1, eGw1⟩ : ∃ gg : Nat → Nat → Int, gg = va_up (va_up (va_up G1 0 (dvm pr inv (prd pr (G1 2) (G1 2)) (G1 d)).2) 1 (dvm pr inv (prd pr (G1 2) (G1 2)) (G1 d)).1) 2 (dvm pr inv (prd pr (G1 2) (G1 2)) (G1 d)).1 := ⟨_, rfl⟩
        rw [← eGw1] at w
        refine lv_iload X.1 X.2.1 d_Ar_raise_55 (lv_at hl 4 rfl) ?_
        refine lv_iconst (v := iI (1)) X.1 X.2.1 d_Ar_raise_57 (by decide) ?_
        refine i_shr1 (a := n) X (by omega) d_Ar_raise_58 ?_
        refine lv_istore (lv' := [(6, .int (iI (n / 2))), (0, .ref (ad (123))), (1, .ref (ad (2 * t))), (4, .ref (ad (2 * d))), (5, .ref (ad (2 * 2)))]) X.1 X.2.1 d_Ar_raise_59 hl (by decide) rfl (fun ls hl => ?_)
        refine lv_goto (tgt := 20) X.1 X.2.1 d_Ar_raise_61 (by decide) ?_
        rw [hGd] at eGw1
        have gt : Gw1 t = G1 t := by rw [eGw1, va_up_ne _ _ (by omega), va_up_ne _ _ (by omega), va_up_ne _ _ (by omega)]
        have gs : Gw1 2 = mulm pr inv (G1 2) (G1 2) (G d) := by rw [eGw1, va_up_self]; rfl
        have hq : (n : Int) / 2 = ((n / 2 : Nat) : Int) := by omega
        refine ih (n / 2) Gw1 H locs ls hn2 (by omega) (by rw [gt]; exact hU) (by rw [gs]; exact (mulm_ok hO hS hS hM hdd).1) ?_ (by rw [eGw1]; exact WF.mul hO hW hS hS hM hdd (by omega)) (fun j j0 j1 j2 jt => by rw [eGw1, va_up_ne _ _ j2, va_up_ne _ _ j1, va_up_ne _ _ j0]; exact hF j j0 j1 j2 jt) w (by rw [← hq]; exact lv_sub hl [1, 2, 3, 4, 0] rfl)
        rw [if_neg (by omega), if_neg (by omega)] at hz
        rw [gt, gs]; exact hz
      · refine lv_aload_n X.1 X.2.1 d_Ar_raise_33 rfl (lv_at hl 0 rfl) ?_
        refine lv_aload_n X.1 X.2.1 d_Ar_raise_34 rfl (lv_at hl 1 rfl) ?_
        refine lv_aload_n X.1 X.2.1 d_Ar_raise_35 rfl (lv_at hl 1 rfl) ?_
        refine lv_aload X.1 X.2.1 d_Ar_raise_36 (lv_at hl 3 rfl) ?_
        refine lv_aload X.1 X.2.1 d_Ar_raise_38 (lv_at hl 2 rfl) ?_
        refine w_cVv (n := 4) (i := 123) (ci := 1) (As := [.ref (ad (2 * t)), .ref (ad (2 * t)), .ref (ad (2 * 2)), .ref (ad (2 * d))]) (rest := []) X w hml hl.1 (c_Ar_multiply hT (G := G1) hO (t := t) (a := t) (b := 2) (d := d) (by omega) (by omega) (by omega) (by omega) hW hU hS (by rw [hGd]; exact hM) (by rw [hGd]; exact hdd)) (by omega) (by rw [mkV_O (by decide)]; exact hO.1) rfl k_m_Ar_101 k_im_Ar_multiply k_se_Ar_multiply k_i_Ar k_co_Ar_multiply (by decide +kernel) rfl ⟨Nat.le_of_ble_eq_true rfl, Nat.le_of_ble_eq_true rfl⟩ ⟨rfl, rfl⟩ ⟨Nat.zero_le _, Nat.zero_le _⟩ rfl (Nat.le_of_ble_eq_true rfl) d_Ar_raise_40 (fun C' H locs hp w => ?_)
        subst hp
        obtain ⟨Gw1, eGw1⟩ : ∃ gg : Nat → Nat → Int, gg = va_up (va_up (va_up G1 0 (dvm pr inv (prd pr (G1 t) (G1 2)) (G1 d)).2) 1 (dvm pr inv (prd pr (G1 t) (G1 2)) (G1 d)).1) t (dvm pr inv (prd pr (G1 t) (G1 2)) (G1 d)).1 := ⟨_, rfl⟩
        rw [← eGw1] at w
        rw [hGd] at eGw1
        have gt : Gw1 t = mulm pr inv (G1 t) (G1 2) (G d) := by rw [eGw1, va_up_self]; rfl
        have g2 : Gw1 2 = G1 2 := by rw [eGw1, va_up_ne _ _ (by omega), va_up_ne _ _ (by omega), va_up_ne _ _ (by omega)]
        have hgt : okp pr 25 (Gw1 t) := by rw [gt]; exact (mulm_ok hO hU hS hM hdd).1
        have hWg : WF Gw1 := by rw [eGw1]; exact WF.mul hO hW hU hS hM hdd (by omega)
        have hFg : ∀ j, j ≠ 0 → j ≠ 1 → j ≠ 2 → j ≠ t → Gw1 j = G j := fun j j0 j1 j2 jt => by rw [eGw1, va_up_ne _ _ jt, va_up_ne _ _ j1, va_up_ne _ _ j0]; exact hF j j0 j1 j2 jt
        refine lv_aload_n X.1 X.2.1 d_Ar_raise_43 rfl (lv_at hl 0 rfl) ?_
        refine lv_aload X.1 X.2.1 d_Ar_raise_44 (lv_at hl 3 rfl) ?_
        refine lv_aload X.1 X.2.1 d_Ar_raise_46 (lv_at hl 3 rfl) ?_
        refine lv_aload X.1 X.2.1 d_Ar_raise_48 (lv_at hl 3 rfl) ?_
        refine lv_aload X.1 X.2.1 d_Ar_raise_50 (lv_at hl 2 rfl) ?_
        refine w_cVv (n := 4) (i := 123) (ci := 1) (As := [.ref (ad (2 * 2)), .ref (ad (2 * 2)), .ref (ad (2 * 2)), .ref (ad (2 * d))]) (rest := []) X w hml hl.1 (c_Ar_multiply hT (G := Gw1) hO (t := 2) (a := 2) (b := 2) (d := d) (by omega) (by omega) (by omega) (by omega) hWg (by rw [g2]; exact hS) (by rw [g2]; exact hS) (by rw [hFg d (by omega) (by omega) (by omega) hdt]; exact hM) (by rw [hFg d (by omega) (by omega) (by omega) hdt]; exact hdd)) (by omega) (by rw [mkV_O (by decide)]; exact hO.1) rfl k_m_Ar_101 k_im_Ar_multiply k_se_Ar_multiply k_i_Ar k_co_Ar_multiply (by decide +kernel) rfl ⟨Nat.le_of_ble_eq_true rfl, Nat.le_of_ble_eq_true rfl⟩ ⟨rfl, rfl⟩ ⟨Nat.zero_le _, Nat.zero_le _⟩ rfl (Nat.le_of_ble_eq_true rfl) d_Ar_raise_52 (fun C' H locs hp w => ?_)
        subst hp
        obtain ⟨Gw2, eGw2⟩ : ∃ gg : Nat → Nat → Int, gg = va_up (va_up (va_up Gw1 0 (dvm pr inv (prd pr (Gw1 2) (Gw1 2)) (Gw1 d)).2) 1 (dvm pr inv (prd pr (Gw1 2) (Gw1 2)) (Gw1 d)).1) 2 (dvm pr inv (prd pr (Gw1 2) (Gw1 2)) (Gw1 d)).1 := ⟨_, rfl⟩
        rw [← eGw2] at w
        refine lv_iload X.1 X.2.1 d_Ar_raise_55 (lv_at hl 4 rfl) ?_
        refine lv_iconst (v := iI (1)) X.1 X.2.1 d_Ar_raise_57 (by decide) ?_
        refine i_shr1 (a := n) X (by omega) d_Ar_raise_58 ?_
        refine lv_istore (lv' := [(6, .int (iI (n / 2))), (0, .ref (ad (123))), (1, .ref (ad (2 * t))), (4, .ref (ad (2 * d))), (5, .ref (ad (2 * 2)))]) X.1 X.2.1 d_Ar_raise_59 hl (by decide) rfl (fun ls hl => ?_)
        refine lv_goto (tgt := 20) X.1 X.2.1 d_Ar_raise_61 (by decide) ?_
        have hGd2 : Gw1 d = G d := hFg d (by omega) (by omega) (by omega) hdt
        rw [hGd2, g2] at eGw2
        have gt2 : Gw2 t = mulm pr inv (G1 t) (G1 2) (G d) := by rw [eGw2, va_up_ne _ _ (by omega), va_up_ne _ _ (by omega), va_up_ne _ _ (by omega), gt]
        have gs : Gw2 2 = mulm pr inv (G1 2) (G1 2) (G d) := by rw [eGw2, va_up_self]; rfl
        have hq : (n : Int) / 2 = ((n / 2 : Nat) : Int) := by omega
        refine ih (n / 2) Gw2 H locs ls hn2 (by omega) (by rw [gt2, ← gt]; exact hgt) (by rw [gs]; exact (mulm_ok hO hS hS hM hdd).1) ?_ (by rw [eGw2]; exact WF.mul hO hWg hS hS hM hdd (by omega)) (fun j j0 j1 j2 jt => by rw [eGw2, va_up_ne _ _ j2, va_up_ne _ _ j1, va_up_ne _ _ j0]; exact hFg j j0 j1 j2 jt) w (by rw [← hq]; exact lv_sub hl [1, 2, 3, 4, 0] rfl)
        rw [if_neg (by omega), if_pos (by omega)] at hz
        rw [gt2, gs]; exact hz
end RA
theorem c_Ar_raise {l : Launch} {D : va_G} {cs : Nat → ClassId} {A : Nat → Prop} {ad : Nat → Nat} {T : Nat} (hT : 132 ≤ T) {G : Nat → Nat → Int} {O : Nat → va_E} {pr : Int} {inv : Nat → Int} (hO : arO cs ad pr inv O) {t a d n : Nat} (ht : 7 ≤ t ∧ t < 61) (ha : 7 ≤ a ∧ a < 61) (hd : 7 ≤ d ∧ d < 61) (hdt : d ≠ t) (hn : n < 2147483648) (hW : WF G) (hA : okp pr 25 (G a)) (hM : okp pr 25 (G d)) (hdd : 0 ≤ dg 300 (G d)) : Cv l y_Ar_raise ws_Ar_raise { frames := 4, cells := 0, slots := 0, locals := 97 } D cs A ad T [.ref (ad (123)), .ref (ad (2 * t)), .ref (ad (2 * a)), .int (iI (n)), .ref (ad (2 * d))] (mkV cs ad (rV G) O) (fun C' => ∃ G', C' = mkV cs ad (rV G') O ∧ WF G' ∧ G' t = powP pr inv (G a) n (G d) ∧ okp pr 25 (G' t) ∧ ∀ j, j ≠ 0 → j ≠ 1 → j ≠ 2 → j ≠ t → G' j = G j) := by
  refine w_bodyV (by decide) (Nat.le_of_ble_eq_true rfl) ?_
  intro p e s m below meth c X hr hlk hml w ls hl
  have hl : lv_has ls 7 [(0, .ref (ad (123))), (1, .ref (ad (2 * t))), (2, .ref (ad (2 * a))), (3, .int (iI (n))), (4, .ref (ad (2 * d)))] := hl
  have hpr := hO.2.2.1
  have wa := wd_2 (show 2 ≤ a by omega)
  have wt := wd_2 (show 2 ≤ t by omega)
  have w2 : wd 2 = 25 := rfl
  refine lv_aload_n X.1 X.2.1 d_Ar_raise_0 rfl (lv_at hl 0 rfl) ?_
  refine t_ar X hT w hO 4 (by decide) k_f_Ar_27 rfl d_Ar_raise_1 ?_
  refine lv_astore (lv' := [(5, .ref (ad (2 * 2))), (0, .ref (ad (123))), (1, .ref (ad (2 * t))), (2, .ref (ad (2 * a))), (3, .int (iI (n))), (4, .ref (ad (2 * d)))]) X.1 X.2.1 d_Ar_raise_4 hl (by decide) rfl (fun ls hl => ?_)
  refine lv_aload X.1 X.2.1 d_Ar_raise_6 (lv_at hl 0 rfl) ?_
  refine lv_aload_n X.1 X.2.1 d_Ar_raise_8 rfl (lv_at hl 3 rfl) ?_
  refine w_cVv (n := 1) (i := 2 * 2) (ci := 0) (As := [.ref (ad (2 * a))]) (rest := []) X w hml hl.1 (c_Po_copyFrom hT (G := G) (k := 2) (q := a) (by omega) (by omega) (by omega) (hW 2 (by omega)) (hW a (by omega)) (hA.ok hpr.2)) (by omega) (mkV_o (by omega)) rfl k_m_Ar_83 k_im_Po_copyFrom k_se_Po_copyFrom k_i_Po k_co_Po_copyFrom (by decide +kernel) rfl ⟨Nat.le_of_ble_eq_true rfl, Nat.le_of_ble_eq_true rfl⟩ ⟨rfl, rfl⟩ ⟨Nat.zero_le _, Nat.zero_le _⟩ rfl (Nat.le_of_ble_eq_true rfl) d_Ar_raise_9 (fun C' H locs hp w => ?_)
  subst hp
  obtain ⟨Gw1, eGw1⟩ : ∃ gg : Nat → Nat → Int, gg = va_up G 2 (G a) := ⟨_, rfl⟩
  rw [← eGw1] at w
  refine lv_aload_n X.1 X.2.1 d_Ar_raise_12 rfl (lv_at hl 2 rfl) ?_
  refine lv_iconst (v := iI (0)) X.1 X.2.1 d_Ar_raise_13 (by decide) ?_
  refine w_cVv (n := 1) (i := 2 * t) (ci := 0) (As := [.int (iI ((0 : Nat)))]) (rest := []) X w hml hl.1 (c_Po_becomePowerOfX hT (G := Gw1) (k := t) (i := 0) (by omega) (by omega) (by rw [eGw1, va_up_ne _ _ (by omega)]; exact hW t (by omega))) (by omega) (mkV_o (by omega)) rfl k_m_Ar_98 k_im_Po_becomePowerOfX k_se_Po_becomePowerOfX k_i_Po k_co_Po_becomePowerOfX (by decide +kernel) rfl ⟨Nat.le_of_ble_eq_true rfl, Nat.le_of_ble_eq_true rfl⟩ ⟨rfl, rfl⟩ ⟨Nat.zero_le _, Nat.zero_le _⟩ rfl (Nat.le_of_ble_eq_true rfl) d_Ar_raise_14 (fun C' H locs hp w => ?_)
  subst hp
  obtain ⟨Gw2, eGw2⟩ : ∃ gg : Nat → Nat → Int, gg = va_up Gw1 t (fun x => if x = 0 then 1 else 0) := ⟨_, rfl⟩
  rw [← eGw2] at w
  refine lv_iload_n X.1 X.2.1 d_Ar_raise_17 rfl (lv_at hl 4 rfl) ?_
  refine lv_istore (lv' := [(6, .int (iI (n))), (5, .ref (ad (2 * 2))), (0, .ref (ad (123))), (1, .ref (ad (2 * t))), (2, .ref (ad (2 * a))), (3, .int (iI (n))), (4, .ref (ad (2 * d)))]) X.1 X.2.1 d_Ar_raise_18 hl (by decide) rfl (fun ls hl => ?_)
  have ft : Gw2 t = oneP := by rw [eGw2, va_up_self]; rfl
  have f2 : Gw2 2 = G a := by rw [eGw2, va_up_ne _ _ (by omega), eGw1, va_up_self]
  have fd : Gw2 d = G d := by rw [eGw2, va_up_ne _ _ hdt, eGw1, va_up_ne _ _ (by omega)]
  have h1 : okp pr 25 oneP := oneP_ok (by omega) (by omega)
  refine l_Ar_raise (G := Gw2) (t := t) (d := d) (Z := powP pr inv (G a) n (G d)) X hml hT hO ht hd hdt (by rw [fd]; exact hM) (by rw [fd]; exact hdd) (fun G1 H locs ls w hZ hz hW1 hF => ?_) 31 n Gw2 _ _ _ (by omega) hn (by rw [ft]; exact h1) (by rw [f2]; exact hA) (by rw [ft, f2, fd]; rfl) ?_ (fun _ _ _ _ _ => rfl) w (lv_sub hl [2, 3, 6, 1, 0] rfl)
  · refine w_vret X hr hlk w ⟨G1, rfl, hW1, hz, by rw [hz]; exact hZ, fun j j0 j1 j2 jt => ?_⟩ d_Ar_raise_64
    rw [hF j j0 j1 j2 jt, eGw2, va_up_ne _ _ jt, eGw1, va_up_ne _ _ j2]
  · rw [eGw2, eGw1]; exact (hW.up (k := 2) (hA.ok hpr.2)).up (k := t) (by rw [wt]; exact h1.ok hpr.2)
end
section
/-- Euclid's steps with what A was multiplied by -/
def invL (pr : Int) (inv : Nat → Int) : Nat → (Nat → Int) → (Nat → Int) → (Nat → Int) → (Nat → Int) → P2
  | 0, _, L, _, LT => (L, LT)
  | n + 1, U, L, UT, LT => if dg 300 L ≤ 0 then (L, LT) else invL pr inv n L (dvm pr inv U L).1 LT (addP pr UT (pr - 1) (dvm pr inv U L).2 LT (dg 300 (dvm pr inv U L).2 + 1).toNat)
def invZ (pr : Int) (inv : Nat → Int) (A M : Nat → Int) : P2 := invL pr inv 26 M (dvm pr inv A M).1 (fun _ => 0) oneP
theorem inv_ne {pr v c iv : Int} (hv : 1 ≤ v ∧ v < pr) (hc : c * iv % pr = 1) : v * iv % pr ≠ 0 := by
  intro h
  have e1 := Int.mul_ediv_add_emod (v * iv) pr
  have e2 := Int.mul_ediv_add_emod (c * iv) pr
  rw [h] at e1
  rw [hc] at e2
  have h3 : v = pr * (v * iv / pr * c - v * (c * iv / pr)) := by grind
  obtain ⟨k, hk⟩ : ∃ k : Int, k = v * iv / pr * c - v * (c * iv / pr) := ⟨_, rfl⟩
  rw [← hk] at h3
  rw [h3] at hv
  have h4 : ¬ 1 ≤ k := fun h => by have := Int.mul_le_mul_of_nonneg_left h (show 0 ≤ pr by omega); omega
  have h5 : ¬ k ≤ 0 := fun h => by have := Int.mul_le_mul_of_nonneg_left h (show 0 ≤ pr by omega); omega
  omega
section IV
variable {p : Program} {l : Launch} {e : Env} {s : State} {m : MethodId} {args : Array Value} {below : List Frame} {meth : Method} {c : Code} {H : Heap} {locs : List Loc} {Q : State → Prop} {D : va_G} {cs : Nat → ClassId} {A : Nat → Prop} {ad : Nat → Nat} {T : Nat} {O : Nat → va_E} {pr : Int} {inv : Nat → Int}
variable {t : Nat} {G : Nat → Nat → Int}
theorem l_Ar_invert (X : Cx p s m args c b_Ar_invert RAr) (hml : c.maxLocals = 11) (hT : 132 ≤ T) (hO : arO cs ad pr inv O) {Z : P2} {dm : Int} (hdm : dm ≤ 24)
    (K : ∀ (v b : Nat) (G1 : Nat → Nat → Int) (H : Heap) (locs : List Loc) (ls : Array Slot), Wd D cs A ad T s (mkV cs ad (rV G1) O) H locs → (v = 2 ∨ v = 3) ∧ (b = 4 ∨ b = 5) → okp pr 25 Z.1 → okp pr 25 Z.2 → G1 v = Z.1 → G1 b = Z.2 → WF G1 → (∀ j, j ≠ 0 → j ≠ 2 → j ≠ 3 → j ≠ 4 → j ≠ 5 → j ≠ 6 → G1 j = G j) → lv_has ls 11 [(0, .ref (ad (123))), (1, .ref (ad (2 * t))), (5, .ref (ad (2 * v))), (7, .ref (ad (2 * b)))] → W p l e { frames := 3, cells := 0, slots := 0, locals := 73 } s m args below meth c H locs 0 0 Q (F0 m 136 ls [])) :
    ∀ (n i : Nat) (u v a b : Nat) (G1 : Nat → Nat → Int) (H : Heap) (locs : List Loc) (ls : Array Slot), i + n = 26 → ((u = 2 ∧ v = 3) ∨ (u = 3 ∧ v = 2)) ∧ ((a = 4 ∧ b = 5) ∨ (a = 5 ∧ b = 4)) → okp pr 25 (G1 u) → okp pr 25 (G1 v) → okp pr 25 (G1 a) → okp pr 25 (G1 b) → dg 300 (G1 v) < dg 300 (G1 u) ∧ dg 300 (G1 u) ≤ dm → dg 300 (G1 a) ≤ dm - dg 300 (G1 u) → dg 300 (G1 b) ≤ dm - dg 300 (G1 u) → invL pr inv n (G1 u) (G1 v) (G1 a) (G1 b) = Z → WF G1 → (∀ j, j ≠ 0 → j ≠ 2 → j ≠ 3 → j ≠ 4 → j ≠ 5 → j ≠ 6 → G1 j = G j) → Wd D cs A ad T s (mkV cs ad (rV G1) O) H locs → lv_has ls 11 [(0, .ref (ad (123))), (1, .ref (ad (2 * t))), (4, .ref (ad (2 * u))), (5, .ref (ad (2 * v))), (6, .ref (ad (2 * a))), (7, .ref (ad (2 * b))), (8, .int (iI (i)))] → W p l e { frames := 3, cells := 0, slots := 0, locals := 73 } s m args below meth c H locs 0 0 Q (F0 m 61 ls []) := by
  have hpr := hO.2.2.1
  intro n
  induction n with
  | zero =>
    intro i u v a b G1 H locs ls h1 h2 hU hL hUT hLT hlt hda hdb hz hW hF w hl
    have hz : (G1 v, G1 b) = Z := hz
    refine lv_iload X.1 X.2.1 d_Ar_invert_61 (lv_at hl 6 rfl) ?_
    refine lv_bipush (v := iI (25)) X.1 X.2.1 d_Ar_invert_63 (by decide) ?_
    refine i_gt (a := i) (b := 25) (tgt := 136) X (by omega) (by omega) d_Ar_invert_65 (by decide) (fun h_65 => ?_) (fun h_65 => ?_)
    · exact K v b G1 H locs ls w (by omega) (by rw [← hz]; exact hL) (by rw [← hz]; exact hLT) (by rw [← hz]) (by rw [← hz]) hW hF (lv_sub hl [0, 1, 3, 5] rfl)
    · exact absurd h_65 (by omega)
  | succ n ih =>
    intro i u v a b G1 H locs ls h1 h2 hU hL hUT hLT hlt hda hdb hz hW hF w hl
    have hdu := (hU.ok hpr.2).dlt 300
    have hdv := (hL.ok hpr.2).dlt 300
    have hdv0 := dg_ge 300 (G1 v)
    have w0 : wd 0 = 300 := rfl
    have w6 : wd 6 = 25 := rfl
    have wu : wd u = 25 := wd_2 (by omega)
    have wv : wd v = 25 := wd_2 (by omega)
    have wa : wd a = 25 := wd_2 (by omega)
    have wb : wd b = 25 := wd_2 (by omega)
    unfold invL at hz
    refine lv_iload X.1 X.2.1 d_Ar_invert_61 (lv_at hl 6 rfl) ?_
    refine lv_bipush (v := iI (25)) X.1 X.2.1 d_Ar_invert_63 (by decide) ?_
    refine i_gt (a := i) (b := 25) (tgt := 136) X (by omega) (by omega) d_Ar_invert_65 (by decide) (fun h_65 => ?_) (fun h_65 => ?_)
    · exact absurd h_65 (by omega)
    · refine lv_aload X.1 X.2.1 d_Ar_invert_68 (lv_at hl 3 rfl) ?_
      refine g_deg (k := v) X hT w (by omega) k_f_Ar_52 d_Ar_invert_70 ?_
      refine z_le (a := dg 300 (G1 v)) (tgt := 136) X (by omega) d_Ar_invert_73 (by decide) (fun h_73 => ?_) (fun h_73 => ?_)
      · rw [if_pos (by omega)] at hz
        exact K v b G1 H locs ls w (by omega) (by rw [← hz]; exact hL) (by rw [← hz]; exact hLT) (by rw [← hz]) (by rw [← hz]) hW hF (lv_sub hl [0, 1, 3, 5] rfl)
      · refine lv_aload_n X.1 X.2.1 d_Ar_invert_76 rfl (lv_at hl 0 rfl) ?_
        refine lv_aload X.1 X.2.1 d_Ar_invert_77 (lv_at hl 2 rfl) ?_
        refine lv_aload X.1 X.2.1 d_Ar_invert_79 (lv_at hl 3 rfl) ?_
        refine lv_aload_n X.1 X.2.1 d_Ar_invert_81 rfl (lv_at hl 0 rfl) ?_
        refine t_ar X hT w hO 8 (by decide) k_f_Ar_39 rfl d_Ar_invert_82 ?_
        refine w_cVv (n := 3) (i := 123) (ci := 1) (As := [.ref (ad (2 * u)), .ref (ad (2 * v)), .ref (ad (2 * 6))]) (rest := []) X w hml hl.1 (c_Ar_divide hT (G := G1) hO (k := u) (q := v) (t := 6) (by omega) (by omega) (by omega) (by omega) (by omega) (by omega) (by rw [wu]; exact hU) (by rw [wv]; exact hL) (hW 6 (by omega)) (by rw [w6]; omega)) (by omega) (by rw [mkV_O (by decide)]; exact hO.1) rfl k_m_Ar_87 k_im_Ar_divide k_se_Ar_divide k_i_Ar k_co_Ar_divide (by decide +kernel) rfl ⟨Nat.le_of_ble_eq_true rfl, Nat.le_of_ble_eq_true rfl⟩ ⟨rfl, rfl⟩ ⟨Nat.zero_le _, Nat.zero_le _⟩ rfl (Nat.le_of_ble_eq_true rfl) d_Ar_invert_85 (fun C' H locs hp w => ?_)
        subst hp
        obtain ⟨Gw1, eGw1⟩ : ∃ gg : Nat → Nat → Int, gg = va_up (va_up G1 6 (dvm pr inv (G1 u) (G1 v)).2) u (dvm pr inv (G1 u) (G1 v)).1 := ⟨_, rfl⟩
        rw [← eGw1] at w
        have hq := dvm_ok (inv := inv) (M := (dg 300 (G1 u) - dg 300 (G1 v) + 1).toNat) (by omega) hU hL (by omega) (by omega) hpr.2 (by omega)
        have hq25 : okp pr 25 (dvm pr inv (G1 u) (G1 v)).2 := hq.2.mono (by omega)
        have hdq := (hq.2.ok hpr.2).dlt 300
        have hr : okp pr (dg 300 (G1 v)).toNat (dvm pr inv (G1 u) (G1 v)).1 := dvm_ok25 hO hU hL (by omega) (by omega) (by omega) (by omega)
        have hdr := (hr.ok hpr.2).dlt 300
        have f6 : Gw1 6 = (dvm pr inv (G1 u) (G1 v)).2 := by rw [eGw1, va_up_ne _ _ (by omega), va_up_self]
        have fu : Gw1 u = (dvm pr inv (G1 u) (G1 v)).1 := by rw [eGw1, va_up_self]
        have fv : Gw1 v = G1 v := by rw [eGw1, va_up_ne _ _ (by omega), va_up_ne _ _ (by omega)]
        have fa : Gw1 a = G1 a := by rw [eGw1, va_up_ne _ _ (by omega), va_up_ne _ _ (by omega)]
        have fb : Gw1 b = G1 b := by rw [eGw1, va_up_ne _ _ (by omega), va_up_ne _ _ (by omega)]
        have hW1 : WF Gw1 := by rw [eGw1]; exact (hW.up (k := 6) (hq25.ok hpr.2)).up (k := u) (by rw [wu]; exact (hr.mono (by omega)).ok hpr.2)
        refine lv_aload_n X.1 X.2.1 d_Ar_invert_88 rfl (lv_at hl 0 rfl) ?_
        refine lv_aload X.1 X.2.1 d_Ar_invert_89 (lv_at hl 4 rfl) ?_
        refine lv_aload_n X.1 X.2.1 d_Ar_invert_91 rfl (lv_at hl 0 rfl) ?_
        refine t_ar X hT w hO 0 (by decide) k_f_Ar_48 rfl d_Ar_invert_92 ?_
        refine lv_iconst (v := iI (1)) X.1 X.2.1 d_Ar_invert_95 (by decide) ?_
        refine i_sub (a := pr) (b := 1) X d_Ar_invert_96 ?_
        refine lv_aload_n X.1 X.2.1 d_Ar_invert_97 rfl (lv_at hl 0 rfl) ?_
        refine t_ar X hT w hO 8 (by decide) k_f_Ar_39 rfl d_Ar_invert_98 ?_
        refine lv_aload X.1 X.2.1 d_Ar_invert_101 (lv_at hl 5 rfl) ?_
        refine w_cVv (n := 4) (i := 123) (ci := 1) (As := [.ref (ad (2 * a)), .int (iI (pr - 1)), .ref (ad (2 * 6)), .ref (ad (2 * b))]) (rest := []) X w hml hl.1 (c_Ar_addProduct hT (G := Gw1) hO (k := a) (q := 6) (r := b) (f := pr - 1) (by omega) (by omega) (by omega) (by omega) (by omega) (by rw [fa, wa]; exact hUT) (by rw [f6]; exact hq25.ok hpr.2) (by rw [fb, wb]; exact hLT.ok hpr.2) (by omega) (by rw [f6, fb, wa]; omega)) (by omega) (by rw [mkV_O (by decide)]; exact hO.1) rfl k_m_Ar_94 k_im_Ar_addProduct k_se_Ar_addProduct k_i_Ar k_co_Ar_addProduct (by decide +kernel) rfl ⟨Nat.le_of_ble_eq_true rfl, Nat.le_of_ble_eq_true rfl⟩ ⟨rfl, rfl⟩ ⟨Nat.zero_le _, Nat.zero_le _⟩ rfl (Nat.le_of_ble_eq_true rfl) d_Ar_invert_103 (fun C' H locs hp w => ?_)
        subst hp
        obtain ⟨Gw2, eGw2⟩ : ∃ gg : Nat → Nat → Int, gg = va_up Gw1 a (addP pr (Gw1 a) (pr - 1) (Gw1 6) (Gw1 b) (dg 300 (Gw1 6) + 1).toNat) := ⟨_, rfl⟩
        rw [← eGw2] at w
        refine lv_aload X.1 X.2.1 d_Ar_invert_106 (lv_at hl 2 rfl) ?_
        refine lv_astore (lv' := [(9, .ref (ad (2 * u))), (0, .ref (ad (123))), (1, .ref (ad (2 * t))), (4, .ref (ad (2 * u))), (5, .ref (ad (2 * v))), (6, .ref (ad (2 * a))), (7, .ref (ad (2 * b))), (8, .int (iI (i)))]) X.1 X.2.1 d_Ar_invert_108 hl (by decide) rfl (fun ls hl => ?_)
        refine lv_aload X.1 X.2.1 d_Ar_invert_110 (lv_at hl 4 rfl) ?_
        refine lv_astore (lv' := [(4, .ref (ad (2 * v))), (9, .ref (ad (2 * u))), (0, .ref (ad (123))), (1, .ref (ad (2 * t))), (5, .ref (ad (2 * v))), (6, .ref (ad (2 * a))), (7, .ref (ad (2 * b))), (8, .int (iI (i)))]) X.1 X.2.1 d_Ar_invert_112 hl (by decide) rfl (fun ls hl => ?_)
        refine lv_aload X.1 X.2.1 d_Ar_invert_114 (lv_at hl 1 rfl) ?_
        refine lv_astore (lv' := [(5, .ref (ad (2 * u))), (4, .ref (ad (2 * v))), (9, .ref (ad (2 * u))), (0, .ref (ad (123))), (1, .ref (ad (2 * t))), (6, .ref (ad (2 * a))), (7, .ref (ad (2 * b))), (8, .int (iI (i)))]) X.1 X.2.1 d_Ar_invert_116 hl (by decide) rfl (fun ls hl => ?_)
        refine lv_aload X.1 X.2.1 d_Ar_invert_118 (lv_at hl 5 rfl) ?_
        refine lv_astore (lv' := [(10, .ref (ad (2 * a))), (5, .ref (ad (2 * u))), (4, .ref (ad (2 * v))), (9, .ref (ad (2 * u))), (0, .ref (ad (123))), (1, .ref (ad (2 * t))), (6, .ref (ad (2 * a))), (7, .ref (ad (2 * b))), (8, .int (iI (i)))]) X.1 X.2.1 d_Ar_invert_120 hl (by decide) rfl (fun ls hl => ?_)
        refine lv_aload X.1 X.2.1 d_Ar_invert_122 (lv_at hl 7 rfl) ?_
        refine lv_astore (lv' := [(6, .ref (ad (2 * b))), (10, .ref (ad (2 * a))), (5, .ref (ad (2 * u))), (4, .ref (ad (2 * v))), (9, .ref (ad (2 * u))), (0, .ref (ad (123))), (1, .ref (ad (2 * t))), (7, .ref (ad (2 * b))), (8, .int (iI (i)))]) X.1 X.2.1 d_Ar_invert_124 hl (by decide) rfl (fun ls hl => ?_)
        refine lv_aload X.1 X.2.1 d_Ar_invert_126 (lv_at hl 1 rfl) ?_
        refine lv_astore (lv' := [(7, .ref (ad (2 * a))), (6, .ref (ad (2 * b))), (10, .ref (ad (2 * a))), (5, .ref (ad (2 * u))), (4, .ref (ad (2 * v))), (9, .ref (ad (2 * u))), (0, .ref (ad (123))), (1, .ref (ad (2 * t))), (8, .int (iI (i)))]) X.1 X.2.1 d_Ar_invert_128 hl (by decide) rfl (fun ls hl => ?_)
        refine i_inc (k := 8) (x := i) (lv' := [(8, .int (iI (i + 1))), (7, .ref (ad (2 * a))), (6, .ref (ad (2 * b))), (10, .ref (ad (2 * a))), (5, .ref (ad (2 * u))), (4, .ref (ad (2 * v))), (9, .ref (ad (2 * u))), (0, .ref (ad (123))), (1, .ref (ad (2 * t)))]) X d_Ar_invert_130 hl rfl (by decide) rfl (fun ls hl => ?_)
        refine lv_goto (tgt := 61) X.1 X.2.1 d_Ar_invert_133 (by decide) ?_
        rw [if_neg (by omega)] at hz
        rw [fa, f6, fb] at eGw2
        have hn : okp pr (dm - dg 300 (G1 v) + 1).toNat (addP pr (G1 a) (pr - 1) (dvm pr inv (G1 u) (G1 v)).2 (G1 b) (dg 300 (dvm pr inv (G1 u) (G1 v)).2 + 1).toNat) := by
          refine addP_ok (by omega) ⟨hUT.1, fun x hx => (hUT.ok hpr.2).above (N := 300) (by omega) (by omega)⟩ _ (fun j x hj hx => (hLT.ok hpr.2).above (N := 300) (by omega) (by omega))
        have hdn := (hn.ok hpr.2).dlt 300
        have gu : Gw2 u = (dvm pr inv (G1 u) (G1 v)).1 := by rw [eGw2, va_up_ne _ _ (by omega), fu]
        have gv : Gw2 v = G1 v := by rw [eGw2, va_up_ne _ _ (by omega), fv]
        have gb : Gw2 b = G1 b := by rw [eGw2, va_up_ne _ _ (by omega), fb]
        have ga : Gw2 a = addP pr (G1 a) (pr - 1) (dvm pr inv (G1 u) (G1 v)).2 (G1 b) (dg 300 (dvm pr inv (G1 u) (G1 v)).2 + 1).toNat := by rw [eGw2, va_up_self]
        have hn25 := hn.mono (m := 25) (by omega)
        refine ih (i + 1) v u b a Gw2 H locs ls (by omega) (by omega) (by rw [gv]; exact hL) (by rw [gu]; exact hr.mono (by omega)) (by rw [gb]; exact hLT) (by rw [ga]; exact hn25) (by rw [gu, gv]; omega) (by rw [gb, gv]; omega) (by rw [ga, gv]; omega) (by rw [gu, gv, ga, gb]; exact hz) ?_ ?_ w (lv_sub hl [7, 8, 5, 4, 2, 1, 0] rfl)
        · rw [eGw2]; exact hW1.up (by rw [wa]; exact hn25.ok hpr.2)
        · intro j j0 j2 j3 j4 j5 j6; rw [eGw2, va_up_ne _ _ (by omega), eGw1, va_up_ne _ _ (by omega), va_up_ne _ _ (by omega)]; exact hF j j0 j2 j3 j4 j5 j6
end IV
theorem c_Ar_invert {l : Launch} {D : va_G} {cs : Nat → ClassId} {A : Nat → Prop} {ad : Nat → Nat} {T : Nat} (hT : 132 ≤ T) {G : Nat → Nat → Int} {O : Nat → va_E} {pr : Int} {inv : Nat → Int} (hO : arO cs ad pr inv O) {t a d : Nat} (ht : 7 ≤ t ∧ t < 61) (ha : 7 ≤ a ∧ a < 61) (hd : 7 ≤ d ∧ d < 61) (hW : WF G) (hA : okp pr 25 (G a)) (hM : okp pr 25 (G d)) (hdd : 1 ≤ dg 300 (G d)) : Ci l y_Ar_invert ws_Ar_invert { frames := 3, cells := 0, slots := 0, locals := 73 } D cs A ad T [.ref (ad (123)), .ref (ad (2 * t)), .ref (ad (2 * a)), .ref (ad (2 * d))] (mkV cs ad (rV G) O) (fun r C' => ∃ G', C' = mkV cs ad (rV G') O ∧ WF G' ∧ (∀ j, j ≠ 0 → j ≠ 2 → j ≠ 3 → j ≠ 4 → j ≠ 5 → j ≠ 6 → j ≠ t → G' j = G j) ∧ ((dg 300 (invZ pr inv (G a) (G d)).1 < 0 ∧ r = iI 0 ∧ G' t = G t) ∨ (0 ≤ dg 300 (invZ pr inv (G a) (G d)).1 ∧ r = iI 1 ∧ okp pr 25 (G' t) ∧ G' t = fun x => (invZ pr inv (G a) (G d)).2 x * inv ((invZ pr inv (G a) (G d)).1 (dg 300 (invZ pr inv (G a) (G d)).1).toNat).toNat % pr))) := by
  refine w_bodyI (by decide) (Nat.le_of_ble_eq_true rfl) ?_
  intro p e s m below meth c X hr hlk hml w ls hl
  have hl : lv_has ls 11 [(0, .ref (ad (123))), (1, .ref (ad (2 * t))), (2, .ref (ad (2 * a))), (3, .ref (ad (2 * d)))] := hl
  have hpr := hO.2.2.1
  have wa := wd_2 (show 2 ≤ a by omega)
  have wt := wd_2 (show 2 ≤ t by omega)
  have wdd := wd_2 (show 2 ≤ d by omega)
  have hda := (hA.ok hpr.2).dlt 300
  have hdm := (hM.ok hpr.2).dlt 300
  have hq := dvm_ok (inv := inv) (M := 300) (by omega) hA hM (by omega) (by omega) hpr.2 (by omega)
  have hr1 : okp pr (dg 300 (G d)).toNat (dvm pr inv (G a) (G d)).1 := dvm_ok25 hO hA hM (by omega) (by omega) (by omega) (by omega)
  have hdr := (hr1.ok hpr.2).dlt 300
  have hone : okp pr 1 oneP := oneP_ok (by omega) (by omega)
  have hd1 := (hone.ok hpr.2).dlt 300
  refine lv_aload_n X.1 X.2.1 d_Ar_invert_0 rfl (lv_at hl 0 rfl) ?_
  refine t_ar X hT w hO 4 (by decide) k_f_Ar_27 rfl d_Ar_invert_1 ?_
  refine lv_astore (lv' := [(4, .ref (ad (2 * 2))), (0, .ref (ad (123))), (1, .ref (ad (2 * t))), (2, .ref (ad (2 * a))), (3, .ref (ad (2 * d)))]) X.1 X.2.1 d_Ar_invert_4 hl (by decide) rfl (fun ls hl => ?_)
  refine lv_aload_n X.1 X.2.1 d_Ar_invert_6 rfl (lv_at hl 1 rfl) ?_
  refine t_ar X hT w hO 5 (by decide) k_f_Ar_30 rfl d_Ar_invert_7 ?_
  refine lv_astore (lv' := [(5, .ref (ad (2 * 3))), (4, .ref (ad (2 * 2))), (0, .ref (ad (123))), (1, .ref (ad (2 * t))), (2, .ref (ad (2 * a))), (3, .ref (ad (2 * d)))]) X.1 X.2.1 d_Ar_invert_10 hl (by decide) rfl (fun ls hl => ?_)
  refine lv_aload_n X.1 X.2.1 d_Ar_invert_12 rfl (lv_at hl 2 rfl) ?_
  refine t_ar X hT w hO 6 (by decide) k_f_Ar_33 rfl d_Ar_invert_13 ?_
  refine lv_astore (lv' := [(6, .ref (ad (2 * 4))), (5, .ref (ad (2 * 3))), (4, .ref (ad (2 * 2))), (0, .ref (ad (123))), (1, .ref (ad (2 * t))), (2, .ref (ad (2 * a))), (3, .ref (ad (2 * d)))]) X.1 X.2.1 d_Ar_invert_16 hl (by decide) rfl (fun ls hl => ?_)
  refine lv_aload_n X.1 X.2.1 d_Ar_invert_18 rfl (lv_at hl 3 rfl) ?_
  refine t_ar X hT w hO 7 (by decide) k_f_Ar_36 rfl d_Ar_invert_19 ?_
  refine lv_astore (lv' := [(7, .ref (ad (2 * 5))), (6, .ref (ad (2 * 4))), (5, .ref (ad (2 * 3))), (4, .ref (ad (2 * 2))), (0, .ref (ad (123))), (1, .ref (ad (2 * t))), (2, .ref (ad (2 * a))), (3, .ref (ad (2 * d)))]) X.1 X.2.1 d_Ar_invert_22 hl (by decide) rfl (fun ls hl => ?_)
  refine lv_aload X.1 X.2.1 d_Ar_invert_24 (lv_at hl 3 rfl) ?_
  refine lv_aload_n X.1 X.2.1 d_Ar_invert_26 rfl (lv_at hl 7 rfl) ?_
  refine w_cVv (n := 1) (i := 2 * 2) (ci := 0) (As := [.ref (ad (2 * d))]) (rest := []) X w hml hl.1 (c_Po_copyFrom hT (G := G) (k := 2) (q := d) (by omega) (by omega) (by omega) (hW 2 (by omega)) (hW d (by omega)) (hM.ok hpr.2)) (by omega) (mkV_o (by omega)) rfl k_m_Ar_83 k_im_Po_copyFrom k_se_Po_copyFrom k_i_Po k_co_Po_copyFrom (by decide +kernel) rfl ⟨Nat.le_of_ble_eq_true rfl, Nat.le_of_ble_eq_true rfl⟩ ⟨rfl, rfl⟩ ⟨Nat.zero_le _, Nat.zero_le _⟩ rfl (Nat.le_of_ble_eq_true rfl) d_Ar_invert_27 (fun C' H locs hp w => ?_)
  subst hp
  obtain ⟨Gw1, eGw1⟩ : ∃ gg : Nat → Nat → Int, gg = va_up G 2 (G d) := ⟨_, rfl⟩
  rw [← eGw1] at w
  have hW1 : WF Gw1 := by rw [eGw1]; exact hW.up (k := 2) (hM.ok hpr.2)
  have fa : Gw1 a = G a := by rw [eGw1, va_up_ne _ _ (by omega)]
  have fd : Gw1 d = G d := by rw [eGw1, va_up_ne _ _ (by omega)]
  refine lv_aload X.1 X.2.1 d_Ar_invert_30 (lv_at hl 2 rfl) ?_
  refine lv_aload_n X.1 X.2.1 d_Ar_invert_32 rfl (lv_at hl 6 rfl) ?_
  refine w_cVv (n := 1) (i := 2 * 3) (ci := 0) (As := [.ref (ad (2 * a))]) (rest := []) X w hml hl.1 (c_Po_copyFrom hT (G := Gw1) (k := 3) (q := a) (by omega) (by omega) (by omega) (hW1 3 (by omega)) (hW1 a (by omega)) (by rw [fa]; exact hA.ok hpr.2)) (by omega) (mkV_o (by omega)) rfl k_m_Ar_83 k_im_Po_copyFrom k_se_Po_copyFrom k_i_Po k_co_Po_copyFrom (by decide +kernel) rfl ⟨Nat.le_of_ble_eq_true rfl, Nat.le_of_ble_eq_true rfl⟩ ⟨rfl, rfl⟩ ⟨Nat.zero_le _, Nat.zero_le _⟩ rfl (Nat.le_of_ble_eq_true rfl) d_Ar_invert_33 (fun C' H locs hp w => ?_)
  subst hp
  obtain ⟨Gw2, eGw2⟩ : ∃ gg : Nat → Nat → Int, gg = va_up Gw1 3 (Gw1 a) := ⟨_, rfl⟩
  rw [← eGw2] at w
  rw [fa] at eGw2
  have hW2 : WF Gw2 := by rw [eGw2]; exact hW1.up (k := 3) (hA.ok hpr.2)
  have f3 : Gw2 3 = G a := by rw [eGw2, va_up_self]
  have fd2 : Gw2 d = G d := by rw [eGw2, va_up_ne _ _ (by omega), fd]
  refine lv_aload_n X.1 X.2.1 d_Ar_invert_36 rfl (lv_at hl 4 rfl) ?_
  refine lv_aload X.1 X.2.1 d_Ar_invert_37 (lv_at hl 2 rfl) ?_
  refine lv_aload_n X.1 X.2.1 d_Ar_invert_39 rfl (lv_at hl 7 rfl) ?_
  refine lv_aload_n X.1 X.2.1 d_Ar_invert_40 rfl (lv_at hl 4 rfl) ?_
  refine t_ar X hT w hO 1 (by decide) k_f_Ar_20 rfl d_Ar_invert_41 ?_
  refine w_cVv (n := 3) (i := 123) (ci := 1) (As := [.ref (ad (2 * 3)), .ref (ad (2 * d)), .ref (ad (2 * 0))]) (rest := []) X w hml hl.1 (c_Ar_divide hT (G := Gw2) hO (k := 3) (q := d) (t := 0) (by omega) (by omega) (by omega) (by omega) (by omega) (by omega) (by rw [f3]; exact hA) (by rw [fd2, wdd]; exact hM) (hW2 0 (by omega)) (by rw [f3, fd2]; show _ < (300 : Int); omega)) (by omega) (by rw [mkV_O (by decide)]; exact hO.1) rfl k_m_Ar_87 k_im_Ar_divide k_se_Ar_divide k_i_Ar k_co_Ar_divide (by decide +kernel) rfl ⟨Nat.le_of_ble_eq_true rfl, Nat.le_of_ble_eq_true rfl⟩ ⟨rfl, rfl⟩ ⟨Nat.zero_le _, Nat.zero_le _⟩ rfl (Nat.le_of_ble_eq_true rfl) d_Ar_invert_44 (fun C' H locs hp w => ?_)
  subst hp
  obtain ⟨Gw3, eGw3⟩ : ∃ gg : Nat → Nat → Int, gg = va_up (va_up Gw2 0 (dvm pr inv (Gw2 3) (Gw2 d)).2) 3 (dvm pr inv (Gw2 3) (Gw2 d)).1 := ⟨_, rfl⟩
  rw [← eGw3] at w
  rw [f3, fd2] at eGw3
  have hW3 : WF Gw3 := by rw [eGw3]; exact (hW2.up (k := 0) (hq.2.ok hpr.2)).up (k := 3) ((hr1.mono (m := 25) (by omega)).ok hpr.2)
  refine lv_aload X.1 X.2.1 d_Ar_invert_47 (lv_at hl 1 rfl) ?_
  refine w_cVv (n := 0) (i := 2 * 4) (ci := 0) (As := []) (rest := []) X w hml hl.1 (c_Po_clear hT (G := Gw3) (k := 4) (by omega) (hW3 4 (by omega))) (by omega) (mkV_o (by omega)) rfl k_m_Ar_76 k_im_Po_clear k_se_Po_clear k_i_Po k_co_Po_clear (by decide +kernel) rfl ⟨Nat.le_of_ble_eq_true rfl, Nat.le_of_ble_eq_true rfl⟩ ⟨rfl, rfl⟩ ⟨Nat.zero_le _, Nat.zero_le _⟩ rfl (Nat.le_of_ble_eq_true rfl) d_Ar_invert_49 (fun C' H locs hp w => ?_)
  subst hp
  obtain ⟨Gw4, eGw4⟩ : ∃ gg : Nat → Nat → Int, gg = va_up Gw3 4 (fun _ => 0) := ⟨_, rfl⟩
  rw [← eGw4] at w
  have hW4 : WF Gw4 := by rw [eGw4]; exact hW3.up (k := 4) (ok_0 _)
  refine lv_aload X.1 X.2.1 d_Ar_invert_52 (lv_at hl 0 rfl) ?_
  refine lv_iconst (v := iI (0)) X.1 X.2.1 d_Ar_invert_54 (by decide) ?_
  refine w_cVv (n := 1) (i := 2 * 5) (ci := 0) (As := [.int (iI ((0 : Nat)))]) (rest := []) X w hml hl.1 (c_Po_becomePowerOfX hT (G := Gw4) (k := 5) (i := 0) (by omega) (by decide) (hW4 5 (by omega))) (by omega) (mkV_o (by omega)) rfl k_m_Ar_98 k_im_Po_becomePowerOfX k_se_Po_becomePowerOfX k_i_Po k_co_Po_becomePowerOfX (by decide +kernel) rfl ⟨Nat.le_of_ble_eq_true rfl, Nat.le_of_ble_eq_true rfl⟩ ⟨rfl, rfl⟩ ⟨Nat.zero_le _, Nat.zero_le _⟩ rfl (Nat.le_of_ble_eq_true rfl) d_Ar_invert_55 (fun C' H locs hp w => ?_)
  subst hp
  obtain ⟨Gw5, eGw5⟩ : ∃ gg : Nat → Nat → Int, gg = va_up Gw4 5 (fun x => if x = 0 then 1 else 0) := ⟨_, rfl⟩
  rw [← eGw5] at w
  have hW5 : WF Gw5 := by rw [eGw5]; exact hW4.up (k := 5) ((hone.mono (m := 25) (by omega)).ok hpr.2)
  have g5 : Gw5 5 = oneP := by rw [eGw5, va_up_self]; rfl
  have g4 : Gw5 4 = fun _ => 0 := by rw [eGw5, va_up_ne _ _ (by omega), eGw4, va_up_self]
  have g3 : Gw5 3 = (dvm pr inv (G a) (G d)).1 := by rw [eGw5, va_up_ne _ _ (by omega), eGw4, va_up_ne _ _ (by omega), eGw3, va_up_self]
  have g2 : Gw5 2 = G d := by rw [eGw5, va_up_ne _ _ (by omega), eGw4, va_up_ne _ _ (by omega), eGw3, va_up_ne _ _ (by omega), va_up_ne _ _ (by omega), eGw2, va_up_ne _ _ (by omega), eGw1, va_up_self]
  have hF0 : ∀ j, j ≠ 0 → j ≠ 2 → j ≠ 3 → j ≠ 4 → j ≠ 5 → Gw5 j = G j := fun j j0 j2 j3 j4 j5 => by rw [eGw5, va_up_ne _ _ j5, eGw4, va_up_ne _ _ j4, eGw3, va_up_ne _ _ j3, va_up_ne _ _ j0, eGw2, va_up_ne _ _ j3, eGw1, va_up_ne _ _ j2]
  refine lv_iconst (v := iI (0)) X.1 X.2.1 d_Ar_invert_58 (by decide) ?_
  refine lv_istore (lv' := [(8, .int (iI (0))), (7, .ref (ad (2 * 5))), (6, .ref (ad (2 * 4))), (5, .ref (ad (2 * 3))), (4, .ref (ad (2 * 2))), (0, .ref (ad (123))), (1, .ref (ad (2 * t))), (2, .ref (ad (2 * a))), (3, .ref (ad (2 * d)))]) X.1 X.2.1 d_Ar_invert_59 hl (by decide) rfl (fun ls hl => ?_)
  obtain ⟨Z, eZ⟩ : ∃ Z, Z = invZ pr inv (G a) (G d) := ⟨_, rfl⟩
  rw [← eZ]
  refine l_Ar_invert (G := Gw5) (t := t) (Z := Z) (dm := dg 300 (G d)) X hml hT hO (by omega) (fun v b G1 H locs ls w hvb hZ1 hZ2 hz1 hz2 hW1 hF hl => ?_) 26 0 2 3 4 5 Gw5 _ _ _ (by omega) (by omega) (by rw [g2]; exact hM) (by rw [g3]; exact hr1.mono (by omega)) (by rw [g4]; exact okp_0 _ (by omega)) (by rw [g5]; exact hone.mono (by omega)) (by rw [g2, g3]; omega) (by rw [g2, g4, dg_0]; omega) (by rw [g2, g5]; omega) (by rw [g2, g3, g4, g5, eZ]; rfl) hW5 (fun _ _ _ _ _ _ _ => rfl) w (lv_sub hl [5, 6, 4, 3, 2, 1, 0] rfl)
  · have hdv1 : dg 300 (G1 v) = dg 300 Z.1 := by rw [hz1]
    have hZl := (hZ1.ok hpr.2).dlt 300
    have hZg := dg_ge 300 Z.1
    have hFF : ∀ j, j ≠ 0 → j ≠ 2 → j ≠ 3 → j ≠ 4 → j ≠ 5 → j ≠ 6 → j ≠ t → G1 j = G j := fun j j0 j2 j3 j4 j5 j6 jt => by rw [hF j j0 j2 j3 j4 j5 j6]; exact hF0 j j0 j2 j3 j4 j5
    refine lv_aload X.1 X.2.1 d_Ar_invert_136 (lv_at hl 2 rfl) ?_
    refine g_deg (k := v) X hT w (by omega) k_f_Ar_52 d_Ar_invert_138 ?_
    refine z_ge (a := dg 300 (G1 v)) (tgt := 146) X (by omega) d_Ar_invert_141 (by decide) (fun h_141 => ?_) (fun h_141 => ?_)
    · refine lv_aload_n X.1 X.2.1 d_Ar_invert_146 rfl (lv_at hl 1 rfl) ?_
      refine lv_aload X.1 X.2.1 d_Ar_invert_147 (lv_at hl 3 rfl) ?_
      refine w_cVv (n := 1) (i := 2 * t) (ci := 0) (As := [.ref (ad (2 * b))]) (rest := []) X w hml hl.1 (c_Po_copyFrom hT (G := G1) (k := t) (q := b) (by omega) (by omega) (by omega) (hW1 t (by omega)) (hW1 b (by omega)) (by rw [hz2, wt]; exact hZ2.ok hpr.2)) (by omega) (mkV_o (by omega)) rfl k_m_Ar_83 k_im_Po_copyFrom k_se_Po_copyFrom k_i_Po k_co_Po_copyFrom (by decide +kernel) rfl ⟨Nat.le_of_ble_eq_true rfl, Nat.le_of_ble_eq_true rfl⟩ ⟨rfl, rfl⟩ ⟨Nat.zero_le _, Nat.zero_le _⟩ rfl (Nat.le_of_ble_eq_true rfl) d_Ar_invert_149 (fun C' H locs hp w => ?_)
      subst hp
      obtain ⟨Gw6, eGw6⟩ : ∃ gg : Nat → Nat → Int, gg = va_up G1 t (G1 b) := ⟨_, rfl⟩
      rw [← eGw6] at w
      rw [hz2] at eGw6
      have kt : Gw6 t = Z.2 := by rw [eGw6, va_up_self]
      have kv : Gw6 v = Z.1 := by rw [eGw6, va_up_ne _ _ (by omega), hz1]
      have wv : wd v = 25 := wd_2 (by omega)
      refine lv_aload_n X.1 X.2.1 d_Ar_invert_152 rfl (lv_at hl 0 rfl) ?_
      refine lv_aload_n X.1 X.2.1 d_Ar_invert_153 rfl (lv_at hl 1 rfl) ?_
      refine lv_aload_n X.1 X.2.1 d_Ar_invert_154 rfl (lv_at hl 0 rfl) ?_
      refine t_ar X hT w hO 2 (by decide) k_f_Ar_9 rfl d_Ar_invert_155 ?_
      refine lv_aload X.1 X.2.1 d_Ar_invert_158 (lv_at hl 2 rfl) ?_
      refine w_cVi (n := 0) (i := 2 * v) (ci := 0) (As := []) (rest := [.ref (ad (124)), .ref (ad (2 * t)), .ref (ad (123))]) X w hml hl.1 (c_Po_lead hT (G := Gw6) (k := v) (by omega) (by rw [kv, wv]; exact hZ1.ok hpr.2)) (by omega) (mkV_o (by omega)) rfl k_m_Ar_68 k_im_Po_lead k_se_Po_lead k_i_Po k_co_Po_lead (by decide +kernel) rfl ⟨Nat.le_of_ble_eq_true rfl, Nat.le_of_ble_eq_true rfl⟩ ⟨rfl, rfl⟩ ⟨Nat.zero_le _, Nat.zero_le _⟩ rfl (Nat.le_of_ble_eq_true rfl) d_Ar_invert_160 (fun r' C' H locs hp w => ?_)
      obtain ⟨rfl, rfl⟩ := hp
      rw [kv, if_neg (show ¬ dg 300 Z.1 < 0 by omega)]
      have hld := hZ1.lead (by omega)
      have hiv := hO.inv hld
      have hsd : dg 300 (fun x => Z.2 x * inv (Z.1 (dg 300 Z.1).toNat).toNat % pr) = dg 300 Z.2 := mon_dg hZ2 (by omega) (fun h => inv_ne (hZ2.lead h) hiv.2)
      refine t_in (z := Z.1 (dg 300 Z.1).toNat) X hT w hO ((Z.1 (dg 300 Z.1).toNat).toNat) (by omega) (by omega) d_Ar_invert_163 ?_
      refine w_cVv (n := 2) (i := 123) (ci := 1) (As := [.ref (ad (2 * t)), .int (iI (inv ((Z.1 (dg 300 Z.1).toNat).toNat)))]) (rest := []) X w hml hl.1 (c_Ar_scale hT (G := Gw6) hO (k := t) (f := inv (Z.1 (dg 300 Z.1).toNat).toNat) (by omega) (by rw [kt, wt]; exact hZ2.ok hpr.2) (by omega) (by rw [kt]; exact hsd)) (by omega) (by rw [mkV_O (by decide)]; exact hO.1) rfl k_m_Ar_72 k_im_Ar_scale k_se_Ar_scale k_i_Ar k_co_Ar_scale (by decide +kernel) rfl ⟨Nat.le_of_ble_eq_true rfl, Nat.le_of_ble_eq_true rfl⟩ ⟨rfl, rfl⟩ ⟨Nat.zero_le _, Nat.zero_le _⟩ rfl (Nat.le_of_ble_eq_true rfl) d_Ar_invert_164 (fun C' H locs hp w => ?_)
      subst hp
      obtain ⟨Gw7, eGw7⟩ : ∃ gg : Nat → Nat → Int, gg = va_up Gw6 t (fun x => Gw6 t x * inv (Z.1 (dg 300 Z.1).toNat).toNat % pr) := ⟨_, rfl⟩
      rw [← eGw7] at w
      refine lv_iconst (v := iI (1)) X.1 X.2.1 d_Ar_invert_167 (by decide) ?_
      rw [kt] at eGw7
      have ht7 : Gw7 t = fun x => Z.2 x * inv (Z.1 (dg 300 Z.1).toNat).toNat % pr := by rw [eGw7, va_up_self]
      have hsc := scal_ok (f := inv (Z.1 (dg 300 Z.1).toNat).toNat) (show 0 < pr by omega) hZ2
      refine w_zret X hr rfl hlk w ⟨Gw7, rfl, ?_, fun j j0 j2 j3 j4 j5 j6 jt => ?_, Or.inr ⟨by omega, rfl, by rw [ht7]; exact hsc, ht7⟩⟩ d_Ar_invert_168
      · rw [eGw7, eGw6]; exact (hW1.up (k := t) (by rw [wt]; exact hZ2.ok hpr.2)).up (k := t) (by rw [wt]; exact hsc.ok hpr.2)
      · rw [eGw7, va_up_ne _ _ jt, eGw6, va_up_ne _ _ jt]; exact hFF j j0 j2 j3 j4 j5 j6 jt
    · refine lv_iconst (v := iI (0)) X.1 X.2.1 d_Ar_invert_144 (by decide) ?_
      exact w_zret X hr rfl hlk w ⟨G1, rfl, hW1, hFF, Or.inl ⟨by omega, rfl, by rw [hF t (by omega) (by omega) (by omega) (by omega) (by omega) (by omega), hF0 t (by omega) (by omega) (by omega) (by omega) (by omega)]⟩⟩ d_Ar_invert_145
end
section
/-! decode rows, by my own program -/
abbrev b_Os_init : ByteArray := prog_4_method_1_code
theorem d_Os_init_0 : decode b_Os_init 0 = .ok (.aload_n 0, 1) := by decide +kernel
theorem d_Os_init_1 : decode b_Os_init 1 = .ok (.invokespecial 3, 3) := by decide +kernel
theorem d_Os_init_4 : decode b_Os_init 4 = .ok (.aload_n 0, 1) := by decide +kernel
theorem d_Os_init_5 : decode b_Os_init 5 = .ok (.aload_n 1, 1) := by decide +kernel
theorem d_Os_init_6 : decode b_Os_init 6 = .ok (.putfield 9, 3) := by decide +kernel
theorem d_Os_init_9 : decode b_Os_init 9 = .ok (.aload_n 0, 1) := by decide +kernel
theorem d_Os_init_10 : decode b_Os_init 10 = .ok (.sipush 500, 3) := by decide +kernel
theorem d_Os_init_13 : decode b_Os_init 13 = .ok (.newarray .long, 2) := by decide +kernel
theorem d_Os_init_15 : decode b_Os_init 15 = .ok (.putfield 15, 3) := by decide +kernel
theorem d_Os_init_18 : decode b_Os_init 18 = .ok (.aload_n 0, 1) := by decide +kernel
theorem d_Os_init_19 : decode b_Os_init 19 = .ok (.sipush 500, 3) := by decide +kernel
theorem d_Os_init_22 : decode b_Os_init 22 = .ok (.newarray .long, 2) := by decide +kernel
theorem d_Os_init_24 : decode b_Os_init 24 = .ok (.putfield 19, 3) := by decide +kernel
theorem d_Os_init_27 : decode b_Os_init 27 = .ok (.aload_n 0, 1) := by decide +kernel
theorem d_Os_init_28 : decode b_Os_init 28 = .ok (.new 22, 3) := by decide +kernel
theorem d_Os_init_31 : decode b_Os_init 31 = .ok (.dup, 1) := by decide +kernel
theorem d_Os_init_32 : decode b_Os_init 32 = .ok (.bipush 25, 2) := by decide +kernel
theorem d_Os_init_34 : decode b_Os_init 34 = .ok (.invokespecial 24, 3) := by decide +kernel
theorem d_Os_init_37 : decode b_Os_init 37 = .ok (.putfield 27, 3) := by decide +kernel
theorem d_Os_init_40 : decode b_Os_init 40 = .ok (.aload_n 0, 1) := by decide +kernel
theorem d_Os_init_41 : decode b_Os_init 41 = .ok (.new 22, 3) := by decide +kernel
theorem d_Os_init_44 : decode b_Os_init 44 = .ok (.dup, 1) := by decide +kernel
theorem d_Os_init_45 : decode b_Os_init 45 = .ok (.bipush 25, 2) := by decide +kernel
theorem d_Os_init_47 : decode b_Os_init 47 = .ok (.invokespecial 24, 3) := by decide +kernel
theorem d_Os_init_50 : decode b_Os_init 50 = .ok (.putfield 31, 3) := by decide +kernel
theorem d_Os_init_53 : decode b_Os_init 53 = .ok (.aload_n 0, 1) := by decide +kernel
theorem d_Os_init_54 : decode b_Os_init 54 = .ok (.new 22, 3) := by decide +kernel
theorem d_Os_init_57 : decode b_Os_init 57 = .ok (.dup, 1) := by decide +kernel
theorem d_Os_init_58 : decode b_Os_init 58 = .ok (.bipush 25, 2) := by decide +kernel
theorem d_Os_init_60 : decode b_Os_init 60 = .ok (.invokespecial 24, 3) := by decide +kernel
theorem d_Os_init_63 : decode b_Os_init 63 = .ok (.putfield 34, 3) := by decide +kernel
theorem d_Os_init_66 : decode b_Os_init 66 = .ok (.aload_n 0, 1) := by decide +kernel
theorem d_Os_init_67 : decode b_Os_init 67 = .ok (.getfield 34, 3) := by decide +kernel
theorem d_Os_init_70 : decode b_Os_init 70 = .ok (.iconst 1, 1) := by decide +kernel
theorem d_Os_init_71 : decode b_Os_init 71 = .ok (.invokevirtual 37, 3) := by decide +kernel
theorem d_Os_init_74 : decode b_Os_init 74 = .ok (.return_, 1) := by decide +kernel
abbrev ws_Os_init : List Cond := .code y_Os_init b_Os_init 2 none :: TB
abbrev b_Os_search : ByteArray := prog_4_method_2_code
theorem d_Os_search_0 : decode b_Os_search 0 = .ok (.aload_n 1, 1) := by decide +kernel
theorem d_Os_search_1 : decode b_Os_search 1 = .ok (.getfield 40, 3) := by decide +kernel
theorem d_Os_search_4 : decode b_Os_search 4 = .ok (.iconst 0, 1) := by decide +kernel
theorem d_Os_search_5 : decode b_Os_search 5 = .ok (.iaload, 1) := by decide +kernel
theorem d_Os_search_6 : decode b_Os_search 6 = .ok (.ifCond .ne 5, 3) := by decide +kernel
theorem d_Os_search_9 : decode b_Os_search 9 = .ok (.iconst 0, 1) := by decide +kernel
theorem d_Os_search_10 : decode b_Os_search 10 = .ok (.ireturn, 1) := by decide +kernel
theorem d_Os_search_11 : decode b_Os_search 11 = .ok (.aload_n 0, 1) := by decide +kernel
theorem d_Os_search_12 : decode b_Os_search 12 = .ok (.aload_n 1, 1) := by decide +kernel
theorem d_Os_search_13 : decode b_Os_search 13 = .ok (.invokevirtual 44, 3) := by decide +kernel
theorem d_Os_search_16 : decode b_Os_search 16 = .ok (.istore_n 2, 1) := by decide +kernel
theorem d_Os_search_17 : decode b_Os_search 17 = .ok (.iload_n 2, 1) := by decide +kernel
theorem d_Os_search_18 : decode b_Os_search 18 = .ok (.ifCond .le 7, 3) := by decide +kernel
theorem d_Os_search_21 : decode b_Os_search 21 = .ok (.iload_n 2, 1) := by decide +kernel
theorem d_Os_search_22 : decode b_Os_search 22 = .ok (.goto 8, 3) := by decide +kernel
theorem d_Os_search_25 : decode b_Os_search 25 = .ok (.aload_n 0, 1) := by decide +kernel
theorem d_Os_search_26 : decode b_Os_search 26 = .ok (.aload_n 1, 1) := by decide +kernel
theorem d_Os_search_27 : decode b_Os_search 27 = .ok (.invokevirtual 48, 3) := by decide +kernel
theorem d_Os_search_30 : decode b_Os_search 30 = .ok (.ireturn, 1) := by decide +kernel
abbrev ws_Os_search : List Cond := .code y_Os_search b_Os_search 3 (Option.some .int) :: TB
abbrev b_Os_takeShortSteps : ByteArray := prog_4_method_3_code
theorem d_Os_takeShortSteps_0 : decode b_Os_takeShortSteps 0 = .ok (.aload_n 0, 1) := by decide +kernel
theorem d_Os_takeShortSteps_1 : decode b_Os_takeShortSteps 1 = .ok (.getfield 27, 3) := by decide +kernel
theorem d_Os_takeShortSteps_4 : decode b_Os_takeShortSteps 4 = .ok (.iconst 0, 1) := by decide +kernel
theorem d_Os_takeShortSteps_5 : decode b_Os_takeShortSteps 5 = .ok (.invokevirtual 37, 3) := by decide +kernel
theorem d_Os_takeShortSteps_8 : decode b_Os_takeShortSteps 8 = .ok (.iconst 0, 1) := by decide +kernel
theorem d_Os_takeShortSteps_9 : decode b_Os_takeShortSteps 9 = .ok (.istore_n 2, 1) := by decide +kernel
theorem d_Os_takeShortSteps_10 : decode b_Os_takeShortSteps 10 = .ok (.iload_n 2, 1) := by decide +kernel
theorem d_Os_takeShortSteps_11 : decode b_Os_takeShortSteps 11 = .ok (.sipush 500, 3) := by decide +kernel
theorem d_Os_takeShortSteps_14 : decode b_Os_takeShortSteps 14 = .ok (.if_icmp .ge 68, 3) := by decide +kernel
theorem d_Os_takeShortSteps_17 : decode b_Os_takeShortSteps 17 = .ok (.iload_n 2, 1) := by decide +kernel
theorem d_Os_takeShortSteps_18 : decode b_Os_takeShortSteps 18 = .ok (.ifCond .le 15, 3) := by decide +kernel
theorem d_Os_takeShortSteps_21 : decode b_Os_takeShortSteps 21 = .ok (.aload_n 0, 1) := by decide +kernel
theorem d_Os_takeShortSteps_22 : decode b_Os_takeShortSteps 22 = .ok (.getfield 27, 3) := by decide +kernel
theorem d_Os_takeShortSteps_25 : decode b_Os_takeShortSteps 25 = .ok (.invokevirtual 51, 3) := by decide +kernel
theorem d_Os_takeShortSteps_28 : decode b_Os_takeShortSteps 28 = .ok (.ifCond .eq 5, 3) := by decide +kernel
theorem d_Os_takeShortSteps_31 : decode b_Os_takeShortSteps 31 = .ok (.iload_n 2, 1) := by decide +kernel
theorem d_Os_takeShortSteps_32 : decode b_Os_takeShortSteps 32 = .ok (.ireturn, 1) := by decide +kernel
theorem d_Os_takeShortSteps_33 : decode b_Os_takeShortSteps 33 = .ok (.aload_n 0, 1) := by decide +kernel
theorem d_Os_takeShortSteps_34 : decode b_Os_takeShortSteps 34 = .ok (.getfield 15, 3) := by decide +kernel
theorem d_Os_takeShortSteps_37 : decode b_Os_takeShortSteps 37 = .ok (.iload_n 2, 1) := by decide +kernel
theorem d_Os_takeShortSteps_38 : decode b_Os_takeShortSteps 38 = .ok (.aload_n 0, 1) := by decide +kernel
theorem d_Os_takeShortSteps_39 : decode b_Os_takeShortSteps 39 = .ok (.iconst 0, 1) := by decide +kernel
theorem d_Os_takeShortSteps_40 : decode b_Os_takeShortSteps 40 = .ok (.invokevirtual 55, 3) := by decide +kernel
theorem d_Os_takeShortSteps_43 : decode b_Os_takeShortSteps 43 = .ok (.lastore, 1) := by decide +kernel
theorem d_Os_takeShortSteps_44 : decode b_Os_takeShortSteps 44 = .ok (.aload_n 0, 1) := by decide +kernel
theorem d_Os_takeShortSteps_45 : decode b_Os_takeShortSteps 45 = .ok (.getfield 19, 3) := by decide +kernel
theorem d_Os_takeShortSteps_48 : decode b_Os_takeShortSteps 48 = .ok (.iload_n 2, 1) := by decide +kernel
theorem d_Os_takeShortSteps_49 : decode b_Os_takeShortSteps 49 = .ok (.aload_n 0, 1) := by decide +kernel
theorem d_Os_takeShortSteps_50 : decode b_Os_takeShortSteps 50 = .ok (.bipush 12, 2) := by decide +kernel
theorem d_Os_takeShortSteps_52 : decode b_Os_takeShortSteps 52 = .ok (.invokevirtual 55, 3) := by decide +kernel
theorem d_Os_takeShortSteps_55 : decode b_Os_takeShortSteps 55 = .ok (.lastore, 1) := by decide +kernel
theorem d_Os_takeShortSteps_56 : decode b_Os_takeShortSteps 56 = .ok (.aload_n 0, 1) := by decide +kernel
theorem d_Os_takeShortSteps_57 : decode b_Os_takeShortSteps 57 = .ok (.getfield 9, 3) := by decide +kernel
theorem d_Os_takeShortSteps_60 : decode b_Os_takeShortSteps 60 = .ok (.aload_n 0, 1) := by decide +kernel
theorem d_Os_takeShortSteps_61 : decode b_Os_takeShortSteps 61 = .ok (.getfield 27, 3) := by decide +kernel
theorem d_Os_takeShortSteps_64 : decode b_Os_takeShortSteps 64 = .ok (.aload_n 0, 1) := by decide +kernel
theorem d_Os_takeShortSteps_65 : decode b_Os_takeShortSteps 65 = .ok (.getfield 34, 3) := by decide +kernel
theorem d_Os_takeShortSteps_68 : decode b_Os_takeShortSteps 68 = .ok (.aload_n 0, 1) := by decide +kernel
theorem d_Os_takeShortSteps_69 : decode b_Os_takeShortSteps 69 = .ok (.getfield 27, 3) := by decide +kernel
theorem d_Os_takeShortSteps_72 : decode b_Os_takeShortSteps 72 = .ok (.aload_n 1, 1) := by decide +kernel
theorem d_Os_takeShortSteps_73 : decode b_Os_takeShortSteps 73 = .ok (.invokevirtual 59, 3) := by decide +kernel
theorem d_Os_takeShortSteps_76 : decode b_Os_takeShortSteps 76 = .ok (.iinc 2 1, 3) := by decide +kernel
theorem d_Os_takeShortSteps_79 : decode b_Os_takeShortSteps 79 = .ok (.goto (-69), 3) := by decide +kernel
theorem d_Os_takeShortSteps_82 : decode b_Os_takeShortSteps 82 = .ok (.iconst 0, 1) := by decide +kernel
theorem d_Os_takeShortSteps_83 : decode b_Os_takeShortSteps 83 = .ok (.ireturn, 1) := by decide +kernel
abbrev ws_Os_takeShortSteps : List Cond := .code y_Os_takeShortSteps b_Os_takeShortSteps 3 (Option.some .int) :: TB
abbrev b_Os_takeLongSteps : ByteArray := prog_4_method_4_code
theorem d_Os_takeLongSteps_0 : decode b_Os_takeLongSteps 0 = .ok (.aload_n 0, 1) := by decide +kernel
theorem d_Os_takeLongSteps_1 : decode b_Os_takeLongSteps 1 = .ok (.getfield 31, 3) := by decide +kernel
theorem d_Os_takeLongSteps_4 : decode b_Os_takeLongSteps 4 = .ok (.aload_n 0, 1) := by decide +kernel
theorem d_Os_takeLongSteps_5 : decode b_Os_takeLongSteps 5 = .ok (.getfield 27, 3) := by decide +kernel
theorem d_Os_takeLongSteps_8 : decode b_Os_takeLongSteps 8 = .ok (.invokevirtual 65, 3) := by decide +kernel
theorem d_Os_takeLongSteps_11 : decode b_Os_takeLongSteps 11 = .ok (.iconst 1, 1) := by decide +kernel
theorem d_Os_takeLongSteps_12 : decode b_Os_takeLongSteps 12 = .ok (.istore_n 2, 1) := by decide +kernel
theorem d_Os_takeLongSteps_13 : decode b_Os_takeLongSteps 13 = .ok (.iload_n 2, 1) := by decide +kernel
theorem d_Os_takeLongSteps_14 : decode b_Os_takeLongSteps 14 = .ok (.sipush 200, 3) := by decide +kernel
theorem d_Os_takeLongSteps_17 : decode b_Os_takeLongSteps 17 = .ok (.if_icmp .gt 46, 3) := by decide +kernel
theorem d_Os_takeLongSteps_20 : decode b_Os_takeLongSteps 20 = .ok (.aload_n 0, 1) := by decide +kernel
theorem d_Os_takeLongSteps_21 : decode b_Os_takeLongSteps 21 = .ok (.invokevirtual 69, 3) := by decide +kernel
theorem d_Os_takeLongSteps_24 : decode b_Os_takeLongSteps 24 = .ok (.istore_n 3, 1) := by decide +kernel
theorem d_Os_takeLongSteps_25 : decode b_Os_takeLongSteps 25 = .ok (.iload_n 3, 1) := by decide +kernel
theorem d_Os_takeLongSteps_26 : decode b_Os_takeLongSteps 26 = .ok (.ifCond .lt 11, 3) := by decide +kernel
theorem d_Os_takeLongSteps_29 : decode b_Os_takeLongSteps 29 = .ok (.sipush 500, 3) := by decide +kernel
theorem d_Os_takeLongSteps_32 : decode b_Os_takeLongSteps 32 = .ok (.iload_n 2, 1) := by decide +kernel
theorem d_Os_takeLongSteps_33 : decode b_Os_takeLongSteps 33 = .ok (.imul, 1) := by decide +kernel
theorem d_Os_takeLongSteps_34 : decode b_Os_takeLongSteps 34 = .ok (.iload_n 3, 1) := by decide +kernel
theorem d_Os_takeLongSteps_35 : decode b_Os_takeLongSteps 35 = .ok (.isub, 1) := by decide +kernel
theorem d_Os_takeLongSteps_36 : decode b_Os_takeLongSteps 36 = .ok (.ireturn, 1) := by decide +kernel
theorem d_Os_takeLongSteps_37 : decode b_Os_takeLongSteps 37 = .ok (.aload_n 0, 1) := by decide +kernel
theorem d_Os_takeLongSteps_38 : decode b_Os_takeLongSteps 38 = .ok (.getfield 9, 3) := by decide +kernel
theorem d_Os_takeLongSteps_41 : decode b_Os_takeLongSteps 41 = .ok (.aload_n 0, 1) := by decide +kernel
theorem d_Os_takeLongSteps_42 : decode b_Os_takeLongSteps 42 = .ok (.getfield 27, 3) := by decide +kernel
theorem d_Os_takeLongSteps_45 : decode b_Os_takeLongSteps 45 = .ok (.aload_n 0, 1) := by decide +kernel
theorem d_Os_takeLongSteps_46 : decode b_Os_takeLongSteps 46 = .ok (.getfield 31, 3) := by decide +kernel
theorem d_Os_takeLongSteps_49 : decode b_Os_takeLongSteps 49 = .ok (.aload_n 0, 1) := by decide +kernel
theorem d_Os_takeLongSteps_50 : decode b_Os_takeLongSteps 50 = .ok (.getfield 27, 3) := by decide +kernel
theorem d_Os_takeLongSteps_53 : decode b_Os_takeLongSteps 53 = .ok (.aload_n 1, 1) := by decide +kernel
theorem d_Os_takeLongSteps_54 : decode b_Os_takeLongSteps 54 = .ok (.invokevirtual 59, 3) := by decide +kernel
theorem d_Os_takeLongSteps_57 : decode b_Os_takeLongSteps 57 = .ok (.iinc 2 1, 3) := by decide +kernel
theorem d_Os_takeLongSteps_60 : decode b_Os_takeLongSteps 60 = .ok (.goto (-47), 3) := by decide +kernel
theorem d_Os_takeLongSteps_63 : decode b_Os_takeLongSteps 63 = .ok (.iconst 0, 1) := by decide +kernel
theorem d_Os_takeLongSteps_64 : decode b_Os_takeLongSteps 64 = .ok (.ireturn, 1) := by decide +kernel
abbrev ws_Os_takeLongSteps : List Cond := .code y_Os_takeLongSteps b_Os_takeLongSteps 4 (Option.some .int) :: TB
abbrev b_Os_findShortStep : ByteArray := prog_4_method_5_code
theorem d_Os_findShortStep_0 : decode b_Os_findShortStep 0 = .ok (.aload_n 0, 1) := by decide +kernel
theorem d_Os_findShortStep_1 : decode b_Os_findShortStep 1 = .ok (.iconst 0, 1) := by decide +kernel
theorem d_Os_findShortStep_2 : decode b_Os_findShortStep 2 = .ok (.invokevirtual 55, 3) := by decide +kernel
theorem d_Os_findShortStep_5 : decode b_Os_findShortStep 5 = .ok (.lstore_n 1, 1) := by decide +kernel
theorem d_Os_findShortStep_6 : decode b_Os_findShortStep 6 = .ok (.aload_n 0, 1) := by decide +kernel
theorem d_Os_findShortStep_7 : decode b_Os_findShortStep 7 = .ok (.bipush 12, 2) := by decide +kernel
theorem d_Os_findShortStep_9 : decode b_Os_findShortStep 9 = .ok (.invokevirtual 55, 3) := by decide +kernel
theorem d_Os_findShortStep_12 : decode b_Os_findShortStep 12 = .ok (.lstore_n 3, 1) := by decide +kernel
theorem d_Os_findShortStep_13 : decode b_Os_findShortStep 13 = .ok (.iconst 0, 1) := by decide +kernel
theorem d_Os_findShortStep_14 : decode b_Os_findShortStep 14 = .ok (.istore 5, 2) := by decide +kernel
theorem d_Os_findShortStep_16 : decode b_Os_findShortStep 16 = .ok (.iload 5, 2) := by decide +kernel
theorem d_Os_findShortStep_18 : decode b_Os_findShortStep 18 = .ok (.sipush 500, 3) := by decide +kernel
theorem d_Os_findShortStep_21 : decode b_Os_findShortStep 21 = .ok (.if_icmp .ge 36, 3) := by decide +kernel
theorem d_Os_findShortStep_24 : decode b_Os_findShortStep 24 = .ok (.aload_n 0, 1) := by decide +kernel
theorem d_Os_findShortStep_25 : decode b_Os_findShortStep 25 = .ok (.getfield 15, 3) := by decide +kernel
theorem d_Os_findShortStep_28 : decode b_Os_findShortStep 28 = .ok (.iload 5, 2) := by decide +kernel
theorem d_Os_findShortStep_30 : decode b_Os_findShortStep 30 = .ok (.laload, 1) := by decide +kernel
theorem d_Os_findShortStep_31 : decode b_Os_findShortStep 31 = .ok (.lload_n 1, 1) := by decide +kernel
theorem d_Os_findShortStep_32 : decode b_Os_findShortStep 32 = .ok (.lcmp, 1) := by decide +kernel
theorem d_Os_findShortStep_33 : decode b_Os_findShortStep 33 = .ok (.ifCond .ne 18, 3) := by decide +kernel
theorem d_Os_findShortStep_36 : decode b_Os_findShortStep 36 = .ok (.aload_n 0, 1) := by decide +kernel
theorem d_Os_findShortStep_37 : decode b_Os_findShortStep 37 = .ok (.getfield 19, 3) := by decide +kernel
theorem d_Os_findShortStep_40 : decode b_Os_findShortStep 40 = .ok (.iload 5, 2) := by decide +kernel
theorem d_Os_findShortStep_42 : decode b_Os_findShortStep 42 = .ok (.laload, 1) := by decide +kernel
theorem d_Os_findShortStep_43 : decode b_Os_findShortStep 43 = .ok (.lload_n 3, 1) := by decide +kernel
theorem d_Os_findShortStep_44 : decode b_Os_findShortStep 44 = .ok (.lcmp, 1) := by decide +kernel
theorem d_Os_findShortStep_45 : decode b_Os_findShortStep 45 = .ok (.ifCond .ne 6, 3) := by decide +kernel
theorem d_Os_findShortStep_48 : decode b_Os_findShortStep 48 = .ok (.iload 5, 2) := by decide +kernel
theorem d_Os_findShortStep_50 : decode b_Os_findShortStep 50 = .ok (.ireturn, 1) := by decide +kernel
theorem d_Os_findShortStep_51 : decode b_Os_findShortStep 51 = .ok (.iinc 5 1, 3) := by decide +kernel
theorem d_Os_findShortStep_54 : decode b_Os_findShortStep 54 = .ok (.goto (-38), 3) := by decide +kernel
theorem d_Os_findShortStep_57 : decode b_Os_findShortStep 57 = .ok (.iconst (-1), 1) := by decide +kernel
theorem d_Os_findShortStep_58 : decode b_Os_findShortStep 58 = .ok (.ireturn, 1) := by decide +kernel
abbrev ws_Os_findShortStep : List Cond := .code y_Os_findShortStep b_Os_findShortStep 6 (Option.some .int) :: TB
abbrev b_Os_code : ByteArray := prog_4_method_6_code
theorem d_Os_code_0 : decode b_Os_code 0 = .ok (.lconst 0, 1) := by decide +kernel
theorem d_Os_code_1 : decode b_Os_code 1 = .ok (.lstore_n 2, 1) := by decide +kernel
theorem d_Os_code_2 : decode b_Os_code 2 = .ok (.iload_n 1, 1) := by decide +kernel
theorem d_Os_code_3 : decode b_Os_code 3 = .ok (.istore 4, 2) := by decide +kernel
theorem d_Os_code_5 : decode b_Os_code 5 = .ok (.iload 4, 2) := by decide +kernel
theorem d_Os_code_7 : decode b_Os_code 7 = .ok (.iload_n 1, 1) := by decide +kernel
theorem d_Os_code_8 : decode b_Os_code 8 = .ok (.bipush 12, 2) := by decide +kernel
theorem d_Os_code_10 : decode b_Os_code 10 = .ok (.iadd, 1) := by decide +kernel
theorem d_Os_code_11 : decode b_Os_code 11 = .ok (.if_icmp .ge 32, 3) := by decide +kernel
theorem d_Os_code_14 : decode b_Os_code 14 = .ok (.lload_n 2, 1) := by decide +kernel
theorem d_Os_code_15 : decode b_Os_code 15 = .ok (.aload_n 0, 1) := by decide +kernel
theorem d_Os_code_16 : decode b_Os_code 16 = .ok (.getfield 9, 3) := by decide +kernel
theorem d_Os_code_19 : decode b_Os_code 19 = .ok (.getfield 73, 3) := by decide +kernel
theorem d_Os_code_22 : decode b_Os_code 22 = .ok (.i2l, 1) := by decide +kernel
theorem d_Os_code_23 : decode b_Os_code 23 = .ok (.lmul, 1) := by decide +kernel
theorem d_Os_code_24 : decode b_Os_code 24 = .ok (.aload_n 0, 1) := by decide +kernel
theorem d_Os_code_25 : decode b_Os_code 25 = .ok (.getfield 27, 3) := by decide +kernel
theorem d_Os_code_28 : decode b_Os_code 28 = .ok (.getfield 40, 3) := by decide +kernel
theorem d_Os_code_31 : decode b_Os_code 31 = .ok (.iload 4, 2) := by decide +kernel
theorem d_Os_code_33 : decode b_Os_code 33 = .ok (.iaload, 1) := by decide +kernel
theorem d_Os_code_34 : decode b_Os_code 34 = .ok (.i2l, 1) := by decide +kernel
theorem d_Os_code_35 : decode b_Os_code 35 = .ok (.ladd, 1) := by decide +kernel
theorem d_Os_code_36 : decode b_Os_code 36 = .ok (.lstore_n 2, 1) := by decide +kernel
theorem d_Os_code_37 : decode b_Os_code 37 = .ok (.iinc 4 1, 3) := by decide +kernel
theorem d_Os_code_40 : decode b_Os_code 40 = .ok (.goto (-35), 3) := by decide +kernel
theorem d_Os_code_43 : decode b_Os_code 43 = .ok (.lload_n 2, 1) := by decide +kernel
theorem d_Os_code_44 : decode b_Os_code 44 = .ok (.lreturn, 1) := by decide +kernel
abbrev ws_Os_code : List Cond := .code y_Os_code b_Os_code 5 (Option.some .long) :: TB
abbrev b_Cu_init : ByteArray := prog_3_method_1_code
theorem d_Cu_init_0 : decode b_Cu_init 0 = .ok (.aload_n 0, 1) := by decide +kernel
theorem d_Cu_init_1 : decode b_Cu_init 1 = .ok (.invokespecial 3, 3) := by decide +kernel
theorem d_Cu_init_4 : decode b_Cu_init 4 = .ok (.aload_n 0, 1) := by decide +kernel
theorem d_Cu_init_5 : decode b_Cu_init 5 = .ok (.aload_n 1, 1) := by decide +kernel
theorem d_Cu_init_6 : decode b_Cu_init 6 = .ok (.putfield 9, 3) := by decide +kernel
theorem d_Cu_init_9 : decode b_Cu_init 9 = .ok (.aload_n 0, 1) := by decide +kernel
theorem d_Cu_init_10 : decode b_Cu_init 10 = .ok (.bipush 24, 2) := by decide +kernel
theorem d_Cu_init_12 : decode b_Cu_init 12 = .ok (.anewarray 15, 3) := by decide +kernel
theorem d_Cu_init_15 : decode b_Cu_init 15 = .ok (.putfield 17, 3) := by decide +kernel
theorem d_Cu_init_18 : decode b_Cu_init 18 = .ok (.aload_n 0, 1) := by decide +kernel
theorem d_Cu_init_19 : decode b_Cu_init 19 = .ok (.bipush 24, 2) := by decide +kernel
theorem d_Cu_init_21 : decode b_Cu_init 21 = .ok (.newarray .int, 2) := by decide +kernel
theorem d_Cu_init_23 : decode b_Cu_init 23 = .ok (.putfield 21, 3) := by decide +kernel
theorem d_Cu_init_26 : decode b_Cu_init 26 = .ok (.iconst 0, 1) := by decide +kernel
theorem d_Cu_init_27 : decode b_Cu_init 27 = .ok (.istore_n 2, 1) := by decide +kernel
theorem d_Cu_init_28 : decode b_Cu_init 28 = .ok (.iload_n 2, 1) := by decide +kernel
theorem d_Cu_init_29 : decode b_Cu_init 29 = .ok (.bipush 24, 2) := by decide +kernel
theorem d_Cu_init_31 : decode b_Cu_init 31 = .ok (.if_icmp .ge 24, 3) := by decide +kernel
theorem d_Cu_init_34 : decode b_Cu_init 34 = .ok (.aload_n 0, 1) := by decide +kernel
theorem d_Cu_init_35 : decode b_Cu_init 35 = .ok (.getfield 17, 3) := by decide +kernel
theorem d_Cu_init_38 : decode b_Cu_init 38 = .ok (.iload_n 2, 1) := by decide +kernel
theorem d_Cu_init_39 : decode b_Cu_init 39 = .ok (.new 15, 3) := by decide +kernel
theorem d_Cu_init_42 : decode b_Cu_init 42 = .ok (.dup, 1) := by decide +kernel
theorem d_Cu_init_43 : decode b_Cu_init 43 = .ok (.bipush 25, 2) := by decide +kernel
theorem d_Cu_init_45 : decode b_Cu_init 45 = .ok (.invokespecial 25, 3) := by decide +kernel
theorem d_Cu_init_48 : decode b_Cu_init 48 = .ok (.aastore, 1) := by decide +kernel
theorem d_Cu_init_49 : decode b_Cu_init 49 = .ok (.iinc 2 1, 3) := by decide +kernel
theorem d_Cu_init_52 : decode b_Cu_init 52 = .ok (.goto (-24), 3) := by decide +kernel
theorem d_Cu_init_55 : decode b_Cu_init 55 = .ok (.aload_n 0, 1) := by decide +kernel
theorem d_Cu_init_56 : decode b_Cu_init 56 = .ok (.iconst 0, 1) := by decide +kernel
theorem d_Cu_init_57 : decode b_Cu_init 57 = .ok (.putfield 28, 3) := by decide +kernel
theorem d_Cu_init_60 : decode b_Cu_init 60 = .ok (.aload_n 0, 1) := by decide +kernel
theorem d_Cu_init_61 : decode b_Cu_init 61 = .ok (.new 15, 3) := by decide +kernel
theorem d_Cu_init_64 : decode b_Cu_init 64 = .ok (.dup, 1) := by decide +kernel
theorem d_Cu_init_65 : decode b_Cu_init 65 = .ok (.bipush 25, 2) := by decide +kernel
theorem d_Cu_init_67 : decode b_Cu_init 67 = .ok (.invokespecial 25, 3) := by decide +kernel
theorem d_Cu_init_70 : decode b_Cu_init 70 = .ok (.putfield 32, 3) := by decide +kernel
theorem d_Cu_init_73 : decode b_Cu_init 73 = .ok (.aload_n 0, 1) := by decide +kernel
theorem d_Cu_init_74 : decode b_Cu_init 74 = .ok (.new 15, 3) := by decide +kernel
theorem d_Cu_init_77 : decode b_Cu_init 77 = .ok (.dup, 1) := by decide +kernel
theorem d_Cu_init_78 : decode b_Cu_init 78 = .ok (.bipush 25, 2) := by decide +kernel
theorem d_Cu_init_80 : decode b_Cu_init 80 = .ok (.invokespecial 25, 3) := by decide +kernel
theorem d_Cu_init_83 : decode b_Cu_init 83 = .ok (.putfield 36, 3) := by decide +kernel
theorem d_Cu_init_86 : decode b_Cu_init 86 = .ok (.aload_n 0, 1) := by decide +kernel
theorem d_Cu_init_87 : decode b_Cu_init 87 = .ok (.new 15, 3) := by decide +kernel
theorem d_Cu_init_90 : decode b_Cu_init 90 = .ok (.dup, 1) := by decide +kernel
theorem d_Cu_init_91 : decode b_Cu_init 91 = .ok (.bipush 25, 2) := by decide +kernel
theorem d_Cu_init_93 : decode b_Cu_init 93 = .ok (.invokespecial 25, 3) := by decide +kernel
theorem d_Cu_init_96 : decode b_Cu_init 96 = .ok (.putfield 39, 3) := by decide +kernel
theorem d_Cu_init_99 : decode b_Cu_init 99 = .ok (.aload_n 0, 1) := by decide +kernel
theorem d_Cu_init_100 : decode b_Cu_init 100 = .ok (.new 15, 3) := by decide +kernel
theorem d_Cu_init_103 : decode b_Cu_init 103 = .ok (.dup, 1) := by decide +kernel
theorem d_Cu_init_104 : decode b_Cu_init 104 = .ok (.bipush 25, 2) := by decide +kernel
theorem d_Cu_init_106 : decode b_Cu_init 106 = .ok (.invokespecial 25, 3) := by decide +kernel
theorem d_Cu_init_109 : decode b_Cu_init 109 = .ok (.putfield 42, 3) := by decide +kernel
theorem d_Cu_init_112 : decode b_Cu_init 112 = .ok (.aload_n 0, 1) := by decide +kernel
theorem d_Cu_init_113 : decode b_Cu_init 113 = .ok (.new 15, 3) := by decide +kernel
theorem d_Cu_init_116 : decode b_Cu_init 116 = .ok (.dup, 1) := by decide +kernel
theorem d_Cu_init_117 : decode b_Cu_init 117 = .ok (.bipush 25, 2) := by decide +kernel
theorem d_Cu_init_119 : decode b_Cu_init 119 = .ok (.invokespecial 25, 3) := by decide +kernel
theorem d_Cu_init_122 : decode b_Cu_init 122 = .ok (.putfield 45, 3) := by decide +kernel
theorem d_Cu_init_125 : decode b_Cu_init 125 = .ok (.aload_n 0, 1) := by decide +kernel
theorem d_Cu_init_126 : decode b_Cu_init 126 = .ok (.new 15, 3) := by decide +kernel
theorem d_Cu_init_129 : decode b_Cu_init 129 = .ok (.dup, 1) := by decide +kernel
theorem d_Cu_init_130 : decode b_Cu_init 130 = .ok (.bipush 25, 2) := by decide +kernel
theorem d_Cu_init_132 : decode b_Cu_init 132 = .ok (.invokespecial 25, 3) := by decide +kernel
theorem d_Cu_init_135 : decode b_Cu_init 135 = .ok (.putfield 48, 3) := by decide +kernel
theorem d_Cu_init_138 : decode b_Cu_init 138 = .ok (.aload_n 0, 1) := by decide +kernel
theorem d_Cu_init_139 : decode b_Cu_init 139 = .ok (.new 15, 3) := by decide +kernel
theorem d_Cu_init_142 : decode b_Cu_init 142 = .ok (.dup, 1) := by decide +kernel
theorem d_Cu_init_143 : decode b_Cu_init 143 = .ok (.bipush 25, 2) := by decide +kernel
theorem d_Cu_init_145 : decode b_Cu_init 145 = .ok (.invokespecial 25, 3) := by decide +kernel
theorem d_Cu_init_148 : decode b_Cu_init 148 = .ok (.putfield 51, 3) := by decide +kernel
theorem d_Cu_init_151 : decode b_Cu_init 151 = .ok (.aload_n 0, 1) := by decide +kernel
theorem d_Cu_init_152 : decode b_Cu_init 152 = .ok (.new 15, 3) := by decide +kernel
theorem d_Cu_init_155 : decode b_Cu_init 155 = .ok (.dup, 1) := by decide +kernel
theorem d_Cu_init_156 : decode b_Cu_init 156 = .ok (.bipush 25, 2) := by decide +kernel
theorem d_Cu_init_158 : decode b_Cu_init 158 = .ok (.invokespecial 25, 3) := by decide +kernel
theorem d_Cu_init_161 : decode b_Cu_init 161 = .ok (.putfield 54, 3) := by decide +kernel
theorem d_Cu_init_164 : decode b_Cu_init 164 = .ok (.aload_n 0, 1) := by decide +kernel
theorem d_Cu_init_165 : decode b_Cu_init 165 = .ok (.getfield 54, 3) := by decide +kernel
theorem d_Cu_init_168 : decode b_Cu_init 168 = .ok (.iconst 0, 1) := by decide +kernel
theorem d_Cu_init_169 : decode b_Cu_init 169 = .ok (.invokevirtual 57, 3) := by decide +kernel
theorem d_Cu_init_172 : decode b_Cu_init 172 = .ok (.aload_n 0, 1) := by decide +kernel
theorem d_Cu_init_173 : decode b_Cu_init 173 = .ok (.new 15, 3) := by decide +kernel
theorem d_Cu_init_176 : decode b_Cu_init 176 = .ok (.dup, 1) := by decide +kernel
theorem d_Cu_init_177 : decode b_Cu_init 177 = .ok (.bipush 25, 2) := by decide +kernel
theorem d_Cu_init_179 : decode b_Cu_init 179 = .ok (.invokespecial 25, 3) := by decide +kernel
theorem d_Cu_init_182 : decode b_Cu_init 182 = .ok (.putfield 60, 3) := by decide +kernel
theorem d_Cu_init_185 : decode b_Cu_init 185 = .ok (.aload_n 0, 1) := by decide +kernel
theorem d_Cu_init_186 : decode b_Cu_init 186 = .ok (.getfield 60, 3) := by decide +kernel
theorem d_Cu_init_189 : decode b_Cu_init 189 = .ok (.iconst 1, 1) := by decide +kernel
theorem d_Cu_init_190 : decode b_Cu_init 190 = .ok (.invokevirtual 57, 3) := by decide +kernel
theorem d_Cu_init_193 : decode b_Cu_init 193 = .ok (.return_, 1) := by decide +kernel
abbrev ws_Cu_init : List Cond := .code y_Cu_init b_Cu_init 3 none :: TB
abbrev b_Cu_forget : ByteArray := prog_3_method_2_code
theorem d_Cu_forget_0 : decode b_Cu_forget 0 = .ok (.aload_n 0, 1) := by decide +kernel
theorem d_Cu_forget_1 : decode b_Cu_forget 1 = .ok (.iconst 0, 1) := by decide +kernel
theorem d_Cu_forget_2 : decode b_Cu_forget 2 = .ok (.putfield 28, 3) := by decide +kernel
theorem d_Cu_forget_5 : decode b_Cu_forget 5 = .ok (.return_, 1) := by decide +kernel
abbrev ws_Cu_forget : List Cond := .code y_Cu_forget b_Cu_forget 1 none :: TB
abbrev b_Cu_cannotBeCut : ByteArray := prog_3_method_3_code
theorem d_Cu_cannotBeCut_0 : decode b_Cu_cannotBeCut 0 = .ok (.aload_n 1, 1) := by decide +kernel
theorem d_Cu_cannotBeCut_1 : decode b_Cu_cannotBeCut 1 = .ok (.getfield 63, 3) := by decide +kernel
theorem d_Cu_cannotBeCut_4 : decode b_Cu_cannotBeCut 4 = .ok (.iconst 1, 1) := by decide +kernel
theorem d_Cu_cannotBeCut_5 : decode b_Cu_cannotBeCut 5 = .ok (.if_icmp .ge 5, 3) := by decide +kernel
theorem d_Cu_cannotBeCut_8 : decode b_Cu_cannotBeCut 8 = .ok (.iconst 0, 1) := by decide +kernel
theorem d_Cu_cannotBeCut_9 : decode b_Cu_cannotBeCut 9 = .ok (.ireturn, 1) := by decide +kernel
theorem d_Cu_cannotBeCut_10 : decode b_Cu_cannotBeCut 10 = .ok (.aload_n 0, 1) := by decide +kernel
theorem d_Cu_cannotBeCut_11 : decode b_Cu_cannotBeCut 11 = .ok (.getfield 36, 3) := by decide +kernel
theorem d_Cu_cannotBeCut_14 : decode b_Cu_cannotBeCut 14 = .ok (.aload_n 0, 1) := by decide +kernel
theorem d_Cu_cannotBeCut_15 : decode b_Cu_cannotBeCut 15 = .ok (.getfield 60, 3) := by decide +kernel
theorem d_Cu_cannotBeCut_18 : decode b_Cu_cannotBeCut 18 = .ok (.invokevirtual 66, 3) := by decide +kernel
theorem d_Cu_cannotBeCut_21 : decode b_Cu_cannotBeCut 21 = .ok (.iconst 1, 1) := by decide +kernel
theorem d_Cu_cannotBeCut_22 : decode b_Cu_cannotBeCut 22 = .ok (.istore_n 2, 1) := by decide +kernel
theorem d_Cu_cannotBeCut_23 : decode b_Cu_cannotBeCut 23 = .ok (.iconst 2, 1) := by decide +kernel
theorem d_Cu_cannotBeCut_24 : decode b_Cu_cannotBeCut 24 = .ok (.iload_n 2, 1) := by decide +kernel
theorem d_Cu_cannotBeCut_25 : decode b_Cu_cannotBeCut 25 = .ok (.imul, 1) := by decide +kernel
theorem d_Cu_cannotBeCut_26 : decode b_Cu_cannotBeCut 26 = .ok (.aload_n 1, 1) := by decide +kernel
theorem d_Cu_cannotBeCut_27 : decode b_Cu_cannotBeCut 27 = .ok (.getfield 63, 3) := by decide +kernel
theorem d_Cu_cannotBeCut_30 : decode b_Cu_cannotBeCut 30 = .ok (.if_icmp .gt 26, 3) := by decide +kernel
theorem d_Cu_cannotBeCut_33 : decode b_Cu_cannotBeCut 33 = .ok (.aload_n 0, 1) := by decide +kernel
theorem d_Cu_cannotBeCut_34 : decode b_Cu_cannotBeCut 34 = .ok (.aload_n 1, 1) := by decide +kernel
theorem d_Cu_cannotBeCut_35 : decode b_Cu_cannotBeCut 35 = .ok (.invokevirtual 70, 3) := by decide +kernel
theorem d_Cu_cannotBeCut_38 : decode b_Cu_cannotBeCut 38 = .ok (.aload_n 0, 1) := by decide +kernel
theorem d_Cu_cannotBeCut_39 : decode b_Cu_cannotBeCut 39 = .ok (.getfield 39, 3) := by decide +kernel
theorem d_Cu_cannotBeCut_42 : decode b_Cu_cannotBeCut 42 = .ok (.getfield 63, 3) := by decide +kernel
theorem d_Cu_cannotBeCut_45 : decode b_Cu_cannotBeCut 45 = .ok (.ifCond .le 5, 3) := by decide +kernel
theorem d_Cu_cannotBeCut_48 : decode b_Cu_cannotBeCut 48 = .ok (.iconst 0, 1) := by decide +kernel
theorem d_Cu_cannotBeCut_49 : decode b_Cu_cannotBeCut 49 = .ok (.ireturn, 1) := by decide +kernel
theorem d_Cu_cannotBeCut_50 : decode b_Cu_cannotBeCut 50 = .ok (.iinc 2 1, 3) := by decide +kernel
theorem d_Cu_cannotBeCut_53 : decode b_Cu_cannotBeCut 53 = .ok (.goto (-30), 3) := by decide +kernel
theorem d_Cu_cannotBeCut_56 : decode b_Cu_cannotBeCut 56 = .ok (.iconst 1, 1) := by decide +kernel
theorem d_Cu_cannotBeCut_57 : decode b_Cu_cannotBeCut 57 = .ok (.ireturn, 1) := by decide +kernel
abbrev ws_Cu_cannotBeCut : List Cond := .code y_Cu_cannotBeCut b_Cu_cannotBeCut 3 (Option.some .boolean) :: TB
abbrev b_Cu_cut : ByteArray := prog_3_method_4_code
theorem d_Cu_cut_0 : decode b_Cu_cut 0 = .ok (.aload_n 0, 1) := by decide +kernel
theorem d_Cu_cut_1 : decode b_Cu_cut 1 = .ok (.iconst 0, 1) := by decide +kernel
theorem d_Cu_cut_2 : decode b_Cu_cut 2 = .ok (.putfield 28, 3) := by decide +kernel
theorem d_Cu_cut_5 : decode b_Cu_cut 5 = .ok (.aload_n 0, 1) := by decide +kernel
theorem d_Cu_cut_6 : decode b_Cu_cut 6 = .ok (.getfield 32, 3) := by decide +kernel
theorem d_Cu_cut_9 : decode b_Cu_cut 9 = .ok (.aload_n 1, 1) := by decide +kernel
theorem d_Cu_cut_10 : decode b_Cu_cut 10 = .ok (.invokevirtual 66, 3) := by decide +kernel
theorem d_Cu_cut_13 : decode b_Cu_cut 13 = .ok (.aload_n 0, 1) := by decide +kernel
theorem d_Cu_cut_14 : decode b_Cu_cut 14 = .ok (.getfield 9, 3) := by decide +kernel
theorem d_Cu_cut_17 : decode b_Cu_cut 17 = .ok (.aload_n 0, 1) := by decide +kernel
theorem d_Cu_cut_18 : decode b_Cu_cut 18 = .ok (.getfield 32, 3) := by decide +kernel
theorem d_Cu_cut_21 : decode b_Cu_cut 21 = .ok (.invokevirtual 73, 3) := by decide +kernel
theorem d_Cu_cut_24 : decode b_Cu_cut 24 = .ok (.aload_n 0, 1) := by decide +kernel
theorem d_Cu_cut_25 : decode b_Cu_cut 25 = .ok (.getfield 36, 3) := by decide +kernel
theorem d_Cu_cut_28 : decode b_Cu_cut 28 = .ok (.aload_n 0, 1) := by decide +kernel
theorem d_Cu_cut_29 : decode b_Cu_cut 29 = .ok (.getfield 60, 3) := by decide +kernel
theorem d_Cu_cut_32 : decode b_Cu_cut 32 = .ok (.invokevirtual 66, 3) := by decide +kernel
theorem d_Cu_cut_35 : decode b_Cu_cut 35 = .ok (.iconst 1, 1) := by decide +kernel
theorem d_Cu_cut_36 : decode b_Cu_cut 36 = .ok (.istore_n 2, 1) := by decide +kernel
theorem d_Cu_cut_37 : decode b_Cu_cut 37 = .ok (.iload_n 2, 1) := by decide +kernel
theorem d_Cu_cut_38 : decode b_Cu_cut 38 = .ok (.bipush 24, 2) := by decide +kernel
theorem d_Cu_cut_40 : decode b_Cu_cut 40 = .ok (.if_icmp .gt 55, 3) := by decide +kernel
theorem d_Cu_cut_43 : decode b_Cu_cut 43 = .ok (.iconst 2, 1) := by decide +kernel
theorem d_Cu_cut_44 : decode b_Cu_cut 44 = .ok (.iload_n 2, 1) := by decide +kernel
theorem d_Cu_cut_45 : decode b_Cu_cut 45 = .ok (.imul, 1) := by decide +kernel
theorem d_Cu_cut_46 : decode b_Cu_cut 46 = .ok (.aload_n 0, 1) := by decide +kernel
theorem d_Cu_cut_47 : decode b_Cu_cut 47 = .ok (.getfield 32, 3) := by decide +kernel
theorem d_Cu_cut_50 : decode b_Cu_cut 50 = .ok (.getfield 63, 3) := by decide +kernel
theorem d_Cu_cut_53 : decode b_Cu_cut 53 = .ok (.if_icmp .gt 42, 3) := by decide +kernel
theorem d_Cu_cut_56 : decode b_Cu_cut 56 = .ok (.aload_n 0, 1) := by decide +kernel
theorem d_Cu_cut_57 : decode b_Cu_cut 57 = .ok (.aload_n 0, 1) := by decide +kernel
theorem d_Cu_cut_58 : decode b_Cu_cut 58 = .ok (.getfield 32, 3) := by decide +kernel
theorem d_Cu_cut_61 : decode b_Cu_cut 61 = .ok (.invokevirtual 70, 3) := by decide +kernel
theorem d_Cu_cut_64 : decode b_Cu_cut 64 = .ok (.aload_n 0, 1) := by decide +kernel
theorem d_Cu_cut_65 : decode b_Cu_cut 65 = .ok (.getfield 39, 3) := by decide +kernel
theorem d_Cu_cut_68 : decode b_Cu_cut 68 = .ok (.getfield 63, 3) := by decide +kernel
theorem d_Cu_cut_71 : decode b_Cu_cut 71 = .ok (.ifCond .le 18, 3) := by decide +kernel
theorem d_Cu_cut_74 : decode b_Cu_cut 74 = .ok (.aload_n 0, 1) := by decide +kernel
theorem d_Cu_cut_75 : decode b_Cu_cut 75 = .ok (.getfield 28, 3) := by decide +kernel
theorem d_Cu_cut_78 : decode b_Cu_cut 78 = .ok (.istore_n 3, 1) := by decide +kernel
theorem d_Cu_cut_79 : decode b_Cu_cut 79 = .ok (.aload_n 0, 1) := by decide +kernel
theorem d_Cu_cut_80 : decode b_Cu_cut 80 = .ok (.iload_n 2, 1) := by decide +kernel
theorem d_Cu_cut_81 : decode b_Cu_cut 81 = .ok (.invokevirtual 78, 3) := by decide +kernel
theorem d_Cu_cut_84 : decode b_Cu_cut 84 = .ok (.aload_n 0, 1) := by decide +kernel
theorem d_Cu_cut_85 : decode b_Cu_cut 85 = .ok (.iload_n 3, 1) := by decide +kernel
theorem d_Cu_cut_86 : decode b_Cu_cut 86 = .ok (.invokevirtual 81, 3) := by decide +kernel
theorem d_Cu_cut_89 : decode b_Cu_cut 89 = .ok (.iinc 2 1, 3) := by decide +kernel
theorem d_Cu_cut_92 : decode b_Cu_cut 92 = .ok (.goto (-55), 3) := by decide +kernel
theorem d_Cu_cut_95 : decode b_Cu_cut 95 = .ok (.aload_n 0, 1) := by decide +kernel
theorem d_Cu_cut_96 : decode b_Cu_cut 96 = .ok (.getfield 32, 3) := by decide +kernel
theorem d_Cu_cut_99 : decode b_Cu_cut 99 = .ok (.getfield 63, 3) := by decide +kernel
theorem d_Cu_cut_102 : decode b_Cu_cut 102 = .ok (.ifCond .le 12, 3) := by decide +kernel
theorem d_Cu_cut_105 : decode b_Cu_cut 105 = .ok (.aload_n 0, 1) := by decide +kernel
theorem d_Cu_cut_106 : decode b_Cu_cut 106 = .ok (.aload_n 0, 1) := by decide +kernel
theorem d_Cu_cut_107 : decode b_Cu_cut 107 = .ok (.getfield 32, 3) := by decide +kernel
theorem d_Cu_cut_110 : decode b_Cu_cut 110 = .ok (.iconst 1, 1) := by decide +kernel
theorem d_Cu_cut_111 : decode b_Cu_cut 111 = .ok (.invokevirtual 84, 3) := by decide +kernel
theorem d_Cu_cut_114 : decode b_Cu_cut 114 = .ok (.aload_n 0, 1) := by decide +kernel
theorem d_Cu_cut_115 : decode b_Cu_cut 115 = .ok (.invokevirtual 88, 3) := by decide +kernel
theorem d_Cu_cut_118 : decode b_Cu_cut 118 = .ok (.return_, 1) := by decide +kernel
abbrev ws_Cu_cut : List Cond := .code y_Cu_cut b_Cu_cut 4 none :: TB
abbrev b_Cu_collectLinear : ByteArray := prog_3_method_5_code
theorem d_Cu_collectLinear_0 : decode b_Cu_collectLinear 0 = .ok (.aload_n 1, 1) := by decide +kernel
theorem d_Cu_collectLinear_1 : decode b_Cu_collectLinear 1 = .ok (.iconst 0, 1) := by decide +kernel
theorem d_Cu_collectLinear_2 : decode b_Cu_collectLinear 2 = .ok (.invokevirtual 57, 3) := by decide +kernel
theorem d_Cu_collectLinear_5 : decode b_Cu_collectLinear 5 = .ok (.iconst 0, 1) := by decide +kernel
theorem d_Cu_collectLinear_6 : decode b_Cu_collectLinear 6 = .ok (.istore_n 3, 1) := by decide +kernel
theorem d_Cu_collectLinear_7 : decode b_Cu_collectLinear 7 = .ok (.iload_n 3, 1) := by decide +kernel
theorem d_Cu_collectLinear_8 : decode b_Cu_collectLinear 8 = .ok (.aload_n 0, 1) := by decide +kernel
theorem d_Cu_collectLinear_9 : decode b_Cu_collectLinear 9 = .ok (.getfield 9, 3) := by decide +kernel
theorem d_Cu_collectLinear_12 : decode b_Cu_collectLinear 12 = .ok (.getfield 91, 3) := by decide +kernel
theorem d_Cu_collectLinear_15 : decode b_Cu_collectLinear 15 = .ok (.if_icmp .ge 104, 3) := by decide +kernel
theorem d_Cu_collectLinear_18 : decode b_Cu_collectLinear 18 = .ok (.aload_n 0, 1) := by decide +kernel
theorem d_Cu_collectLinear_19 : decode b_Cu_collectLinear 19 = .ok (.getfield 51, 3) := by decide +kernel
theorem d_Cu_collectLinear_22 : decode b_Cu_collectLinear 22 = .ok (.aload_n 0, 1) := by decide +kernel
theorem d_Cu_collectLinear_23 : decode b_Cu_collectLinear 23 = .ok (.getfield 60, 3) := by decide +kernel
theorem d_Cu_collectLinear_26 : decode b_Cu_collectLinear 26 = .ok (.invokevirtual 66, 3) := by decide +kernel
theorem d_Cu_collectLinear_29 : decode b_Cu_collectLinear 29 = .ok (.aload_n 0, 1) := by decide +kernel
theorem d_Cu_collectLinear_30 : decode b_Cu_collectLinear 30 = .ok (.getfield 51, 3) := by decide +kernel
theorem d_Cu_collectLinear_33 : decode b_Cu_collectLinear 33 = .ok (.iconst 0, 1) := by decide +kernel
theorem d_Cu_collectLinear_34 : decode b_Cu_collectLinear 34 = .ok (.aload_n 0, 1) := by decide +kernel
theorem d_Cu_collectLinear_35 : decode b_Cu_collectLinear 35 = .ok (.getfield 9, 3) := by decide +kernel
theorem d_Cu_collectLinear_38 : decode b_Cu_collectLinear 38 = .ok (.getfield 91, 3) := by decide +kernel
theorem d_Cu_collectLinear_41 : decode b_Cu_collectLinear 41 = .ok (.iload_n 3, 1) := by decide +kernel
theorem d_Cu_collectLinear_42 : decode b_Cu_collectLinear 42 = .ok (.isub, 1) := by decide +kernel
theorem d_Cu_collectLinear_43 : decode b_Cu_collectLinear 43 = .ok (.aload_n 0, 1) := by decide +kernel
theorem d_Cu_collectLinear_44 : decode b_Cu_collectLinear 44 = .ok (.getfield 9, 3) := by decide +kernel
theorem d_Cu_collectLinear_47 : decode b_Cu_collectLinear 47 = .ok (.getfield 91, 3) := by decide +kernel
theorem d_Cu_collectLinear_50 : decode b_Cu_collectLinear 50 = .ok (.irem, 1) := by decide +kernel
theorem d_Cu_collectLinear_51 : decode b_Cu_collectLinear 51 = .ok (.invokevirtual 94, 3) := by decide +kernel
theorem d_Cu_collectLinear_54 : decode b_Cu_collectLinear 54 = .ok (.aload_n 0, 1) := by decide +kernel
theorem d_Cu_collectLinear_55 : decode b_Cu_collectLinear 55 = .ok (.getfield 9, 3) := by decide +kernel
theorem d_Cu_collectLinear_58 : decode b_Cu_collectLinear 58 = .ok (.aload_n 2, 1) := by decide +kernel
theorem d_Cu_collectLinear_59 : decode b_Cu_collectLinear 59 = .ok (.aload_n 0, 1) := by decide +kernel
theorem d_Cu_collectLinear_60 : decode b_Cu_collectLinear 60 = .ok (.getfield 51, 3) := by decide +kernel
theorem d_Cu_collectLinear_63 : decode b_Cu_collectLinear 63 = .ok (.invokevirtual 98, 3) := by decide +kernel
theorem d_Cu_collectLinear_66 : decode b_Cu_collectLinear 66 = .ok (.istore 4, 2) := by decide +kernel
theorem d_Cu_collectLinear_68 : decode b_Cu_collectLinear 68 = .ok (.iconst 0, 1) := by decide +kernel
theorem d_Cu_collectLinear_69 : decode b_Cu_collectLinear 69 = .ok (.istore 5, 2) := by decide +kernel
theorem d_Cu_collectLinear_71 : decode b_Cu_collectLinear 71 = .ok (.iload 5, 2) := by decide +kernel
theorem d_Cu_collectLinear_73 : decode b_Cu_collectLinear 73 = .ok (.iload 4, 2) := by decide +kernel
theorem d_Cu_collectLinear_75 : decode b_Cu_collectLinear 75 = .ok (.if_icmp .ge 38, 3) := by decide +kernel
theorem d_Cu_collectLinear_78 : decode b_Cu_collectLinear 78 = .ok (.aload_n 0, 1) := by decide +kernel
theorem d_Cu_collectLinear_79 : decode b_Cu_collectLinear 79 = .ok (.getfield 48, 3) := by decide +kernel
theorem d_Cu_collectLinear_82 : decode b_Cu_collectLinear 82 = .ok (.aload_n 1, 1) := by decide +kernel
theorem d_Cu_collectLinear_83 : decode b_Cu_collectLinear 83 = .ok (.invokevirtual 66, 3) := by decide +kernel
theorem d_Cu_collectLinear_86 : decode b_Cu_collectLinear 86 = .ok (.aload_n 1, 1) := by decide +kernel
theorem d_Cu_collectLinear_87 : decode b_Cu_collectLinear 87 = .ok (.invokevirtual 102, 3) := by decide +kernel
theorem d_Cu_collectLinear_90 : decode b_Cu_collectLinear 90 = .ok (.aload_n 0, 1) := by decide +kernel
theorem d_Cu_collectLinear_91 : decode b_Cu_collectLinear 91 = .ok (.getfield 9, 3) := by decide +kernel
theorem d_Cu_collectLinear_94 : decode b_Cu_collectLinear 94 = .ok (.aload_n 1, 1) := by decide +kernel
theorem d_Cu_collectLinear_95 : decode b_Cu_collectLinear 95 = .ok (.iconst 1, 1) := by decide +kernel
theorem d_Cu_collectLinear_96 : decode b_Cu_collectLinear 96 = .ok (.aload_n 0, 1) := by decide +kernel
theorem d_Cu_collectLinear_97 : decode b_Cu_collectLinear 97 = .ok (.getfield 51, 3) := by decide +kernel
theorem d_Cu_collectLinear_100 : decode b_Cu_collectLinear 100 = .ok (.aload_n 0, 1) := by decide +kernel
theorem d_Cu_collectLinear_101 : decode b_Cu_collectLinear 101 = .ok (.getfield 48, 3) := by decide +kernel
theorem d_Cu_collectLinear_104 : decode b_Cu_collectLinear 104 = .ok (.invokevirtual 105, 3) := by decide +kernel
theorem d_Cu_collectLinear_107 : decode b_Cu_collectLinear 107 = .ok (.iinc 5 1, 3) := by decide +kernel
theorem d_Cu_collectLinear_110 : decode b_Cu_collectLinear 110 = .ok (.goto (-39), 3) := by decide +kernel
theorem d_Cu_collectLinear_113 : decode b_Cu_collectLinear 113 = .ok (.iinc 3 1, 3) := by decide +kernel
theorem d_Cu_collectLinear_116 : decode b_Cu_collectLinear 116 = .ok (.goto (-109), 3) := by decide +kernel
theorem d_Cu_collectLinear_119 : decode b_Cu_collectLinear 119 = .ok (.return_, 1) := by decide +kernel
abbrev ws_Cu_collectLinear : List Cond := .code y_Cu_collectLinear b_Cu_collectLinear 6 none :: TB
abbrev b_Cu_gatherNextDegree : ByteArray := prog_3_method_6_code
theorem d_Cu_gatherNextDegree_0 : decode b_Cu_gatherNextDegree 0 = .ok (.aload_n 0, 1) := by decide +kernel
theorem d_Cu_gatherNextDegree_1 : decode b_Cu_gatherNextDegree 1 = .ok (.getfield 9, 3) := by decide +kernel
theorem d_Cu_gatherNextDegree_4 : decode b_Cu_gatherNextDegree 4 = .ok (.aload_n 0, 1) := by decide +kernel
theorem d_Cu_gatherNextDegree_5 : decode b_Cu_gatherNextDegree 5 = .ok (.getfield 36, 3) := by decide +kernel
theorem d_Cu_gatherNextDegree_8 : decode b_Cu_gatherNextDegree 8 = .ok (.aload_n 1, 1) := by decide +kernel
theorem d_Cu_gatherNextDegree_9 : decode b_Cu_gatherNextDegree 9 = .ok (.invokevirtual 109, 3) := by decide +kernel
theorem d_Cu_gatherNextDegree_12 : decode b_Cu_gatherNextDegree 12 = .ok (.aload_n 0, 1) := by decide +kernel
theorem d_Cu_gatherNextDegree_13 : decode b_Cu_gatherNextDegree 13 = .ok (.getfield 51, 3) := by decide +kernel
theorem d_Cu_gatherNextDegree_16 : decode b_Cu_gatherNextDegree 16 = .ok (.aload_n 0, 1) := by decide +kernel
theorem d_Cu_gatherNextDegree_17 : decode b_Cu_gatherNextDegree 17 = .ok (.getfield 36, 3) := by decide +kernel
theorem d_Cu_gatherNextDegree_20 : decode b_Cu_gatherNextDegree 20 = .ok (.invokevirtual 66, 3) := by decide +kernel
theorem d_Cu_gatherNextDegree_23 : decode b_Cu_gatherNextDegree 23 = .ok (.aload_n 0, 1) := by decide +kernel
theorem d_Cu_gatherNextDegree_24 : decode b_Cu_gatherNextDegree 24 = .ok (.getfield 9, 3) := by decide +kernel
theorem d_Cu_gatherNextDegree_27 : decode b_Cu_gatherNextDegree 27 = .ok (.aload_n 0, 1) := by decide +kernel
theorem d_Cu_gatherNextDegree_28 : decode b_Cu_gatherNextDegree 28 = .ok (.getfield 51, 3) := by decide +kernel
theorem d_Cu_gatherNextDegree_31 : decode b_Cu_gatherNextDegree 31 = .ok (.aload_n 0, 1) := by decide +kernel
theorem d_Cu_gatherNextDegree_32 : decode b_Cu_gatherNextDegree 32 = .ok (.getfield 9, 3) := by decide +kernel
theorem d_Cu_gatherNextDegree_35 : decode b_Cu_gatherNextDegree 35 = .ok (.getfield 91, 3) := by decide +kernel
theorem d_Cu_gatherNextDegree_38 : decode b_Cu_gatherNextDegree 38 = .ok (.iconst 1, 1) := by decide +kernel
theorem d_Cu_gatherNextDegree_39 : decode b_Cu_gatherNextDegree 39 = .ok (.isub, 1) := by decide +kernel
theorem d_Cu_gatherNextDegree_40 : decode b_Cu_gatherNextDegree 40 = .ok (.iconst 0, 1) := by decide +kernel
theorem d_Cu_gatherNextDegree_41 : decode b_Cu_gatherNextDegree 41 = .ok (.aload_n 0, 1) := by decide +kernel
theorem d_Cu_gatherNextDegree_42 : decode b_Cu_gatherNextDegree 42 = .ok (.getfield 60, 3) := by decide +kernel
theorem d_Cu_gatherNextDegree_45 : decode b_Cu_gatherNextDegree 45 = .ok (.invokevirtual 113, 3) := by decide +kernel
theorem d_Cu_gatherNextDegree_48 : decode b_Cu_gatherNextDegree 48 = .ok (.aload_n 0, 1) := by decide +kernel
theorem d_Cu_gatherNextDegree_49 : decode b_Cu_gatherNextDegree 49 = .ok (.getfield 9, 3) := by decide +kernel
theorem d_Cu_gatherNextDegree_52 : decode b_Cu_gatherNextDegree 52 = .ok (.aload_n 0, 1) := by decide +kernel
theorem d_Cu_gatherNextDegree_53 : decode b_Cu_gatherNextDegree 53 = .ok (.getfield 39, 3) := by decide +kernel
theorem d_Cu_gatherNextDegree_56 : decode b_Cu_gatherNextDegree 56 = .ok (.aload_n 1, 1) := by decide +kernel
theorem d_Cu_gatherNextDegree_57 : decode b_Cu_gatherNextDegree 57 = .ok (.aload_n 0, 1) := by decide +kernel
theorem d_Cu_gatherNextDegree_58 : decode b_Cu_gatherNextDegree 58 = .ok (.getfield 51, 3) := by decide +kernel
theorem d_Cu_gatherNextDegree_61 : decode b_Cu_gatherNextDegree 61 = .ok (.invokevirtual 117, 3) := by decide +kernel
theorem d_Cu_gatherNextDegree_64 : decode b_Cu_gatherNextDegree 64 = .ok (.return_, 1) := by decide +kernel
abbrev ws_Cu_gatherNextDegree : List Cond := .code y_Cu_gatherNextDegree b_Cu_gatherNextDegree 2 none :: TB
abbrev b_Cu_split : ByteArray := prog_3_method_7_code
theorem d_Cu_split_0 : decode b_Cu_split 0 = .ok (.aload_n 0, 1) := by decide +kernel
theorem d_Cu_split_1 : decode b_Cu_split 1 = .ok (.getfield 28, 3) := by decide +kernel
theorem d_Cu_split_4 : decode b_Cu_split 4 = .ok (.istore_n 2, 1) := by decide +kernel
theorem d_Cu_split_5 : decode b_Cu_split 5 = .ok (.iload_n 2, 1) := by decide +kernel
theorem d_Cu_split_6 : decode b_Cu_split 6 = .ok (.aload_n 0, 1) := by decide +kernel
theorem d_Cu_split_7 : decode b_Cu_split 7 = .ok (.getfield 39, 3) := by decide +kernel
theorem d_Cu_split_10 : decode b_Cu_split 10 = .ok (.getfield 63, 3) := by decide +kernel
theorem d_Cu_split_13 : decode b_Cu_split 13 = .ok (.iload_n 1, 1) := by decide +kernel
theorem d_Cu_split_14 : decode b_Cu_split 14 = .ok (.idiv, 1) := by decide +kernel
theorem d_Cu_split_15 : decode b_Cu_split 15 = .ok (.iadd, 1) := by decide +kernel
theorem d_Cu_split_16 : decode b_Cu_split 16 = .ok (.istore_n 3, 1) := by decide +kernel
theorem d_Cu_split_17 : decode b_Cu_split 17 = .ok (.aload_n 0, 1) := by decide +kernel
theorem d_Cu_split_18 : decode b_Cu_split 18 = .ok (.aload_n 0, 1) := by decide +kernel
theorem d_Cu_split_19 : decode b_Cu_split 19 = .ok (.getfield 39, 3) := by decide +kernel
theorem d_Cu_split_22 : decode b_Cu_split 22 = .ok (.iconst 0, 1) := by decide +kernel
theorem d_Cu_split_23 : decode b_Cu_split 23 = .ok (.invokevirtual 84, 3) := by decide +kernel
theorem d_Cu_split_26 : decode b_Cu_split 26 = .ok (.aload_n 0, 1) := by decide +kernel
theorem d_Cu_split_27 : decode b_Cu_split 27 = .ok (.getfield 42, 3) := by decide +kernel
theorem d_Cu_split_30 : decode b_Cu_split 30 = .ok (.aload_n 0, 1) := by decide +kernel
theorem d_Cu_split_31 : decode b_Cu_split 31 = .ok (.getfield 54, 3) := by decide +kernel
theorem d_Cu_split_34 : decode b_Cu_split 34 = .ok (.invokevirtual 66, 3) := by decide +kernel
theorem d_Cu_split_37 : decode b_Cu_split 37 = .ok (.iconst 1, 1) := by decide +kernel
theorem d_Cu_split_38 : decode b_Cu_split 38 = .ok (.istore 4, 2) := by decide +kernel
theorem d_Cu_split_40 : decode b_Cu_split 40 = .ok (.iload 4, 2) := by decide +kernel
theorem d_Cu_split_42 : decode b_Cu_split 42 = .ok (.aload_n 0, 1) := by decide +kernel
theorem d_Cu_split_43 : decode b_Cu_split 43 = .ok (.getfield 39, 3) := by decide +kernel
theorem d_Cu_split_46 : decode b_Cu_split 46 = .ok (.getfield 63, 3) := by decide +kernel
theorem d_Cu_split_49 : decode b_Cu_split 49 = .ok (.if_icmp .ge 51, 3) := by decide +kernel
theorem d_Cu_split_52 : decode b_Cu_split 52 = .ok (.aload_n 0, 1) := by decide +kernel
theorem d_Cu_split_53 : decode b_Cu_split 53 = .ok (.getfield 28, 3) := by decide +kernel
theorem d_Cu_split_56 : decode b_Cu_split 56 = .ok (.iload_n 3, 1) := by decide +kernel
theorem d_Cu_split_57 : decode b_Cu_split 57 = .ok (.if_icmp .ge 43, 3) := by decide +kernel
theorem d_Cu_split_60 : decode b_Cu_split 60 = .ok (.aload_n 0, 1) := by decide +kernel
theorem d_Cu_split_61 : decode b_Cu_split 61 = .ok (.getfield 9, 3) := by decide +kernel
theorem d_Cu_split_64 : decode b_Cu_split 64 = .ok (.aload_n 0, 1) := by decide +kernel
theorem d_Cu_split_65 : decode b_Cu_split 65 = .ok (.getfield 42, 3) := by decide +kernel
theorem d_Cu_split_68 : decode b_Cu_split 68 = .ok (.aload_n 0, 1) := by decide +kernel
theorem d_Cu_split_69 : decode b_Cu_split 69 = .ok (.getfield 60, 3) := by decide +kernel
theorem d_Cu_split_72 : decode b_Cu_split 72 = .ok (.aload_n 0, 1) := by decide +kernel
theorem d_Cu_split_73 : decode b_Cu_split 73 = .ok (.getfield 42, 3) := by decide +kernel
theorem d_Cu_split_76 : decode b_Cu_split 76 = .ok (.aload_n 0, 1) := by decide +kernel
theorem d_Cu_split_77 : decode b_Cu_split 77 = .ok (.getfield 39, 3) := by decide +kernel
theorem d_Cu_split_80 : decode b_Cu_split 80 = .ok (.invokevirtual 121, 3) := by decide +kernel
theorem d_Cu_split_83 : decode b_Cu_split 83 = .ok (.aload_n 0, 1) := by decide +kernel
theorem d_Cu_split_84 : decode b_Cu_split 84 = .ok (.iload_n 1, 1) := by decide +kernel
theorem d_Cu_split_85 : decode b_Cu_split 85 = .ok (.invokevirtual 125, 3) := by decide +kernel
theorem d_Cu_split_88 : decode b_Cu_split 88 = .ok (.aload_n 0, 1) := by decide +kernel
theorem d_Cu_split_89 : decode b_Cu_split 89 = .ok (.iload_n 2, 1) := by decide +kernel
theorem d_Cu_split_90 : decode b_Cu_split 90 = .ok (.iload_n 1, 1) := by decide +kernel
theorem d_Cu_split_91 : decode b_Cu_split 91 = .ok (.invokevirtual 128, 3) := by decide +kernel
theorem d_Cu_split_94 : decode b_Cu_split 94 = .ok (.iinc 4 1, 3) := by decide +kernel
theorem d_Cu_split_97 : decode b_Cu_split 97 = .ok (.goto (-57), 3) := by decide +kernel
theorem d_Cu_split_100 : decode b_Cu_split 100 = .ok (.return_, 1) := by decide +kernel
abbrev ws_Cu_split : List Cond := .code y_Cu_split b_Cu_split 5 none :: TB
abbrev b_Cu_findTrace : ByteArray := prog_3_method_8_code
theorem d_Cu_findTrace_0 : decode b_Cu_findTrace 0 = .ok (.aload_n 0, 1) := by decide +kernel
theorem d_Cu_findTrace_1 : decode b_Cu_findTrace 1 = .ok (.getfield 51, 3) := by decide +kernel
theorem d_Cu_findTrace_4 : decode b_Cu_findTrace 4 = .ok (.aload_n 0, 1) := by decide +kernel
theorem d_Cu_findTrace_5 : decode b_Cu_findTrace 5 = .ok (.getfield 42, 3) := by decide +kernel
theorem d_Cu_findTrace_8 : decode b_Cu_findTrace 8 = .ok (.invokevirtual 66, 3) := by decide +kernel
theorem d_Cu_findTrace_11 : decode b_Cu_findTrace 11 = .ok (.aload_n 0, 1) := by decide +kernel
theorem d_Cu_findTrace_12 : decode b_Cu_findTrace 12 = .ok (.getfield 45, 3) := by decide +kernel
theorem d_Cu_findTrace_15 : decode b_Cu_findTrace 15 = .ok (.aload_n 0, 1) := by decide +kernel
theorem d_Cu_findTrace_16 : decode b_Cu_findTrace 16 = .ok (.getfield 42, 3) := by decide +kernel
theorem d_Cu_findTrace_19 : decode b_Cu_findTrace 19 = .ok (.invokevirtual 66, 3) := by decide +kernel
theorem d_Cu_findTrace_22 : decode b_Cu_findTrace 22 = .ok (.iconst 1, 1) := by decide +kernel
theorem d_Cu_findTrace_23 : decode b_Cu_findTrace 23 = .ok (.istore_n 2, 1) := by decide +kernel
theorem d_Cu_findTrace_24 : decode b_Cu_findTrace 24 = .ok (.iload_n 2, 1) := by decide +kernel
theorem d_Cu_findTrace_25 : decode b_Cu_findTrace 25 = .ok (.iload_n 1, 1) := by decide +kernel
theorem d_Cu_findTrace_26 : decode b_Cu_findTrace 26 = .ok (.if_icmp .ge 41, 3) := by decide +kernel
theorem d_Cu_findTrace_29 : decode b_Cu_findTrace 29 = .ok (.aload_n 0, 1) := by decide +kernel
theorem d_Cu_findTrace_30 : decode b_Cu_findTrace 30 = .ok (.getfield 9, 3) := by decide +kernel
theorem d_Cu_findTrace_33 : decode b_Cu_findTrace 33 = .ok (.aload_n 0, 1) := by decide +kernel
theorem d_Cu_findTrace_34 : decode b_Cu_findTrace 34 = .ok (.getfield 51, 3) := by decide +kernel
theorem d_Cu_findTrace_37 : decode b_Cu_findTrace 37 = .ok (.aload_n 0, 1) := by decide +kernel
theorem d_Cu_findTrace_38 : decode b_Cu_findTrace 38 = .ok (.getfield 39, 3) := by decide +kernel
theorem d_Cu_findTrace_41 : decode b_Cu_findTrace 41 = .ok (.invokevirtual 109, 3) := by decide +kernel
theorem d_Cu_findTrace_44 : decode b_Cu_findTrace 44 = .ok (.aload_n 0, 1) := by decide +kernel
theorem d_Cu_findTrace_45 : decode b_Cu_findTrace 45 = .ok (.getfield 9, 3) := by decide +kernel
theorem d_Cu_findTrace_48 : decode b_Cu_findTrace 48 = .ok (.aload_n 0, 1) := by decide +kernel
theorem d_Cu_findTrace_49 : decode b_Cu_findTrace 49 = .ok (.getfield 45, 3) := by decide +kernel
theorem d_Cu_findTrace_52 : decode b_Cu_findTrace 52 = .ok (.iconst 1, 1) := by decide +kernel
theorem d_Cu_findTrace_53 : decode b_Cu_findTrace 53 = .ok (.iconst 0, 1) := by decide +kernel
theorem d_Cu_findTrace_54 : decode b_Cu_findTrace 54 = .ok (.aload_n 0, 1) := by decide +kernel
theorem d_Cu_findTrace_55 : decode b_Cu_findTrace 55 = .ok (.getfield 51, 3) := by decide +kernel
theorem d_Cu_findTrace_58 : decode b_Cu_findTrace 58 = .ok (.invokevirtual 113, 3) := by decide +kernel
theorem d_Cu_findTrace_61 : decode b_Cu_findTrace 61 = .ok (.iinc 2 1, 3) := by decide +kernel
theorem d_Cu_findTrace_64 : decode b_Cu_findTrace 64 = .ok (.goto (-40), 3) := by decide +kernel
theorem d_Cu_findTrace_67 : decode b_Cu_findTrace 67 = .ok (.return_, 1) := by decide +kernel
abbrev ws_Cu_findTrace : List Cond := .code y_Cu_findTrace b_Cu_findTrace 3 none :: TB
abbrev b_Cu_splitByTrace : ByteArray := prog_3_method_9_code
theorem d_Cu_splitByTrace_0 : decode b_Cu_splitByTrace 0 = .ok (.aload_n 0, 1) := by decide +kernel
theorem d_Cu_splitByTrace_1 : decode b_Cu_splitByTrace 1 = .ok (.getfield 28, 3) := by decide +kernel
theorem d_Cu_splitByTrace_4 : decode b_Cu_splitByTrace 4 = .ok (.istore_n 3, 1) := by decide +kernel
theorem d_Cu_splitByTrace_5 : decode b_Cu_splitByTrace 5 = .ok (.iload_n 1, 1) := by decide +kernel
theorem d_Cu_splitByTrace_6 : decode b_Cu_splitByTrace 6 = .ok (.istore 4, 2) := by decide +kernel
theorem d_Cu_splitByTrace_8 : decode b_Cu_splitByTrace 8 = .ok (.iload 4, 2) := by decide +kernel
theorem d_Cu_splitByTrace_10 : decode b_Cu_splitByTrace 10 = .ok (.iload_n 3, 1) := by decide +kernel
theorem d_Cu_splitByTrace_11 : decode b_Cu_splitByTrace 11 = .ok (.if_icmp .ge 178, 3) := by decide +kernel
theorem d_Cu_splitByTrace_14 : decode b_Cu_splitByTrace 14 = .ok (.iconst 0, 1) := by decide +kernel
theorem d_Cu_splitByTrace_15 : decode b_Cu_splitByTrace 15 = .ok (.istore 5, 2) := by decide +kernel
theorem d_Cu_splitByTrace_17 : decode b_Cu_splitByTrace 17 = .ok (.iload 5, 2) := by decide +kernel
theorem d_Cu_splitByTrace_19 : decode b_Cu_splitByTrace 19 = .ok (.aload_n 0, 1) := by decide +kernel
theorem d_Cu_splitByTrace_20 : decode b_Cu_splitByTrace 20 = .ok (.getfield 9, 3) := by decide +kernel
theorem d_Cu_splitByTrace_23 : decode b_Cu_splitByTrace 23 = .ok (.getfield 91, 3) := by decide +kernel
theorem d_Cu_splitByTrace_26 : decode b_Cu_splitByTrace 26 = .ok (.if_icmp .ge 157, 3) := by decide +kernel
theorem d_Cu_splitByTrace_29 : decode b_Cu_splitByTrace 29 = .ok (.aload_n 0, 1) := by decide +kernel
theorem d_Cu_splitByTrace_30 : decode b_Cu_splitByTrace 30 = .ok (.getfield 17, 3) := by decide +kernel
theorem d_Cu_splitByTrace_33 : decode b_Cu_splitByTrace 33 = .ok (.iload 4, 2) := by decide +kernel
theorem d_Cu_splitByTrace_35 : decode b_Cu_splitByTrace 35 = .ok (.aaload, 1) := by decide +kernel
theorem d_Cu_splitByTrace_36 : decode b_Cu_splitByTrace 36 = .ok (.getfield 63, 3) := by decide +kernel
theorem d_Cu_splitByTrace_39 : decode b_Cu_splitByTrace 39 = .ok (.iload_n 2, 1) := by decide +kernel
theorem d_Cu_splitByTrace_40 : decode b_Cu_splitByTrace 40 = .ok (.if_icmp .le 143, 3) := by decide +kernel
theorem d_Cu_splitByTrace_43 : decode b_Cu_splitByTrace 43 = .ok (.aload_n 0, 1) := by decide +kernel
theorem d_Cu_splitByTrace_44 : decode b_Cu_splitByTrace 44 = .ok (.getfield 51, 3) := by decide +kernel
theorem d_Cu_splitByTrace_47 : decode b_Cu_splitByTrace 47 = .ok (.aload_n 0, 1) := by decide +kernel
theorem d_Cu_splitByTrace_48 : decode b_Cu_splitByTrace 48 = .ok (.getfield 45, 3) := by decide +kernel
theorem d_Cu_splitByTrace_51 : decode b_Cu_splitByTrace 51 = .ok (.invokevirtual 66, 3) := by decide +kernel
theorem d_Cu_splitByTrace_54 : decode b_Cu_splitByTrace 54 = .ok (.aload_n 0, 1) := by decide +kernel
theorem d_Cu_splitByTrace_55 : decode b_Cu_splitByTrace 55 = .ok (.getfield 9, 3) := by decide +kernel
theorem d_Cu_splitByTrace_58 : decode b_Cu_splitByTrace 58 = .ok (.aload_n 0, 1) := by decide +kernel
theorem d_Cu_splitByTrace_59 : decode b_Cu_splitByTrace 59 = .ok (.getfield 51, 3) := by decide +kernel
theorem d_Cu_splitByTrace_62 : decode b_Cu_splitByTrace 62 = .ok (.aload_n 0, 1) := by decide +kernel
theorem d_Cu_splitByTrace_63 : decode b_Cu_splitByTrace 63 = .ok (.getfield 9, 3) := by decide +kernel
theorem d_Cu_splitByTrace_66 : decode b_Cu_splitByTrace 66 = .ok (.getfield 91, 3) := by decide +kernel
theorem d_Cu_splitByTrace_69 : decode b_Cu_splitByTrace 69 = .ok (.iload 5, 2) := by decide +kernel
theorem d_Cu_splitByTrace_71 : decode b_Cu_splitByTrace 71 = .ok (.isub, 1) := by decide +kernel
theorem d_Cu_splitByTrace_72 : decode b_Cu_splitByTrace 72 = .ok (.iconst 0, 1) := by decide +kernel
theorem d_Cu_splitByTrace_73 : decode b_Cu_splitByTrace 73 = .ok (.aload_n 0, 1) := by decide +kernel
theorem d_Cu_splitByTrace_74 : decode b_Cu_splitByTrace 74 = .ok (.getfield 54, 3) := by decide +kernel
theorem d_Cu_splitByTrace_77 : decode b_Cu_splitByTrace 77 = .ok (.invokevirtual 113, 3) := by decide +kernel
theorem d_Cu_splitByTrace_80 : decode b_Cu_splitByTrace 80 = .ok (.aload_n 0, 1) := by decide +kernel
theorem d_Cu_splitByTrace_81 : decode b_Cu_splitByTrace 81 = .ok (.getfield 9, 3) := by decide +kernel
theorem d_Cu_splitByTrace_84 : decode b_Cu_splitByTrace 84 = .ok (.aload_n 0, 1) := by decide +kernel
theorem d_Cu_splitByTrace_85 : decode b_Cu_splitByTrace 85 = .ok (.getfield 48, 3) := by decide +kernel
theorem d_Cu_splitByTrace_88 : decode b_Cu_splitByTrace 88 = .ok (.aload_n 0, 1) := by decide +kernel
theorem d_Cu_splitByTrace_89 : decode b_Cu_splitByTrace 89 = .ok (.getfield 17, 3) := by decide +kernel
theorem d_Cu_splitByTrace_92 : decode b_Cu_splitByTrace 92 = .ok (.iload 4, 2) := by decide +kernel
theorem d_Cu_splitByTrace_94 : decode b_Cu_splitByTrace 94 = .ok (.aaload, 1) := by decide +kernel
theorem d_Cu_splitByTrace_95 : decode b_Cu_splitByTrace 95 = .ok (.aload_n 0, 1) := by decide +kernel
theorem d_Cu_splitByTrace_96 : decode b_Cu_splitByTrace 96 = .ok (.getfield 51, 3) := by decide +kernel
theorem d_Cu_splitByTrace_99 : decode b_Cu_splitByTrace 99 = .ok (.invokevirtual 117, 3) := by decide +kernel
theorem d_Cu_splitByTrace_102 : decode b_Cu_splitByTrace 102 = .ok (.aload_n 0, 1) := by decide +kernel
theorem d_Cu_splitByTrace_103 : decode b_Cu_splitByTrace 103 = .ok (.getfield 48, 3) := by decide +kernel
theorem d_Cu_splitByTrace_106 : decode b_Cu_splitByTrace 106 = .ok (.getfield 63, 3) := by decide +kernel
theorem d_Cu_splitByTrace_109 : decode b_Cu_splitByTrace 109 = .ok (.ifCond .le 68, 3) := by decide +kernel
theorem d_Cu_splitByTrace_112 : decode b_Cu_splitByTrace 112 = .ok (.aload_n 0, 1) := by decide +kernel
theorem d_Cu_splitByTrace_113 : decode b_Cu_splitByTrace 113 = .ok (.getfield 48, 3) := by decide +kernel
theorem d_Cu_splitByTrace_116 : decode b_Cu_splitByTrace 116 = .ok (.getfield 63, 3) := by decide +kernel
theorem d_Cu_splitByTrace_119 : decode b_Cu_splitByTrace 119 = .ok (.aload_n 0, 1) := by decide +kernel
theorem d_Cu_splitByTrace_120 : decode b_Cu_splitByTrace 120 = .ok (.getfield 17, 3) := by decide +kernel
theorem d_Cu_splitByTrace_123 : decode b_Cu_splitByTrace 123 = .ok (.iload 4, 2) := by decide +kernel
theorem d_Cu_splitByTrace_125 : decode b_Cu_splitByTrace 125 = .ok (.aaload, 1) := by decide +kernel
theorem d_Cu_splitByTrace_126 : decode b_Cu_splitByTrace 126 = .ok (.getfield 63, 3) := by decide +kernel
theorem d_Cu_splitByTrace_129 : decode b_Cu_splitByTrace 129 = .ok (.if_icmp .ge 48, 3) := by decide +kernel
theorem d_Cu_splitByTrace_132 : decode b_Cu_splitByTrace 132 = .ok (.aload_n 0, 1) := by decide +kernel
theorem d_Cu_splitByTrace_133 : decode b_Cu_splitByTrace 133 = .ok (.getfield 51, 3) := by decide +kernel
theorem d_Cu_splitByTrace_136 : decode b_Cu_splitByTrace 136 = .ok (.aload_n 0, 1) := by decide +kernel
theorem d_Cu_splitByTrace_137 : decode b_Cu_splitByTrace 137 = .ok (.getfield 17, 3) := by decide +kernel
theorem d_Cu_splitByTrace_140 : decode b_Cu_splitByTrace 140 = .ok (.iload 4, 2) := by decide +kernel
theorem d_Cu_splitByTrace_142 : decode b_Cu_splitByTrace 142 = .ok (.aaload, 1) := by decide +kernel
theorem d_Cu_splitByTrace_143 : decode b_Cu_splitByTrace 143 = .ok (.invokevirtual 66, 3) := by decide +kernel
theorem d_Cu_splitByTrace_146 : decode b_Cu_splitByTrace 146 = .ok (.aload_n 0, 1) := by decide +kernel
theorem d_Cu_splitByTrace_147 : decode b_Cu_splitByTrace 147 = .ok (.getfield 9, 3) := by decide +kernel
theorem d_Cu_splitByTrace_150 : decode b_Cu_splitByTrace 150 = .ok (.aload_n 0, 1) := by decide +kernel
theorem d_Cu_splitByTrace_151 : decode b_Cu_splitByTrace 151 = .ok (.getfield 51, 3) := by decide +kernel
theorem d_Cu_splitByTrace_154 : decode b_Cu_splitByTrace 154 = .ok (.aload_n 0, 1) := by decide +kernel
theorem d_Cu_splitByTrace_155 : decode b_Cu_splitByTrace 155 = .ok (.getfield 48, 3) := by decide +kernel
theorem d_Cu_splitByTrace_158 : decode b_Cu_splitByTrace 158 = .ok (.aload_n 0, 1) := by decide +kernel
theorem d_Cu_splitByTrace_159 : decode b_Cu_splitByTrace 159 = .ok (.getfield 17, 3) := by decide +kernel
theorem d_Cu_splitByTrace_162 : decode b_Cu_splitByTrace 162 = .ok (.iload 4, 2) := by decide +kernel
theorem d_Cu_splitByTrace_164 : decode b_Cu_splitByTrace 164 = .ok (.aaload, 1) := by decide +kernel
theorem d_Cu_splitByTrace_165 : decode b_Cu_splitByTrace 165 = .ok (.invokevirtual 131, 3) := by decide +kernel
theorem d_Cu_splitByTrace_168 : decode b_Cu_splitByTrace 168 = .ok (.aload_n 0, 1) := by decide +kernel
theorem d_Cu_splitByTrace_169 : decode b_Cu_splitByTrace 169 = .ok (.aload_n 0, 1) := by decide +kernel
theorem d_Cu_splitByTrace_170 : decode b_Cu_splitByTrace 170 = .ok (.getfield 48, 3) := by decide +kernel
theorem d_Cu_splitByTrace_173 : decode b_Cu_splitByTrace 173 = .ok (.iconst 0, 1) := by decide +kernel
theorem d_Cu_splitByTrace_174 : decode b_Cu_splitByTrace 174 = .ok (.invokevirtual 84, 3) := by decide +kernel
theorem d_Cu_splitByTrace_177 : decode b_Cu_splitByTrace 177 = .ok (.iinc 5 1, 3) := by decide +kernel
theorem d_Cu_splitByTrace_180 : decode b_Cu_splitByTrace 180 = .ok (.goto (-163), 3) := by decide +kernel
theorem d_Cu_splitByTrace_183 : decode b_Cu_splitByTrace 183 = .ok (.iinc 4 1, 3) := by decide +kernel
theorem d_Cu_splitByTrace_186 : decode b_Cu_splitByTrace 186 = .ok (.goto (-178), 3) := by decide +kernel
theorem d_Cu_splitByTrace_189 : decode b_Cu_splitByTrace 189 = .ok (.return_, 1) := by decide +kernel
abbrev ws_Cu_splitByTrace : List Cond := .code y_Cu_splitByTrace b_Cu_splitByTrace 6 none :: TB
abbrev b_Cu_append : ByteArray := prog_3_method_10_code
theorem d_Cu_append_0 : decode b_Cu_append 0 = .ok (.aload_n 0, 1) := by decide +kernel
theorem d_Cu_append_1 : decode b_Cu_append 1 = .ok (.getfield 28, 3) := by decide +kernel
theorem d_Cu_append_4 : decode b_Cu_append 4 = .ok (.aload_n 0, 1) := by decide +kernel
theorem d_Cu_append_5 : decode b_Cu_append 5 = .ok (.getfield 17, 3) := by decide +kernel
theorem d_Cu_append_8 : decode b_Cu_append 8 = .ok (.arraylength, 1) := by decide +kernel
theorem d_Cu_append_9 : decode b_Cu_append 9 = .ok (.if_icmp .ge 36, 3) := by decide +kernel
theorem d_Cu_append_12 : decode b_Cu_append 12 = .ok (.aload_n 0, 1) := by decide +kernel
theorem d_Cu_append_13 : decode b_Cu_append 13 = .ok (.getfield 17, 3) := by decide +kernel
theorem d_Cu_append_16 : decode b_Cu_append 16 = .ok (.aload_n 0, 1) := by decide +kernel
theorem d_Cu_append_17 : decode b_Cu_append 17 = .ok (.getfield 28, 3) := by decide +kernel
theorem d_Cu_append_20 : decode b_Cu_append 20 = .ok (.aaload, 1) := by decide +kernel
theorem d_Cu_append_21 : decode b_Cu_append 21 = .ok (.aload_n 1, 1) := by decide +kernel
theorem d_Cu_append_22 : decode b_Cu_append 22 = .ok (.invokevirtual 66, 3) := by decide +kernel
theorem d_Cu_append_25 : decode b_Cu_append 25 = .ok (.aload_n 0, 1) := by decide +kernel
theorem d_Cu_append_26 : decode b_Cu_append 26 = .ok (.getfield 21, 3) := by decide +kernel
theorem d_Cu_append_29 : decode b_Cu_append 29 = .ok (.aload_n 0, 1) := by decide +kernel
theorem d_Cu_append_30 : decode b_Cu_append 30 = .ok (.getfield 28, 3) := by decide +kernel
theorem d_Cu_append_33 : decode b_Cu_append 33 = .ok (.iload_n 2, 1) := by decide +kernel
theorem d_Cu_append_34 : decode b_Cu_append 34 = .ok (.iastore, 1) := by decide +kernel
theorem d_Cu_append_35 : decode b_Cu_append 35 = .ok (.aload_n 0, 1) := by decide +kernel
theorem d_Cu_append_36 : decode b_Cu_append 36 = .ok (.dup, 1) := by decide +kernel
theorem d_Cu_append_37 : decode b_Cu_append 37 = .ok (.getfield 28, 3) := by decide +kernel
theorem d_Cu_append_40 : decode b_Cu_append 40 = .ok (.iconst 1, 1) := by decide +kernel
theorem d_Cu_append_41 : decode b_Cu_append 41 = .ok (.iadd, 1) := by decide +kernel
theorem d_Cu_append_42 : decode b_Cu_append 42 = .ok (.putfield 28, 3) := by decide +kernel
theorem d_Cu_append_45 : decode b_Cu_append 45 = .ok (.return_, 1) := by decide +kernel
abbrev ws_Cu_append : List Cond := .code y_Cu_append b_Cu_append 3 none :: TB
abbrev b_Cu_takeOutFactors : ByteArray := prog_3_method_11_code
theorem d_Cu_takeOutFactors_0 : decode b_Cu_takeOutFactors 0 = .ok (.iload_n 1, 1) := by decide +kernel
theorem d_Cu_takeOutFactors_1 : decode b_Cu_takeOutFactors 1 = .ok (.istore_n 2, 1) := by decide +kernel
theorem d_Cu_takeOutFactors_2 : decode b_Cu_takeOutFactors 2 = .ok (.iload_n 2, 1) := by decide +kernel
theorem d_Cu_takeOutFactors_3 : decode b_Cu_takeOutFactors 3 = .ok (.aload_n 0, 1) := by decide +kernel
theorem d_Cu_takeOutFactors_4 : decode b_Cu_takeOutFactors 4 = .ok (.getfield 28, 3) := by decide +kernel
theorem d_Cu_takeOutFactors_7 : decode b_Cu_takeOutFactors 7 = .ok (.if_icmp .ge 32, 3) := by decide +kernel
theorem d_Cu_takeOutFactors_10 : decode b_Cu_takeOutFactors 10 = .ok (.aload_n 0, 1) := by decide +kernel
theorem d_Cu_takeOutFactors_11 : decode b_Cu_takeOutFactors 11 = .ok (.getfield 21, 3) := by decide +kernel
theorem d_Cu_takeOutFactors_14 : decode b_Cu_takeOutFactors 14 = .ok (.iload_n 2, 1) := by decide +kernel
theorem d_Cu_takeOutFactors_15 : decode b_Cu_takeOutFactors 15 = .ok (.aload_n 0, 1) := by decide +kernel
theorem d_Cu_takeOutFactors_16 : decode b_Cu_takeOutFactors 16 = .ok (.getfield 9, 3) := by decide +kernel
theorem d_Cu_takeOutFactors_19 : decode b_Cu_takeOutFactors 19 = .ok (.aload_n 0, 1) := by decide +kernel
theorem d_Cu_takeOutFactors_20 : decode b_Cu_takeOutFactors 20 = .ok (.getfield 32, 3) := by decide +kernel
theorem d_Cu_takeOutFactors_23 : decode b_Cu_takeOutFactors 23 = .ok (.aload_n 0, 1) := by decide +kernel
theorem d_Cu_takeOutFactors_24 : decode b_Cu_takeOutFactors 24 = .ok (.getfield 17, 3) := by decide +kernel
theorem d_Cu_takeOutFactors_27 : decode b_Cu_takeOutFactors 27 = .ok (.iload_n 2, 1) := by decide +kernel
theorem d_Cu_takeOutFactors_28 : decode b_Cu_takeOutFactors 28 = .ok (.aaload, 1) := by decide +kernel
theorem d_Cu_takeOutFactors_29 : decode b_Cu_takeOutFactors 29 = .ok (.invokevirtual 98, 3) := by decide +kernel
theorem d_Cu_takeOutFactors_32 : decode b_Cu_takeOutFactors 32 = .ok (.iastore, 1) := by decide +kernel
theorem d_Cu_takeOutFactors_33 : decode b_Cu_takeOutFactors 33 = .ok (.iinc 2 1, 3) := by decide +kernel
theorem d_Cu_takeOutFactors_36 : decode b_Cu_takeOutFactors 36 = .ok (.goto (-34), 3) := by decide +kernel
theorem d_Cu_takeOutFactors_39 : decode b_Cu_takeOutFactors 39 = .ok (.return_, 1) := by decide +kernel
abbrev ws_Cu_takeOutFactors : List Cond := .code y_Cu_takeOutFactors b_Cu_takeOutFactors 3 none :: TB
abbrev b_Cu_sort : ByteArray := prog_3_method_12_code
theorem d_Cu_sort_0 : decode b_Cu_sort 0 = .ok (.iconst 1, 1) := by decide +kernel
theorem d_Cu_sort_1 : decode b_Cu_sort 1 = .ok (.istore_n 1, 1) := by decide +kernel
theorem d_Cu_sort_2 : decode b_Cu_sort 2 = .ok (.iload_n 1, 1) := by decide +kernel
theorem d_Cu_sort_3 : decode b_Cu_sort 3 = .ok (.aload_n 0, 1) := by decide +kernel
theorem d_Cu_sort_4 : decode b_Cu_sort 4 = .ok (.getfield 28, 3) := by decide +kernel
theorem d_Cu_sort_7 : decode b_Cu_sort 7 = .ok (.if_icmp .ge 49, 3) := by decide +kernel
theorem d_Cu_sort_10 : decode b_Cu_sort 10 = .ok (.iload_n 1, 1) := by decide +kernel
theorem d_Cu_sort_11 : decode b_Cu_sort 11 = .ok (.istore_n 2, 1) := by decide +kernel
theorem d_Cu_sort_12 : decode b_Cu_sort 12 = .ok (.iload_n 2, 1) := by decide +kernel
theorem d_Cu_sort_13 : decode b_Cu_sort 13 = .ok (.ifCond .le 37, 3) := by decide +kernel
theorem d_Cu_sort_16 : decode b_Cu_sort 16 = .ok (.aload_n 0, 1) := by decide +kernel
theorem d_Cu_sort_17 : decode b_Cu_sort 17 = .ok (.getfield 17, 3) := by decide +kernel
theorem d_Cu_sort_20 : decode b_Cu_sort 20 = .ok (.iload_n 2, 1) := by decide +kernel
theorem d_Cu_sort_21 : decode b_Cu_sort 21 = .ok (.aaload, 1) := by decide +kernel
theorem d_Cu_sort_22 : decode b_Cu_sort 22 = .ok (.aload_n 0, 1) := by decide +kernel
theorem d_Cu_sort_23 : decode b_Cu_sort 23 = .ok (.getfield 17, 3) := by decide +kernel
theorem d_Cu_sort_26 : decode b_Cu_sort 26 = .ok (.iload_n 2, 1) := by decide +kernel
theorem d_Cu_sort_27 : decode b_Cu_sort 27 = .ok (.iconst 1, 1) := by decide +kernel
theorem d_Cu_sort_28 : decode b_Cu_sort 28 = .ok (.isub, 1) := by decide +kernel
theorem d_Cu_sort_29 : decode b_Cu_sort 29 = .ok (.aaload, 1) := by decide +kernel
theorem d_Cu_sort_30 : decode b_Cu_sort 30 = .ok (.invokevirtual 134, 3) := by decide +kernel
theorem d_Cu_sort_33 : decode b_Cu_sort 33 = .ok (.ifCond .eq 17, 3) := by decide +kernel
theorem d_Cu_sort_36 : decode b_Cu_sort 36 = .ok (.aload_n 0, 1) := by decide +kernel
theorem d_Cu_sort_37 : decode b_Cu_sort 37 = .ok (.iload_n 2, 1) := by decide +kernel
theorem d_Cu_sort_38 : decode b_Cu_sort 38 = .ok (.iload_n 2, 1) := by decide +kernel
theorem d_Cu_sort_39 : decode b_Cu_sort 39 = .ok (.iconst 1, 1) := by decide +kernel
theorem d_Cu_sort_40 : decode b_Cu_sort 40 = .ok (.isub, 1) := by decide +kernel
theorem d_Cu_sort_41 : decode b_Cu_sort 41 = .ok (.invokevirtual 138, 3) := by decide +kernel
theorem d_Cu_sort_44 : decode b_Cu_sort 44 = .ok (.iinc 2 (-1), 3) := by decide +kernel
theorem d_Cu_sort_47 : decode b_Cu_sort 47 = .ok (.goto (-35), 3) := by decide +kernel
theorem d_Cu_sort_50 : decode b_Cu_sort 50 = .ok (.iinc 1 1, 3) := by decide +kernel
theorem d_Cu_sort_53 : decode b_Cu_sort 53 = .ok (.goto (-51), 3) := by decide +kernel
theorem d_Cu_sort_56 : decode b_Cu_sort 56 = .ok (.return_, 1) := by decide +kernel
abbrev ws_Cu_sort : List Cond := .code y_Cu_sort b_Cu_sort 3 none :: TB
abbrev b_Cu_swap : ByteArray := prog_3_method_13_code
theorem d_Cu_swap_0 : decode b_Cu_swap 0 = .ok (.aload_n 0, 1) := by decide +kernel
theorem d_Cu_swap_1 : decode b_Cu_swap 1 = .ok (.getfield 17, 3) := by decide +kernel
theorem d_Cu_swap_4 : decode b_Cu_swap 4 = .ok (.iload_n 1, 1) := by decide +kernel
theorem d_Cu_swap_5 : decode b_Cu_swap 5 = .ok (.aaload, 1) := by decide +kernel
theorem d_Cu_swap_6 : decode b_Cu_swap 6 = .ok (.astore_n 3, 1) := by decide +kernel
theorem d_Cu_swap_7 : decode b_Cu_swap 7 = .ok (.aload_n 0, 1) := by decide +kernel
theorem d_Cu_swap_8 : decode b_Cu_swap 8 = .ok (.getfield 17, 3) := by decide +kernel
theorem d_Cu_swap_11 : decode b_Cu_swap 11 = .ok (.iload_n 1, 1) := by decide +kernel
theorem d_Cu_swap_12 : decode b_Cu_swap 12 = .ok (.aload_n 0, 1) := by decide +kernel
theorem d_Cu_swap_13 : decode b_Cu_swap 13 = .ok (.getfield 17, 3) := by decide +kernel
theorem d_Cu_swap_16 : decode b_Cu_swap 16 = .ok (.iload_n 2, 1) := by decide +kernel
theorem d_Cu_swap_17 : decode b_Cu_swap 17 = .ok (.aaload, 1) := by decide +kernel
theorem d_Cu_swap_18 : decode b_Cu_swap 18 = .ok (.aastore, 1) := by decide +kernel
theorem d_Cu_swap_19 : decode b_Cu_swap 19 = .ok (.aload_n 0, 1) := by decide +kernel
theorem d_Cu_swap_20 : decode b_Cu_swap 20 = .ok (.getfield 17, 3) := by decide +kernel
theorem d_Cu_swap_23 : decode b_Cu_swap 23 = .ok (.iload_n 2, 1) := by decide +kernel
theorem d_Cu_swap_24 : decode b_Cu_swap 24 = .ok (.aload_n 3, 1) := by decide +kernel
theorem d_Cu_swap_25 : decode b_Cu_swap 25 = .ok (.aastore, 1) := by decide +kernel
theorem d_Cu_swap_26 : decode b_Cu_swap 26 = .ok (.aload_n 0, 1) := by decide +kernel
theorem d_Cu_swap_27 : decode b_Cu_swap 27 = .ok (.getfield 21, 3) := by decide +kernel
theorem d_Cu_swap_30 : decode b_Cu_swap 30 = .ok (.iload_n 1, 1) := by decide +kernel
theorem d_Cu_swap_31 : decode b_Cu_swap 31 = .ok (.iaload, 1) := by decide +kernel
theorem d_Cu_swap_32 : decode b_Cu_swap 32 = .ok (.istore 4, 2) := by decide +kernel
theorem d_Cu_swap_34 : decode b_Cu_swap 34 = .ok (.aload_n 0, 1) := by decide +kernel
theorem d_Cu_swap_35 : decode b_Cu_swap 35 = .ok (.getfield 21, 3) := by decide +kernel
theorem d_Cu_swap_38 : decode b_Cu_swap 38 = .ok (.iload_n 1, 1) := by decide +kernel
theorem d_Cu_swap_39 : decode b_Cu_swap 39 = .ok (.aload_n 0, 1) := by decide +kernel
theorem d_Cu_swap_40 : decode b_Cu_swap 40 = .ok (.getfield 21, 3) := by decide +kernel
theorem d_Cu_swap_43 : decode b_Cu_swap 43 = .ok (.iload_n 2, 1) := by decide +kernel
theorem d_Cu_swap_44 : decode b_Cu_swap 44 = .ok (.iaload, 1) := by decide +kernel
theorem d_Cu_swap_45 : decode b_Cu_swap 45 = .ok (.iastore, 1) := by decide +kernel
theorem d_Cu_swap_46 : decode b_Cu_swap 46 = .ok (.aload_n 0, 1) := by decide +kernel
theorem d_Cu_swap_47 : decode b_Cu_swap 47 = .ok (.getfield 21, 3) := by decide +kernel
theorem d_Cu_swap_50 : decode b_Cu_swap 50 = .ok (.iload_n 2, 1) := by decide +kernel
theorem d_Cu_swap_51 : decode b_Cu_swap 51 = .ok (.iload 4, 2) := by decide +kernel
theorem d_Cu_swap_53 : decode b_Cu_swap 53 = .ok (.iastore, 1) := by decide +kernel
theorem d_Cu_swap_54 : decode b_Cu_swap 54 = .ok (.return_, 1) := by decide +kernel
abbrev ws_Cu_swap : List Cond := .code y_Cu_swap b_Cu_swap 5 none :: TB
end
section
/-! longs -/
def lI (z : Int) : Int64 := Int64.ofInt z
abbrev lrg (z : Int) : Prop := -9223372036854775808 ≤ z ∧ z < 9223372036854775808
theorem lI_toInt {z : Int} (h : lrg z) : (lI z).toInt = z := Int64.toInt_ofInt_of_le (by have := h.1; omega) (by have := h.2; omega)
theorem lI_add (a b : Int) : lI a + lI b = lI (a + b) := (Int64.ofInt_add a b).symm
theorem lI_mul (a b : Int) : lI a * lI b = lI (a * b) := (Int64.ofInt_mul a b).symm
theorem lI_eq {a b : Int} (ha : lrg a) (hb : lrg b) : lI a = lI b ↔ a = b := by
  constructor
  · intro h
    have := congrArg Int64.toInt h
    rwa [lI_toInt ha, lI_toInt hb] at this
  · intro h; rw [h]
theorem iI_l {a : Int} (h : rg a) : (iI a).toInt64 = lI a := by
  apply Int64.toInt_inj.mp
  rw [Int32.toInt_toInt64, iI_toInt h, lI_toInt (by omega)]
def lcI (a b : Int) : Int := if b < a then 1 else if a = b then 0 else -1
theorem lcI_rg (a b : Int) : rg (lcI a b) := by unfold lcI; split; decide; split <;> decide
theorem lcI_0 {a b : Int} : lcI a b = 0 ↔ a = b := by unfold lcI; split; omega; split <;> omega
theorem lg_lI {a b : Int} (ha : lrg a) (hb : lrg b) : lg_cmp (lI a) (lI b) = iI (lcI a b) := by
  have e1 : lI b < lI a ↔ b < a := by rw [Int64.lt_iff_toInt_lt, lI_toInt ha, lI_toInt hb]
  unfold lg_cmp lcI
  by_cases h : b < a
  · rw [if_pos (e1.mpr h), if_pos h]; rfl
  · rw [if_neg (fun g => h (e1.mp g)), if_neg h]
    by_cases h2 : a = b
    · rw [if_pos ((lI_eq ha hb).mpr h2), if_pos h2]; rfl
    · rw [if_neg (fun g => h2 ((lI_eq ha hb).mp g)), if_neg h2]; rfl
def aL (cs : Nat → ClassId) (n : Nat) (F : Nat → Int) : va_E := .inl (cs 1, n, .inr (.inl (fun j => lI (F j))))
theorem upd_lA (F : Nat → Int) (k : Nat) (v : Int) : vp_updL (fun j => lI (F j)) k (lI v) = fun j => lI (va_up F k v j) := by
  funext j
  by_cases h : j = k
  · subst h; simp [vp_updL, va_up]
  · simp [vp_updL, va_up, h]
def Cl (l : Launch) (y : MethodName) (ws : List Cond) (rm : Room) (D : va_G) (cs : Nat → ClassId) (A : Nat → Prop) (ad : Nat → Nat) (T : Nat) (av : List Value) (C : Nat → va_E) (post : Int64 → (Nat → va_E) → Prop) : Prop :=
  Met l y ws rm (va_Pc av (PW D cs A ad T C)) (va_Ql post (QW D cs ad T) A) 0 0 A
section LB
variable {l : Launch} {D : va_G} {cs : Nat → ClassId} {A : Nat → Prop} {ad : Nat → Nat} {T : Nat} {C : Nat → va_E}
theorem w_bodyL {y : MethodName} {bytes : ByteArray} {maxL : Nat} {ret : Option FieldType} {rm : Room} {av : List Value} {post : Int64 → (Nat → va_E) → Prop} (hy : plainName y.cls = true) (hln : (lg_sl av).length ≤ maxL)
    (body : ∀ (p : Program) (e : Env) (s : State) (m : MethodId) (below : List Frame) (meth : Method) (c : Code), Cx p s m av.toArray c bytes y.cls → meth.sig.returnType = ret → meth.locks = false → c.maxLocals = maxL → Wd D cs A ad T s C s.heap [] → ∀ ls : Array Slot, lv_has ls maxL (lv_args 0 av) →
      W p l e rm s m av.toArray below meth c s.heap [] 0 0 (MQ below (va_Ql post (QW D cs ad T) A) av.toArray s 0 0 A) (F0 m 0 ls [])) : Cl l y (Cond.code y bytes maxL ret :: TB) rm D cs A ad T av C post := by
  refine Met.ofW (cc := bytes) (maxL := maxL) (ret := ret) hy rfl ?_
  intro p e s m args below meth c s₁ B hml hv
  obtain ⟨rfl, hK, hd, hA, hP⟩ := hv
  have hl := lv_entry av (n := maxL) hln
  rw [lg_entry_eq]
  exact body p e s m below meth c ⟨B.exec, B.bytes, findClass_of_methodNamed B.named, fun w hw => atoms_spec (ws := Cond.code y bytes maxL ret :: TB) B.pre w (List.mem_cons_of_mem _ hw)⟩ B.returns B.notSynchronized hml ⟨hK, hd, hA, hP, va_S.rf⟩ _ hl
end LB
section LR
variable {p : Program} {l : Launch} {e : Env} {R : Room} {s : State} {m : MethodId} {args : Array Value} {below : List Frame} {meth : Method} {c : Code} {H : Heap} {locs : List Loc} {cells slots : Nat} {Q : State → Prop} {D : va_G} {cs : Nat → ClassId} {A : Nat → Prop} {ad : Nat → Nat} {T : Nat}
variable {cc : ByteArray} {own : String} {pc : Nat} {ls : Array Slot} {rest st : List Value} {C : Nat → va_E}
theorem w_lret {post : Int64 → (Nat → va_E) → Prop} {v : Int64} (X : Cx p s m args c cc own) (hr : meth.sig.returnType = some .long) (hlk : meth.locks = false) (w : Wd D cs A ad T s C H locs) (hp : post v C) (hdg : decode cc pc = .ok (.lreturn, 1)) : W p l e R s m args below meth c H locs 0 0 (MQ below (va_Ql post (QW D cs ad T) A) args s 0 0 A) (F0 m pc ls [.long v]) :=
  W.lret X.1 X.2.1 hr (fun t ht hW => ⟨⟨v, C, rfl, hp, va_K.moved hW.alike w.1, by rw [ht]; exact w.2.2.2.1⟩, w.2.2.2.2.F ht⟩) w.2.2.2.2.2.2 hdg hlk
theorem w_cVl {y : MethodName} {bytes : ByteArray} {n maxL nL index i ci N : Nat} {ret : Option FieldType} {rm : Room} {As : List Value} {post : Int64 → (Nat → va_E) → Prop} {Cn : String} {Tn : u_T} {fs : List Value}
    (X : Cx p s m args c cc own) (w : Wd D cs A ad T s C H locs) (hml : c.maxLocals = nL) (hls : ls.size = nL) (hM : Cl l y (Cond.code y bytes maxL ret :: TB) rm D cs A ad T (.ref (ad i) :: As) C post)
    (hi : i < T) (hC : C i = .inr (ci, fs)) (hc : classes[ci]? = some (Cn, Tn, N)) (k1 : Cond.methodLink own index y ∈ TB) (k2 : Cond.instanceMethod y ∈ TB) (k3 : Cond.selects Cn y y ∈ TB) (k4 : Cond.initialized Cn ∈ TB) (k5 : Cond.code y bytes maxL ret ∈ TB)
    (hd : y.cls = Cn ∧ y.cls ≠ "java/lang/invoke/MethodHandle" ∧ y.cls ≠ "java/lang/invoke/VarHandle" ∧ (parseMethodDescriptor y.desc).map (fun d => d.parameters.length) = some n) (hn : As.length = n) (hR : rm.frames + 1 ≤ R.frames ∧ 8 + (maxL + 11) + rm.locals ≤ R.locals) (hrc : rm.cells = 0 ∧ rm.slots = 0) (hcl : cells ≤ R.cells ∧ slots ≤ R.slots)
    (hst : st = As.reverse ++ .ref (ad i) :: rest) (hW : (rest.map fun v => v.category).sum ≤ 8) (hdg : decode cc pc = .ok (.invokevirtual index, 3))
    (kk : ∀ (r : Int64) (C' : Nat → va_E) (H' : Heap) (locs' : List Loc), post r C' → Wd D cs A ad T s C' H' locs' → W p l e R s m args below meth c H' locs' cells slots Q (F0 m (pc + 3) ls (.long r :: rest))) : W p l e R s m args below meth c H locs cells slots Q (F0 m pc ls st) :=
  va_calll (va_runV (As := As) (rest := rest) ⟨X.1, X.2.1, hml, X.2.2.1, X.2.2.2⟩ hM (cwV n X.2.2.2 (tb_V k1 k2 k3 k4 (tb_cons k5 tb_good)) rfl hrc.1 hrc.2 hd hR) ⟨PW.blind, va_recv w.1 w.2.2.2.1 (ci := ci) (q0 := i) hc (by rw [vW_get hi, hC]), fun U hU hW => ⟨rfl, w.pre hU hW⟩⟩ rfl hn hls hst (lv_room hW) hdg hcl) w.2.2.2.2 (fun _ _ h => h) (fun _ h => h) (fun r u t H1 locs1 ht hvm hp hB hz hk hS => kk r u H1 locs1 hp (w.post ht hB hS))
theorem l_add (X : Cx p s m args c cc own) {a b : Int} (hdg : decode cc pc = .ok (.ladd, 1)) (kk : W p l e R s m args below meth c H locs cells slots Q (F0 m (pc + 1) ls (.long (lI (a + b)) :: rest))) : W p l e R s m args below meth c H locs cells slots Q (F0 m pc ls (.long (lI b) :: .long (lI a) :: rest)) := lv_ladd X.1 X.2.1 hdg (by rw [lI_add]; exact kk)
theorem l_mul (X : Cx p s m args c cc own) {a b : Int} (hdg : decode cc pc = .ok (.lmul, 1)) (kk : W p l e R s m args below meth c H locs cells slots Q (F0 m (pc + 1) ls (.long (lI (a * b)) :: rest))) : W p l e R s m args below meth c H locs cells slots Q (F0 m pc ls (.long (lI b) :: .long (lI a) :: rest)) := lv_lmul X.1 X.2.1 hdg (by rw [lI_mul]; exact kk)
theorem l_i2l (X : Cx p s m args c cc own) {a : Int} (ha : rg a) (hdg : decode cc pc = .ok (.i2l, 1)) (kk : W p l e R s m args below meth c H locs cells slots Q (F0 m (pc + 1) ls (.long (lI a) :: rest))) : W p l e R s m args below meth c H locs cells slots Q (F0 m pc ls (.int (iI a) :: rest)) := lv_i2l X.1 X.2.1 hdg (iI_l ha) kk
theorem l_cmp (X : Cx p s m args c cc own) {a b : Int} (ha : lrg a) (hb : lrg b) (hdg : decode cc pc = .ok (.lcmp, 1)) (kk : W p l e R s m args below meth c H locs cells slots Q (F0 m (pc + 1) ls (.int (iI (lcI a b)) :: rest))) : W p l e R s m args below meth c H locs cells slots Q (F0 m pc ls (.long (lI b) :: .long (lI a) :: rest)) := W.lcmp X.1 X.2.1 hdg (by rw [lg_lI ha hb]; exact kk)
theorem w_lld (X : Cx p s m args c cc own) (w : Wd D cs A ad T s C H locs) {i n : Nat} {F : Nat → Int} (hi : i < T) (hC : C i = aL cs n F) {z : Int} (j : Nat) (hz : z = (j : Int)) (hj : j < n) (hn : n < 2147483648) (hdg : decode cc pc = .ok (.laload, 1))
    (kk : W p l e R s m args below meth c H locs cells slots Q (F0 m (pc + 1) ls (.long (lI (F j)) :: rest))) : W p l e R s m args below meth c H locs cells slots Q (F0 m pc ls (.int (iI z) :: .ref (ad i) :: rest)) := by
  subst hz
  refine va_lald X.1 X.2.1 w.1 w.2.2.2.1 i 1 (by rw [vW_get hi, hC]; rfl) rfl (iI_in hj hn) hdg ?_
  rw [iI_clamp (by omega)]
  exact kk
theorem w_lst (X : Cx p s m args c cc own) (w : Wd D cs A ad T s C H locs) {i n : Nat} {F : Nat → Int} (hi : i < T) (hC : C i = aL cs n F) {z v : Int} (j : Nat) (hz : z = (j : Int)) (hj : j < n) (hn : n < 2147483648) (hdg : decode cc pc = .ok (.lastore, 1))
    (kk : ∀ (H1 : Heap) (locs1 : List Loc), Wd D cs A ad T s (va_up C i (aL cs n (va_up F j v))) H1 locs1 → W p l e R s m args below meth c H1 locs1 cells slots Q (F0 m (pc + 1) ls rest)) : W p l e R s m args below meth c H locs cells slots Q (F0 m pc ls (.long (lI v) :: .int (iI z) :: .ref (ad i) :: rest)) := by
  subst hz
  refine va_last X.1 X.2.1 w.1 w.2.2.2.1 (w.2.1.va C) w.2.2.2.2 i 1 (by rw [vW_get hi, hC]; rfl) rfl (iI_in hj hn) hdg (fun H1 locs1 h1 _ h3 => kk H1 locs1 ⟨w.1, w.2.1, w.2.2.1, ?_, h3⟩)
  rw [vW_set, iI_clamp (by omega), upd_lA] at h1
  exact h1
end LR
/-! OrderSearch: its object at the place 128, its codes at 129 and 130 -/
def osF (ad : Nat → Nat) : List Value := [.ref (ad 123), .ref (ad 129), .ref (ad 130), .ref (ad (2 * 16)), .ref (ad (2 * 17)), .ref (ad (2 * 18))]
def osO (cs : Nat → ClassId) (ad : Nat → Nat) (lo hi : Nat → Int) (O : Nat → va_E) : Prop := O 128 = .inr (3, osF ad) ∧ O 129 = aL cs 500 lo ∧ O 130 = aL cs 500 hi ∧ ∀ j, j < 500 → lrg (lo j) ∧ lrg (hi j)
section OT
variable {p : Program} {l : Launch} {e : Env} {R : Room} {s : State} {m : MethodId} {args : Array Value} {below : List Frame} {meth : Method} {c : Code} {H : Heap} {locs : List Loc} {cells slots : Nat} {Q : State → Prop} {D : va_G} {cs : Nat → ClassId} {A : Nat → Prop} {ad : Nat → Nat} {T : Nat}
variable {cc : ByteArray} {own : String} {pc : Nat} {ls : Array Slot} {rest st : List Value} {V : Nat → PV} {O : Nat → va_E} {lo hi : Nat → Int}
theorem t_os {index : Nat} (X : Cx p s m args c cc own) (hT : 132 ≤ T) (w : Wd D cs A ad T s (mkV cs ad V O) H locs) (hS : osO cs ad lo hi O) (k : Nat) (hk : k < 6) (hlink : Cond.fieldLink own index (FOs k).1 (FOs k).2.1 (FOs k).2.2.1 ∈ TB) {v : Value} (hv : (osF ad)[k]? = some v) (hdg : decode cc pc = .ok (.getfield index, 3))
    (kk : W p l e R s m args below meth c H locs cells slots Q (F0 m (pc + 3) ls (v :: rest))) : W p l e R s m args below meth c H locs cells slots Q (F0 m pc ls (.ref (ad 128) :: rest)) :=
  w_get X w (Nat.lt_of_lt_of_le (by decide) hT) (by rw [mkV_O (by decide)]; exact hS.1) (ci := 3) rfl k_l_Os k hk hlink hv hdg kk
theorem t_lo {z : Int} (X : Cx p s m args c cc own) (hT : 132 ≤ T) (w : Wd D cs A ad T s (mkV cs ad V O) H locs) (hS : osO cs ad lo hi O) (j : Nat) (hz : z = (j : Int)) (hj : j < 500) (hdg : decode cc pc = .ok (.laload, 1))
    (kk : W p l e R s m args below meth c H locs cells slots Q (F0 m (pc + 1) ls (.long (lI (lo j)) :: rest))) : W p l e R s m args below meth c H locs cells slots Q (F0 m pc ls (.int (iI z) :: .ref (ad 129) :: rest)) :=
  w_lld X w (Nat.lt_of_lt_of_le (by decide) hT) (by rw [mkV_O (by decide)]; exact hS.2.1) j hz hj (by decide) hdg kk
theorem t_hi {z : Int} (X : Cx p s m args c cc own) (hT : 132 ≤ T) (w : Wd D cs A ad T s (mkV cs ad V O) H locs) (hS : osO cs ad lo hi O) (j : Nat) (hz : z = (j : Int)) (hj : j < 500) (hdg : decode cc pc = .ok (.laload, 1))
    (kk : W p l e R s m args below meth c H locs cells slots Q (F0 m (pc + 1) ls (.long (lI (hi j)) :: rest))) : W p l e R s m args below meth c H locs cells slots Q (F0 m pc ls (.int (iI z) :: .ref (ad 130) :: rest)) :=
  w_lld X w (Nat.lt_of_lt_of_le (by decide) hT) (by rw [mkV_O (by decide)]; exact hS.2.2.1) j hz hj (by decide) hdg kk
theorem t_slo {z v : Int} (X : Cx p s m args c cc own) (hT : 132 ≤ T) (w : Wd D cs A ad T s (mkV cs ad V O) H locs) (hS : osO cs ad lo hi O) (j : Nat) (hz : z = (j : Int)) (hj : j < 500) (hdg : decode cc pc = .ok (.lastore, 1))
    (kk : ∀ (H1 : Heap) (locs1 : List Loc), Wd D cs A ad T s (mkV cs ad V (va_up O 129 (aL cs 500 (va_up lo j v)))) H1 locs1 → W p l e R s m args below meth c H1 locs1 cells slots Q (F0 m (pc + 1) ls rest)) : W p l e R s m args below meth c H locs cells slots Q (F0 m pc ls (.long (lI v) :: .int (iI z) :: .ref (ad 129) :: rest)) :=
  w_lst X w (Nat.lt_of_lt_of_le (by decide) hT) (by rw [mkV_O (by decide)]; exact hS.2.1) j hz hj (by decide) hdg (fun H1 locs1 h => kk H1 locs1 (by rw [mkV_sO (by decide)] at h; exact h))
theorem t_shi {z v : Int} (X : Cx p s m args c cc own) (hT : 132 ≤ T) (w : Wd D cs A ad T s (mkV cs ad V O) H locs) (hS : osO cs ad lo hi O) (j : Nat) (hz : z = (j : Int)) (hj : j < 500) (hdg : decode cc pc = .ok (.lastore, 1))
    (kk : ∀ (H1 : Heap) (locs1 : List Loc), Wd D cs A ad T s (mkV cs ad V (va_up O 130 (aL cs 500 (va_up hi j v)))) H1 locs1 → W p l e R s m args below meth c H1 locs1 cells slots Q (F0 m (pc + 1) ls rest)) : W p l e R s m args below meth c H locs cells slots Q (F0 m pc ls (.long (lI v) :: .int (iI z) :: .ref (ad 130) :: rest)) :=
  w_lst X w (Nat.lt_of_lt_of_le (by decide) hT) (by rw [mkV_O (by decide)]; exact hS.2.2.1) j hz hj (by decide) hdg (fun H1 locs1 h => kk H1 locs1 (by rw [mkV_sO (by decide)] at h; exact h))
end OT
theorem arO.up {cs : Nat → ClassId} {ad : Nat → Nat} {pr : Int} {inv : Nat → Int} {O : Nat → va_E} (hO : arO cs ad pr inv O) {i : Nat} {x : va_E} (h1 : i ≠ 123) (h2 : i ≠ 124) : arO cs ad pr inv (va_up O i x) := ⟨by rw [va_up_ne _ _ (Ne.symm h1)]; exact hO.1, by rw [va_up_ne _ _ (Ne.symm h2)]; exact hO.2.1, hO.2.2⟩
theorem osO.upl {cs : Nat → ClassId} {ad : Nat → Nat} {lo hi lo' : Nat → Int} {O : Nat → va_E} (h : osO cs ad lo hi O) (hr : ∀ j, j < 500 → lrg (lo' j)) : osO cs ad lo' hi (va_up O 129 (aL cs 500 lo')) := ⟨by rw [va_up_ne _ _ (by decide)]; exact h.1, va_up_self _ _ _, by rw [va_up_ne _ _ (by decide)]; exact h.2.2.1, fun j hj => ⟨hr j hj, (h.2.2.2 j hj).2⟩⟩
theorem osO.uph {cs : Nat → ClassId} {ad : Nat → Nat} {lo hi hi' : Nat → Int} {O : Nat → va_E} (h : osO cs ad lo hi O) (hr : ∀ j, j < 500 → lrg (hi' j)) : osO cs ad lo hi' (va_up O 130 (aL cs 500 hi')) := ⟨by rw [va_up_ne _ _ (by decide)]; exact h.1, by rw [va_up_ne _ _ (by decide)]; exact h.2.1, va_up_self _ _ _, fun j hj => ⟨(h.2.2.2 j hj).1, hr j hj⟩⟩
/-- half a row read as a number -/
def cod (pr : Int) (F : Nat → Int) : Nat → Nat → Int → Int
  | _, 0, a => a
  | i, n + 1, a => cod pr F (i + 1) n (a * pr + F i)
theorem cod_rg {pr : Int} (hp : 0 ≤ pr ∧ pr ≤ 13) {F : Nat → Int} (hF : ∀ x, 0 ≤ F x ∧ F x < 13) : ∀ (n i : Nat) (a : Int), 0 ≤ a → 0 ≤ cod pr F i n a ∧ cod pr F i n a < (a + 1) * 13 ^ n
  | 0, i, a, ha => by simp [cod]; omega
  | n + 1, i, a, ha => by
    have h1 := hF i
    have h2 : 0 ≤ a * pr := Int.mul_nonneg ha hp.1
    have h3 : a * pr ≤ a * 13 := Int.mul_le_mul_of_nonneg_left hp.2 ha
    obtain ⟨h4, h5⟩ := cod_rg hp hF n (i + 1) (a * pr + F i) (by omega)
    refine ⟨h4, Int.lt_of_lt_of_le h5 ?_⟩
    rw [Int.pow_succ, Int.mul_comm (13 ^ n) 13, ← Int.mul_assoc]
    exact Int.mul_le_mul_of_nonneg_right (by omega) (Int.pow_nonneg (by decide))
theorem cod_l {pr : Int} (hp : 0 ≤ pr ∧ pr ≤ 13) {F : Nat → Int} (hF : ∀ x, 0 ≤ F x ∧ F x < 13) (i : Nat) : lrg (cod pr F i 12 0) := by
  have := cod_rg hp hF 12 i 0 (by omega)
  have h2 : ((0 : Int) + 1) * 13 ^ 12 = 23298085122481 := by decide
  omega
section CO
variable {p : Program} {l : Launch} {e : Env} {s : State} {m : MethodId} {args : Array Value} {below : List Frame} {meth : Method} {c : Code} {H : Heap} {locs : List Loc} {Q : State → Prop} {D : va_G} {cs : Nat → ClassId} {A : Nat → Prop} {ad : Nat → Nat} {T : Nat} {O : Nat → va_E} {pr : Int} {inv : Nat → Int} {lo hi : Nat → Int}
variable {f : Nat} {G : Nat → Nat → Int}
theorem l_Os_code {post : Int64 → (Nat → va_E) → Prop} (X : Cx p s m args c b_Os_code ROs) (hr : meth.sig.returnType = some .long) (hlk : meth.locks = false) (hT : 132 ≤ T) (hO : arO cs ad pr inv O) (hS : osO cs ad lo hi O) (hF : ok 25 (G 16)) (hf : f ≤ 12) (w : Wd D cs A ad T s (mkV cs ad (rV G) O) H locs) {Z : Int} (hp : post (lI Z) (mkV cs ad (rV G) O)) :
    ∀ (n i : Nat) (a : Int) (ls : Array Slot), i + n = f + 12 → cod pr (G 16) i n a = Z → lv_has ls 5 [(0, .ref (ad (128))), (1, .int (iI (f))), (2, .long (lI (a))), (4, .int (iI (i)))] → W p l e { frames := 0, cells := 0, slots := 0, locals := 0 } s m args below meth c H locs 0 0 (MQ below (va_Ql post (QW D cs ad T) A) args s 0 0 A) (F0 m 5 ls []) := by
  have hpr := hO.2.2.1
  have w16 : wd 16 = 25 := rfl
  intro n
  induction n with
  | zero =>
    intro i a ls h1 hz hl
    have hz : a = Z := hz
    subst hz
    refine lv_iload X.1 X.2.1 d_Os_code_5 (lv_at hl 3 rfl) ?_
    refine lv_iload_n X.1 X.2.1 d_Os_code_7 rfl (lv_at hl 1 rfl) ?_
    refine lv_bipush (v := iI (12)) X.1 X.2.1 d_Os_code_8 (by decide) ?_
    refine i_add (a := f) (b := 12) X d_Os_code_10 ?_
    refine i_ge (a := i) (b := f + 12) (tgt := 43) X (by omega) (by omega) d_Os_code_11 (by decide) (fun h_11 => ?_) (fun h_11 => ?_)
    · refine lv_lload_n X.1 X.2.1 d_Os_code_43 rfl (lv_at hl 2 rfl) ?_
      exact w_lret X hr hlk w hp d_Os_code_44
    · exact absurd h_11 (by omega)
  | succ n ih =>
    intro i a ls h1 hz hl
    have hai := hF.1 i
    refine lv_iload X.1 X.2.1 d_Os_code_5 (lv_at hl 3 rfl) ?_
    refine lv_iload_n X.1 X.2.1 d_Os_code_7 rfl (lv_at hl 1 rfl) ?_
    refine lv_bipush (v := iI (12)) X.1 X.2.1 d_Os_code_8 (by decide) ?_
    refine i_add (a := f) (b := 12) X d_Os_code_10 ?_
    refine i_ge (a := i) (b := f + 12) (tgt := 43) X (by omega) (by omega) d_Os_code_11 (by decide) (fun h_11 => ?_) (fun h_11 => ?_)
    · exact absurd h_11 (by omega)
    · refine lv_lload_n X.1 X.2.1 d_Os_code_14 rfl (lv_at hl 2 rfl) ?_
      refine lv_aload_n X.1 X.2.1 d_Os_code_15 rfl (lv_at hl 0 rfl) ?_
      refine t_os X hT w hS 0 (by decide) k_f_Os_9 rfl d_Os_code_16 ?_
      refine t_ar X hT w hO 0 (by decide) k_f_Os_73 rfl d_Os_code_19 ?_
      refine l_i2l (a := pr) X (by omega) d_Os_code_22 ?_
      refine l_mul (a := a) (b := pr) X d_Os_code_23 ?_
      refine lv_aload_n X.1 X.2.1 d_Os_code_24 rfl (lv_at hl 0 rfl) ?_
      refine t_os X hT w hS 3 (by decide) k_f_Os_27 rfl d_Os_code_25 ?_
      refine t_co (k := 16) X hT w (by omega) k_f_Os_40 d_Os_code_28 ?_
      refine lv_iload X.1 X.2.1 d_Os_code_31 (lv_at hl 3 rfl) ?_
      refine g_ld (k := 16) (z := i) X hT w (by omega) (i) (by omega) (by omega) d_Os_code_33 ?_
      refine l_i2l (a := G 16 i) X (by omega) d_Os_code_34 ?_
      refine l_add (a := a * pr) (b := G 16 i) X d_Os_code_35 ?_
      refine lv_lstore_n (lv' := [(2, .long (lI ((a * pr) + (G 16 i)))), (0, .ref (ad (128))), (1, .int (iI (f))), (4, .int (iI (i)))]) X.1 X.2.1 d_Os_code_36 rfl hl (by decide) rfl (fun ls hl => ?_)
      refine i_inc (k := 3) (x := i) (lv' := [(4, .int (iI (i + 1))), (2, .long (lI ((a * pr) + (G 16 i)))), (0, .ref (ad (128))), (1, .int (iI (f)))]) X d_Os_code_37 hl rfl (by decide) rfl (fun ls hl => ?_)
      refine lv_goto (tgt := 5) X.1 X.2.1 d_Os_code_40 (by decide) ?_
      exact ih (i + 1) _ ls (by omega) hz (lv_sub hl [2, 3, 1, 0] rfl)
end CO
theorem c_Os_code {l : Launch} {D : va_G} {cs : Nat → ClassId} {A : Nat → Prop} {ad : Nat → Nat} {T : Nat} (hT : 132 ≤ T) {G : Nat → Nat → Int} {O : Nat → va_E} {pr : Int} {inv : Nat → Int} (hO : arO cs ad pr inv O) {lo hi : Nat → Int} (hS : osO cs ad lo hi O) {f : Nat} (hf : f ≤ 12) (hF : ok 25 (G 16)) : Cl l y_Os_code ws_Os_code { frames := 0, cells := 0, slots := 0, locals := 0 } D cs A ad T [.ref (ad (128)), .int (iI (f))] (mkV cs ad (rV G) O) (fun r C' => r = lI (cod pr (G 16) f 12 0) ∧ C' = mkV cs ad (rV G) O) := by
  refine w_bodyL (by decide) (Nat.le_of_ble_eq_true rfl) ?_
  intro p e s m below meth c X hr hlk hml w ls hl
  have hl : lv_has ls 5 [(0, .ref (ad (128))), (1, .int (iI (f)))] := hl
  refine lv_lconst (v := lI (0)) X.1 X.2.1 d_Os_code_0 (by decide) ?_
  refine lv_lstore_n (lv' := [(2, .long (lI (0))), (0, .ref (ad (128))), (1, .int (iI (f)))]) X.1 X.2.1 d_Os_code_1 rfl hl (by decide) rfl (fun ls hl => ?_)
  refine lv_iload_n X.1 X.2.1 d_Os_code_2 rfl (lv_at hl 2 rfl) ?_
  refine lv_istore (lv' := [(4, .int (iI (f))), (2, .long (lI (0))), (0, .ref (ad (128))), (1, .int (iI (f)))]) X.1 X.2.1 d_Os_code_3 hl (by decide) rfl (fun ls hl => ?_)
  exact l_Os_code X hr hlk hT hO hS hF hf w (Z := cod pr (G 16) f 12 0) ⟨rfl, rfl⟩ 12 f 0 ls (by omega) rfl (lv_sub hl [2, 3, 1, 0] rfl)
/-- the first place at which the two codes stand, or -1 -/
def fss (lo hi : Nat → Int) (a b : Int) : Nat → Nat → Int
  | _, 0 => -1
  | i, n + 1 => if lo i = a ∧ hi i = b then (i : Int) else fss lo hi a b (i + 1) n
section FS
variable {p : Program} {l : Launch} {e : Env} {s : State} {m : MethodId} {args : Array Value} {below : List Frame} {meth : Method} {c : Code} {H : Heap} {locs : List Loc} {Q : State → Prop} {D : va_G} {cs : Nat → ClassId} {A : Nat → Prop} {ad : Nat → Nat} {T : Nat} {O : Nat → va_E} {pr : Int} {inv : Nat → Int} {lo hi : Nat → Int}
variable {a b : Int} {G : Nat → Nat → Int}
theorem l_Os_findShortStep {post : Int32 → (Nat → va_E) → Prop} (X : Cx p s m args c b_Os_findShortStep ROs) (hr : meth.sig.returnType = some .int) (hlk : meth.locks = false) (hT : 132 ≤ T) (hS : osO cs ad lo hi O) (ha : lrg a) (hb : lrg b) (w : Wd D cs A ad T s (mkV cs ad (rV G) O) H locs) {Z : Int} (hp : post (iI Z) (mkV cs ad (rV G) O)) :
    ∀ (n i : Nat) (ls : Array Slot), i + n = 500 → fss lo hi a b i n = Z → lv_has ls 6 [(0, .ref (ad (128))), (1, .long (lI (a))), (3, .long (lI (b))), (5, .int (iI (i)))] → W p l e { frames := 1, cells := 0, slots := 0, locals := 24 } s m args below meth c H locs 0 0 (MQ below (va_Qi post (QW D cs ad T) A) args s 0 0 A) (F0 m 16 ls []) := by
  intro n
  induction n with
  | zero =>
    intro i ls h1 hz hl
    have hz : -1 = Z := hz
    subst hz
    refine lv_iload X.1 X.2.1 d_Os_findShortStep_16 (lv_at hl 3 rfl) ?_
    refine lv_sipush (v := iI (500)) X.1 X.2.1 d_Os_findShortStep_18 (by decide) ?_
    refine i_ge (a := i) (b := 500) (tgt := 57) X (by omega) (by omega) d_Os_findShortStep_21 (by decide) (fun h_21 => ?_) (fun h_21 => ?_)
    · refine lv_iconst (v := iI (-1)) X.1 X.2.1 d_Os_findShortStep_57 (by decide) ?_
      exact w_iret X hr hlk w hp d_Os_findShortStep_58
    · exact absurd h_21 (by omega)
  | succ n ih =>
    intro i ls h1 hz hl
    have hai := hS.2.2.2 i (by omega)
    unfold fss at hz
    refine lv_iload X.1 X.2.1 d_Os_findShortStep_16 (lv_at hl 3 rfl) ?_
    refine lv_sipush (v := iI (500)) X.1 X.2.1 d_Os_findShortStep_18 (by decide) ?_
    refine i_ge (a := i) (b := 500) (tgt := 57) X (by omega) (by omega) d_Os_findShortStep_21 (by decide) (fun h_21 => ?_) (fun h_21 => ?_)
    · exact absurd h_21 (by omega)
    · refine lv_aload_n X.1 X.2.1 d_Os_findShortStep_24 rfl (lv_at hl 0 rfl) ?_
      refine t_os X hT w hS 1 (by decide) k_f_Os_15 rfl d_Os_findShortStep_25 ?_
      refine lv_iload X.1 X.2.1 d_Os_findShortStep_28 (lv_at hl 3 rfl) ?_
      refine t_lo (z := i) X hT w hS (i) (by omega) (by omega) d_Os_findShortStep_30 ?_
      refine lv_lload_n X.1 X.2.1 d_Os_findShortStep_31 rfl (lv_at hl 1 rfl) ?_
      refine l_cmp (a := lo i) (b := a) X hai.1 ha d_Os_findShortStep_32 ?_
      refine z_ne (a := lcI (lo i) (a)) (tgt := 51) X (lcI_rg _ _) d_Os_findShortStep_33 (by decide) (fun h_33 => ?_) (fun h_33 => ?_)
      · refine i_inc (k := 3) (x := i) (lv' := [(5, .int (iI (i + 1))), (0, .ref (ad (128))), (1, .long (lI (a))), (3, .long (lI (b)))]) X d_Os_findShortStep_51 hl rfl (by decide) rfl (fun ls hl => ?_)
        refine lv_goto (tgt := 16) X.1 X.2.1 d_Os_findShortStep_54 (by decide) ?_
        rw [if_neg (fun e => h_33 (lcI_0.mpr e.1))] at hz
        exact ih (i + 1) ls (by omega) hz (lv_sub hl [1, 2, 3, 0] rfl)
      · refine lv_aload_n X.1 X.2.1 d_Os_findShortStep_36 rfl (lv_at hl 0 rfl) ?_
        refine t_os X hT w hS 2 (by decide) k_f_Os_19 rfl d_Os_findShortStep_37 ?_
        refine lv_iload X.1 X.2.1 d_Os_findShortStep_40 (lv_at hl 3 rfl) ?_
        refine t_hi (z := i) X hT w hS (i) (by omega) (by omega) d_Os_findShortStep_42 ?_
        refine lv_lload_n X.1 X.2.1 d_Os_findShortStep_43 rfl (lv_at hl 2 rfl) ?_
        refine l_cmp (a := hi i) (b := b) X hai.2 hb d_Os_findShortStep_44 ?_
        refine z_ne (a := lcI (hi i) (b)) (tgt := 51) X (lcI_rg _ _) d_Os_findShortStep_45 (by decide) (fun h_45 => ?_) (fun h_45 => ?_)
        · refine i_inc (k := 3) (x := i) (lv' := [(5, .int (iI (i + 1))), (0, .ref (ad (128))), (1, .long (lI (a))), (3, .long (lI (b)))]) X d_Os_findShortStep_51 hl rfl (by decide) rfl (fun ls hl => ?_)
          refine lv_goto (tgt := 16) X.1 X.2.1 d_Os_findShortStep_54 (by decide) ?_
          rw [if_neg (fun e => h_45 (lcI_0.mpr e.2))] at hz
          exact ih (i + 1) ls (by omega) hz (lv_sub hl [1, 2, 3, 0] rfl)
        · refine lv_iload X.1 X.2.1 d_Os_findShortStep_48 (lv_at hl 3 rfl) ?_
          rw [if_pos ⟨lcI_0.mp h_33, lcI_0.mp h_45⟩] at hz
          subst hz
          exact w_iret X hr hlk w hp d_Os_findShortStep_50
end FS
theorem c_Os_findShortStep {l : Launch} {D : va_G} {cs : Nat → ClassId} {A : Nat → Prop} {ad : Nat → Nat} {T : Nat} (hT : 132 ≤ T) {G : Nat → Nat → Int} {O : Nat → va_E} {pr : Int} {inv : Nat → Int} (hO : arO cs ad pr inv O) {lo hi : Nat → Int} (hS : osO cs ad lo hi O) (hF : ok 25 (G 16)) : Ci l y_Os_findShortStep ws_Os_findShortStep { frames := 1, cells := 0, slots := 0, locals := 24 } D cs A ad T [.ref (ad (128))] (mkV cs ad (rV G) O) (fun r C' => r = iI (fss lo hi (cod pr (G 16) 0 12 0) (cod pr (G 16) 12 12 0) 0 500) ∧ C' = mkV cs ad (rV G) O) := by
  refine w_bodyI (by decide) (Nat.le_of_ble_eq_true rfl) ?_
  intro p e s m below meth c X hr hlk hml w ls hl
  have hl : lv_has ls 6 [(0, .ref (ad (128)))] := hl
  have hpr := hO.2.2.1
  refine lv_aload_n X.1 X.2.1 d_Os_findShortStep_0 rfl (lv_at hl 0 rfl) ?_
  refine lv_iconst (v := iI (0)) X.1 X.2.1 d_Os_findShortStep_1 (by decide) ?_
  refine w_cVl (n := 1) (i := 128) (ci := 3) (As := [.int (iI ((0 : Nat)))]) (rest := []) X w hml hl.1 (c_Os_code hT hO hS (G := G) (f := 0) (by omega) hF) (by omega) (by rw [mkV_O (by decide)]; exact hS.1) rfl k_m_Os_55 k_im_Os_code k_se_Os_code k_i_Os k_co_Os_code (by decide +kernel) rfl ⟨Nat.le_of_ble_eq_true rfl, Nat.le_of_ble_eq_true rfl⟩ ⟨rfl, rfl⟩ ⟨Nat.zero_le _, Nat.zero_le _⟩ rfl (Nat.le_of_ble_eq_true rfl) d_Os_findShortStep_2 (fun r' C' H locs hp w => ?_)
  obtain ⟨rfl, rfl⟩ := hp
  skip
  refine lv_lstore_n (lv' := [(1, .long (lI (cod pr (G 16) 0 12 0))), (0, .ref (ad (128)))]) X.1 X.2.1 d_Os_findShortStep_5 rfl hl (by decide) rfl (fun ls hl => ?_)
  refine lv_aload_n X.1 X.2.1 d_Os_findShortStep_6 rfl (lv_at hl 1 rfl) ?_
  refine lv_bipush (v := iI (12)) X.1 X.2.1 d_Os_findShortStep_7 (by decide) ?_
  refine w_cVl (n := 1) (i := 128) (ci := 3) (As := [.int (iI ((12 : Nat)))]) (rest := []) X w hml hl.1 (c_Os_code hT hO hS (G := G) (f := 12) (by omega) hF) (by omega) (by rw [mkV_O (by decide)]; exact hS.1) rfl k_m_Os_55 k_im_Os_code k_se_Os_code k_i_Os k_co_Os_code (by decide +kernel) rfl ⟨Nat.le_of_ble_eq_true rfl, Nat.le_of_ble_eq_true rfl⟩ ⟨rfl, rfl⟩ ⟨Nat.zero_le _, Nat.zero_le _⟩ rfl (Nat.le_of_ble_eq_true rfl) d_Os_findShortStep_9 (fun r' C' H locs hp w => ?_)
  obtain ⟨rfl, rfl⟩ := hp
  skip
  refine lv_lstore_n (lv' := [(3, .long (lI (cod pr (G 16) 12 12 0))), (1, .long (lI (cod pr (G 16) 0 12 0))), (0, .ref (ad (128)))]) X.1 X.2.1 d_Os_findShortStep_12 rfl hl (by decide) rfl (fun ls hl => ?_)
  refine lv_iconst (v := iI (0)) X.1 X.2.1 d_Os_findShortStep_13 (by decide) ?_
  refine lv_istore (lv' := [(5, .int (iI (0))), (3, .long (lI (cod pr (G 16) 12 12 0))), (1, .long (lI (cod pr (G 16) 0 12 0))), (0, .ref (ad (128)))]) X.1 X.2.1 d_Os_findShortStep_14 hl (by decide) rfl (fun ls hl => ?_)
  exact l_Os_findShortStep X hr hlk hT hS (cod_l (by omega) hF.1 0) (cod_l (by omega) hF.1 12) w (Z := fss lo hi (cod pr (G 16) 0 12 0) (cod pr (G 16) 12 12 0) 0 500) ⟨rfl, rfl⟩ 500 0 ls (by omega) rfl (lv_sub hl [3, 2, 1, 0] rfl)
end
section
/-- the powers of X modulo M -/
def pwr (pr : Int) (inv : Nat → Int) (X M : Nat → Int) : Nat → Nat → Int
  | 0 => oneP
  | n + 1 => mulm pr inv X (pwr pr inv X M n) M
theorem pwr_ok {cs : Nat → ClassId} {ad : Nat → Nat} {pr : Int} {inv : Nat → Int} {O : Nat → va_E} (hO : arO cs ad pr inv O) {X M : Nat → Int} (hX : okp pr 25 X) (hM : okp pr 25 M) (hd : 0 ≤ dg 300 M) : ∀ n, okp pr 25 (pwr pr inv X M n)
  | 0 => oneP_ok (by have := hO.2.2.1; omega) (by omega)
  | n + 1 => (mulm_ok hO hX (pwr_ok hO hX hM hd n) hM hd).1
/-- the first j from 1 on at which P j is 1, or 0 -/
def shS (P : Nat → Nat → Int) : Nat → Nat → Int
  | _, 0 => 0
  | j, n + 1 => if 0 < j ∧ (dg 300 (P j) = 0 ∧ P j 0 = 1) then (j : Int) else shS P (j + 1) n
theorem if01 {c : Prop} [Decidable c] : (if c then (1 : Int32) else 0) = iI (if c then 1 else 0) := by split <;> rfl
theorem va_comm {α : Type} (f : Nat → α) {i j : Nat} (h : i ≠ j) (u v : α) : va_up (va_up f i u) j v = va_up (va_up f j v) i u := by
  funext k
  simp only [va_up]
  split
  · split
    · omega
    · rfl
  · rfl
section TS
variable {p : Program} {l : Launch} {e : Env} {s : State} {m : MethodId} {args : Array Value} {below : List Frame} {meth : Method} {c : Code} {H : Heap} {locs : List Loc} {Q : State → Prop} {D : va_G} {cs : Nat → ClassId} {A : Nat → Prop} {ad : Nat → Nat} {T : Nat} {O : Nat → va_E} {pr : Int} {inv : Nat → Int}
variable {d : Nat} {G : Nat → Nat → Int}
theorem l_Os_takeShortSteps {post : Int32 → (Nat → va_E) → Prop} (X : Cx p s m args c b_Os_takeShortSteps ROs) (hr : meth.sig.returnType = some .int) (hlk : meth.locks = false) (hml : c.maxLocals = 3) (hT : 132 ≤ T) (hO0 : arO cs ad pr inv O) (h128 : O 128 = .inr (3, osF ad)) (hd : 19 ≤ d ∧ d < 61) (hX : okp pr 25 (G 18)) (hM : okp pr 25 (G d)) (hdd : 0 ≤ dg 300 (G d)) {Z : Int}
    (hp : ∀ (G1 : Nat → Nat → Int) (lo1 hi1 : Nat → Int), WF G1 → okp pr 25 (G1 16) → (∀ i, i ≠ 0 → i ≠ 1 → i ≠ 16 → G1 i = G i) → (∀ i, i < 500 → lrg (lo1 i) ∧ lrg (hi1 i)) → (Z = 0 → G1 16 = (pwr pr inv (G 18) (G d)) 500 ∧ ∀ i, i < 500 → lo1 i = cod pr ((pwr pr inv (G 18) (G d)) i) 0 12 0 ∧ hi1 i = cod pr ((pwr pr inv (G 18) (G d)) i) 12 12 0) → post (iI Z) (mkV cs ad (rV G1) (va_up (va_up O 129 (aL cs 500 lo1)) 130 (aL cs 500 hi1)))) :
    ∀ (n j : Nat) (G1 : Nat → Nat → Int) (lo1 hi1 : Nat → Int) (H : Heap) (locs : List Loc) (ls : Array Slot), j + n = 500 → Wd D cs A ad T s (mkV cs ad (rV G1) (va_up (va_up O 129 (aL cs 500 lo1)) 130 (aL cs 500 hi1))) H locs → WF G1 → G1 16 = (pwr pr inv (G 18) (G d)) j → (∀ i, i ≠ 0 → i ≠ 1 → i ≠ 16 → G1 i = G i) → (∀ i, i < 500 → lrg (lo1 i) ∧ lrg (hi1 i)) → (∀ i, i < j → lo1 i = cod pr ((pwr pr inv (G 18) (G d)) i) 0 12 0 ∧ hi1 i = cod pr ((pwr pr inv (G 18) (G d)) i) 12 12 0) → shS (pwr pr inv (G 18) (G d)) j n = Z → lv_has ls 3 [(0, .ref (ad (128))), (1, .ref (ad (2 * d))), (2, .int (iI (j)))] → W p l e { frames := 4, cells := 0, slots := 0, locals := 97 } s m args below meth c H locs 0 0 (MQ below (va_Qi post (QW D cs ad T) A) args s 0 0 A) (F0 m 10 ls []) := by
  have hpr := hO0.2.2.1
  have hPo := pwr_ok hO0 hX hM hdd
  have w16 : wd 16 = 25 := rfl
  intro n
  induction n with
  | zero =>
    intro j G1 lo1 hi1 H locs ls h1 w hW hP hF hl1 hl2 hz hl
    have hz : 0 = Z := hz
    subst hz
    refine lv_iload_n X.1 X.2.1 d_Os_takeShortSteps_10 rfl (lv_at hl 2 rfl) ?_
    refine lv_sipush (v := iI (500)) X.1 X.2.1 d_Os_takeShortSteps_11 (by decide) ?_
    refine i_ge (a := j) (b := 500) (tgt := 82) X (by omega) (by omega) d_Os_takeShortSteps_14 (by decide) (fun h_14 => ?_) (fun h_14 => ?_)
    · refine lv_iconst (v := iI (0)) X.1 X.2.1 d_Os_takeShortSteps_82 (by decide) ?_
      exact w_iret X hr hlk w (hp G1 lo1 hi1 hW (by rw [hP]; exact hPo j) hF hl1 (fun _ => ⟨by rw [hP, show j = 500 by omega], fun i hi => hl2 i (by omega)⟩)) d_Os_takeShortSteps_83
    · exact absurd h_14 (by omega)
  | succ n ih =>
    intro j G1 lo1 hi1 H locs ls h1 w hW hP hF hl1 hl2 hz hl
    unfold shS at hz
    have hO : arO cs ad pr inv (va_up (va_up O 129 (aL cs 500 lo1)) 130 (aL cs 500 hi1)) := (hO0.up (by decide) (by decide)).up (by decide) (by decide)
    have hS : osO cs ad lo1 hi1 (va_up (va_up O 129 (aL cs 500 lo1)) 130 (aL cs 500 hi1)) := ⟨by rw [va_up_ne _ _ (by decide), va_up_ne _ _ (by decide)]; exact h128, by rw [va_up_ne _ _ (by decide), va_up_self], va_up_self _ _ _, hl1⟩
    have hGd : G1 d = G d := hF d (by omega) (by omega) (by omega)
    have hG18 : G1 18 = G 18 := hF 18 (by omega) (by omega) (by omega)
    have hok := hPo j
    have hc1 : lrg (cod pr (G1 16) 0 12 0) := by rw [hP]; exact cod_l (by omega) (hok.ok hpr.2).1 0
    have hc2 : lrg (cod pr (G1 16) 12 12 0) := by rw [hP]; exact cod_l (by omega) (hok.ok hpr.2).1 12
    have hw16 : ok 25 (G1 16) := hW 16 (by omega)
    refine lv_iload_n X.1 X.2.1 d_Os_takeShortSteps_10 rfl (lv_at hl 2 rfl) ?_
    refine lv_sipush (v := iI (500)) X.1 X.2.1 d_Os_takeShortSteps_11 (by decide) ?_
    refine i_ge (a := j) (b := 500) (tgt := 82) X (by omega) (by omega) d_Os_takeShortSteps_14 (by decide) (fun h_14 => ?_) (fun h_14 => ?_)
    · exact absurd h_14 (by omega)
    · refine lv_iload_n X.1 X.2.1 d_Os_takeShortSteps_17 rfl (lv_at hl 2 rfl) ?_
      refine z_le (a := j) (tgt := 33) X (by omega) d_Os_takeShortSteps_18 (by decide) (fun h_18 => ?_) (fun h_18 => ?_)
      · refine lv_aload_n X.1 X.2.1 d_Os_takeShortSteps_33 rfl (lv_at hl 0 rfl) ?_
        refine t_os X hT w hS 1 (by decide) k_f_Os_15 rfl d_Os_takeShortSteps_34 ?_
        refine lv_iload_n X.1 X.2.1 d_Os_takeShortSteps_37 rfl (lv_at hl 2 rfl) ?_
        refine lv_aload_n X.1 X.2.1 d_Os_takeShortSteps_38 rfl (lv_at hl 0 rfl) ?_
        refine lv_iconst (v := iI (0)) X.1 X.2.1 d_Os_takeShortSteps_39 (by decide) ?_
        refine w_cVl (n := 1) (i := 128) (ci := 3) (As := [.int (iI ((0 : Nat)))]) (rest := [.int (iI (j)), .ref (ad (129))]) X w hml hl.1 (c_Os_code hT hO hS (G := G1) (f := 0) (by omega) hw16) (by omega) (by rw [mkV_O (by decide)]; exact hS.1) rfl k_m_Os_55 k_im_Os_code k_se_Os_code k_i_Os k_co_Os_code (by decide +kernel) rfl ⟨Nat.le_of_ble_eq_true rfl, Nat.le_of_ble_eq_true rfl⟩ ⟨rfl, rfl⟩ ⟨Nat.zero_le _, Nat.zero_le _⟩ rfl (Nat.le_of_ble_eq_true rfl) d_Os_takeShortSteps_40 (fun r' C' H locs hp1 w => ?_)
        obtain ⟨rfl, rfl⟩ := hp1
        refine t_slo (z := j) (v := cod pr (G1 16) 0 12 0) X hT w hS j (by omega) (by omega) d_Os_takeShortSteps_43 (fun H locs w => ?_)
        have hl1a : ∀ i, i < 500 → lrg (va_up lo1 j (cod pr (G1 16) 0 12 0) i) := fun i hi => by
          by_cases e : i = j
          · subst e; rw [va_up_self]; exact hc1
          · rw [va_up_ne _ _ e]; exact (hl1 i hi).1
        have hS := hS.upl hl1a
        have hO := hO.up (i := 129) (x := aL cs 500 (va_up lo1 j (cod pr (G1 16) 0 12 0))) (by decide) (by decide)
        refine lv_aload_n X.1 X.2.1 d_Os_takeShortSteps_44 rfl (lv_at hl 0 rfl) ?_
        refine t_os X hT w hS 2 (by decide) k_f_Os_19 rfl d_Os_takeShortSteps_45 ?_
        refine lv_iload_n X.1 X.2.1 d_Os_takeShortSteps_48 rfl (lv_at hl 2 rfl) ?_
        refine lv_aload_n X.1 X.2.1 d_Os_takeShortSteps_49 rfl (lv_at hl 0 rfl) ?_
        refine lv_bipush (v := iI (12)) X.1 X.2.1 d_Os_takeShortSteps_50 (by decide) ?_
        refine w_cVl (n := 1) (i := 128) (ci := 3) (As := [.int (iI ((12 : Nat)))]) (rest := [.int (iI (j)), .ref (ad (130))]) X w hml hl.1 (c_Os_code hT hO hS (G := G1) (f := 12) (by omega) hw16) (by omega) (by rw [mkV_O (by decide)]; exact hS.1) rfl k_m_Os_55 k_im_Os_code k_se_Os_code k_i_Os k_co_Os_code (by decide +kernel) rfl ⟨Nat.le_of_ble_eq_true rfl, Nat.le_of_ble_eq_true rfl⟩ ⟨rfl, rfl⟩ ⟨Nat.zero_le _, Nat.zero_le _⟩ rfl (Nat.le_of_ble_eq_true rfl) d_Os_takeShortSteps_52 (fun r' C' H locs hp1 w => ?_)
        obtain ⟨rfl, rfl⟩ := hp1
        refine t_shi (z := j) (v := cod pr (G1 16) 12 12 0) X hT w hS j (by omega) (by omega) d_Os_takeShortSteps_55 (fun H locs w => ?_)
        have hl1b : ∀ i, i < 500 → lrg (va_up hi1 j (cod pr (G1 16) 12 12 0) i) := fun i hi => by
          by_cases e : i = j
          · subst e; rw [va_up_self]; exact hc2
          · rw [va_up_ne _ _ e]; exact (hl1 i hi).2
        have hS := hS.uph hl1b
        have hO := hO.up (i := 130) (x := aL cs 500 (va_up hi1 j (cod pr (G1 16) 12 12 0))) (by decide) (by decide)
        rw [va_comm _ (show (130 : Nat) ≠ 129 by decide), va_uu, va_uu] at w hO hS
        refine lv_aload_n X.1 X.2.1 d_Os_takeShortSteps_56 rfl (lv_at hl 0 rfl) ?_
        refine t_os X hT w hS 0 (by decide) k_f_Os_9 rfl d_Os_takeShortSteps_57 ?_
        refine lv_aload_n X.1 X.2.1 d_Os_takeShortSteps_60 rfl (lv_at hl 0 rfl) ?_
        refine t_os X hT w hS 3 (by decide) k_f_Os_27 rfl d_Os_takeShortSteps_61 ?_
        refine lv_aload_n X.1 X.2.1 d_Os_takeShortSteps_64 rfl (lv_at hl 0 rfl) ?_
        refine t_os X hT w hS 5 (by decide) k_f_Os_34 rfl d_Os_takeShortSteps_65 ?_
        refine lv_aload_n X.1 X.2.1 d_Os_takeShortSteps_68 rfl (lv_at hl 0 rfl) ?_
        refine t_os X hT w hS 3 (by decide) k_f_Os_27 rfl d_Os_takeShortSteps_69 ?_
        refine lv_aload_n X.1 X.2.1 d_Os_takeShortSteps_72 rfl (lv_at hl 1 rfl) ?_
        refine w_cVv (n := 4) (i := 123) (ci := 1) (As := [.ref (ad (2 * 16)), .ref (ad (2 * 18)), .ref (ad (2 * 16)), .ref (ad (2 * d))]) (rest := []) X w hml hl.1 (c_Ar_multiply hT (G := G1) hO (t := 16) (a := 18) (b := 16) (d := d) (by omega) (by omega) (by omega) (by omega) hW (by rw [hG18]; exact hX) (by rw [hP]; exact hok) (by rw [hGd]; exact hM) (by rw [hGd]; exact hdd)) (by omega) (by rw [mkV_O (by decide)]; exact hO.1) rfl k_m_Os_59 k_im_Ar_multiply k_se_Ar_multiply k_i_Ar k_co_Ar_multiply (by decide +kernel) rfl ⟨Nat.le_of_ble_eq_true rfl, Nat.le_of_ble_eq_true rfl⟩ ⟨rfl, rfl⟩ ⟨Nat.zero_le _, Nat.zero_le _⟩ rfl (Nat.le_of_ble_eq_true rfl) d_Os_takeShortSteps_73 (fun C' H locs hp1 w => ?_)
        subst hp1
        obtain ⟨Gw1, eGw1⟩ : ∃ gg : Nat → Nat → Int, gg = va_up (va_up (va_up G1 0 (dvm pr inv (prd pr (G1 18) (G1 16)) (G1 d)).2) 1 (dvm pr inv (prd pr (G1 18) (G1 16)) (G1 d)).1) 16 (dvm pr inv (prd pr (G1 18) (G1 16)) (G1 d)).1 := ⟨_, rfl⟩
        rw [← eGw1] at w
        refine i_inc (k := 2) (x := j) (lv' := [(2, .int (iI (j + 1))), (0, .ref (ad (128))), (1, .ref (ad (2 * d)))]) X d_Os_takeShortSteps_76 hl rfl (by decide) rfl (fun ls hl => ?_)
        refine lv_goto (tgt := 10) X.1 X.2.1 d_Os_takeShortSteps_79 (by decide) ?_
        rw [if_neg (fun e => absurd e.1 (by omega))] at hz
        rw [hGd, hG18, hP] at eGw1
        have gt : Gw1 16 = (pwr pr inv (G 18) (G d)) (j + 1) := by rw [eGw1, va_up_self]; rfl
        refine ih (j + 1) Gw1 _ _ H locs ls (by omega) w (by rw [eGw1]; exact WF.mul hO hW hX hok hM hdd (by omega)) gt (fun i i0 i1 i6 => by rw [eGw1, va_up_ne _ _ i6, va_up_ne _ _ i1, va_up_ne _ _ i0]; exact hF i i0 i1 i6) (fun i hi => ⟨hl1a i hi, hl1b i hi⟩) (fun i hi => ?_) hz (lv_sub hl [1, 2, 0] rfl)
        by_cases e : i = j
        · subst e; rw [va_up_self, va_up_self, hP]; exact ⟨rfl, rfl⟩
        · rw [va_up_ne _ _ e, va_up_ne _ _ e]; exact hl2 i (by omega)
      · refine lv_aload_n X.1 X.2.1 d_Os_takeShortSteps_21 rfl (lv_at hl 0 rfl) ?_
        refine t_os X hT w hS 3 (by decide) k_f_Os_27 rfl d_Os_takeShortSteps_22 ?_
        refine w_cVi (n := 0) (i := 2 * 16) (ci := 0) (As := []) (rest := []) X w hml hl.1 (c_Po_isOne hT (G := G1) (k := 16) (by omega) hw16) (by omega) (mkV_o (by omega)) rfl k_m_Os_51 k_im_Po_isOne k_se_Po_isOne k_i_Po k_co_Po_isOne (by decide +kernel) rfl ⟨Nat.le_of_ble_eq_true rfl, Nat.le_of_ble_eq_true rfl⟩ ⟨rfl, rfl⟩ ⟨Nat.zero_le _, Nat.zero_le _⟩ rfl (Nat.le_of_ble_eq_true rfl) d_Os_takeShortSteps_25 (fun r' C' H locs hp1 w => ?_)
        obtain ⟨rfl, rfl⟩ := hp1
        rw [if01]
        refine z_eq (a := if dg 300 (G1 16) = 0 ∧ G1 16 0 = 1 then 1 else 0) (tgt := 33) X (by split <;> omega) d_Os_takeShortSteps_28 (by decide) (fun h_28 => ?_) (fun h_28 => ?_)
        · refine lv_aload_n X.1 X.2.1 d_Os_takeShortSteps_33 rfl (lv_at hl 0 rfl) ?_
          refine t_os X hT w hS 1 (by decide) k_f_Os_15 rfl d_Os_takeShortSteps_34 ?_
          refine lv_iload_n X.1 X.2.1 d_Os_takeShortSteps_37 rfl (lv_at hl 2 rfl) ?_
          refine lv_aload_n X.1 X.2.1 d_Os_takeShortSteps_38 rfl (lv_at hl 0 rfl) ?_
          refine lv_iconst (v := iI (0)) X.1 X.2.1 d_Os_takeShortSteps_39 (by decide) ?_
          refine w_cVl (n := 1) (i := 128) (ci := 3) (As := [.int (iI ((0 : Nat)))]) (rest := [.int (iI (j)), .ref (ad (129))]) X w hml hl.1 (c_Os_code hT hO hS (G := G1) (f := 0) (by omega) hw16) (by omega) (by rw [mkV_O (by decide)]; exact hS.1) rfl k_m_Os_55 k_im_Os_code k_se_Os_code k_i_Os k_co_Os_code (by decide +kernel) rfl ⟨Nat.le_of_ble_eq_true rfl, Nat.le_of_ble_eq_true rfl⟩ ⟨rfl, rfl⟩ ⟨Nat.zero_le _, Nat.zero_le _⟩ rfl (Nat.le_of_ble_eq_true rfl) d_Os_takeShortSteps_40 (fun r' C' H locs hp1 w => ?_)
          obtain ⟨rfl, rfl⟩ := hp1
          refine t_slo (z := j) (v := cod pr (G1 16) 0 12 0) X hT w hS j (by omega) (by omega) d_Os_takeShortSteps_43 (fun H locs w => ?_)
          have hl1a : ∀ i, i < 500 → lrg (va_up lo1 j (cod pr (G1 16) 0 12 0) i) := fun i hi => by
            by_cases e : i = j
            · subst e; rw [va_up_self]; exact hc1
            · rw [va_up_ne _ _ e]; exact (hl1 i hi).1
          have hS := hS.upl hl1a
          have hO := hO.up (i := 129) (x := aL cs 500 (va_up lo1 j (cod pr (G1 16) 0 12 0))) (by decide) (by decide)
          refine lv_aload_n X.1 X.2.1 d_Os_takeShortSteps_44 rfl (lv_at hl 0 rfl) ?_
          refine t_os X hT w hS 2 (by decide) k_f_Os_19 rfl d_Os_takeShortSteps_45 ?_
          refine lv_iload_n X.1 X.2.1 d_Os_takeShortSteps_48 rfl (lv_at hl 2 rfl) ?_
          refine lv_aload_n X.1 X.2.1 d_Os_takeShortSteps_49 rfl (lv_at hl 0 rfl) ?_
          refine lv_bipush (v := iI (12)) X.1 X.2.1 d_Os_takeShortSteps_50 (by decide) ?_
          refine w_cVl (n := 1) (i := 128) (ci := 3) (As := [.int (iI ((12 : Nat)))]) (rest := [.int (iI (j)), .ref (ad (130))]) X w hml hl.1 (c_Os_code hT hO hS (G := G1) (f := 12) (by omega) hw16) (by omega) (by rw [mkV_O (by decide)]; exact hS.1) rfl k_m_Os_55 k_im_Os_code k_se_Os_code k_i_Os k_co_Os_code (by decide +kernel) rfl ⟨Nat.le_of_ble_eq_true rfl, Nat.le_of_ble_eq_true rfl⟩ ⟨rfl, rfl⟩ ⟨Nat.zero_le _, Nat.zero_le _⟩ rfl (Nat.le_of_ble_eq_true rfl) d_Os_takeShortSteps_52 (fun r' C' H locs hp1 w => ?_)
          obtain ⟨rfl, rfl⟩ := hp1
          refine t_shi (z := j) (v := cod pr (G1 16) 12 12 0) X hT w hS j (by omega) (by omega) d_Os_takeShortSteps_55 (fun H locs w => ?_)
          have hl1b : ∀ i, i < 500 → lrg (va_up hi1 j (cod pr (G1 16) 12 12 0) i) := fun i hi => by
            by_cases e : i = j
            · subst e; rw [va_up_self]; exact hc2
            · rw [va_up_ne _ _ e]; exact (hl1 i hi).2
          have hS := hS.uph hl1b
          have hO := hO.up (i := 130) (x := aL cs 500 (va_up hi1 j (cod pr (G1 16) 12 12 0))) (by decide) (by decide)
          rw [va_comm _ (show (130 : Nat) ≠ 129 by decide), va_uu, va_uu] at w hO hS
          refine lv_aload_n X.1 X.2.1 d_Os_takeShortSteps_56 rfl (lv_at hl 0 rfl) ?_
          refine t_os X hT w hS 0 (by decide) k_f_Os_9 rfl d_Os_takeShortSteps_57 ?_
          refine lv_aload_n X.1 X.2.1 d_Os_takeShortSteps_60 rfl (lv_at hl 0 rfl) ?_
          refine t_os X hT w hS 3 (by decide) k_f_Os_27 rfl d_Os_takeShortSteps_61 ?_
          refine lv_aload_n X.1 X.2.1 d_Os_takeShortSteps_64 rfl (lv_at hl 0 rfl) ?_
          refine t_os X hT w hS 5 (by decide) k_f_Os_34 rfl d_Os_takeShortSteps_65 ?_
          refine lv_aload_n X.1 X.2.1 d_Os_takeShortSteps_68 rfl (lv_at hl 0 rfl) ?_
          refine t_os X hT w hS 3 (by decide) k_f_Os_27 rfl d_Os_takeShortSteps_69 ?_
          refine lv_aload_n X.1 X.2.1 d_Os_takeShortSteps_72 rfl (lv_at hl 1 rfl) ?_
          refine w_cVv (n := 4) (i := 123) (ci := 1) (As := [.ref (ad (2 * 16)), .ref (ad (2 * 18)), .ref (ad (2 * 16)), .ref (ad (2 * d))]) (rest := []) X w hml hl.1 (c_Ar_multiply hT (G := G1) hO (t := 16) (a := 18) (b := 16) (d := d) (by omega) (by omega) (by omega) (by omega) hW (by rw [hG18]; exact hX) (by rw [hP]; exact hok) (by rw [hGd]; exact hM) (by rw [hGd]; exact hdd)) (by omega) (by rw [mkV_O (by decide)]; exact hO.1) rfl k_m_Os_59 k_im_Ar_multiply k_se_Ar_multiply k_i_Ar k_co_Ar_multiply (by decide +kernel) rfl ⟨Nat.le_of_ble_eq_true rfl, Nat.le_of_ble_eq_true rfl⟩ ⟨rfl, rfl⟩ ⟨Nat.zero_le _, Nat.zero_le _⟩ rfl (Nat.le_of_ble_eq_true rfl) d_Os_takeShortSteps_73 (fun C' H locs hp1 w => ?_)
          subst hp1
          obtain ⟨Gw1, eGw1⟩ : ∃ gg : Nat → Nat → Int, gg = va_up (va_up (va_up G1 0 (dvm pr inv (prd pr (G1 18) (G1 16)) (G1 d)).2) 1 (dvm pr inv (prd pr (G1 18) (G1 16)) (G1 d)).1) 16 (dvm pr inv (prd pr (G1 18) (G1 16)) (G1 d)).1 := ⟨_, rfl⟩
          rw [← eGw1] at w
          refine i_inc (k := 2) (x := j) (lv' := [(2, .int (iI (j + 1))), (0, .ref (ad (128))), (1, .ref (ad (2 * d)))]) X d_Os_takeShortSteps_76 hl rfl (by decide) rfl (fun ls hl => ?_)
          refine lv_goto (tgt := 10) X.1 X.2.1 d_Os_takeShortSteps_79 (by decide) ?_
          rw [if_neg (fun e => by rw [hP] at h_28; rw [if_pos e.2] at h_28; omega)] at hz
          rw [hGd, hG18, hP] at eGw1
          have gt : Gw1 16 = (pwr pr inv (G 18) (G d)) (j + 1) := by rw [eGw1, va_up_self]; rfl
          refine ih (j + 1) Gw1 _ _ H locs ls (by omega) w (by rw [eGw1]; exact WF.mul hO hW hX hok hM hdd (by omega)) gt (fun i i0 i1 i6 => by rw [eGw1, va_up_ne _ _ i6, va_up_ne _ _ i1, va_up_ne _ _ i0]; exact hF i i0 i1 i6) (fun i hi => ⟨hl1a i hi, hl1b i hi⟩) (fun i hi => ?_) hz (lv_sub hl [1, 2, 0] rfl)
          by_cases e : i = j
          · subst e; rw [va_up_self, va_up_self, hP]; exact ⟨rfl, rfl⟩
          · rw [va_up_ne _ _ e, va_up_ne _ _ e]; exact hl2 i (by omega)
        · refine lv_iload_n X.1 X.2.1 d_Os_takeShortSteps_31 rfl (lv_at hl 2 rfl) ?_
          rw [if_pos ⟨by omega, by rw [← hP]; by_cases e : dg 300 (G1 16) = 0 ∧ G1 16 0 = 1; exact e; exact absurd (if_neg e) h_28⟩] at hz
          subst hz
          exact w_iret X hr hlk w (hp G1 lo1 hi1 hW (by rw [hP]; exact hok) hF hl1 (fun h0 => absurd h0 (by omega))) d_Os_takeShortSteps_32
end TS
theorem c_Os_takeShortSteps {l : Launch} {D : va_G} {cs : Nat → ClassId} {A : Nat → Prop} {ad : Nat → Nat} {T : Nat} (hT : 132 ≤ T) {G : Nat → Nat → Int} {O : Nat → va_E} {pr : Int} {inv : Nat → Int} (hO : arO cs ad pr inv O) {lo hi : Nat → Int} (hS : osO cs ad lo hi O) {d : Nat} (hd : 19 ≤ d ∧ d < 61) (hW : WF G) (hX' : okp pr 25 (G 18)) (hM : okp pr 25 (G d)) (hdd : 0 ≤ dg 300 (G d)) : Ci l y_Os_takeShortSteps ws_Os_takeShortSteps { frames := 4, cells := 0, slots := 0, locals := 97 } D cs A ad T [.ref (ad (128)), .ref (ad (2 * d))] (mkV cs ad (rV G) O) (fun r C' => ∃ G' lo' hi', C' = mkV cs ad (rV G') (va_up (va_up O 129 (aL cs 500 lo')) 130 (aL cs 500 hi')) ∧ WF G' ∧ okp pr 25 (G' 16) ∧ (∀ i, i ≠ 0 → i ≠ 1 → i ≠ 16 → G' i = G i) ∧ (∀ i, i < 500 → lrg (lo' i) ∧ lrg (hi' i)) ∧ r = iI (shS (pwr pr inv (G 18) (G d)) 0 500) ∧ (shS (pwr pr inv (G 18) (G d)) 0 500 = 0 → G' 16 = (pwr pr inv (G 18) (G d)) 500 ∧ ∀ i, i < 500 → lo' i = cod pr ((pwr pr inv (G 18) (G d)) i) 0 12 0 ∧ hi' i = cod pr ((pwr pr inv (G 18) (G d)) i) 12 12 0)) := by
  refine w_bodyI (by decide) (Nat.le_of_ble_eq_true rfl) ?_
  intro p e s m below meth c X hr hlk hml w ls hl
  have hl : lv_has ls 3 [(0, .ref (ad (128))), (1, .ref (ad (2 * d)))] := hl
  have hpr := hO.2.2.1
  refine lv_aload_n X.1 X.2.1 d_Os_takeShortSteps_0 rfl (lv_at hl 0 rfl) ?_
  refine t_os X hT w hS 3 (by decide) k_f_Os_27 rfl d_Os_takeShortSteps_1 ?_
  refine lv_iconst (v := iI (0)) X.1 X.2.1 d_Os_takeShortSteps_4 (by decide) ?_
  refine w_cVv (n := 1) (i := 2 * 16) (ci := 0) (As := [.int (iI ((0 : Nat)))]) (rest := []) X w hml hl.1 (c_Po_becomePowerOfX hT (G := G) (k := 16) (i := 0) (by omega) (by decide) (hW 16 (by omega))) (by omega) (mkV_o (by omega)) rfl k_m_Os_37 k_im_Po_becomePowerOfX k_se_Po_becomePowerOfX k_i_Po k_co_Po_becomePowerOfX (by decide +kernel) rfl ⟨Nat.le_of_ble_eq_true rfl, Nat.le_of_ble_eq_true rfl⟩ ⟨rfl, rfl⟩ ⟨Nat.zero_le _, Nat.zero_le _⟩ rfl (Nat.le_of_ble_eq_true rfl) d_Os_takeShortSteps_5 (fun C' H locs hp w => ?_)
  subst hp
  obtain ⟨Gw1, eGw1⟩ : ∃ gg : Nat → Nat → Int, gg = va_up G 16 (fun x => if x = 0 then 1 else 0) := ⟨_, rfl⟩
  rw [← eGw1] at w
  refine lv_iconst (v := iI (0)) X.1 X.2.1 d_Os_takeShortSteps_8 (by decide) ?_
  refine lv_istore_n (lv' := [(2, .int (iI (0))), (0, .ref (ad (128))), (1, .ref (ad (2 * d)))]) X.1 X.2.1 d_Os_takeShortSteps_9 rfl hl (by decide) rfl (fun ls hl => ?_)
  have g16 : Gw1 16 = oneP := by rw [eGw1, va_up_self]; rfl
  have hFg : ∀ i, i ≠ 0 → i ≠ 1 → i ≠ 16 → Gw1 i = G i := fun i _ _ h => by rw [eGw1, va_up_ne _ _ h]
  have hgd : Gw1 d = G d := hFg d (by omega) (by omega) (by omega)
  have hg18 : Gw1 18 = G 18 := hFg 18 (by omega) (by omega) (by omega)
  have hone : okp pr 25 oneP := oneP_ok (by omega) (by omega)
  have eO : O = va_up (va_up O 129 (aL cs 500 lo)) 130 (aL cs 500 hi) := by rw [← hS.2.1, va_id, ← hS.2.2.1, va_id]
  rw [eO] at w
  refine l_Os_takeShortSteps (G := G) (d := d) X hr hlk hml hT hO hS.1 hd hX' hM hdd (Z := shS (pwr pr inv (G 18) (G d)) 0 500) (fun G1 lo1 hi1 a1 a2 a3 a4 a5 => ⟨G1, lo1, hi1, rfl, a1, a2, a3, a4, rfl, a5⟩) 500 0 Gw1 lo hi _ _ _ (by omega) w (by rw [eGw1]; exact hW.up (k := 16) (hone.ok hpr.2)) g16 hFg hS.2.2.2 (fun i hi => absurd hi (by omega)) rfl (lv_sub hl [1, 2, 0] rfl)
/-- the long steps: from the power F on, by the stride S -/
def loS (pr : Int) (inv : Nat → Int) (lo hi : Nat → Int) (S M : Nat → Int) : Nat → Nat → (Nat → Int) → Int
  | _, 0, _ => 0
  | i, n + 1, F => if 0 ≤ fss lo hi (cod pr F 0 12 0) (cod pr F 12 12 0) 0 500 then 500 * (i : Int) - fss lo hi (cod pr F 0 12 0) (cod pr F 12 12 0) 0 500 else loS pr inv lo hi S M (i + 1) n (mulm pr inv S F M)
theorem fss_rg (lo hi : Nat → Int) (a b : Int) : ∀ n i : Nat, -1 ≤ fss lo hi a b i n ∧ fss lo hi a b i n < i + n ∨ fss lo hi a b i n = -1
  | 0, i => Or.inr rfl
  | n + 1, i => by
    unfold fss
    split
    · omega
    · have := fss_rg lo hi a b n (i + 1); omega
section TL
variable {p : Program} {l : Launch} {e : Env} {s : State} {m : MethodId} {args : Array Value} {below : List Frame} {meth : Method} {c : Code} {H : Heap} {locs : List Loc} {Q : State → Prop} {D : va_G} {cs : Nat → ClassId} {A : Nat → Prop} {ad : Nat → Nat} {T : Nat} {O : Nat → va_E} {pr : Int} {inv : Nat → Int} {lo hi : Nat → Int}
variable {d : Nat} {G : Nat → Nat → Int}
theorem l_Os_takeLongSteps {post : Int32 → (Nat → va_E) → Prop} (X : Cx p s m args c b_Os_takeLongSteps ROs) (hr : meth.sig.returnType = some .int) (hlk : meth.locks = false) (hml : c.maxLocals = 4) (hT : 132 ≤ T) (hO : arO cs ad pr inv O) (hS : osO cs ad lo hi O) (hd : 19 ≤ d ∧ d < 61) (hX : okp pr 25 (G 17)) (hM : okp pr 25 (G d)) (hdd : 0 ≤ dg 300 (G d)) {Z : Int}
    (hp : ∀ (G1 : Nat → Nat → Int), WF G1 → (∀ i, i ≠ 0 → i ≠ 1 → i ≠ 16 → G1 i = G i) → post (iI Z) (mkV cs ad (rV G1) O)) :
    ∀ (n i : Nat) (G1 : Nat → Nat → Int) (H : Heap) (locs : List Loc) (ls : Array Slot), i + n = 201 → Wd D cs A ad T s (mkV cs ad (rV G1) O) H locs → WF G1 → okp pr 25 (G1 16) → (∀ i, i ≠ 0 → i ≠ 1 → i ≠ 16 → G1 i = G i) → loS pr inv lo hi (G 17) (G d) i n (G1 16) = Z → lv_has ls 4 [(0, .ref (ad (128))), (1, .ref (ad (2 * d))), (2, .int (iI (i)))] → W p l e { frames := 4, cells := 0, slots := 0, locals := 97 } s m args below meth c H locs 0 0 (MQ below (va_Qi post (QW D cs ad T) A) args s 0 0 A) (F0 m 13 ls []) := by
  have hpr := hO.2.2.1
  intro n
  induction n with
  | zero =>
    intro i G1 H locs ls h1 w hW h16 hF hz hl
    have hz : 0 = Z := hz
    subst hz
    refine lv_iload_n X.1 X.2.1 d_Os_takeLongSteps_13 rfl (lv_at hl 2 rfl) ?_
    refine lv_sipush (v := iI (200)) X.1 X.2.1 d_Os_takeLongSteps_14 (by decide) ?_
    refine i_gt (a := i) (b := 200) (tgt := 63) X (by omega) (by omega) d_Os_takeLongSteps_17 (by decide) (fun h_17 => ?_) (fun h_17 => ?_)
    · refine lv_iconst (v := iI (0)) X.1 X.2.1 d_Os_takeLongSteps_63 (by decide) ?_
      exact w_iret X hr hlk w (hp G1 hW hF) d_Os_takeLongSteps_64
    · exact absurd h_17 (by omega)
  | succ n ih =>
    intro i G1 H locs ls h1 w hW h16 hF hz hl
    have hGd : G1 d = G d := hF d (by omega) (by omega) (by omega)
    have hG17 : G1 17 = G 17 := hF 17 (by omega) (by omega) (by omega)
    unfold loS at hz
    obtain ⟨j, ej⟩ : ∃ j : Int, j = fss lo hi (cod pr (G1 16) 0 12 0) (cod pr (G1 16) 12 12 0) 0 500 := ⟨_, rfl⟩
    have hj := fss_rg lo hi (cod pr (G1 16) 0 12 0) (cod pr (G1 16) 12 12 0) 500 0
    rw [← ej] at hz hj
    refine lv_iload_n X.1 X.2.1 d_Os_takeLongSteps_13 rfl (lv_at hl 2 rfl) ?_
    refine lv_sipush (v := iI (200)) X.1 X.2.1 d_Os_takeLongSteps_14 (by decide) ?_
    refine i_gt (a := i) (b := 200) (tgt := 63) X (by omega) (by omega) d_Os_takeLongSteps_17 (by decide) (fun h_17 => ?_) (fun h_17 => ?_)
    · exact absurd h_17 (by omega)
    · refine lv_aload_n X.1 X.2.1 d_Os_takeLongSteps_20 rfl (lv_at hl 0 rfl) ?_
      refine w_cVi (n := 0) (i := 128) (ci := 3) (As := []) (rest := []) X w hml hl.1 (c_Os_findShortStep hT hO hS (G := G1) (h16.ok hpr.2)) (by omega) (by rw [mkV_O (by decide)]; exact hS.1) rfl k_m_Os_69 k_im_Os_findShortStep k_se_Os_findShortStep k_i_Os k_co_Os_findShortStep (by decide +kernel) rfl ⟨Nat.le_of_ble_eq_true rfl, Nat.le_of_ble_eq_true rfl⟩ ⟨rfl, rfl⟩ ⟨Nat.zero_le _, Nat.zero_le _⟩ rfl (Nat.le_of_ble_eq_true rfl) d_Os_takeLongSteps_21 (fun r' C' H locs hp1 w => ?_)
      obtain ⟨rfl, rfl⟩ := hp1
      rw [← ej]
      refine lv_istore_n (lv' := [(3, .int (iI (j))), (0, .ref (ad (128))), (1, .ref (ad (2 * d))), (2, .int (iI (i)))]) X.1 X.2.1 d_Os_takeLongSteps_24 rfl hl (by decide) rfl (fun ls hl => ?_)
      refine lv_iload_n X.1 X.2.1 d_Os_takeLongSteps_25 rfl (lv_at hl 0 rfl) ?_
      refine z_lt (a := j) (tgt := 37) X (by omega) d_Os_takeLongSteps_26 (by decide) (fun h_26 => ?_) (fun h_26 => ?_)
      · refine lv_aload_n X.1 X.2.1 d_Os_takeLongSteps_37 rfl (lv_at hl 1 rfl) ?_
        refine t_os X hT w hS 0 (by decide) k_f_Os_9 rfl d_Os_takeLongSteps_38 ?_
        refine lv_aload_n X.1 X.2.1 d_Os_takeLongSteps_41 rfl (lv_at hl 1 rfl) ?_
        refine t_os X hT w hS 3 (by decide) k_f_Os_27 rfl d_Os_takeLongSteps_42 ?_
        refine lv_aload_n X.1 X.2.1 d_Os_takeLongSteps_45 rfl (lv_at hl 1 rfl) ?_
        refine t_os X hT w hS 4 (by decide) k_f_Os_31 rfl d_Os_takeLongSteps_46 ?_
        refine lv_aload_n X.1 X.2.1 d_Os_takeLongSteps_49 rfl (lv_at hl 1 rfl) ?_
        refine t_os X hT w hS 3 (by decide) k_f_Os_27 rfl d_Os_takeLongSteps_50 ?_
        refine lv_aload_n X.1 X.2.1 d_Os_takeLongSteps_53 rfl (lv_at hl 2 rfl) ?_
        refine w_cVv (n := 4) (i := 123) (ci := 1) (As := [.ref (ad (2 * 16)), .ref (ad (2 * 17)), .ref (ad (2 * 16)), .ref (ad (2 * d))]) (rest := []) X w hml hl.1 (c_Ar_multiply hT (G := G1) hO (t := 16) (a := 17) (b := 16) (d := d) (by omega) (by omega) (by omega) (by omega) hW (by rw [hG17]; exact hX) h16 (by rw [hGd]; exact hM) (by rw [hGd]; exact hdd)) (by omega) (by rw [mkV_O (by decide)]; exact hO.1) rfl k_m_Os_59 k_im_Ar_multiply k_se_Ar_multiply k_i_Ar k_co_Ar_multiply (by decide +kernel) rfl ⟨Nat.le_of_ble_eq_true rfl, Nat.le_of_ble_eq_true rfl⟩ ⟨rfl, rfl⟩ ⟨Nat.zero_le _, Nat.zero_le _⟩ rfl (Nat.le_of_ble_eq_true rfl) d_Os_takeLongSteps_54 (fun C' H locs hp1 w => ?_)
        subst hp1
        obtain ⟨Gw1, eGw1⟩ : ∃ gg : Nat → Nat → Int, gg = va_up (va_up (va_up G1 0 (dvm pr inv (prd pr (G1 17) (G1 16)) (G1 d)).2) 1 (dvm pr inv (prd pr (G1 17) (G1 16)) (G1 d)).1) 16 (dvm pr inv (prd pr (G1 17) (G1 16)) (G1 d)).1 := ⟨_, rfl⟩
        rw [← eGw1] at w
        refine i_inc (k := 3) (x := i) (lv' := [(2, .int (iI (i + 1))), (3, .int (iI (j))), (0, .ref (ad (128))), (1, .ref (ad (2 * d)))]) X d_Os_takeLongSteps_57 hl rfl (by decide) rfl (fun ls hl => ?_)
        refine lv_goto (tgt := 13) X.1 X.2.1 d_Os_takeLongSteps_60 (by decide) ?_
        rw [if_neg (by omega)] at hz
        rw [hGd, hG17] at eGw1
        have gt : Gw1 16 = mulm pr inv (G 17) (G1 16) (G d) := by rw [eGw1, va_up_self]; rfl
        exact ih (i + 1) Gw1 H locs ls (by omega) w (by rw [eGw1]; exact WF.mul hO hW hX h16 hM hdd (by omega)) (by rw [gt]; exact (mulm_ok hO hX h16 hM hdd).1) (fun i i0 i1 i6 => by rw [eGw1, va_up_ne _ _ i6, va_up_ne _ _ i1, va_up_ne _ _ i0]; exact hF i i0 i1 i6) (by rw [gt]; exact hz) (lv_sub hl [2, 3, 0] rfl)
      · refine lv_sipush (v := iI (500)) X.1 X.2.1 d_Os_takeLongSteps_29 (by decide) ?_
        refine lv_iload_n X.1 X.2.1 d_Os_takeLongSteps_32 rfl (lv_at hl 3 rfl) ?_
        refine i_mul (a := 500) (b := i) X d_Os_takeLongSteps_33 ?_
        refine lv_iload_n X.1 X.2.1 d_Os_takeLongSteps_34 rfl (lv_at hl 0 rfl) ?_
        refine i_sub (a := 500 * i) (b := j) X d_Os_takeLongSteps_35 ?_
        rw [if_pos (by omega)] at hz
        subst hz
        exact w_iret X hr hlk w (hp G1 hW hF) d_Os_takeLongSteps_36
end TL
theorem c_Os_takeLongSteps {l : Launch} {D : va_G} {cs : Nat → ClassId} {A : Nat → Prop} {ad : Nat → Nat} {T : Nat} (hT : 132 ≤ T) {G : Nat → Nat → Int} {O : Nat → va_E} {pr : Int} {inv : Nat → Int} (hO : arO cs ad pr inv O) {lo hi : Nat → Int} (hS : osO cs ad lo hi O) {d : Nat} (hd : 19 ≤ d ∧ d < 61) (hW : WF G) (h16 : okp pr 25 (G 16)) (hM : okp pr 25 (G d)) (hdd : 0 ≤ dg 300 (G d)) : Ci l y_Os_takeLongSteps ws_Os_takeLongSteps { frames := 4, cells := 0, slots := 0, locals := 97 } D cs A ad T [.ref (ad (128)), .ref (ad (2 * d))] (mkV cs ad (rV G) O) (fun r C' => ∃ G', C' = mkV cs ad (rV G') O ∧ WF G' ∧ (∀ i, i ≠ 0 → i ≠ 1 → i ≠ 16 → i ≠ 17 → G' i = G i) ∧ r = iI (loS pr inv lo hi (G 16) (G d) 1 200 (G 16))) := by
  refine w_bodyI (by decide) (Nat.le_of_ble_eq_true rfl) ?_
  intro p e s m below meth c X hr hlk hml w ls hl
  have hl : lv_has ls 4 [(0, .ref (ad (128))), (1, .ref (ad (2 * d)))] := hl
  have hpr := hO.2.2.1
  refine lv_aload_n X.1 X.2.1 d_Os_takeLongSteps_0 rfl (lv_at hl 0 rfl) ?_
  refine t_os X hT w hS 4 (by decide) k_f_Os_31 rfl d_Os_takeLongSteps_1 ?_
  refine lv_aload_n X.1 X.2.1 d_Os_takeLongSteps_4 rfl (lv_at hl 0 rfl) ?_
  refine t_os X hT w hS 3 (by decide) k_f_Os_27 rfl d_Os_takeLongSteps_5 ?_
  refine w_cVv (n := 1) (i := 2 * 17) (ci := 0) (As := [.ref (ad (2 * 16))]) (rest := []) X w hml hl.1 (c_Po_copyFrom hT (G := G) (k := 17) (q := 16) (by omega) (by omega) (by omega) (hW 17 (by omega)) (hW 16 (by omega)) (h16.ok hpr.2)) (by omega) (mkV_o (by omega)) rfl k_m_Os_65 k_im_Po_copyFrom k_se_Po_copyFrom k_i_Po k_co_Po_copyFrom (by decide +kernel) rfl ⟨Nat.le_of_ble_eq_true rfl, Nat.le_of_ble_eq_true rfl⟩ ⟨rfl, rfl⟩ ⟨Nat.zero_le _, Nat.zero_le _⟩ rfl (Nat.le_of_ble_eq_true rfl) d_Os_takeLongSteps_8 (fun C' H locs hp w => ?_)
  subst hp
  obtain ⟨Gw1, eGw1⟩ : ∃ gg : Nat → Nat → Int, gg = va_up G 17 (G 16) := ⟨_, rfl⟩
  rw [← eGw1] at w
  refine lv_iconst (v := iI (1)) X.1 X.2.1 d_Os_takeLongSteps_11 (by decide) ?_
  refine lv_istore_n (lv' := [(2, .int (iI (1))), (0, .ref (ad (128))), (1, .ref (ad (2 * d)))]) X.1 X.2.1 d_Os_takeLongSteps_12 rfl hl (by decide) rfl (fun ls hl => ?_)
  have g17 : Gw1 17 = G 16 := by rw [eGw1, va_up_self]
  have g16 : Gw1 16 = G 16 := by rw [eGw1, va_up_ne _ _ (by omega)]
  have hgd : Gw1 d = G d := by rw [eGw1, va_up_ne _ _ (by omega)]
  exact l_Os_takeLongSteps (G := Gw1) (d := d) X hr hlk hml hT hO hS hd (by rw [g17]; exact h16) (by rw [hgd]; exact hM) (by rw [hgd]; exact hdd) (Z := (loS pr inv lo hi (G 16) (G d) 1 200 (G 16))) (fun G1 a1 a2 => ⟨G1, rfl, a1, fun i i0 i1 i6 i7 => by rw [a2 i i0 i1 i6, eGw1, va_up_ne _ _ i7], rfl⟩) 200 1 Gw1 _ _ _ (by omega) w (by rw [eGw1]; exact hW.up (k := 17) (h16.ok hpr.2)) (by rw [g16]; exact h16) (fun _ _ _ _ => rfl) (by rw [g17, g16, hgd]) (lv_sub hl [1, 2, 0] rfl)
theorem fss_congr {lo hi lo' hi' : Nat → Int} {a b : Int} : ∀ n i : Nat, (∀ j, j < i + n → lo j = lo' j ∧ hi j = hi' j) → fss lo hi a b i n = fss lo' hi' a b i n
  | 0, i, _ => rfl
  | n + 1, i, h => by
    unfold fss
    rw [(h i (by omega)).1, (h i (by omega)).2, fss_congr n (i + 1) (fun j hj => h j (by omega))]
theorem loS_congr {pr : Int} {inv lo hi lo' hi' S M : Nat → Int} (h : ∀ j, j < 500 → lo j = lo' j ∧ hi j = hi' j) : ∀ (n i : Nat) (F : Nat → Int), loS pr inv lo hi S M i n F = loS pr inv lo' hi' S M i n F
  | 0, _, _ => rfl
  | n + 1, i, F => by
    unfold loS
    rw [fss_congr 500 0 (fun j hj => h j (by omega)), loS_congr h n]
/-- the class's order -/
def ordC (pr : Int) (inv : Nat → Int) (X M : Nat → Int) : Int :=
  if M 0 = 0 then 0 else if 0 < shS (pwr pr inv X M) 0 500 then shS (pwr pr inv X M) 0 500 else loS pr inv (fun i => cod pr (pwr pr inv X M i) 0 12 0) (fun i => cod pr (pwr pr inv X M i) 12 12 0) (pwr pr inv X M 500) M 1 200 (pwr pr inv X M 500)
theorem shS_rg (P : Nat → Nat → Int) : ∀ n j : Nat, 0 ≤ shS P j n ∧ shS P j n ≤ j + n
  | 0, j => by simp [shS]
  | n + 1, j => by
    unfold shS
    split
    · omega
    · have := shS_rg P n (j + 1); omega
theorem c_Os_search {l : Launch} {D : va_G} {cs : Nat → ClassId} {A : Nat → Prop} {ad : Nat → Nat} {T : Nat} (hT : 132 ≤ T) {G : Nat → Nat → Int} {O : Nat → va_E} {pr : Int} {inv : Nat → Int} (hO : arO cs ad pr inv O) {lo hi : Nat → Int} (hS : osO cs ad lo hi O) {d : Nat} (hd : 19 ≤ d ∧ d < 61) (hW : WF G) (hX' : okp pr 25 (G 18)) (hM : okp pr 25 (G d)) (hdd : 0 ≤ dg 300 (G d)) : Ci l y_Os_search ws_Os_search { frames := 5, cells := 0, slots := 0, locals := 120 } D cs A ad T [.ref (ad (128)), .ref (ad (2 * d))] (mkV cs ad (rV G) O) (fun r C' => ∃ G' O' lo' hi', C' = mkV cs ad (rV G') O' ∧ WF G' ∧ (∀ i, i ≠ 0 → i ≠ 1 → i ≠ 16 → i ≠ 17 → G' i = G i) ∧ (∀ i, i ≠ 129 → i ≠ 130 → O' i = O i) ∧ osO cs ad lo' hi' O' ∧ r = iI (ordC pr inv (G 18) (G d))) := by
  refine w_bodyI (by decide) (Nat.le_of_ble_eq_true rfl) ?_
  intro p e s m below meth c X hr hlk hml w ls hl
  have hl : lv_has ls 3 [(0, .ref (ad (128))), (1, .ref (ad (2 * d)))] := hl
  have hpr := hO.2.2.1
  have hd0 := hM.1 0
  have wdd := wd_2 (show 2 ≤ d by omega)
  obtain ⟨sv, esv⟩ : ∃ sv : Int, sv = shS (pwr pr inv (G 18) (G d)) 0 500 := ⟨_, rfl⟩
  have hsr := shS_rg (pwr pr inv (G 18) (G d)) 500 0
  rw [← esv] at hsr
  refine lv_aload_n X.1 X.2.1 d_Os_search_0 rfl (lv_at hl 1 rfl) ?_
  refine t_co (k := d) X hT w (by omega) k_f_Os_40 d_Os_search_1 ?_
  refine lv_iconst (v := iI (0)) X.1 X.2.1 d_Os_search_4 (by decide) ?_
  refine g_ld (k := d) (z := 0) X hT w (by omega) (0) (by omega) (by omega) d_Os_search_5 ?_
  refine z_ne (a := G d 0) (tgt := 11) X (by omega) d_Os_search_6 (by decide) (fun h_6 => ?_) (fun h_6 => ?_)
  · refine lv_aload_n X.1 X.2.1 d_Os_search_11 rfl (lv_at hl 0 rfl) ?_
    refine lv_aload_n X.1 X.2.1 d_Os_search_12 rfl (lv_at hl 1 rfl) ?_
    refine w_cVi (n := 1) (i := 128) (ci := 3) (As := [.ref (ad (2 * d))]) (rest := []) X w hml hl.1 (c_Os_takeShortSteps hT hO hS (G := G) (d := d) hd hW hX' hM hdd) (by omega) (by rw [mkV_O (by decide)]; exact hS.1) rfl k_m_Os_44 k_im_Os_takeShortSteps k_se_Os_takeShortSteps k_i_Os k_co_Os_takeShortSteps (by decide +kernel) rfl ⟨Nat.le_of_ble_eq_true rfl, Nat.le_of_ble_eq_true rfl⟩ ⟨rfl, rfl⟩ ⟨Nat.zero_le _, Nat.zero_le _⟩ rfl (Nat.le_of_ble_eq_true rfl) d_Os_search_13 (fun r' C' H locs hp w => ?_)
    obtain ⟨G1, lo1, hi1, rfl, hW1, h16, hF1, hl1, rfl, hfull⟩ := hp
    rw [← esv] at hfull ⊢
    obtain ⟨O1, eO1⟩ : ∃ oo : Nat → va_E, oo = (va_up (va_up O 129 (aL cs 500 lo1)) 130 (aL cs 500 hi1)) := ⟨_, rfl⟩
    rw [← eO1] at w
    have hO1 : arO cs ad pr inv O1 := by rw [eO1]; exact (hO.up (by decide) (by decide)).up (by decide) (by decide)
    have hS1 : osO cs ad lo1 hi1 O1 := by rw [eO1]; exact ⟨by rw [va_up_ne _ _ (by decide), va_up_ne _ _ (by decide)]; exact hS.1, by rw [va_up_ne _ _ (by decide), va_up_self], va_up_self _ _ _, hl1⟩
    have hOf : ∀ i, i ≠ 129 → i ≠ 130 → O1 i = O i := fun i i1 i2 => by rw [eO1, va_up_ne _ _ i2, va_up_ne _ _ i1]
    have hd1 : G1 d = G d := hF1 d (by omega) (by omega) (by omega)
    refine lv_istore_n (lv' := [(2, .int (iI (sv))), (0, .ref (ad (128))), (1, .ref (ad (2 * d)))]) X.1 X.2.1 d_Os_search_16 rfl hl (by decide) rfl (fun ls hl => ?_)
    refine lv_iload_n X.1 X.2.1 d_Os_search_17 rfl (lv_at hl 0 rfl) ?_
    refine z_le (a := sv) (tgt := 25) X (by omega) d_Os_search_18 (by decide) (fun h_18 => ?_) (fun h_18 => ?_)
    · refine lv_aload_n X.1 X.2.1 d_Os_search_25 rfl (lv_at hl 1 rfl) ?_
      refine lv_aload_n X.1 X.2.1 d_Os_search_26 rfl (lv_at hl 2 rfl) ?_
      refine w_cVi (n := 1) (i := 128) (ci := 3) (As := [.ref (ad (2 * d))]) (rest := []) X w hml hl.1 (c_Os_takeLongSteps hT hO1 hS1 (G := G1) (d := d) hd hW1 h16 (by rw [hd1]; exact hM) (by rw [hd1]; exact hdd)) (by omega) (by rw [mkV_O (by decide)]; exact hS1.1) rfl k_m_Os_48 k_im_Os_takeLongSteps k_se_Os_takeLongSteps k_i_Os k_co_Os_takeLongSteps (by decide +kernel) rfl ⟨Nat.le_of_ble_eq_true rfl, Nat.le_of_ble_eq_true rfl⟩ ⟨rfl, rfl⟩ ⟨Nat.zero_le _, Nat.zero_le _⟩ rfl (Nat.le_of_ble_eq_true rfl) d_Os_search_27 (fun r' C' H locs hp w => ?_)
      obtain ⟨G2, rfl, hW2, hF2, rfl⟩ := hp
      refine w_iret X hr hlk w ⟨G2, O1, lo1, hi1, rfl, hW2, fun i i0 i1 i6 i7 => by rw [hF2 i i0 i1 i6 i7]; exact hF1 i i0 i1 i6, hOf, hS1, ?_⟩ d_Os_search_30
      obtain ⟨f1, f2⟩ := hfull (by omega)
      unfold ordC
      rw [← esv, if_neg (by omega), if_neg (by omega), f1, hd1, loS_congr f2]
    · refine lv_iload_n X.1 X.2.1 d_Os_search_21 rfl (lv_at hl 0 rfl) ?_
      refine lv_goto (tgt := 30) X.1 X.2.1 d_Os_search_22 (by decide) ?_
      refine w_iret X hr hlk w ⟨G1, O1, lo1, hi1, rfl, hW1, fun i i0 i1 i6 _ => hF1 i i0 i1 i6, hOf, hS1, ?_⟩ d_Os_search_30
      unfold ordC
      rw [← esv, if_neg (by omega), if_pos (by omega)]
  · refine lv_iconst (v := iI (0)) X.1 X.2.1 d_Os_search_9 (by decide) ?_
    refine w_iret X hr hlk w ⟨G, O, lo, hi, rfl, hW, fun _ _ _ _ _ => rfl, fun _ _ _ => rfl, hS, ?_⟩ d_Os_search_10
    unfold ordC
    rw [if_pos (by omega)]
end
section
/-! Cutter: its object at the place 125, the factors' array at 126, how often each at 127. K: how many, the factors, how often -/
abbrev KS : Type := Nat × (Nat → Nat → Int) × (Nat → Int)
def cuF (ad : Nat → Nat) (n : Nat) : List Value := [.ref (ad 126), .ref (ad 127), .int (iI (n : Int)), .ref (ad 123), .ref (ad (2 * 7)), .ref (ad (2 * 8)), .ref (ad (2 * 9)), .ref (ad (2 * 10)), .ref (ad (2 * 11)), .ref (ad (2 * 12)), .ref (ad (2 * 13)), .ref (ad (2 * 14)), .ref (ad (2 * 15))]
def aQ (cs : Nat → ClassId) (ad : Nat → Nat) (n : Nat) (ph : Nat → Nat) : va_E := .inl (cs 2, n, .inr (.inr (.inr (.inr (fun i => some (ad (2 * ph i)))))))
def cuO (cs : Nat → ClassId) (ad : Nat → Nat) (n : Nat) (ph : Nat → Nat) (tm : Nat → Int) (O : Nat → va_E) : Prop := O 125 = .inr (2, cuF ad n) ∧ O 126 = aQ cs ad 24 ph ∧ O 127 = aI cs 24 tm ∧ n ≤ 24 ∧ (∀ i, i < 24 → 37 ≤ ph i ∧ ph i < 61) ∧ ∀ i j, i < 24 → j < 24 → ph i = ph j → i = j
def cuS (pr : Int) (cs : Nat → ClassId) (ad : Nat → Nat) (G : Nat → Nat → Int) (O : Nat → va_E) (K : KS) (ph : Nat → Nat) : Prop := cuO cs ad K.1 ph K.2.2 O ∧ (∀ i, i < 24 → G (ph i) = K.2.1 i) ∧ ∀ i, i < K.1 → okp pr 25 (K.2.1 i)
section CT
variable {p : Program} {l : Launch} {e : Env} {R : Room} {s : State} {m : MethodId} {args : Array Value} {below : List Frame} {meth : Method} {c : Code} {H : Heap} {locs : List Loc} {cells slots : Nat} {Q : State → Prop} {D : va_G} {cs : Nat → ClassId} {A : Nat → Prop} {ad : Nat → Nat} {T : Nat}
variable {cc : ByteArray} {own : String} {pc : Nat} {ls : Array Slot} {rest st : List Value} {V : Nat → PV} {O : Nat → va_E} {n : Nat} {ph : Nat → Nat} {tm : Nat → Int}
theorem t_cu {index : Nat} (X : Cx p s m args c cc own) (hT : 132 ≤ T) (w : Wd D cs A ad T s (mkV cs ad V O) H locs) (hU : cuO cs ad n ph tm O) (k : Nat) (hk : k < 13) (hlink : Cond.fieldLink own index (FCu k).1 (FCu k).2.1 (FCu k).2.2.1 ∈ TB) {v : Value} (hv : (cuF ad n)[k]? = some v) (hdg : decode cc pc = .ok (.getfield index, 3))
    (kk : W p l e R s m args below meth c H locs cells slots Q (F0 m (pc + 3) ls (v :: rest))) : W p l e R s m args below meth c H locs cells slots Q (F0 m pc ls (.ref (ad 125) :: rest)) :=
  w_get X w (Nat.lt_of_lt_of_le (by decide) hT) (by rw [mkV_O (by decide)]; exact hU.1) (ci := 2) rfl k_l_Cu k hk hlink hv hdg kk
theorem t_fa {z : Int} (X : Cx p s m args c cc own) (hT : 132 ≤ T) (w : Wd D cs A ad T s (mkV cs ad V O) H locs) (hU : cuO cs ad n ph tm O) (j : Nat) (hz : z = (j : Int)) (hj : j < 24) (hdg : decode cc pc = .ok (.aaload, 1))
    (kk : W p l e R s m args below meth c H locs cells slots Q (F0 m (pc + 1) ls (.ref (ad (2 * ph j)) :: rest))) : W p l e R s m args below meth c H locs cells slots Q (F0 m pc ls (.int (iI z) :: .ref (ad 126) :: rest)) := by
  subst hz
  refine va_aldq (C := RPo) X.1 X.2.1 w.1 w.2.2.2.1 126 2 (by rw [vW_get (Nat.lt_of_lt_of_le (by decide) hT), mkV_O (by decide), hU.2.1]; rfl) rfl (iI_in hj (by decide)) hdg ?_
  rw [iI_clamp (by omega)]
  exact kk
theorem t_fl (X : Cx p s m args c cc own) (hT : 132 ≤ T) (w : Wd D cs A ad T s (mkV cs ad V O) H locs) (hU : cuO cs ad n ph tm O) (hdg : decode cc pc = .ok (.arraylength, 1))
    (kk : W p l e R s m args below meth c H locs cells slots Q (F0 m (pc + 1) ls (.int (iI 24) :: rest))) : W p l e R s m args below meth c H locs cells slots Q (F0 m pc ls (.ref (ad 126) :: rest)) :=
  va_alen (v := iI 24) X.1 X.2.1 w.1 w.2.2.2.1 126 2 (by rw [vW_get (Nat.lt_of_lt_of_le (by decide) hT), mkV_O (by decide), hU.2.1]; rfl) rfl rfl hdg kk
theorem t_fs {z : Int} (X : Cx p s m args c cc own) (hT : 132 ≤ T) (w : Wd D cs A ad T s (mkV cs ad V O) H locs) (hU : cuO cs ad n ph tm O) (j : Nat) (hz : z = (j : Int)) (hj : j < 24) {k : Nat} (hk : k < 61) (hdg : decode cc pc = .ok (.aastore, 1))
    (kk : ∀ (H1 : Heap) (locs1 : List Loc), Wd D cs A ad T s (mkV cs ad V (va_up O 126 (aQ cs ad 24 (va_up ph j k)))) H1 locs1 → W p l e R s m args below meth c H1 locs1 cells slots Q (F0 m (pc + 1) ls rest)) : W p l e R s m args below meth c H locs cells slots Q (F0 m pc ls (.ref (ad (2 * k)) :: .int (iI z) :: .ref (ad 126) :: rest)) := by
  subst hz
  refine va_astq X.1 X.2.1 w.1 w.2.2.2.1 (w.2.1.va _) w.2.2.2.2 126 2 (2 * k) 0 (r := (RPo, FPo, 2)) (by rw [vW_get (Nat.lt_of_lt_of_le (by decide) hT), mkV_O (by decide), hU.2.1]; rfl) rfl (by rw [vW_get (Nat.lt_of_lt_of_le (by omega) hT), mkV_o hk]; rfl) rfl (iI_in hj (by decide)) hdg (fun H1 locs1 h1 _ h3 => kk H1 locs1 ⟨w.1, w.2.1, w.2.2.1, ?_, h3⟩)
  rw [vW_set, iI_clamp (by omega), mkV_sO (by decide)] at h1
  have e : (fun i => some (ad (2 * va_up ph j k i))) = va_up (fun i => some (ad (2 * ph i))) j (some (ad (2 * k))) := by
    funext i
    unfold va_up
    split <;> rfl
  unfold aQ
  rw [e]
  exact h1
theorem t_tm {z : Int} (X : Cx p s m args c cc own) (hT : 132 ≤ T) (w : Wd D cs A ad T s (mkV cs ad V O) H locs) (hU : cuO cs ad n ph tm O) (j : Nat) (hz : z = (j : Int)) (hj : j < 24) (hdg : decode cc pc = .ok (.iaload, 1))
    (kk : W p l e R s m args below meth c H locs cells slots Q (F0 m (pc + 1) ls (.int (iI (tm j)) :: rest))) : W p l e R s m args below meth c H locs cells slots Q (F0 m pc ls (.int (iI z) :: .ref (ad 127) :: rest)) :=
  w_ild X w (Nat.lt_of_lt_of_le (by decide) hT) (by rw [mkV_O (by decide)]; exact hU.2.2.1) j hz hj (by decide) hdg kk
theorem t_ts {z v : Int} (X : Cx p s m args c cc own) (hT : 132 ≤ T) (w : Wd D cs A ad T s (mkV cs ad V O) H locs) (hU : cuO cs ad n ph tm O) (j : Nat) (hz : z = (j : Int)) (hj : j < 24) (hdg : decode cc pc = .ok (.iastore, 1))
    (kk : ∀ (H1 : Heap) (locs1 : List Loc), Wd D cs A ad T s (mkV cs ad V (va_up O 127 (aI cs 24 (va_up tm j v)))) H1 locs1 → W p l e R s m args below meth c H1 locs1 cells slots Q (F0 m (pc + 1) ls rest)) : W p l e R s m args below meth c H locs cells slots Q (F0 m pc ls (.int (iI v) :: .int (iI z) :: .ref (ad 127) :: rest)) :=
  w_ist X w (Nat.lt_of_lt_of_le (by decide) hT) (by rw [mkV_O (by decide)]; exact hU.2.2.1) j hz hj (by decide) hdg (fun H1 locs1 h => kk H1 locs1 (by rw [mkV_sO (by decide)] at h; exact h))
theorem t_ps {index : Nat} {z : Int} (X : Cx p s m args c cc own) (hT : 132 ≤ T) (w : Wd D cs A ad T s (mkV cs ad V O) H locs) (hU : cuO cs ad n ph tm O) (k : Nat) (hz : z = (k : Int)) (hlink : Cond.fieldLink own index "FieldFactors$Cutter" "size" "I" ∈ TB) (hdg : decode cc pc = .ok (.putfield index, 3))
    (kk : ∀ (H1 : Heap) (locs1 : List Loc), Wd D cs A ad T s (mkV cs ad V (va_up O 125 (.inr (2, cuF ad k)))) H1 locs1 → W p l e R s m args below meth c H1 locs1 cells slots Q (F0 m (pc + 3) ls rest)) : W p l e R s m args below meth c H locs cells slots Q (F0 m pc ls (.int (iI z) :: .ref (ad 125) :: rest)) := by
  subst hz
  exact w_put X w (Nat.lt_of_lt_of_le (by decide) hT) (by rw [mkV_O (by decide)]; exact hU.1) (ci := 2) rfl k_l_Cu tCu tyCu nCu 2 (by decide) hlink rfl rfl rfl (Nat.le_of_ble_eq_true rfl) hdg (fun H1 locs1 h => kk H1 locs1 (by rw [mkV_sO (by decide)] at h; exact h))
end CT
theorem cuO.size {cs : Nat → ClassId} {ad : Nat → Nat} {n k : Nat} {ph : Nat → Nat} {tm : Nat → Int} {O : Nat → va_E} (h : cuO cs ad n ph tm O) (hk : k ≤ 24) : cuO cs ad k ph tm (va_up O 125 (.inr (2, cuF ad k))) := ⟨va_up_self _ _ _, by rw [va_up_ne _ _ (by decide)]; exact h.2.1, by rw [va_up_ne _ _ (by decide)]; exact h.2.2.1, hk, h.2.2.2.2⟩
theorem cuO.time {cs : Nat → ClassId} {ad : Nat → Nat} {n : Nat} {ph : Nat → Nat} {tm tm' : Nat → Int} {O : Nat → va_E} (h : cuO cs ad n ph tm O) : cuO cs ad n ph tm' (va_up O 127 (aI cs 24 tm')) := ⟨by rw [va_up_ne _ _ (by decide)]; exact h.1, by rw [va_up_ne _ _ (by decide)]; exact h.2.1, va_up_self _ _ _, h.2.2.2⟩
theorem cuO.same {cs : Nat → ClassId} {ad : Nat → Nat} {n : Nat} {ph : Nat → Nat} {tm : Nat → Int} {O O' : Nat → va_E} (h : cuO cs ad n ph tm O) (h1 : O' 125 = O 125) (h2 : O' 126 = O 126) (h3 : O' 127 = O 127) : cuO cs ad n ph tm O' := ⟨by rw [h1]; exact h.1, by rw [h2]; exact h.2.1, by rw [h3]; exact h.2.2.1, h.2.2.2⟩
theorem arO.same {cs : Nat → ClassId} {ad : Nat → Nat} {pr : Int} {inv : Nat → Int} {O O' : Nat → va_E} (hO : arO cs ad pr inv O) (h1 : O' 123 = O 123) (h2 : O' 124 = O 124) : arO cs ad pr inv O' := ⟨by rw [h1]; exact hO.1, by rw [h2]; exact hO.2.1, hO.2.2⟩
/-- what of the other cells a Cutter's method leaves alone -/
def cuFr (O O' : Nat → va_E) : Prop := ∀ i, i ≠ 125 → i ≠ 126 → i ≠ 127 → O' i = O i
theorem cuFr.rf {O : Nat → va_E} : cuFr O O := fun _ _ _ _ => rfl
theorem cuFr.tr {O O' O'' : Nat → va_E} (h : cuFr O O') (g : cuFr O' O'') : cuFr O O'' := fun i a b c => (g i a b c).trans (h i a b c)
theorem cuFr.up {O : Nat → va_E} {i : Nat} {x : va_E} (h : i = 125 ∨ i = 126 ∨ i = 127) : cuFr O (va_up O i x) := fun j a b c => va_up_ne _ _ (by omega)
theorem cuFr.ar {cs : Nat → ClassId} {ad : Nat → Nat} {pr : Int} {inv : Nat → Int} {O O' : Nat → va_E} (h : cuFr O O') (hO : arO cs ad pr inv O) : arO cs ad pr inv O' := hO.same (h 123 (by decide) (by decide) (by decide)) (h 124 (by decide) (by decide) (by decide))
def appK (K : KS) (F : Nat → Int) (v : Int) : KS := if K.1 < 24 then (K.1 + 1, va_up K.2.1 K.1 F, va_up K.2.2 K.1 v) else K
theorem c_Cu_forget {l : Launch} {D : va_G} {cs : Nat → ClassId} {A : Nat → Prop} {ad : Nat → Nat} {T : Nat} (hT : 132 ≤ T) {G : Nat → Nat → Int} {O : Nat → va_E} {pr : Int} {inv : Nat → Int} (hO : arO cs ad pr inv O) {K : KS} {ph : Nat → Nat} (hK : cuS pr cs ad G O K ph) (hW : WF G) : Cv l y_Cu_forget ws_Cu_forget { frames := 0, cells := 0, slots := 0, locals := 0 } D cs A ad T [.ref (ad (125))] (mkV cs ad (rV G) O) (fun C' => ∃ G' O', C' = mkV cs ad (rV G') O' ∧ cuS pr cs ad G' O' (0, K.2) ph ∧ WF G' ∧ (∀ j, j < 61 → G' j = G j) ∧ cuFr O O') := by
  refine w_bodyV (by decide) (Nat.le_of_ble_eq_true rfl) ?_
  intro p e s m below meth c X hr hlk hml w ls hl
  have hl : lv_has ls 1 [(0, .ref (ad (125)))] := hl
  have hU := hK.1
  refine lv_aload_n X.1 X.2.1 d_Cu_forget_0 rfl (lv_at hl 0 rfl) ?_
  refine lv_iconst (v := iI (0)) X.1 X.2.1 d_Cu_forget_1 (by decide) ?_
  refine t_ps (z := 0) X hT w hU 0 (by omega) k_f_Cu_28 d_Cu_forget_2 (fun H locs w => ?_)
  exact w_vret X hr hlk w ⟨G, _, rfl, ⟨hU.size (by omega), hK.2.1, fun i hi => absurd hi (Nat.not_lt_zero _)⟩, hW, fun _ _ => rfl, cuFr.up (Or.inl rfl)⟩ d_Cu_forget_5
theorem c_Cu_append {l : Launch} {D : va_G} {cs : Nat → ClassId} {A : Nat → Prop} {ad : Nat → Nat} {T : Nat} (hT : 132 ≤ T) {G : Nat → Nat → Int} {O : Nat → va_E} {pr : Int} {inv : Nat → Int} (hO : arO cs ad pr inv O) {K : KS} {ph : Nat → Nat} (hK : cuS pr cs ad G O K ph) {k : Nat} {v : Int} (hk : 7 ≤ k ∧ k < 37) (hW : WF G) (hA : okp pr 25 (G k)) : Cv l y_Cu_append ws_Cu_append { frames := 1, cells := 0, slots := 0, locals := 22 } D cs A ad T [.ref (ad (125)), .ref (ad (2 * k)), .int (iI (v))] (mkV cs ad (rV G) O) (fun C' => ∃ G' O', C' = mkV cs ad (rV G') O' ∧ cuS pr cs ad G' O' (appK K (G k) v) ph ∧ WF G' ∧ (∀ j, j < 37 → G' j = G j) ∧ cuFr O O') := by
  refine w_bodyV (by decide) (Nat.le_of_ble_eq_true rfl) ?_
  intro p e s m below meth c X hr hlk hml w ls hl
  have hl : lv_has ls 3 [(0, .ref (ad (125))), (1, .ref (ad (2 * k))), (2, .int (iI (v)))] := hl
  have hU := hK.1
  have hpr := hO.2.2.1
  have hn := hU.2.2.2.1
  have wk := wd_2 (show 2 ≤ k by omega)
  refine lv_aload_n X.1 X.2.1 d_Cu_append_0 rfl (lv_at hl 0 rfl) ?_
  refine t_cu X hT w hU 2 (by decide) k_f_Cu_28 rfl d_Cu_append_1 ?_
  refine lv_aload_n X.1 X.2.1 d_Cu_append_4 rfl (lv_at hl 0 rfl) ?_
  refine t_cu X hT w hU 0 (by decide) k_f_Cu_17 rfl d_Cu_append_5 ?_
  refine t_fl X hT w hU d_Cu_append_8 ?_
  refine i_ge (a := (K.1 : Nat)) (b := 24) (tgt := 45) X (by omega) (by omega) d_Cu_append_9 (by decide) (fun h_9 => ?_) (fun h_9 => ?_)
  · refine w_vret X hr hlk w ⟨G, O, rfl, ?_, hW, fun _ _ => rfl, cuFr.rf⟩ d_Cu_append_45
    unfold appK
    rw [if_neg (by omega)]
    exact hK
  · have hlt : K.1 < 24 := by omega
    have hph := hU.2.2.2.2.1 K.1 hlt
    have wp := wd_2 (show 2 ≤ ph K.1 by omega)
    refine lv_aload_n X.1 X.2.1 d_Cu_append_12 rfl (lv_at hl 0 rfl) ?_
    refine t_cu X hT w hU 0 (by decide) k_f_Cu_17 rfl d_Cu_append_13 ?_
    refine lv_aload_n X.1 X.2.1 d_Cu_append_16 rfl (lv_at hl 0 rfl) ?_
    refine t_cu X hT w hU 2 (by decide) k_f_Cu_28 rfl d_Cu_append_17 ?_
    refine t_fa (z := (K.1 : Nat)) X hT w hU (K.1) rfl (by omega) d_Cu_append_20 ?_
    refine lv_aload_n X.1 X.2.1 d_Cu_append_21 rfl (lv_at hl 1 rfl) ?_
    refine w_cVv (n := 1) (i := 2 * (ph K.1)) (ci := 0) (As := [.ref (ad (2 * k))]) (rest := []) X w hml hl.1 (c_Po_copyFrom hT (G := G) (k := ph K.1) (q := k) (by omega) (by omega) (by omega) (hW _ (by omega)) (hW k (by omega)) (by rw [wp]; exact hA.ok hpr.2)) (by omega) (mkV_o (by omega)) rfl k_m_Cu_66 k_im_Po_copyFrom k_se_Po_copyFrom k_i_Po k_co_Po_copyFrom (by decide +kernel) rfl ⟨Nat.le_of_ble_eq_true rfl, Nat.le_of_ble_eq_true rfl⟩ ⟨rfl, rfl⟩ ⟨Nat.zero_le _, Nat.zero_le _⟩ rfl (Nat.le_of_ble_eq_true rfl) d_Cu_append_22 (fun C' H locs hp w => ?_)
    subst hp
    obtain ⟨Gw1, eGw1⟩ : ∃ gg : Nat → Nat → Int, gg = va_up G (ph K.1) (G k) := ⟨_, rfl⟩
    rw [← eGw1] at w
    refine lv_aload_n X.1 X.2.1 d_Cu_append_25 rfl (lv_at hl 0 rfl) ?_
    refine t_cu X hT w hU 1 (by decide) k_f_Cu_21 rfl d_Cu_append_26 ?_
    refine lv_aload_n X.1 X.2.1 d_Cu_append_29 rfl (lv_at hl 0 rfl) ?_
    refine t_cu X hT w hU 2 (by decide) k_f_Cu_28 rfl d_Cu_append_30 ?_
    refine lv_iload_n X.1 X.2.1 d_Cu_append_33 rfl (lv_at hl 2 rfl) ?_
    refine t_ts (z := (K.1 : Nat)) (v := v) X hT w hU K.1 rfl (by omega) d_Cu_append_34 (fun H locs w => ?_)
    have hU := hU.time (tm' := va_up K.2.2 K.1 v)
    refine lv_aload_n X.1 X.2.1 d_Cu_append_35 rfl (lv_at hl 0 rfl) ?_
    refine lv_dup X.1 X.2.1 d_Cu_append_36 rfl ?_
    refine t_cu X hT w hU 2 (by decide) k_f_Cu_28 rfl d_Cu_append_37 ?_
    refine lv_iconst (v := iI (1)) X.1 X.2.1 d_Cu_append_40 (by decide) ?_
    refine i_add (a := (K.1 : Nat)) (b := 1) X d_Cu_append_41 ?_
    refine t_ps (z := (K.1 : Nat) + 1) X hT w hU (K.1 + 1) (by omega) k_f_Cu_28 d_Cu_append_42 (fun H locs w => ?_)
    refine w_vret X hr hlk w ⟨Gw1, _, rfl, ?_, by rw [eGw1]; exact hW.up (by rw [wp]; exact hA.ok hpr.2), fun j hj => by rw [eGw1, va_up_ne _ _ (by omega)], (cuFr.up (Or.inr (Or.inr rfl))).tr (cuFr.up (Or.inl rfl))⟩ d_Cu_append_45
    unfold appK
    rw [if_pos (by omega)]
    refine ⟨hU.size (by omega), fun i hi => ?_, fun i hi => ?_⟩
    · show Gw1 (ph i) = va_up K.2.1 K.1 (G k) i
      rw [eGw1]
      by_cases e : i = K.1
      · rw [e, va_up_self, va_up_self]
      · rw [va_up_ne _ _ e, va_up_ne _ _ (fun h => e (hU.2.2.2.2.2 i K.1 hi (by omega) h))]; exact hK.2.1 i hi
    · show okp pr 25 (va_up K.2.1 K.1 (G k) i)
      have hi : i < K.1 + 1 := hi
      by_cases e : i = K.1
      · rw [e, va_up_self]; exact hA
      · rw [va_up_ne _ _ e]; exact hK.2.2 i (by omega)
end
section
def swpK (K : KS) (i k : Nat) : KS := (K.1, va_up (va_up K.2.1 i (K.2.1 k)) k (K.2.1 i), va_up (va_up K.2.2 i (K.2.2 k)) k (K.2.2 i))
section C0
variable {p : Program} {l : Launch} {e : Env} {R : Room} {s : State} {m : MethodId} {args : Array Value} {below : List Frame} {meth : Method} {c : Code} {H : Heap} {locs : List Loc} {cells slots : Nat} {Q : State → Prop} {D : va_G} {cs : Nat → ClassId} {A : Nat → Prop} {ad : Nat → Nat} {T : Nat}
variable {cc : ByteArray} {own : String} {pc : Nat} {ls : Array Slot} {rest st : List Value} {V : Nat → PV} {O : Nat → va_E} {n : Nat} {ph : Nat → Nat} {tm : Nat → Int}
theorem s_cu {index : Nat} (X : Cx p s m args c cc own) (hT : 132 ≤ T) (w : Wd D cs A ad T s (mkV cs ad V O) H locs) (hU : O 125 = .inr (2, cuF ad n)) (k : Nat) (hk : k < 13) (hlink : Cond.fieldLink own index (FCu k).1 (FCu k).2.1 (FCu k).2.2.1 ∈ TB) {v : Value} (hv : (cuF ad n)[k]? = some v) (hdg : decode cc pc = .ok (.getfield index, 3))
    (kk : W p l e R s m args below meth c H locs cells slots Q (F0 m (pc + 3) ls (v :: rest))) : W p l e R s m args below meth c H locs cells slots Q (F0 m pc ls (.ref (ad 125) :: rest)) :=
  w_get X w (Nat.lt_of_lt_of_le (by decide) hT) (by rw [mkV_O (by decide)]; exact hU) (ci := 2) rfl k_l_Cu k hk hlink hv hdg kk
theorem s_fa {z : Int} (X : Cx p s m args c cc own) (hT : 132 ≤ T) (w : Wd D cs A ad T s (mkV cs ad V O) H locs) (hU : O 126 = aQ cs ad 24 ph) (j : Nat) (hz : z = (j : Int)) (hj : j < 24) (hdg : decode cc pc = .ok (.aaload, 1))
    (kk : W p l e R s m args below meth c H locs cells slots Q (F0 m (pc + 1) ls (.ref (ad (2 * ph j)) :: rest))) : W p l e R s m args below meth c H locs cells slots Q (F0 m pc ls (.int (iI z) :: .ref (ad 126) :: rest)) := by
  subst hz
  refine va_aldq (C := RPo) X.1 X.2.1 w.1 w.2.2.2.1 126 2 (by rw [vW_get (Nat.lt_of_lt_of_le (by decide) hT), mkV_O (by decide), hU]; rfl) rfl (iI_in hj (by decide)) hdg ?_
  rw [iI_clamp (by omega)]
  exact kk
theorem s_fs {z : Int} (X : Cx p s m args c cc own) (hT : 132 ≤ T) (w : Wd D cs A ad T s (mkV cs ad V O) H locs) (hU : O 126 = aQ cs ad 24 ph) (j : Nat) (hz : z = (j : Int)) (hj : j < 24) {k : Nat} (hk : k < 61) (hdg : decode cc pc = .ok (.aastore, 1))
    (kk : ∀ (H1 : Heap) (locs1 : List Loc), Wd D cs A ad T s (mkV cs ad V (va_up O 126 (aQ cs ad 24 (va_up ph j k)))) H1 locs1 → W p l e R s m args below meth c H1 locs1 cells slots Q (F0 m (pc + 1) ls rest)) : W p l e R s m args below meth c H locs cells slots Q (F0 m pc ls (.ref (ad (2 * k)) :: .int (iI z) :: .ref (ad 126) :: rest)) := by
  subst hz
  refine va_astq X.1 X.2.1 w.1 w.2.2.2.1 (w.2.1.va _) w.2.2.2.2 126 2 (2 * k) 0 (r := (RPo, FPo, 2)) (by rw [vW_get (Nat.lt_of_lt_of_le (by decide) hT), mkV_O (by decide), hU]; rfl) rfl (by rw [vW_get (Nat.lt_of_lt_of_le (by omega) hT), mkV_o hk]; rfl) rfl (iI_in hj (by decide)) hdg (fun H1 locs1 h1 _ h3 => kk H1 locs1 ⟨w.1, w.2.1, w.2.2.1, ?_, h3⟩)
  rw [vW_set, iI_clamp (by omega), mkV_sO (by decide)] at h1
  have e : (fun i => some (ad (2 * va_up ph j k i))) = va_up (fun i => some (ad (2 * ph i))) j (some (ad (2 * k))) := by
    funext i
    unfold va_up
    split <;> rfl
  unfold aQ
  rw [e]
  exact h1
theorem s_tm {z : Int} (X : Cx p s m args c cc own) (hT : 132 ≤ T) (w : Wd D cs A ad T s (mkV cs ad V O) H locs) (hU : O 127 = aI cs 24 tm) (j : Nat) (hz : z = (j : Int)) (hj : j < 24) (hdg : decode cc pc = .ok (.iaload, 1))
    (kk : W p l e R s m args below meth c H locs cells slots Q (F0 m (pc + 1) ls (.int (iI (tm j)) :: rest))) : W p l e R s m args below meth c H locs cells slots Q (F0 m pc ls (.int (iI z) :: .ref (ad 127) :: rest)) :=
  w_ild X w (Nat.lt_of_lt_of_le (by decide) hT) (by rw [mkV_O (by decide)]; exact hU) j hz hj (by decide) hdg kk
theorem s_ts {z v : Int} (X : Cx p s m args c cc own) (hT : 132 ≤ T) (w : Wd D cs A ad T s (mkV cs ad V O) H locs) (hU : O 127 = aI cs 24 tm) (j : Nat) (hz : z = (j : Int)) (hj : j < 24) (hdg : decode cc pc = .ok (.iastore, 1))
    (kk : ∀ (H1 : Heap) (locs1 : List Loc), Wd D cs A ad T s (mkV cs ad V (va_up O 127 (aI cs 24 (va_up tm j v)))) H1 locs1 → W p l e R s m args below meth c H1 locs1 cells slots Q (F0 m (pc + 1) ls rest)) : W p l e R s m args below meth c H locs cells slots Q (F0 m pc ls (.int (iI v) :: .int (iI z) :: .ref (ad 127) :: rest)) :=
  w_ist X w (Nat.lt_of_lt_of_le (by decide) hT) (by rw [mkV_O (by decide)]; exact hU) j hz hj (by decide) hdg (fun H1 locs1 h => kk H1 locs1 (by rw [mkV_sO (by decide)] at h; exact h))
end C0
theorem c_Cu_swap {l : Launch} {D : va_G} {cs : Nat → ClassId} {A : Nat → Prop} {ad : Nat → Nat} {T : Nat} (hT : 132 ≤ T) {G : Nat → Nat → Int} {O : Nat → va_E} {pr : Int} {inv : Nat → Int} (hO : arO cs ad pr inv O) {K : KS} {ph : Nat → Nat} (hK : cuS pr cs ad G O K ph) {i k : Nat} (hi : i < 24) (hk : k < 24) (hik : i ≠ k) (hb : i < K.1 ∧ k < K.1) (hW : WF G) : Cv l y_Cu_swap ws_Cu_swap { frames := 0, cells := 0, slots := 0, locals := 0 } D cs A ad T [.ref (ad (125)), .int (iI (i)), .int (iI (k))] (mkV cs ad (rV G) O) (fun C' => ∃ G' O' ph', C' = mkV cs ad (rV G') O' ∧ cuS pr cs ad G' O' (swpK K i k) ph' ∧ WF G' ∧ (∀ j, j < 61 → G' j = G j) ∧ cuFr O O') := by
  refine w_bodyV (by decide) (Nat.le_of_ble_eq_true rfl) ?_
  intro p e s m below meth c X hr hlk hml w ls hl
  have hl : lv_has ls 5 [(0, .ref (ad (125))), (1, .int (iI (i))), (2, .int (iI (k)))] := hl
  have hU := hK.1
  have hi2 := hU.2.2.2.2.1 i hi
  have hk2 := hU.2.2.2.2.1 k hk
  have h5 := hU.1
  have h6 := hU.2.1
  have h7 := hU.2.2.1
  refine lv_aload_n X.1 X.2.1 d_Cu_swap_0 rfl (lv_at hl 0 rfl) ?_
  refine s_cu X hT w h5 0 (by decide) k_f_Cu_17 rfl d_Cu_swap_1 ?_
  refine lv_iload_n X.1 X.2.1 d_Cu_swap_4 rfl (lv_at hl 1 rfl) ?_
  refine s_fa (z := i) X hT w h6 i rfl (by omega) d_Cu_swap_5 ?_
  refine lv_astore_n (lv' := [(3, .ref (ad (2 * (ph i)))), (0, .ref (ad (125))), (1, .int (iI (i))), (2, .int (iI (k)))]) X.1 X.2.1 d_Cu_swap_6 rfl hl (by decide) rfl (fun ls hl => ?_)
  refine lv_aload_n X.1 X.2.1 d_Cu_swap_7 rfl (lv_at hl 1 rfl) ?_
  refine s_cu X hT w h5 0 (by decide) k_f_Cu_17 rfl d_Cu_swap_8 ?_
  refine lv_iload_n X.1 X.2.1 d_Cu_swap_11 rfl (lv_at hl 2 rfl) ?_
  refine lv_aload_n X.1 X.2.1 d_Cu_swap_12 rfl (lv_at hl 1 rfl) ?_
  refine s_cu X hT w h5 0 (by decide) k_f_Cu_17 rfl d_Cu_swap_13 ?_
  refine lv_iload_n X.1 X.2.1 d_Cu_swap_16 rfl (lv_at hl 3 rfl) ?_
  refine s_fa (z := k) X hT w h6 k rfl (by omega) d_Cu_swap_17 ?_
  refine s_fs (z := i) (k := ph k) X hT w h6 i rfl (by omega) (by omega) d_Cu_swap_18 (fun H locs w => ?_)
  have h5 := (va_up_ne O (aQ cs ad 24 (va_up ph i (ph k))) (show (125 : Nat) ≠ 126 by decide)).trans h5
  have h7 := (va_up_ne O (aQ cs ad 24 (va_up ph i (ph k))) (show (127 : Nat) ≠ 126 by decide)).trans h7
  have h6 : va_up O 126 (aQ cs ad 24 (va_up ph i (ph k))) 126 = aQ cs ad 24 (va_up ph i (ph k)) := va_up_self _ _ _
  refine lv_aload_n X.1 X.2.1 d_Cu_swap_19 rfl (lv_at hl 1 rfl) ?_
  refine s_cu X hT w h5 0 (by decide) k_f_Cu_17 rfl d_Cu_swap_20 ?_
  refine lv_iload_n X.1 X.2.1 d_Cu_swap_23 rfl (lv_at hl 3 rfl) ?_
  refine lv_aload_n X.1 X.2.1 d_Cu_swap_24 rfl (lv_at hl 0 rfl) ?_
  refine s_fs (z := k) (k := ph i) X hT w h6 k rfl (by omega) (by omega) d_Cu_swap_25 (fun H locs w => ?_)
  have h5 := (va_up_ne (va_up O 126 (aQ cs ad 24 (va_up ph i (ph k)))) (aQ cs ad 24 (va_up (va_up ph i (ph k)) k (ph i))) (show (125 : Nat) ≠ 126 by decide)).trans h5
  have h7 := (va_up_ne (va_up O 126 (aQ cs ad 24 (va_up ph i (ph k)))) (aQ cs ad 24 (va_up (va_up ph i (ph k)) k (ph i))) (show (127 : Nat) ≠ 126 by decide)).trans h7
  have h6 : va_up (va_up O 126 (aQ cs ad 24 (va_up ph i (ph k)))) 126 (aQ cs ad 24 (va_up (va_up ph i (ph k)) k (ph i))) 126 = aQ cs ad 24 (va_up (va_up ph i (ph k)) k (ph i)) := va_up_self _ _ _
  refine lv_aload_n X.1 X.2.1 d_Cu_swap_26 rfl (lv_at hl 1 rfl) ?_
  refine s_cu X hT w h5 1 (by decide) k_f_Cu_21 rfl d_Cu_swap_27 ?_
  refine lv_iload_n X.1 X.2.1 d_Cu_swap_30 rfl (lv_at hl 2 rfl) ?_
  refine s_tm (z := i) X hT w h7 i rfl (by omega) d_Cu_swap_31 ?_
  refine lv_istore (lv' := [(4, .int (iI (K.2.2 i))), (3, .ref (ad (2 * (ph i)))), (0, .ref (ad (125))), (1, .int (iI (i))), (2, .int (iI (k)))]) X.1 X.2.1 d_Cu_swap_32 hl (by decide) rfl (fun ls hl => ?_)
  refine lv_aload_n X.1 X.2.1 d_Cu_swap_34 rfl (lv_at hl 2 rfl) ?_
  refine s_cu X hT w h5 1 (by decide) k_f_Cu_21 rfl d_Cu_swap_35 ?_
  refine lv_iload_n X.1 X.2.1 d_Cu_swap_38 rfl (lv_at hl 3 rfl) ?_
  refine lv_aload_n X.1 X.2.1 d_Cu_swap_39 rfl (lv_at hl 2 rfl) ?_
  refine s_cu X hT w h5 1 (by decide) k_f_Cu_21 rfl d_Cu_swap_40 ?_
  refine lv_iload_n X.1 X.2.1 d_Cu_swap_43 rfl (lv_at hl 4 rfl) ?_
  refine s_tm (z := k) X hT w h7 k rfl (by omega) d_Cu_swap_44 ?_
  refine s_ts (z := i) (v := K.2.2 k) X hT w h7 i rfl (by omega) d_Cu_swap_45 (fun H locs w => ?_)
  have h5 := (va_up_ne (va_up (va_up O 126 (aQ cs ad 24 (va_up ph i (ph k)))) 126 (aQ cs ad 24 (va_up (va_up ph i (ph k)) k (ph i)))) (aI cs 24 (va_up K.2.2 i (K.2.2 k))) (show (125 : Nat) ≠ 127 by decide)).trans h5
  have h6 := (va_up_ne (va_up (va_up O 126 (aQ cs ad 24 (va_up ph i (ph k)))) 126 (aQ cs ad 24 (va_up (va_up ph i (ph k)) k (ph i)))) (aI cs 24 (va_up K.2.2 i (K.2.2 k))) (show (126 : Nat) ≠ 127 by decide)).trans h6
  have h7 : va_up (va_up (va_up O 126 (aQ cs ad 24 (va_up ph i (ph k)))) 126 (aQ cs ad 24 (va_up (va_up ph i (ph k)) k (ph i)))) 127 (aI cs 24 (va_up K.2.2 i (K.2.2 k))) 127 = aI cs 24 (va_up K.2.2 i (K.2.2 k)) := va_up_self _ _ _
  refine lv_aload_n X.1 X.2.1 d_Cu_swap_46 rfl (lv_at hl 2 rfl) ?_
  refine s_cu X hT w h5 1 (by decide) k_f_Cu_21 rfl d_Cu_swap_47 ?_
  refine lv_iload_n X.1 X.2.1 d_Cu_swap_50 rfl (lv_at hl 4 rfl) ?_
  refine lv_iload X.1 X.2.1 d_Cu_swap_51 (lv_at hl 0 rfl) ?_
  refine s_ts (z := k) (v := K.2.2 i) X hT w h7 k rfl (by omega) d_Cu_swap_53 (fun H locs w => ?_)
  have h5 := (va_up_ne (va_up (va_up (va_up O 126 (aQ cs ad 24 (va_up ph i (ph k)))) 126 (aQ cs ad 24 (va_up (va_up ph i (ph k)) k (ph i)))) 127 (aI cs 24 (va_up K.2.2 i (K.2.2 k)))) (aI cs 24 (va_up (va_up K.2.2 i (K.2.2 k)) k (K.2.2 i))) (show (125 : Nat) ≠ 127 by decide)).trans h5
  have h6 := (va_up_ne (va_up (va_up (va_up O 126 (aQ cs ad 24 (va_up ph i (ph k)))) 126 (aQ cs ad 24 (va_up (va_up ph i (ph k)) k (ph i)))) 127 (aI cs 24 (va_up K.2.2 i (K.2.2 k)))) (aI cs 24 (va_up (va_up K.2.2 i (K.2.2 k)) k (K.2.2 i))) (show (126 : Nat) ≠ 127 by decide)).trans h6
  have h7 : va_up (va_up (va_up (va_up O 126 (aQ cs ad 24 (va_up ph i (ph k)))) 126 (aQ cs ad 24 (va_up (va_up ph i (ph k)) k (ph i)))) 127 (aI cs 24 (va_up K.2.2 i (K.2.2 k)))) 127 (aI cs 24 (va_up (va_up K.2.2 i (K.2.2 k)) k (K.2.2 i))) 127 = aI cs 24 (va_up (va_up K.2.2 i (K.2.2 k)) k (K.2.2 i)) := va_up_self _ _ _
  refine w_vret X hr hlk w ⟨G, _, va_up (va_up ph i (ph k)) k (ph i), rfl, ⟨⟨h5, h6, h7, hU.2.2.2.1, fun j hj => ?_, fun a b ha hb2 e => ?_⟩, fun j hj => ?_, fun j hj => ?_⟩, hW, fun _ _ => rfl, fun j j5 j6 j7 => ?_⟩ d_Cu_swap_54
  · by_cases e1 : j = k
    · rw [e1, va_up_self]; exact hi2
    · rw [va_up_ne _ _ e1]
      by_cases e2 : j = i
      · rw [e2, va_up_self]; exact hk2
      · rw [va_up_ne _ _ e2]; exact hU.2.2.2.2.1 j hj
  · have inj := hU.2.2.2.2.2
    have key : ∀ x, va_up (va_up ph i (ph k)) k (ph i) x = ph (if x = k then i else if x = i then k else x) := by
      intro x
      unfold va_up
      split
      · rfl
      · split <;> rfl
    rw [key a, key b] at e
    have := inj _ _ (by split; omega; split <;> omega) (by split; omega; split <;> omega) e
    split at this <;> split at this <;> (try split at this) <;> (try split at this) <;> omega
  · show G (va_up (va_up ph i (ph k)) k (ph i) j) = va_up (va_up K.2.1 i (K.2.1 k)) k (K.2.1 i) j
    by_cases e1 : j = k
    · rw [e1, va_up_self, va_up_self]; exact hK.2.1 i hi
    · rw [va_up_ne _ _ e1, va_up_ne _ _ e1]
      by_cases e2 : j = i
      · rw [e2, va_up_self, va_up_self]; exact hK.2.1 k hk
      · rw [va_up_ne _ _ e2, va_up_ne _ _ e2]; exact hK.2.1 j hj
  · show okp pr 25 (va_up (va_up K.2.1 i (K.2.1 k)) k (K.2.1 i) j)
    have hj : j < K.1 := hj
    by_cases e1 : j = k
    · rw [e1, va_up_self]; exact hK.2.2 i hb.1
    · rw [va_up_ne _ _ e1]
      by_cases e2 : j = i
      · rw [e2, va_up_self]; exact hK.2.2 k hb.2
      · rw [va_up_ne _ _ e2]; exact hK.2.2 j hj
  · rw [va_up_ne _ _ j7, va_up_ne _ _ j7, va_up_ne _ _ j6, va_up_ne _ _ j6]
/-- the factor at the place k goes down as long as it comes before the one below it -/
def insK : Nat → KS → KS
  | 0, K => K
  | k + 1, K => if bef (K.2.1 (k + 1)) (K.2.1 k) then insK k (swpK K (k + 1) k) else K
def srtK : Nat → Nat → KS → KS
  | _, 0, K => K
  | i, n + 1, K => srtK (i + 1) n (insK i K)
theorem bI_i {b : Bool} : bI b = iI (if b then 1 else 0) := by cases b <;> rfl
theorem insK_n : ∀ (k : Nat) (K : KS), (insK k K).1 = K.1
  | 0, _ => rfl
  | k + 1, K => by
    unfold insK
    split
    · rw [insK_n k]; rfl
    · rfl
section SO
variable {p : Program} {l : Launch} {e : Env} {s : State} {m : MethodId} {args : Array Value} {below : List Frame} {meth : Method} {c : Code} {H : Heap} {locs : List Loc} {Q : State → Prop} {D : va_G} {cs : Nat → ClassId} {A : Nat → Prop} {ad : Nat → Nat} {T : Nat} {O : Nat → va_E} {pr : Int} {inv : Nat → Int}
variable {G : Nat → Nat → Int}
theorem l_Cu_sort_12 (X : Cx p s m args c b_Cu_sort RCu) (hml : c.maxLocals = 3) (hT : 132 ≤ T) (hO0 : arO cs ad pr inv O) {i : Nat} {Z : KS}
    (KK : (∀ (G1 : Nat → Nat → Int) (O1 : Nat → va_E) (ph1 : Nat → Nat) (H : Heap) (locs : List Loc) (ls : Array Slot), Wd D cs A ad T s (mkV cs ad (rV G1) O1) H locs → cuS pr cs ad G1 O1 Z ph1 → WF G1 → (∀ j, j < 37 → G1 j = G j) → cuFr O O1 → lv_has ls 3 [(0, .ref (ad (125))), (1, .int (iI (i)))] → W p l e { frames := 1, cells := 0, slots := 0, locals := 24 } s m args below meth c H locs 0 0 Q (F0 m 50 ls []))) :
    ∀ (k : Nat) (K : KS) (G1 : Nat → Nat → Int) (O1 : Nat → va_E) (ph1 : Nat → Nat) (H : Heap) (locs : List Loc) (ls : Array Slot), k < K.1 → insK k K = Z → Wd D cs A ad T s (mkV cs ad (rV G1) O1) H locs → cuS pr cs ad G1 O1 K ph1 → WF G1 → (∀ j, j < 37 → G1 j = G j) → cuFr O O1 → lv_has ls 3 [(0, .ref (ad (125))), (1, .int (iI (i))), (2, .int (iI (k)))] → W p l e { frames := 1, cells := 0, slots := 0, locals := 24 } s m args below meth c H locs 0 0 Q (F0 m 12 ls []) := by
  intro k
  induction k with
  | zero =>
    intro K G1 O1 ph1 H locs ls hk hz w hK hW hF hc hl
    have hU := hK.1
    have hn := hU.2.2.2.1
    have hz : K = Z := hz
    subst hz
    refine lv_iload_n X.1 X.2.1 d_Cu_sort_12 rfl (lv_at hl 2 rfl) ?_
    refine z_le (a := ((0 : Nat) : Int)) (tgt := 50) X (by omega) d_Cu_sort_13 (by decide) (fun h_13 => ?_) (fun h_13 => ?_)
    · exact KK G1 O1 ph1 H locs ls w hK hW hF hc (lv_sub hl [0, 1] rfl)
    · exact absurd h_13 (by omega)
  | succ k ih =>
    intro K G1 O1 ph1 H locs ls hk hz w hK hW hF hc hl
    have hU := hK.1
    have hn := hU.2.2.2.1
    have hp1 := hU.2.2.2.2.1 (k + 1) (by omega)
    have hp2 := hU.2.2.2.2.1 k (by omega)
    have hg1 := hK.2.1 (k + 1) (by omega)
    have hg2 := hK.2.1 k (by omega)
    unfold insK at hz
    refine lv_iload_n X.1 X.2.1 d_Cu_sort_12 rfl (lv_at hl 2 rfl) ?_
    refine z_le (a := ((k + 1 : Nat) : Int)) (tgt := 50) X (by omega) d_Cu_sort_13 (by decide) (fun h_13 => ?_) (fun h_13 => ?_)
    · exact absurd h_13 (by omega)
    · refine lv_aload_n X.1 X.2.1 d_Cu_sort_16 rfl (lv_at hl 0 rfl) ?_
      refine t_cu X hT w hU 0 (by decide) k_f_Cu_17 rfl d_Cu_sort_17 ?_
      refine lv_iload_n X.1 X.2.1 d_Cu_sort_20 rfl (lv_at hl 2 rfl) ?_
      refine t_fa (z := ((k + 1 : Nat) : Int)) X hT w hU (k + 1) (by omega) (by omega) d_Cu_sort_21 ?_
      refine lv_aload_n X.1 X.2.1 d_Cu_sort_22 rfl (lv_at hl 0 rfl) ?_
      refine t_cu X hT w hU 0 (by decide) k_f_Cu_17 rfl d_Cu_sort_23 ?_
      refine lv_iload_n X.1 X.2.1 d_Cu_sort_26 rfl (lv_at hl 2 rfl) ?_
      refine lv_iconst (v := iI (1)) X.1 X.2.1 d_Cu_sort_27 (by decide) ?_
      refine i_sub (a := ((k + 1 : Nat) : Int)) (b := 1) X d_Cu_sort_28 ?_
      refine t_fa (z := ((k + 1 : Nat) : Int) - 1) X hT w hU (k) (by omega) (by omega) d_Cu_sort_29 ?_
      refine w_cVi (n := 1) (i := 2 * (ph1 (k + 1))) (ci := 0) (As := [.ref (ad (2 * (ph1 k)))]) (rest := []) X w hml hl.1 (c_Po_comesBefore hT (G := G1) (k := ph1 (k + 1)) (q := ph1 k) (by omega) (by omega) (hW _ (by omega)) (hW _ (by omega))) (by omega) (mkV_o (by omega)) rfl k_m_Cu_134 k_im_Po_comesBefore k_se_Po_comesBefore k_i_Po k_co_Po_comesBefore (by decide +kernel) rfl ⟨Nat.le_of_ble_eq_true rfl, Nat.le_of_ble_eq_true rfl⟩ ⟨rfl, rfl⟩ ⟨Nat.zero_le _, Nat.zero_le _⟩ rfl (Nat.le_of_ble_eq_true rfl) d_Cu_sort_30 (fun r' C' H locs hp w => ?_)
      obtain ⟨rfl, rfl⟩ := hp
      rw [hg1, hg2, bI_i]
      refine z_eq (a := if bef (K.2.1 (k + 1)) (K.2.1 k) then 1 else 0) (tgt := 50) X (by split <;> omega) d_Cu_sort_33 (by decide) (fun h_33 => ?_) (fun h_33 => ?_)
      · rw [if_neg (by split at h_33 <;> first | omega | assumption)] at hz
        subst hz
        exact KK G1 O1 ph1 H locs ls w hK hW hF hc (lv_sub hl [0, 1] rfl)
      · refine lv_aload_n X.1 X.2.1 d_Cu_sort_36 rfl (lv_at hl 0 rfl) ?_
        refine lv_iload_n X.1 X.2.1 d_Cu_sort_37 rfl (lv_at hl 2 rfl) ?_
        refine lv_iload_n X.1 X.2.1 d_Cu_sort_38 rfl (lv_at hl 2 rfl) ?_
        refine lv_iconst (v := iI (1)) X.1 X.2.1 d_Cu_sort_39 (by decide) ?_
        refine i_sub (a := ((k + 1 : Nat) : Int)) (b := 1) X d_Cu_sort_40 ?_
        rw [show ((k + 1 : Nat) : Int) - 1 = (k : Int) by omega]
        refine w_cVv (n := 2) (i := 125) (ci := 2) (As := [.int (iI ((k + 1 : Nat))), .int (iI (k))]) (rest := []) X w hml hl.1 (c_Cu_swap hT (G := G1) (hc.ar hO0) hK (i := k + 1) (k := k) (by omega) (by omega) (by omega) (by omega) hW) (by omega) (by rw [mkV_O (by decide)]; exact hU.1) rfl k_m_Cu_138 k_im_Cu_swap k_se_Cu_swap k_i_Cu k_co_Cu_swap (by decide +kernel) rfl ⟨Nat.le_of_ble_eq_true rfl, Nat.le_of_ble_eq_true rfl⟩ ⟨rfl, rfl⟩ ⟨Nat.zero_le _, Nat.zero_le _⟩ rfl (Nat.le_of_ble_eq_true rfl) d_Cu_sort_41 (fun C' H locs hp w => ?_)
        obtain ⟨G2, O2, ph2, rfl, hK2, hW2, hF2, hc2⟩ := hp
        refine i_inc (k := 2) (x := ((k + 1 : Nat) : Int)) (lv' := [(2, .int (iI (((k + 1 : Nat) : Int) + (-1)))), (0, .ref (ad (125))), (1, .int (iI (i)))]) X d_Cu_sort_44 hl rfl (by decide) rfl (fun ls hl => ?_)
        refine lv_goto (tgt := 12) X.1 X.2.1 d_Cu_sort_47 (by decide) ?_
        rw [if_pos (by split at h_33 <;> first | omega | assumption)] at hz
        refine ih (swpK K (k + 1) k) G2 O2 ph2 H locs ls (by show k < K.1; omega) hz w hK2 hW2 (fun j hj => by rw [hF2 j (by omega)]; exact hF j hj) (hc.tr hc2) ?_
        rw [show (k : Int) = ((k + 1 : Nat) : Int) + (-1) by omega]
        exact (lv_sub hl [1, 2, 0] rfl)
theorem l_Cu_sort_2 (X : Cx p s m args c b_Cu_sort RCu) (hml : c.maxLocals = 3) (hT : 132 ≤ T) (hO0 : arO cs ad pr inv O) {Z : KS}
    (KK : (∀ (G1 : Nat → Nat → Int) (O1 : Nat → va_E) (ph1 : Nat → Nat) (H : Heap) (locs : List Loc) (ls : Array Slot), Wd D cs A ad T s (mkV cs ad (rV G1) O1) H locs → cuS pr cs ad G1 O1 Z ph1 → WF G1 → (∀ j, j < 37 → G1 j = G j) → cuFr O O1 → lv_has ls 3 [(0, .ref (ad (125)))] → W p l e { frames := 1, cells := 0, slots := 0, locals := 24 } s m args below meth c H locs 0 0 Q (F0 m 56 ls []))) :
    ∀ (n i : Nat) (K : KS) (G1 : Nat → Nat → Int) (O1 : Nat → va_E) (ph1 : Nat → Nat) (H : Heap) (locs : List Loc) (ls : Array Slot), i + n = K.1 ∨ (n = 0 ∧ K.1 ≤ i) → i < 2147483647 → srtK i n K = Z → Wd D cs A ad T s (mkV cs ad (rV G1) O1) H locs → cuS pr cs ad G1 O1 K ph1 → WF G1 → (∀ j, j < 37 → G1 j = G j) → cuFr O O1 → lv_has ls 3 [(0, .ref (ad (125))), (1, .int (iI (i)))] → W p l e { frames := 1, cells := 0, slots := 0, locals := 24 } s m args below meth c H locs 0 0 Q (F0 m 2 ls []) := by
  intro n
  induction n with
  | zero =>
    intro i K G1 O1 ph1 H locs ls h1 h2 hz w hK hW hF hc hl
    have hU := hK.1
    have hn := hU.2.2.2.1
    have hz : K = Z := hz
    subst hz
    refine lv_iload_n X.1 X.2.1 d_Cu_sort_2 rfl (lv_at hl 1 rfl) ?_
    refine lv_aload_n X.1 X.2.1 d_Cu_sort_3 rfl (lv_at hl 0 rfl) ?_
    refine t_cu X hT w hU 2 (by decide) k_f_Cu_28 rfl d_Cu_sort_4 ?_
    refine i_ge (a := i) (b := (K.1 : Nat)) (tgt := 56) X (by omega) (by omega) d_Cu_sort_7 (by decide) (fun h_7 => ?_) (fun h_7 => ?_)
    · exact KK G1 O1 ph1 H locs ls w hK hW hF hc (lv_sub hl [0] rfl)
    · exact absurd h_7 (by omega)
  | succ n ih =>
    intro i K G1 O1 ph1 H locs ls h1 h2 hz w hK hW hF hc hl
    have hU := hK.1
    have hn := hU.2.2.2.1
    refine lv_iload_n X.1 X.2.1 d_Cu_sort_2 rfl (lv_at hl 1 rfl) ?_
    refine lv_aload_n X.1 X.2.1 d_Cu_sort_3 rfl (lv_at hl 0 rfl) ?_
    refine t_cu X hT w hU 2 (by decide) k_f_Cu_28 rfl d_Cu_sort_4 ?_
    refine i_ge (a := i) (b := (K.1 : Nat)) (tgt := 56) X (by omega) (by omega) d_Cu_sort_7 (by decide) (fun h_7 => ?_) (fun h_7 => ?_)
    · exact absurd h_7 (by omega)
    · refine lv_iload_n X.1 X.2.1 d_Cu_sort_10 rfl (lv_at hl 1 rfl) ?_
      refine lv_istore_n (lv' := [(2, .int (iI (i))), (0, .ref (ad (125))), (1, .int (iI (i)))]) X.1 X.2.1 d_Cu_sort_11 rfl hl (by decide) rfl (fun ls hl => ?_)
      refine l_Cu_sort_12 (G := G) (O := O) (i := i) (Z := insK i K) X hml hT hO0 (fun G2 O2 ph2 H locs ls w hK2 hW2 hF2 hc2 hl => ?_) i K G1 O1 ph1 H locs ls (by omega) rfl w hK hW hF hc (lv_sub hl [1, 2, 0] rfl)
      refine i_inc (k := 1) (x := i) (lv' := [(1, .int (iI (i + 1))), (0, .ref (ad (125)))]) X d_Cu_sort_50 hl rfl (by decide) rfl (fun ls hl => ?_)
      refine lv_goto (tgt := 2) X.1 X.2.1 d_Cu_sort_53 (by decide) ?_
      exact ih (i + 1) (insK i K) G2 O2 ph2 H locs ls (by rw [insK_n]; omega) (by omega) hz w hK2 hW2 hF2 hc2 (lv_sub hl [1, 0] rfl)
end SO
theorem c_Cu_sort {l : Launch} {D : va_G} {cs : Nat → ClassId} {A : Nat → Prop} {ad : Nat → Nat} {T : Nat} (hT : 132 ≤ T) {G : Nat → Nat → Int} {O : Nat → va_E} {pr : Int} {inv : Nat → Int} (hO : arO cs ad pr inv O) {K : KS} {ph : Nat → Nat} (hK : cuS pr cs ad G O K ph) (hW : WF G) : Cv l y_Cu_sort ws_Cu_sort { frames := 1, cells := 0, slots := 0, locals := 24 } D cs A ad T [.ref (ad (125))] (mkV cs ad (rV G) O) (fun C' => ∃ G' O' ph', C' = mkV cs ad (rV G') O' ∧ cuS pr cs ad G' O' (srtK 1 (K.1 - 1) K) ph' ∧ WF G' ∧ (∀ j, j < 37 → G' j = G j) ∧ cuFr O O') := by
  refine w_bodyV (by decide) (Nat.le_of_ble_eq_true rfl) ?_
  intro p e s m below meth c X hr hlk hml w ls hl
  have hl : lv_has ls 3 [(0, .ref (ad (125)))] := hl
  refine lv_iconst (v := iI (1)) X.1 X.2.1 d_Cu_sort_0 (by decide) ?_
  refine lv_istore_n (lv' := [(1, .int (iI (1))), (0, .ref (ad (125)))]) X.1 X.2.1 d_Cu_sort_1 rfl hl (by decide) rfl (fun ls hl => ?_)
  exact l_Cu_sort_2 (G := G) (O := O) (Z := srtK 1 (K.1 - 1) K) X hml hT hO (fun G2 O2 ph2 H locs ls w hK2 hW2 hF2 hc2 hl => w_vret X hr hlk w ⟨G2, O2, ph2, rfl, hK2, hW2, hF2, hc2⟩ d_Cu_sort_56) (K.1 - 1) 1 K G O ph _ _ _ (by omega) (by omega) rfl w hK hW (fun _ _ => rfl) cuFr.rf (lv_sub hl [1, 0] rfl)
end
section
/-- each factor from k on is taken out of R as often as it goes -/
def tofK (pr : Int) (inv : Nat → Int) : Nat → Nat → KS → (Nat → Int) → KS × (Nat → Int)
  | _, 0, K, R => (K, R)
  | k, n + 1, K, R => tofK pr inv (k + 1) n (K.1, K.2.1, va_up K.2.2 k ((tko pr inv (K.2.1 k) 24 0 R).1 : Int)) (tko pr inv (K.2.1 k) 24 0 R).2
section TO
variable {p : Program} {l : Launch} {e : Env} {s : State} {m : MethodId} {args : Array Value} {below : List Frame} {meth : Method} {c : Code} {H : Heap} {locs : List Loc} {Q : State → Prop} {D : va_G} {cs : Nat → ClassId} {A : Nat → Prop} {ad : Nat → Nat} {T : Nat} {O : Nat → va_E} {pr : Int} {inv : Nat → Int}
variable {G : Nat → Nat → Int}
theorem l_Cu_takeOutFactors (X : Cx p s m args c b_Cu_takeOutFactors RCu) (hml : c.maxLocals = 3) (hT : 132 ≤ T) (hO0 : arO cs ad pr inv O) {ph : Nat → Nat} {Z : KS × (Nat → Int)}
    (KK : ∀ (G1 : Nat → Nat → Int) (O1 : Nat → va_E) (H : Heap) (locs : List Loc) (ls : Array Slot), Wd D cs A ad T s (mkV cs ad (rV G1) O1) H locs → cuS pr cs ad G1 O1 Z.1 ph → WF G1 → G1 7 = Z.2 → okp pr 25 Z.2 → (∀ j, j ≠ 2 → j ≠ 6 → j ≠ 7 → G1 j = G j) → cuFr O O1 → W p l e { frames := 4, cells := 0, slots := 0, locals := 96 } s m args below meth c H locs 0 0 Q (F0 m 39 ls [])) :
    ∀ (n k : Nat) (K : KS) (G1 : Nat → Nat → Int) (O1 : Nat → va_E) (H : Heap) (locs : List Loc) (ls : Array Slot), (k + n = K.1 ∨ (n = 0 ∧ K.1 ≤ k ∧ k ≤ 24)) → tofK pr inv k n K (G1 7) = Z → (∀ i, k ≤ i → i < K.1 → 0 ≤ dg 300 (K.2.1 i)) → okp pr 25 (G1 7) → Wd D cs A ad T s (mkV cs ad (rV G1) O1) H locs → cuS pr cs ad G1 O1 K ph → WF G1 → (∀ j, j ≠ 2 → j ≠ 6 → j ≠ 7 → G1 j = G j) → cuFr O O1 → lv_has ls 3 [(0, .ref (ad (125))), (2, .int (iI (k)))] → W p l e { frames := 4, cells := 0, slots := 0, locals := 96 } s m args below meth c H locs 0 0 Q (F0 m 2 ls []) := by
  intro n
  induction n with
  | zero =>
    intro k K G1 O1 H locs ls h1 hz hnz hR w hK hW hF hc hl
    have hU := hK.1
    have hn := hU.2.2.2.1
    have hz : (K, G1 7) = Z := hz
    subst hz
    refine lv_iload_n X.1 X.2.1 d_Cu_takeOutFactors_2 rfl (lv_at hl 1 rfl) ?_
    refine lv_aload_n X.1 X.2.1 d_Cu_takeOutFactors_3 rfl (lv_at hl 0 rfl) ?_
    refine t_cu X hT w hU 2 (by decide) k_f_Cu_28 rfl d_Cu_takeOutFactors_4 ?_
    refine i_ge (a := k) (b := (K.1 : Nat)) (tgt := 39) X (by omega) (by omega) d_Cu_takeOutFactors_7 (by decide) (fun h_7 => ?_) (fun h_7 => ?_)
    · exact KK G1 O1 H locs ls w hK hW rfl hR hF hc
    · exact absurd h_7 (by omega)
  | succ n ih =>
    intro k K G1 O1 H locs ls h1 hz hnz hR w hK hW hF hc hl
    have hU := hK.1
    have hn := hU.2.2.2.1
    have hp1 := hU.2.2.2.2.1 k (by omega)
    have hg1 := hK.2.1 k (by omega)
    have hok := hK.2.2 k (by omega)
    have hO := hc.ar hO0
    refine lv_iload_n X.1 X.2.1 d_Cu_takeOutFactors_2 rfl (lv_at hl 1 rfl) ?_
    refine lv_aload_n X.1 X.2.1 d_Cu_takeOutFactors_3 rfl (lv_at hl 0 rfl) ?_
    refine t_cu X hT w hU 2 (by decide) k_f_Cu_28 rfl d_Cu_takeOutFactors_4 ?_
    refine i_ge (a := k) (b := (K.1 : Nat)) (tgt := 39) X (by omega) (by omega) d_Cu_takeOutFactors_7 (by decide) (fun h_7 => ?_) (fun h_7 => ?_)
    · exact absurd h_7 (by omega)
    · refine lv_aload_n X.1 X.2.1 d_Cu_takeOutFactors_10 rfl (lv_at hl 0 rfl) ?_
      refine t_cu X hT w hU 1 (by decide) k_f_Cu_21 rfl d_Cu_takeOutFactors_11 ?_
      refine lv_iload_n X.1 X.2.1 d_Cu_takeOutFactors_14 rfl (lv_at hl 1 rfl) ?_
      refine lv_aload_n X.1 X.2.1 d_Cu_takeOutFactors_15 rfl (lv_at hl 0 rfl) ?_
      refine t_cu X hT w hU 3 (by decide) k_f_Cu_9 rfl d_Cu_takeOutFactors_16 ?_
      refine lv_aload_n X.1 X.2.1 d_Cu_takeOutFactors_19 rfl (lv_at hl 0 rfl) ?_
      refine t_cu X hT w hU 4 (by decide) k_f_Cu_32 rfl d_Cu_takeOutFactors_20 ?_
      refine lv_aload_n X.1 X.2.1 d_Cu_takeOutFactors_23 rfl (lv_at hl 0 rfl) ?_
      refine t_cu X hT w hU 0 (by decide) k_f_Cu_17 rfl d_Cu_takeOutFactors_24 ?_
      refine lv_iload_n X.1 X.2.1 d_Cu_takeOutFactors_27 rfl (lv_at hl 1 rfl) ?_
      refine t_fa (z := k) X hT w hU k rfl (by omega) d_Cu_takeOutFactors_28 ?_
      refine w_cVi (n := 2) (i := 123) (ci := 1) (As := [.ref (ad (2 * 7)), .ref (ad (2 * (ph k)))]) (rest := [.int (iI (k)), .ref (ad (127))]) X w hml hl.1 (c_Ar_takeOut hT (G := G1) hO (k := 7) (q := ph k) (by omega) (by omega) (by omega) hW hR (by rw [hg1]; exact hok) (by rw [hg1]; exact hnz k (Nat.le_refl _) (by omega))) (by omega) (by rw [mkV_O (by decide)]; exact hO.1) rfl k_m_Cu_98 k_im_Ar_takeOut k_se_Ar_takeOut k_i_Ar k_co_Ar_takeOut (by decide +kernel) rfl ⟨Nat.le_of_ble_eq_true rfl, Nat.le_of_ble_eq_true rfl⟩ ⟨rfl, rfl⟩ ⟨Nat.zero_le _, Nat.zero_le _⟩ rfl (Nat.le_of_ble_eq_true rfl) d_Cu_takeOutFactors_29 (fun r' C' H locs hp w => ?_)
      obtain ⟨G2, rfl, rfl, hW2, h7, hok7, hF2⟩ := hp
      rw [hg1] at h7 ⊢
      refine t_ts (z := k) (v := ((tko pr inv (K.2.1 k) 24 0 (G1 7)).1 : Int)) X hT w hU k rfl (by omega) d_Cu_takeOutFactors_32 (fun H locs w => ?_)
      refine i_inc (k := 1) (x := k) (lv' := [(2, .int (iI (k + 1))), (0, .ref (ad (125)))]) X d_Cu_takeOutFactors_33 hl rfl (by decide) rfl (fun ls hl => ?_)
      refine lv_goto (tgt := 2) X.1 X.2.1 d_Cu_takeOutFactors_36 (by decide) ?_
      refine ih (k + 1) (K.1, K.2.1, va_up K.2.2 k ((tko pr inv (K.2.1 k) 24 0 (G1 7)).1 : Int)) G2 _ H locs ls (by show k + 1 + n = K.1 ∨ _; omega) (by rw [h7]; exact hz) (fun i h2 h3 => hnz i (by omega) h3) hok7 w ⟨hU.time, fun i hi => ?_, hK.2.2⟩ hW2 (fun j j2 j6 j7 => by rw [hF2 j j2 j6 j7]; exact hF j j2 j6 j7) (hc.tr (cuFr.up (Or.inr (Or.inr rfl)))) (lv_sub hl [1, 0] rfl)
      have := hU.2.2.2.2.1 i hi
      rw [hF2 (ph i) (by omega) (by omega) (by omega)]
      exact hK.2.1 i hi
end TO
theorem c_Cu_takeOutFactors {l : Launch} {D : va_G} {cs : Nat → ClassId} {A : Nat → Prop} {ad : Nat → Nat} {T : Nat} (hT : 132 ≤ T) {G : Nat → Nat → Int} {O : Nat → va_E} {pr : Int} {inv : Nat → Int} (hO : arO cs ad pr inv O) {K : KS} {ph : Nat → Nat} (hK : cuS pr cs ad G O K ph) {f : Nat} (hf : f ≤ K.1) (hnz : ∀ i, f ≤ i → i < K.1 → 0 ≤ dg 300 (K.2.1 i)) (hW : WF G) (hR : okp pr 25 (G 7)) : Cv l y_Cu_takeOutFactors ws_Cu_takeOutFactors { frames := 4, cells := 0, slots := 0, locals := 96 } D cs A ad T [.ref (ad (125)), .int (iI (f))] (mkV cs ad (rV G) O) (fun C' => ∃ G' O', C' = mkV cs ad (rV G') O' ∧ cuS pr cs ad G' O' (tofK pr inv f (K.1 - f) K (G 7)).1 ph ∧ WF G' ∧ G' 7 = (tofK pr inv f (K.1 - f) K (G 7)).2 ∧ okp pr 25 (G' 7) ∧ (∀ j, j ≠ 2 → j ≠ 6 → j ≠ 7 → G' j = G j) ∧ cuFr O O') := by
  refine w_bodyV (by decide) (Nat.le_of_ble_eq_true rfl) ?_
  intro p e s m below meth c X hr hlk hml w ls hl
  have hl : lv_has ls 3 [(0, .ref (ad (125))), (1, .int (iI (f)))] := hl
  have hn := hK.1.2.2.2.1
  refine lv_iload_n X.1 X.2.1 d_Cu_takeOutFactors_0 rfl (lv_at hl 1 rfl) ?_
  refine lv_istore_n (lv' := [(2, .int (iI (f))), (0, .ref (ad (125))), (1, .int (iI (f)))]) X.1 X.2.1 d_Cu_takeOutFactors_1 rfl hl (by decide) rfl (fun ls hl => ?_)
  exact l_Cu_takeOutFactors (G := G) (O := O) (ph := ph) (Z := (tofK pr inv f (K.1 - f) K (G 7))) X hml hT hO (fun G2 O2 H locs ls w a1 a2 a3 a4 a5 a6 => w_vret X hr hlk w ⟨G2, O2, rfl, a1, a2, a3, by rw [a3]; exact a4, a5, a6⟩ d_Cu_takeOutFactors_39) (K.1 - f) f K G O _ _ _ (by omega) rfl hnz hR w hK hW (fun _ _ _ _ => rfl) cuFr.rf (lv_sub hl [1, 0] rfl)
theorem frm_ok {cs : Nat → ClassId} {ad : Nat → Nat} {pr : Int} {inv : Nat → Int} {O : Nat → va_E} (hO : arO cs ad pr inv O) {A M : Nat → Int} (hA : okp pr 25 A) (hM : okp pr 25 M) (hdA : dg 300 A ≤ 23) (hd : 0 ≤ dg 300 M) : okp pr (dg 300 M).toNat (frm pr inv A M) ∧ okp pr 300 (dvm pr inv (fro pr.toNat A) M).1 ∧ okp pr 300 (dvm pr inv (fro pr.toNat A) M).2 := by
  have hpr := hO.2.2.1
  have hAo := hA.ok hpr.2
  have hd0 := dg_ge 300 A
  have hP : okp pr 300 (fro pr.toNat A) := by
    have e1 : fro pr.toNat A = froL pr.toNat A 24 := by
      funext x
      unfold fro froL
      by_cases hx : x % pr.toNat = 0
      · rw [if_pos hx]
        by_cases h9 : x / pr.toNat < 24
        · rw [if_pos ⟨hx, h9⟩]
        · rw [if_neg (fun e => h9 e.2)]; exact hAo.above (N := 300) (by omega) (by omega)
      · rw [if_neg hx, if_neg (fun e => hx e.1)]
    rw [e1]
    refine froL_ok (by omega) (by omega) hA (fun j hj _ => ?_)
    have := Nat.mul_le_mul (show j ≤ 23 by omega) (show pr.toNat ≤ 13 by omega)
    omega
  have h := dvm_ok (inv := inv) (M := 300) (by omega) hP hM (by omega) (by omega) hpr.2 (by have := dg_lt 300 (fro pr.toNat A); omega)
  exact ⟨dvm_ok25 hO hP hM (by omega) (by omega) hd (by omega), h.1, h.2⟩
theorem WF.fro {cs : Nat → ClassId} {ad : Nat → Nat} {pr : Int} {inv : Nat → Int} {O : Nat → va_E} (hO : arO cs ad pr inv O) {G : Nat → Nat → Int} (hW : WF G) {A M : Nat → Int} (hA : okp pr 25 A) (hM : okp pr 25 M) (hdA : dg 300 A ≤ 23) (hd : 0 ≤ dg 300 M) {t : Nat} (ht : 2 ≤ t) : WF (va_up (va_up (va_up G 0 (dvm pr inv (fro pr.toNat A) M).2) 1 (dvm pr inv (fro pr.toNat A) M).1) t (dvm pr inv (fro pr.toNat A) M).1) := by
  have h := frm_ok hO hA hM hdA hd
  have hpr := hO.2.2.1
  have hdm := (hM.ok hpr.2).dlt 300
  exact ((hW.up (k := 0) (h.2.2.ok hpr.2)).up (k := 1) (h.2.1.ok hpr.2)).up (k := t) (by rw [wd_2 ht]; exact (h.1.mono (by omega)).ok hpr.2)
theorem c_Cu_gatherNextDegree {l : Launch} {D : va_G} {cs : Nat → ClassId} {A : Nat → Prop} {ad : Nat → Nat} {T : Nat} (hT : 132 ≤ T) {G : Nat → Nat → Int} {O : Nat → va_E} {pr : Int} {inv : Nat → Int} (hO : arO cs ad pr inv O) {n : Nat} {ph : Nat → Nat} {tm : Nat → Int} (hU : cuO cs ad n ph tm O) {k : Nat} (hk : (k = 7 ∨ 16 ≤ k) ∧ k < 61) (hW : WF G) (h8 : okp pr 25 (G 8)) (hd8 : dg 300 (G 8) ≤ 23) (hA : okp pr 25 (G k)) (hdk : 0 ≤ dg 300 (G k)) (hx : okp pr 25 (G 15)) : Cv l y_Cu_gatherNextDegree ws_Cu_gatherNextDegree { frames := 4, cells := 0, slots := 0, locals := 100 } D cs A ad T [.ref (ad (125)), .ref (ad (2 * k))] (mkV cs ad (rV G) O) (fun C' => ∃ G', C' = mkV cs ad (rV G') O ∧ WF G' ∧ G' 8 = (frm pr inv (G 8) (G k)) ∧ G' 9 = (gcdP pr inv (G k) (addS pr (frm pr inv (G 8) (G k)) (pr - 1) 0 (G 15))) ∧ okp pr 25 (G' 8) ∧ dg 300 (G' 8) ≤ 23 ∧ okp pr 25 (G' 9) ∧ ∀ j, j ≠ 0 → j ≠ 1 → j ≠ 2 → j ≠ 3 → j ≠ 8 → j ≠ 9 → j ≠ 13 → G' j = G j) := by
  refine w_bodyV (by decide) (Nat.le_of_ble_eq_true rfl) ?_
  intro p e s m below meth c X hr hlk hml w ls hl
  have hl : lv_has ls 2 [(0, .ref (ad (125))), (1, .ref (ad (2 * k)))] := hl
  have hpr := hO.2.2.1
  have wk := wd_2 (show 2 ≤ k by omega)
  have hdm := (hA.ok hpr.2).dlt 300
  have hfr := frm_ok hO h8 hA hd8 hdk
  have hI := hfr.1.mono (m := 25) (by omega)
  have hdI := (hfr.1.ok hpr.2).dlt 300
  have hdx := (hx.ok hpr.2).dlt 300
  have hSc : okp pr 25 (addS pr (frm pr inv (G 8) (G k)) (pr - 1) 0 (G 15)) := addS_ok (by omega) hI (fun x hx' => (hx.ok hpr.2).above (N := 300) (by omega) (by omega))
  refine lv_aload_n X.1 X.2.1 d_Cu_gatherNextDegree_0 rfl (lv_at hl 0 rfl) ?_
  refine t_cu X hT w hU 3 (by decide) k_f_Cu_9 rfl d_Cu_gatherNextDegree_1 ?_
  refine lv_aload_n X.1 X.2.1 d_Cu_gatherNextDegree_4 rfl (lv_at hl 0 rfl) ?_
  refine t_cu X hT w hU 5 (by decide) k_f_Cu_36 rfl d_Cu_gatherNextDegree_5 ?_
  refine lv_aload_n X.1 X.2.1 d_Cu_gatherNextDegree_8 rfl (lv_at hl 1 rfl) ?_
  refine w_cVv (n := 2) (i := 123) (ci := 1) (As := [.ref (ad (2 * 8)), .ref (ad (2 * k))]) (rest := []) X w hml hl.1 (c_Ar_raiseToP hT (G := G) hO (k := 8) (d := k) (by omega) (by omega) hW h8 hA hd8 hdk) (by omega) (by rw [mkV_O (by decide)]; exact hO.1) rfl k_m_Cu_109 k_im_Ar_raiseToP k_se_Ar_raiseToP k_i_Ar k_co_Ar_raiseToP (by decide +kernel) rfl ⟨Nat.le_of_ble_eq_true rfl, Nat.le_of_ble_eq_true rfl⟩ ⟨rfl, rfl⟩ ⟨Nat.zero_le _, Nat.zero_le _⟩ rfl (Nat.le_of_ble_eq_true rfl) d_Cu_gatherNextDegree_9 (fun C' H locs hp w => ?_)
  subst hp
  obtain ⟨Gw1, eGw1⟩ : ∃ gg : Nat → Nat → Int, gg = va_up (va_up (va_up G 0 (dvm pr inv (fro pr.toNat (G 8)) (G k)).2) 1 (dvm pr inv (fro pr.toNat (G 8)) (G k)).1) 8 (dvm pr inv (fro pr.toNat (G 8)) (G k)).1 := ⟨_, rfl⟩
  rw [← eGw1] at w
  have hW1 : WF Gw1 := by rw [eGw1]; exact WF.fro hO hW h8 hA hd8 hdk (by omega)
  have f8 : Gw1 8 = (frm pr inv (G 8) (G k)) := by rw [eGw1, va_up_self]; rfl
  have hF1 : ∀ j, j ≠ 0 → j ≠ 1 → j ≠ 8 → Gw1 j = G j := fun j j0 j1 j8 => by rw [eGw1, va_up_ne _ _ j8, va_up_ne _ _ j1, va_up_ne _ _ j0]
  refine lv_aload_n X.1 X.2.1 d_Cu_gatherNextDegree_12 rfl (lv_at hl 0 rfl) ?_
  refine t_cu X hT w hU 10 (by decide) k_f_Cu_51 rfl d_Cu_gatherNextDegree_13 ?_
  refine lv_aload_n X.1 X.2.1 d_Cu_gatherNextDegree_16 rfl (lv_at hl 0 rfl) ?_
  refine t_cu X hT w hU 5 (by decide) k_f_Cu_36 rfl d_Cu_gatherNextDegree_17 ?_
  refine w_cVv (n := 1) (i := 2 * 13) (ci := 0) (As := [.ref (ad (2 * 8))]) (rest := []) X w hml hl.1 (c_Po_copyFrom hT (G := Gw1) (k := 13) (q := 8) (by omega) (by omega) (by omega) (hW1 13 (by omega)) (hW1 8 (by omega)) (by rw [f8]; exact hI.ok hpr.2)) (by omega) (mkV_o (by omega)) rfl k_m_Cu_66 k_im_Po_copyFrom k_se_Po_copyFrom k_i_Po k_co_Po_copyFrom (by decide +kernel) rfl ⟨Nat.le_of_ble_eq_true rfl, Nat.le_of_ble_eq_true rfl⟩ ⟨rfl, rfl⟩ ⟨Nat.zero_le _, Nat.zero_le _⟩ rfl (Nat.le_of_ble_eq_true rfl) d_Cu_gatherNextDegree_20 (fun C' H locs hp w => ?_)
  subst hp
  obtain ⟨Gw2, eGw2⟩ : ∃ gg : Nat → Nat → Int, gg = va_up Gw1 13 (Gw1 8) := ⟨_, rfl⟩
  rw [← eGw2] at w
  rw [f8] at eGw2
  have hW2 : WF Gw2 := by rw [eGw2]; exact hW1.up (k := 13) (hI.ok hpr.2)
  have f13 : Gw2 13 = (frm pr inv (G 8) (G k)) := by rw [eGw2, va_up_self]
  have f15 : Gw2 15 = G 15 := by rw [eGw2, va_up_ne _ _ (by omega), hF1 15 (by omega) (by omega) (by omega)]
  refine lv_aload_n X.1 X.2.1 d_Cu_gatherNextDegree_23 rfl (lv_at hl 0 rfl) ?_
  refine t_cu X hT w hU 3 (by decide) k_f_Cu_9 rfl d_Cu_gatherNextDegree_24 ?_
  refine lv_aload_n X.1 X.2.1 d_Cu_gatherNextDegree_27 rfl (lv_at hl 0 rfl) ?_
  refine t_cu X hT w hU 10 (by decide) k_f_Cu_51 rfl d_Cu_gatherNextDegree_28 ?_
  refine lv_aload_n X.1 X.2.1 d_Cu_gatherNextDegree_31 rfl (lv_at hl 0 rfl) ?_
  refine t_cu X hT w hU 3 (by decide) k_f_Cu_9 rfl d_Cu_gatherNextDegree_32 ?_
  refine t_ar X hT w hO 0 (by decide) k_f_Cu_91 rfl d_Cu_gatherNextDegree_35 ?_
  refine lv_iconst (v := iI (1)) X.1 X.2.1 d_Cu_gatherNextDegree_38 (by decide) ?_
  refine i_sub (a := pr) (b := 1) X d_Cu_gatherNextDegree_39 ?_
  refine lv_iconst (v := iI (0)) X.1 X.2.1 d_Cu_gatherNextDegree_40 (by decide) ?_
  refine lv_aload_n X.1 X.2.1 d_Cu_gatherNextDegree_41 rfl (lv_at hl 0 rfl) ?_
  refine t_cu X hT w hU 12 (by decide) k_f_Cu_60 rfl d_Cu_gatherNextDegree_42 ?_
  refine w_cVv (n := 4) (i := 123) (ci := 1) (As := [.ref (ad (2 * 13)), .int (iI (pr - 1)), .int (iI ((0 : Nat))), .ref (ad (2 * 15))]) (rest := []) X w hml hl.1 (c_Ar_addShifted hT (G := Gw2) hO (k := 13) (q := 15) (t := 0) (f := pr - 1) (by omega) (by omega) (by omega) (by rw [f13]; exact hI) (hW2 15 (by omega)) (by omega) (by rw [f15]; show _ < (25 : Int); omega)) (by omega) (by rw [mkV_O (by decide)]; exact hO.1) rfl k_m_Cu_113 k_im_Ar_addShifted k_se_Ar_addShifted k_i_Ar k_co_Ar_addShifted (by decide +kernel) rfl ⟨Nat.le_of_ble_eq_true rfl, Nat.le_of_ble_eq_true rfl⟩ ⟨rfl, rfl⟩ ⟨Nat.zero_le _, Nat.zero_le _⟩ rfl (Nat.le_of_ble_eq_true rfl) d_Cu_gatherNextDegree_45 (fun C' H locs hp w => ?_)
  subst hp
  obtain ⟨Gw3, eGw3⟩ : ∃ gg : Nat → Nat → Int, gg = va_up Gw2 13 (addS pr (Gw2 13) (pr - 1) 0 (Gw2 15)) := ⟨_, rfl⟩
  rw [← eGw3] at w
  rw [f13, f15] at eGw3
  have hW3 : WF Gw3 := by rw [eGw3]; exact hW2.up (k := 13) (hSc.ok hpr.2)
  have g13 : Gw3 13 = addS pr (frm pr inv (G 8) (G k)) (pr - 1) 0 (G 15) := by rw [eGw3, va_up_self]
  have gk : Gw3 k = G k := by rw [eGw3, va_up_ne _ _ (by omega), eGw2, va_up_ne _ _ (by omega), hF1 k (by omega) (by omega) (by omega)]
  refine lv_aload_n X.1 X.2.1 d_Cu_gatherNextDegree_48 rfl (lv_at hl 0 rfl) ?_
  refine t_cu X hT w hU 3 (by decide) k_f_Cu_9 rfl d_Cu_gatherNextDegree_49 ?_
  refine lv_aload_n X.1 X.2.1 d_Cu_gatherNextDegree_52 rfl (lv_at hl 0 rfl) ?_
  refine t_cu X hT w hU 6 (by decide) k_f_Cu_39 rfl d_Cu_gatherNextDegree_53 ?_
  refine lv_aload_n X.1 X.2.1 d_Cu_gatherNextDegree_56 rfl (lv_at hl 1 rfl) ?_
  refine lv_aload_n X.1 X.2.1 d_Cu_gatherNextDegree_57 rfl (lv_at hl 0 rfl) ?_
  refine t_cu X hT w hU 10 (by decide) k_f_Cu_51 rfl d_Cu_gatherNextDegree_58 ?_
  refine w_cVv (n := 3) (i := 123) (ci := 1) (As := [.ref (ad (2 * 9)), .ref (ad (2 * k)), .ref (ad (2 * 13))]) (rest := []) X w hml hl.1 (c_Ar_findCommonDivisor hT (G := Gw3) hO (t := 9) (a := k) (b := 13) (by omega) (by omega) (by omega) hW3 (by rw [gk]; exact hA) (by rw [g13]; exact hSc)) (by omega) (by rw [mkV_O (by decide)]; exact hO.1) rfl k_m_Cu_117 k_im_Ar_findCommonDivisor k_se_Ar_findCommonDivisor k_i_Ar k_co_Ar_findCommonDivisor (by decide +kernel) rfl ⟨Nat.le_of_ble_eq_true rfl, Nat.le_of_ble_eq_true rfl⟩ ⟨rfl, rfl⟩ ⟨Nat.zero_le _, Nat.zero_le _⟩ rfl (Nat.le_of_ble_eq_true rfl) d_Cu_gatherNextDegree_61 (fun C' H locs hp w => ?_)
  obtain ⟨G4, rfl, hW4, h49, hok9, hF4⟩ := hp
  have g8 : G4 8 = (frm pr inv (G 8) (G k)) := by rw [hF4 8 (by omega) (by omega) (by omega) (by omega), eGw3, va_up_ne _ _ (by omega), eGw2, va_up_ne _ _ (by omega), f8]
  refine w_vret X hr hlk w ⟨G4, rfl, hW4, g8, by rw [h49, gk, g13], by rw [g8]; exact hI, by rw [g8]; omega, hok9, fun j j0 j1 j2 j3 j8 j9 j13 => ?_⟩ d_Cu_gatherNextDegree_64
  rw [hF4 j j0 j2 j3 j9, eGw3, va_up_ne _ _ j13, eGw2, va_up_ne _ _ j13, hF1 j j0 j1 j8]
/-- no factor of at most half the degree -/
def cbc (pr : Int) (inv : Nat → Int) (A X : Nat → Int) : Nat → Nat → (Nat → Int) → Bool
  | 0, _, _ => true
  | n + 1, d, I => if 2 * (d : Int) ≤ dg 300 A then (if 0 < dg 300 (gcdP pr inv A (addS pr (frm pr inv I A) (pr - 1) 0 X)) then false else cbc pr inv A X n (d + 1) (frm pr inv I A)) else true
def irrC (pr : Int) (inv : Nat → Int) (A X : Nat → Int) : Bool := if dg 300 A < 1 then false else cbc pr inv A X 13 1 X
section CC
variable {p : Program} {l : Launch} {e : Env} {s : State} {m : MethodId} {args : Array Value} {below : List Frame} {meth : Method} {c : Code} {H : Heap} {locs : List Loc} {Q : State → Prop} {D : va_G} {cs : Nat → ClassId} {A : Nat → Prop} {ad : Nat → Nat} {T : Nat} {O : Nat → va_E} {pr : Int} {inv : Nat → Int}
variable {k : Nat} {G : Nat → Nat → Int} {n : Nat} {ph : Nat → Nat} {tm : Nat → Int}
theorem l_Cu_cannotBeCut {post : Int32 → (Nat → va_E) → Prop} (X : Cx p s m args c b_Cu_cannotBeCut RCu) (hr : meth.sig.returnType = some .boolean) (hlk : meth.locks = false) (hml : c.maxLocals = 3) (hT : 132 ≤ T) (hO : arO cs ad pr inv O) (hU : cuO cs ad n ph tm O) (hk : 16 ≤ k ∧ k < 61) (hA : okp pr 25 (G k)) (hdk : 0 ≤ dg 300 (G k)) (hx : okp pr 25 (G 15)) {Z : Bool}
    (hp : ∀ G1 : Nat → Nat → Int, WF G1 → (∀ j, j ≠ 0 → j ≠ 1 → j ≠ 2 → j ≠ 3 → j ≠ 8 → j ≠ 9 → j ≠ 13 → G1 j = G j) → post (bI Z) (mkV cs ad (rV G1) O)) :
    ∀ (q b : Nat) (G1 : Nat → Nat → Int) (H : Heap) (locs : List Loc) (ls : Array Slot), b + q = 14 → Wd D cs A ad T s (mkV cs ad (rV G1) O) H locs → WF G1 → okp pr 25 (G1 8) → dg 300 (G1 8) ≤ 23 → (∀ j, j ≠ 0 → j ≠ 1 → j ≠ 2 → j ≠ 3 → j ≠ 8 → j ≠ 9 → j ≠ 13 → G1 j = G j) → cbc pr inv (G k) (G 15) q b (G1 8) = Z → lv_has ls 3 [(0, .ref (ad (125))), (1, .ref (ad (2 * k))), (2, .int (iI (b)))] → W p l e { frames := 5, cells := 0, slots := 0, locals := 121 } s m args below meth c H locs 0 0 (MQ below (va_Qi post (QW D cs ad T) A) args s 0 0 A) (F0 m 23 ls []) := by
  have hpr := hO.2.2.1
  have hdk2 := (hA.ok hpr.2).dlt 300
  intro q
  induction q with
  | zero =>
    intro b G1 H locs ls h1 w hW h8 hd8 hF hz hl
    have hz : true = Z := hz
    subst hz
    have hGk : dg 300 (G1 k) = dg 300 (G k) := by rw [hF k (by omega) (by omega) (by omega) (by omega) (by omega) (by omega) (by omega)]
    refine lv_iconst (v := iI (2)) X.1 X.2.1 d_Cu_cannotBeCut_23 (by decide) ?_
    refine lv_iload_n X.1 X.2.1 d_Cu_cannotBeCut_24 rfl (lv_at hl 2 rfl) ?_
    refine i_mul (a := 2) (b := b) X d_Cu_cannotBeCut_25 ?_
    refine lv_aload_n X.1 X.2.1 d_Cu_cannotBeCut_26 rfl (lv_at hl 1 rfl) ?_
    refine g_deg (k := k) X hT w (by omega) k_f_Cu_63 d_Cu_cannotBeCut_27 ?_
    refine i_gt (a := 2 * b) (b := dg 300 (G1 k)) (tgt := 56) X (by omega) (by omega) d_Cu_cannotBeCut_30 (by decide) (fun h_30 => ?_) (fun h_30 => ?_)
    · refine lv_iconst (v := iI (1)) X.1 X.2.1 d_Cu_cannotBeCut_56 (by decide) ?_
      exact w_zret X hr rfl hlk w (hp G1 hW hF) d_Cu_cannotBeCut_57
    · exact absurd h_30 (by omega)
  | succ q ih =>
    intro b G1 H locs ls h1 w hW h8 hd8 hF hz hl
    have hGk0 : G1 k = G k := hF k (by omega) (by omega) (by omega) (by omega) (by omega) (by omega) (by omega)
    have hGx : G1 15 = G 15 := hF 15 (by omega) (by omega) (by omega) (by omega) (by omega) (by omega) (by omega)
    have hGk : dg 300 (G1 k) = dg 300 (G k) := by rw [hGk0]
    unfold cbc at hz
    refine lv_iconst (v := iI (2)) X.1 X.2.1 d_Cu_cannotBeCut_23 (by decide) ?_
    refine lv_iload_n X.1 X.2.1 d_Cu_cannotBeCut_24 rfl (lv_at hl 2 rfl) ?_
    refine i_mul (a := 2) (b := b) X d_Cu_cannotBeCut_25 ?_
    refine lv_aload_n X.1 X.2.1 d_Cu_cannotBeCut_26 rfl (lv_at hl 1 rfl) ?_
    refine g_deg (k := k) X hT w (by omega) k_f_Cu_63 d_Cu_cannotBeCut_27 ?_
    refine i_gt (a := 2 * b) (b := dg 300 (G1 k)) (tgt := 56) X (by omega) (by omega) d_Cu_cannotBeCut_30 (by decide) (fun h_30 => ?_) (fun h_30 => ?_)
    · refine lv_iconst (v := iI (1)) X.1 X.2.1 d_Cu_cannotBeCut_56 (by decide) ?_
      rw [if_neg (by omega)] at hz
      subst hz
      exact w_zret X hr rfl hlk w (hp G1 hW hF) d_Cu_cannotBeCut_57
    · refine lv_aload_n X.1 X.2.1 d_Cu_cannotBeCut_33 rfl (lv_at hl 0 rfl) ?_
      refine lv_aload_n X.1 X.2.1 d_Cu_cannotBeCut_34 rfl (lv_at hl 1 rfl) ?_
      refine w_cVv (n := 1) (i := 125) (ci := 2) (As := [.ref (ad (2 * k))]) (rest := []) X w hml hl.1 (c_Cu_gatherNextDegree hT (G := G1) hO hU (k := k) (by omega) hW h8 hd8 (by rw [hGk0]; exact hA) (by omega) (by rw [hGx]; exact hx)) (by omega) (by rw [mkV_O (by decide)]; exact hU.1) rfl k_m_Cu_70 k_im_Cu_gatherNextDegree k_se_Cu_gatherNextDegree k_i_Cu k_co_Cu_gatherNextDegree (by decide +kernel) rfl ⟨Nat.le_of_ble_eq_true rfl, Nat.le_of_ble_eq_true rfl⟩ ⟨rfl, rfl⟩ ⟨Nat.zero_le _, Nat.zero_le _⟩ rfl (Nat.le_of_ble_eq_true rfl) d_Cu_cannotBeCut_35 (fun C' H locs hp1 w => ?_)
      obtain ⟨G2, rfl, hW2, e8, e9, ok8, d8, ok9, hF2⟩ := hp1
      rw [hGk0, hGx] at e9
      rw [hGk0] at e8
      rw [if_pos (by omega), ← e9, ← e8] at hz
      have hd9 := (ok9.ok hpr.2).dlt 300
      have hd90 := dg_ge 300 (G2 9)
      refine lv_aload_n X.1 X.2.1 d_Cu_cannotBeCut_38 rfl (lv_at hl 0 rfl) ?_
      refine t_cu X hT w hU 6 (by decide) k_f_Cu_39 rfl d_Cu_cannotBeCut_39 ?_
      refine g_deg (k := 9) X hT w (by omega) k_f_Cu_63 d_Cu_cannotBeCut_42 ?_
      refine z_le (a := dg 300 (G2 9)) (tgt := 50) X (by omega) d_Cu_cannotBeCut_45 (by decide) (fun h_45 => ?_) (fun h_45 => ?_)
      · refine i_inc (k := 2) (x := b) (lv' := [(2, .int (iI (b + 1))), (0, .ref (ad (125))), (1, .ref (ad (2 * k)))]) X d_Cu_cannotBeCut_50 hl rfl (by decide) rfl (fun ls hl => ?_)
        refine lv_goto (tgt := 23) X.1 X.2.1 d_Cu_cannotBeCut_53 (by decide) ?_
        rw [if_neg (by omega)] at hz
        exact ih (b + 1) G2 H locs ls (by omega) w hW2 ok8 d8 (fun j j0 j1 j2 j3 j8 j9 j13 => by rw [hF2 j j0 j1 j2 j3 j8 j9 j13]; exact hF j j0 j1 j2 j3 j8 j9 j13) hz (lv_sub hl [1, 2, 0] rfl)
      · refine lv_iconst (v := iI (0)) X.1 X.2.1 d_Cu_cannotBeCut_48 (by decide) ?_
        rw [if_pos h_45] at hz
        subst hz
        exact w_zret X hr rfl hlk w (hp G2 hW2 (fun j j0 j1 j2 j3 j8 j9 j13 => by rw [hF2 j j0 j1 j2 j3 j8 j9 j13]; exact hF j j0 j1 j2 j3 j8 j9 j13)) d_Cu_cannotBeCut_49
end CC
theorem c_Cu_cannotBeCut {l : Launch} {D : va_G} {cs : Nat → ClassId} {A : Nat → Prop} {ad : Nat → Nat} {T : Nat} (hT : 132 ≤ T) {G : Nat → Nat → Int} {O : Nat → va_E} {pr : Int} {inv : Nat → Int} (hO : arO cs ad pr inv O) {n : Nat} {ph : Nat → Nat} {tm : Nat → Int} (hU : cuO cs ad n ph tm O) {k : Nat} (hk : 16 ≤ k ∧ k < 61) (hW : WF G) (hA : okp pr 25 (G k)) (hx : okp pr 25 (G 15)) (hdx : dg 300 (G 15) ≤ 23) : Ci l y_Cu_cannotBeCut ws_Cu_cannotBeCut { frames := 5, cells := 0, slots := 0, locals := 121 } D cs A ad T [.ref (ad (125)), .ref (ad (2 * k))] (mkV cs ad (rV G) O) (fun r C' => ∃ G', C' = mkV cs ad (rV G') O ∧ WF G' ∧ (∀ j, j ≠ 0 → j ≠ 1 → j ≠ 2 → j ≠ 3 → j ≠ 8 → j ≠ 9 → j ≠ 13 → G' j = G j) ∧ r = bI (irrC pr inv (G k) (G 15))) := by
  refine w_bodyI (by decide) (Nat.le_of_ble_eq_true rfl) ?_
  intro p e s m below meth c X hr hlk hml w ls hl
  have hl : lv_has ls 3 [(0, .ref (ad (125))), (1, .ref (ad (2 * k)))] := hl
  have hpr := hO.2.2.1
  have hdk2 := (hA.ok hpr.2).dlt 300
  have hdk0 := dg_ge 300 (G k)
  refine lv_aload_n X.1 X.2.1 d_Cu_cannotBeCut_0 rfl (lv_at hl 1 rfl) ?_
  refine g_deg (k := k) X hT w (by omega) k_f_Cu_63 d_Cu_cannotBeCut_1 ?_
  refine lv_iconst (v := iI (1)) X.1 X.2.1 d_Cu_cannotBeCut_4 (by decide) ?_
  refine i_ge (a := dg 300 (G k)) (b := 1) (tgt := 10) X (by omega) (by omega) d_Cu_cannotBeCut_5 (by decide) (fun h_5 => ?_) (fun h_5 => ?_)
  · refine lv_aload_n X.1 X.2.1 d_Cu_cannotBeCut_10 rfl (lv_at hl 0 rfl) ?_
    refine t_cu X hT w hU 5 (by decide) k_f_Cu_36 rfl d_Cu_cannotBeCut_11 ?_
    refine lv_aload_n X.1 X.2.1 d_Cu_cannotBeCut_14 rfl (lv_at hl 0 rfl) ?_
    refine t_cu X hT w hU 12 (by decide) k_f_Cu_60 rfl d_Cu_cannotBeCut_15 ?_
    refine w_cVv (n := 1) (i := 2 * 8) (ci := 0) (As := [.ref (ad (2 * 15))]) (rest := []) X w hml hl.1 (c_Po_copyFrom hT (G := G) (k := 8) (q := 15) (by omega) (by omega) (by omega) (hW 8 (by omega)) (hW 15 (by omega)) (hx.ok hpr.2)) (by omega) (mkV_o (by omega)) rfl k_m_Cu_66 k_im_Po_copyFrom k_se_Po_copyFrom k_i_Po k_co_Po_copyFrom (by decide +kernel) rfl ⟨Nat.le_of_ble_eq_true rfl, Nat.le_of_ble_eq_true rfl⟩ ⟨rfl, rfl⟩ ⟨Nat.zero_le _, Nat.zero_le _⟩ rfl (Nat.le_of_ble_eq_true rfl) d_Cu_cannotBeCut_18 (fun C' H locs hp w => ?_)
    subst hp
    obtain ⟨Gw1, eGw1⟩ : ∃ gg : Nat → Nat → Int, gg = va_up G 8 (G 15) := ⟨_, rfl⟩
    rw [← eGw1] at w
    refine lv_iconst (v := iI (1)) X.1 X.2.1 d_Cu_cannotBeCut_21 (by decide) ?_
    refine lv_istore_n (lv' := [(2, .int (iI (1))), (0, .ref (ad (125))), (1, .ref (ad (2 * k)))]) X.1 X.2.1 d_Cu_cannotBeCut_22 rfl hl (by decide) rfl (fun ls hl => ?_)
    have g8 : Gw1 8 = G 15 := by rw [eGw1, va_up_self]
    exact l_Cu_cannotBeCut (G := G) (k := k) (Z := irrC pr inv (G k) (G 15)) X hr hlk hml hT hO hU hk hA (by omega) hx (fun G1 a1 a2 => ⟨G1, rfl, a1, a2, rfl⟩) 13 1 Gw1 _ _ _ (by omega) w (by rw [eGw1]; exact hW.up (k := 8) (hx.ok hpr.2)) (by rw [g8]; exact hx) (by rw [g8]; exact hdx) (fun j _ _ _ _ j8 _ _ => by rw [eGw1, va_up_ne _ _ j8]) (by rw [g8]; unfold irrC; rw [if_neg (by omega)]) (lv_sub hl [1, 2, 0] rfl)
  · refine lv_iconst (v := iI (0)) X.1 X.2.1 d_Cu_cannotBeCut_8 (by decide) ?_
    exact w_zret X hr rfl hlk w ⟨G, rfl, hW, fun _ _ _ _ _ _ _ _ => rfl, by unfold irrC; rw [if_pos (by omega)]; rfl⟩ d_Cu_cannotBeCut_9
end
section
/-- a trace: S, the last image; its sum -/
def trL (pr : Int) (inv : Nat → Int) (M : Nat → Int) : Nat → P2 → P2
  | 0, z => z
  | n + 1, z => trL pr inv M n (frm pr inv z.1 M, addS pr z.2 1 0 (frm pr inv z.1 M))
section FT
variable {p : Program} {l : Launch} {e : Env} {s : State} {m : MethodId} {args : Array Value} {below : List Frame} {meth : Method} {c : Code} {H : Heap} {locs : List Loc} {Q : State → Prop} {D : va_G} {cs : Nat → ClassId} {A : Nat → Prop} {ad : Nat → Nat} {T : Nat} {O : Nat → va_E} {pr : Int} {inv : Nat → Int}
variable {g : Nat} {G : Nat → Nat → Int} {n : Nat} {ph : Nat → Nat} {tm : Nat → Int}
theorem l_Cu_findTrace (X : Cx p s m args c b_Cu_findTrace RCu) (hml : c.maxLocals = 3) (hT : 132 ≤ T) (hO : arO cs ad pr inv O) (hU : cuO cs ad n ph tm O) (h9 : okp pr 25 (G 9)) (hd9 : 0 ≤ dg 300 (G 9)) (hg : g ≤ 24) {Z : P2}
    (KK : ∀ (G1 : Nat → Nat → Int) (H : Heap) (locs : List Loc) (ls : Array Slot), Wd D cs A ad T s (mkV cs ad (rV G1) O) H locs → WF G1 → G1 11 = Z.2 → okp pr 25 Z.2 → (∀ j, j ≠ 0 → j ≠ 1 → j ≠ 11 → j ≠ 13 → G1 j = G j) → W p l e { frames := 4, cells := 0, slots := 0, locals := 96 } s m args below meth c H locs 0 0 Q (F0 m 67 ls [])) :
    ∀ (q i : Nat) (G1 : Nat → Nat → Int) (H : Heap) (locs : List Loc) (ls : Array Slot), (i + q = g ∨ (q = 0 ∧ i = 1 ∧ g ≤ 1)) → Wd D cs A ad T s (mkV cs ad (rV G1) O) H locs → WF G1 → okp pr 25 (G1 13) → dg 300 (G1 13) ≤ 23 → okp pr 25 (G1 11) → (∀ j, j ≠ 0 → j ≠ 1 → j ≠ 11 → j ≠ 13 → G1 j = G j) → trL pr inv (G 9) q (G1 13, G1 11) = Z → lv_has ls 3 [(0, .ref (ad (125))), (1, .int (iI (g))), (2, .int (iI (i)))] → W p l e { frames := 4, cells := 0, slots := 0, locals := 96 } s m args below meth c H locs 0 0 Q (F0 m 24 ls []) := by
  have hpr := hO.2.2.1
  have hdm := (h9.ok hpr.2).dlt 300
  intro q
  induction q with
  | zero =>
    intro i G1 H locs ls h1 w hW h13 hd13 h11 hF hz hl
    have hz : (G1 13, G1 11) = Z := hz
    subst hz
    refine lv_iload_n X.1 X.2.1 d_Cu_findTrace_24 rfl (lv_at hl 2 rfl) ?_
    refine lv_iload_n X.1 X.2.1 d_Cu_findTrace_25 rfl (lv_at hl 1 rfl) ?_
    refine i_ge (a := i) (b := g) (tgt := 67) X (by omega) (by omega) d_Cu_findTrace_26 (by decide) (fun h_26 => ?_) (fun h_26 => ?_)
    · exact KK G1 H locs ls w hW rfl h11 hF
    · exact absurd h_26 (by omega)
  | succ q ih =>
    intro i G1 H locs ls h1 w hW h13 hd13 h11 hF hz hl
    have hG9 : G1 9 = G 9 := hF 9 (by omega) (by omega) (by omega) (by omega)
    have hfr := frm_ok hO h13 h9 hd13 hd9
    have hI := hfr.1.mono (m := 25) (by omega)
    have hdI := (hfr.1.ok hpr.2).dlt 300
    have hSc : okp pr 25 (addS pr (G1 11) 1 0 (frm pr inv (G1 13) (G 9))) := addS_ok (by omega) h11 (fun x hx' => (hI.ok hpr.2).above (N := 300) (by omega) (by omega))
    refine lv_iload_n X.1 X.2.1 d_Cu_findTrace_24 rfl (lv_at hl 2 rfl) ?_
    refine lv_iload_n X.1 X.2.1 d_Cu_findTrace_25 rfl (lv_at hl 1 rfl) ?_
    refine i_ge (a := i) (b := g) (tgt := 67) X (by omega) (by omega) d_Cu_findTrace_26 (by decide) (fun h_26 => ?_) (fun h_26 => ?_)
    · exact absurd h_26 (by omega)
    · refine lv_aload_n X.1 X.2.1 d_Cu_findTrace_29 rfl (lv_at hl 0 rfl) ?_
      refine t_cu X hT w hU 3 (by decide) k_f_Cu_9 rfl d_Cu_findTrace_30 ?_
      refine lv_aload_n X.1 X.2.1 d_Cu_findTrace_33 rfl (lv_at hl 0 rfl) ?_
      refine t_cu X hT w hU 10 (by decide) k_f_Cu_51 rfl d_Cu_findTrace_34 ?_
      refine lv_aload_n X.1 X.2.1 d_Cu_findTrace_37 rfl (lv_at hl 0 rfl) ?_
      refine t_cu X hT w hU 6 (by decide) k_f_Cu_39 rfl d_Cu_findTrace_38 ?_
      refine w_cVv (n := 2) (i := 123) (ci := 1) (As := [.ref (ad (2 * 13)), .ref (ad (2 * 9))]) (rest := []) X w hml hl.1 (c_Ar_raiseToP hT (G := G1) hO (k := 13) (d := 9) (by omega) (by omega) hW h13 (by rw [hG9]; exact h9) hd13 (by rw [hG9]; exact hd9)) (by omega) (by rw [mkV_O (by decide)]; exact hO.1) rfl k_m_Cu_109 k_im_Ar_raiseToP k_se_Ar_raiseToP k_i_Ar k_co_Ar_raiseToP (by decide +kernel) rfl ⟨Nat.le_of_ble_eq_true rfl, Nat.le_of_ble_eq_true rfl⟩ ⟨rfl, rfl⟩ ⟨Nat.zero_le _, Nat.zero_le _⟩ rfl (Nat.le_of_ble_eq_true rfl) d_Cu_findTrace_41 (fun C' H locs hp w => ?_)
      subst hp
      obtain ⟨Gw1, eGw1⟩ : ∃ gg : Nat → Nat → Int, gg = va_up (va_up (va_up G1 0 (dvm pr inv (fro pr.toNat (G1 13)) (G1 9)).2) 1 (dvm pr inv (fro pr.toNat (G1 13)) (G1 9)).1) 13 (dvm pr inv (fro pr.toNat (G1 13)) (G1 9)).1 := ⟨_, rfl⟩
      rw [← eGw1] at w
      rw [hG9] at eGw1
      have hW1 : WF Gw1 := by rw [eGw1]; exact WF.fro hO hW h13 h9 hd13 hd9 (by omega)
      have f13 : Gw1 13 = frm pr inv (G1 13) (G 9) := by rw [eGw1, va_up_self]; rfl
      have f11 : Gw1 11 = G1 11 := by rw [eGw1, va_up_ne _ _ (by omega), va_up_ne _ _ (by omega), va_up_ne _ _ (by omega)]
      refine lv_aload_n X.1 X.2.1 d_Cu_findTrace_44 rfl (lv_at hl 0 rfl) ?_
      refine t_cu X hT w hU 3 (by decide) k_f_Cu_9 rfl d_Cu_findTrace_45 ?_
      refine lv_aload_n X.1 X.2.1 d_Cu_findTrace_48 rfl (lv_at hl 0 rfl) ?_
      refine t_cu X hT w hU 8 (by decide) k_f_Cu_45 rfl d_Cu_findTrace_49 ?_
      refine lv_iconst (v := iI (1)) X.1 X.2.1 d_Cu_findTrace_52 (by decide) ?_
      refine lv_iconst (v := iI (0)) X.1 X.2.1 d_Cu_findTrace_53 (by decide) ?_
      refine lv_aload_n X.1 X.2.1 d_Cu_findTrace_54 rfl (lv_at hl 0 rfl) ?_
      refine t_cu X hT w hU 10 (by decide) k_f_Cu_51 rfl d_Cu_findTrace_55 ?_
      refine w_cVv (n := 4) (i := 123) (ci := 1) (As := [.ref (ad (2 * 11)), .int (iI (1)), .int (iI ((0 : Nat))), .ref (ad (2 * 13))]) (rest := []) X w hml hl.1 (c_Ar_addShifted hT (G := Gw1) hO (k := 11) (q := 13) (t := 0) (f := 1) (by omega) (by omega) (by omega) (by rw [f11]; exact h11) (hW1 13 (by omega)) (by omega) (by rw [f13]; show _ < (25 : Int); omega)) (by omega) (by rw [mkV_O (by decide)]; exact hO.1) rfl k_m_Cu_113 k_im_Ar_addShifted k_se_Ar_addShifted k_i_Ar k_co_Ar_addShifted (by decide +kernel) rfl ⟨Nat.le_of_ble_eq_true rfl, Nat.le_of_ble_eq_true rfl⟩ ⟨rfl, rfl⟩ ⟨Nat.zero_le _, Nat.zero_le _⟩ rfl (Nat.le_of_ble_eq_true rfl) d_Cu_findTrace_58 (fun C' H locs hp w => ?_)
      subst hp
      obtain ⟨Gw2, eGw2⟩ : ∃ gg : Nat → Nat → Int, gg = va_up Gw1 11 (addS pr (Gw1 11) 1 0 (Gw1 13)) := ⟨_, rfl⟩
      rw [← eGw2] at w
      refine i_inc (k := 2) (x := i) (lv' := [(2, .int (iI (i + 1))), (0, .ref (ad (125))), (1, .int (iI (g)))]) X d_Cu_findTrace_61 hl rfl (by decide) rfl (fun ls hl => ?_)
      refine lv_goto (tgt := 24) X.1 X.2.1 d_Cu_findTrace_64 (by decide) ?_
      rw [f13, f11] at eGw2
      have g13 : Gw2 13 = frm pr inv (G1 13) (G 9) := by rw [eGw2, va_up_ne _ _ (by omega), f13]
      have g11 : Gw2 11 = addS pr (G1 11) 1 0 (frm pr inv (G1 13) (G 9)) := by rw [eGw2, va_up_self]
      exact ih (i + 1) Gw2 H locs ls (by omega) w (by rw [eGw2]; exact hW1.up (k := 11) (hSc.ok hpr.2)) (by rw [g13]; exact hI) (by rw [g13]; omega) (by rw [g11]; exact hSc) (fun j j0 j1 j11 j13 => by rw [eGw2, va_up_ne _ _ j11, eGw1, va_up_ne _ _ j13, va_up_ne _ _ j1, va_up_ne _ _ j0]; exact hF j j0 j1 j11 j13) (by rw [g13, g11]; exact hz) (lv_sub hl [1, 2, 0] rfl)
end FT
theorem c_Cu_findTrace {l : Launch} {D : va_G} {cs : Nat → ClassId} {A : Nat → Prop} {ad : Nat → Nat} {T : Nat} (hT : 132 ≤ T) {G : Nat → Nat → Int} {O : Nat → va_E} {pr : Int} {inv : Nat → Int} (hO : arO cs ad pr inv O) {n : Nat} {ph : Nat → Nat} {tm : Nat → Int} (hU : cuO cs ad n ph tm O) {g : Nat} (hg : g ≤ 24) (hW : WF G) (h10 : okp pr 25 (G 10)) (hd10 : dg 300 (G 10) ≤ 23) (h9 : okp pr 25 (G 9)) (hd9 : 0 ≤ dg 300 (G 9)) : Cv l y_Cu_findTrace ws_Cu_findTrace { frames := 4, cells := 0, slots := 0, locals := 96 } D cs A ad T [.ref (ad (125)), .int (iI (g))] (mkV cs ad (rV G) O) (fun C' => ∃ G', C' = mkV cs ad (rV G') O ∧ WF G' ∧ G' 11 = (trL pr inv (G 9) (g - 1) (G 10, G 10)).2 ∧ okp pr 25 (G' 11) ∧ ∀ j, j ≠ 0 → j ≠ 1 → j ≠ 11 → j ≠ 13 → G' j = G j) := by
  refine w_bodyV (by decide) (Nat.le_of_ble_eq_true rfl) ?_
  intro p e s m below meth c X hr hlk hml w ls hl
  have hl : lv_has ls 3 [(0, .ref (ad (125))), (1, .int (iI (g)))] := hl
  have hpr := hO.2.2.1
  refine lv_aload_n X.1 X.2.1 d_Cu_findTrace_0 rfl (lv_at hl 0 rfl) ?_
  refine t_cu X hT w hU 10 (by decide) k_f_Cu_51 rfl d_Cu_findTrace_1 ?_
  refine lv_aload_n X.1 X.2.1 d_Cu_findTrace_4 rfl (lv_at hl 0 rfl) ?_
  refine t_cu X hT w hU 7 (by decide) k_f_Cu_42 rfl d_Cu_findTrace_5 ?_
  refine w_cVv (n := 1) (i := 2 * 13) (ci := 0) (As := [.ref (ad (2 * 10))]) (rest := []) X w hml hl.1 (c_Po_copyFrom hT (G := G) (k := 13) (q := 10) (by omega) (by omega) (by omega) (hW 13 (by omega)) (hW 10 (by omega)) (h10.ok hpr.2)) (by omega) (mkV_o (by omega)) rfl k_m_Cu_66 k_im_Po_copyFrom k_se_Po_copyFrom k_i_Po k_co_Po_copyFrom (by decide +kernel) rfl ⟨Nat.le_of_ble_eq_true rfl, Nat.le_of_ble_eq_true rfl⟩ ⟨rfl, rfl⟩ ⟨Nat.zero_le _, Nat.zero_le _⟩ rfl (Nat.le_of_ble_eq_true rfl) d_Cu_findTrace_8 (fun C' H locs hp w => ?_)
  subst hp
  obtain ⟨Gw1, eGw1⟩ : ∃ gg : Nat → Nat → Int, gg = va_up G 13 (G 10) := ⟨_, rfl⟩
  rw [← eGw1] at w
  have hW1 : WF Gw1 := by rw [eGw1]; exact hW.up (k := 13) (h10.ok hpr.2)
  have f10 : Gw1 10 = G 10 := by rw [eGw1, va_up_ne _ _ (by omega)]
  refine lv_aload_n X.1 X.2.1 d_Cu_findTrace_11 rfl (lv_at hl 0 rfl) ?_
  refine t_cu X hT w hU 8 (by decide) k_f_Cu_45 rfl d_Cu_findTrace_12 ?_
  refine lv_aload_n X.1 X.2.1 d_Cu_findTrace_15 rfl (lv_at hl 0 rfl) ?_
  refine t_cu X hT w hU 7 (by decide) k_f_Cu_42 rfl d_Cu_findTrace_16 ?_
  refine w_cVv (n := 1) (i := 2 * 11) (ci := 0) (As := [.ref (ad (2 * 10))]) (rest := []) X w hml hl.1 (c_Po_copyFrom hT (G := Gw1) (k := 11) (q := 10) (by omega) (by omega) (by omega) (hW1 11 (by omega)) (hW1 10 (by omega)) (by rw [f10]; exact h10.ok hpr.2)) (by omega) (mkV_o (by omega)) rfl k_m_Cu_66 k_im_Po_copyFrom k_se_Po_copyFrom k_i_Po k_co_Po_copyFrom (by decide +kernel) rfl ⟨Nat.le_of_ble_eq_true rfl, Nat.le_of_ble_eq_true rfl⟩ ⟨rfl, rfl⟩ ⟨Nat.zero_le _, Nat.zero_le _⟩ rfl (Nat.le_of_ble_eq_true rfl) d_Cu_findTrace_19 (fun C' H locs hp w => ?_)
  subst hp
  obtain ⟨Gw2, eGw2⟩ : ∃ gg : Nat → Nat → Int, gg = va_up Gw1 11 (Gw1 10) := ⟨_, rfl⟩
  rw [← eGw2] at w
  rw [f10] at eGw2
  have hW2 : WF Gw2 := by rw [eGw2]; exact hW1.up (k := 11) (h10.ok hpr.2)
  have g11 : Gw2 11 = G 10 := by rw [eGw2, va_up_self]
  have g13 : Gw2 13 = G 10 := by rw [eGw2, va_up_ne _ _ (by omega), eGw1, va_up_self]
  refine lv_iconst (v := iI (1)) X.1 X.2.1 d_Cu_findTrace_22 (by decide) ?_
  refine lv_istore_n (lv' := [(2, .int (iI (1))), (0, .ref (ad (125))), (1, .int (iI (g)))]) X.1 X.2.1 d_Cu_findTrace_23 rfl hl (by decide) rfl (fun ls hl => ?_)
  have hF0 : ∀ j, j ≠ 0 → j ≠ 1 → j ≠ 11 → j ≠ 13 → Gw2 j = G j := fun j _ _ j11 j13 => by rw [eGw2, va_up_ne _ _ j11, eGw1, va_up_ne _ _ j13]
  exact l_Cu_findTrace (G := G) (g := g) (Z := trL pr inv (G 9) (g - 1) (G 10, G 10)) X hml hT hO hU h9 hd9 hg (fun G1 H locs ls w a1 a2 a3 a4 => w_vret X hr hlk w ⟨G1, rfl, a1, a2, by rw [a2]; exact a3, a4⟩ d_Cu_findTrace_67) (g - 1) 1 Gw2 _ _ _ (by omega) w hW2 (by rw [g13]; exact h10) (by rw [g13]; exact hd10) (by rw [g11]; exact h10) hF0 (by rw [g13, g11]) (lv_sub hl [1, 2, 0] rfl)
/-- the factor at the place k is cut by the values of a trace, from v on -/
def sbC (pr : Int) (inv : Nat → Int) (Tr On : Nat → Int) (k v : Nat) (K : KS) : Nat → Int := gcdP pr inv (K.2.1 k) (addS pr Tr (pr - v) 0 On)
def sbS (pr : Int) (inv : Nat → Int) (Tr On : Nat → Int) (k v : Nat) (K : KS) : KS :=
  if 0 < dg 300 (sbC pr inv Tr On k v K) ∧ dg 300 (sbC pr inv Tr On k v K) < dg 300 (K.2.1 k) then appK (K.1, va_up K.2.1 k (dvm pr inv (K.2.1 k) (sbC pr inv Tr On k v K)).2, K.2.2) (sbC pr inv Tr On k v K) 0 else K
def sbV (pr : Int) (inv : Nat → Int) (Tr On : Nat → Int) (g k : Nat) : Nat → Nat → KS → KS
  | _, 0, K => K
  | v, n + 1, K => if (g : Int) < dg 300 (K.2.1 k) then sbV pr inv Tr On g k (v + 1) n (sbS pr inv Tr On k v K) else K
def sbK (pr : Int) (inv : Nat → Int) (Tr On : Nat → Int) (g : Nat) : Nat → Nat → KS → KS
  | _, 0, K => K
  | k, n + 1, K => sbK pr inv Tr On g (k + 1) n (sbV pr inv Tr On g k 0 pr.toNat K)
theorem appK_n (K : KS) (F : Nat → Int) (v : Int) : K.1 ≤ (appK K F v).1 ∧ ((appK K F v).1 ≤ 24 ∨ (appK K F v).1 = K.1) := by
  unfold appK
  split
  · show K.1 ≤ K.1 + 1 ∧ (K.1 + 1 ≤ 24 ∨ _); omega
  · omega
theorem sbS_n {pr : Int} {inv Tr On : Nat → Int} {k v : Nat} {K : KS} : K.1 ≤ (sbS pr inv Tr On k v K).1 := by
  unfold sbS
  split
  · exact (appK_n (K.1, va_up K.2.1 k (dvm pr inv (K.2.1 k) (sbC pr inv Tr On k v K)).2, K.2.2) _ _).1
  · exact Nat.le_refl _
theorem sbV_n {pr : Int} {inv Tr On : Nat → Int} {g k : Nat} : ∀ (n v : Nat) (K : KS), K.1 ≤ (sbV pr inv Tr On g k v n K).1
  | 0, _, _ => Nat.le_refl _
  | n + 1, v, K => by
    unfold sbV
    split
    · exact Nat.le_trans sbS_n (sbV_n n (v + 1) _)
    · exact Nat.le_refl _
section SB
variable {p : Program} {l : Launch} {e : Env} {s : State} {m : MethodId} {args : Array Value} {below : List Frame} {meth : Method} {c : Code} {H : Heap} {locs : List Loc} {Q : State → Prop} {D : va_G} {cs : Nat → ClassId} {A : Nat → Prop} {ad : Nat → Nat} {T : Nat} {O : Nat → va_E} {pr : Int} {inv : Nat → Int}
variable {g : Nat} {G : Nat → Nat → Int}
theorem l_Cu_splitByTrace_17 (X : Cx p s m args c b_Cu_splitByTrace RCu) (hml : c.maxLocals = 6) (hT : 132 ≤ T) (hO0 : arO cs ad pr inv O) (h11 : okp pr 25 (G 11)) (h14 : okp pr 25 (G 14)) (hg : g ≤ 24) {f b k : Nat} (hb : k < b ∧ b ≤ 24) {ph : Nat → Nat} {Z : KS}
    (KK : ∀ (G1 : Nat → Nat → Int) (O1 : Nat → va_E) (H : Heap) (locs : List Loc) (ls : Array Slot), Wd D cs A ad T s (mkV cs ad (rV G1) O1) H locs → cuS pr cs ad G1 O1 Z ph → WF G1 → (∀ j, j < 37 → j ≠ 0 → j ≠ 2 → j ≠ 3 → j ≠ 12 → j ≠ 13 → G1 j = G j) → cuFr O O1 → lv_has ls 6 [(0, .ref (ad (125))), (1, .int (iI (f))), (2, .int (iI (g))), (3, .int (iI (b))), (4, .int (iI (k)))] → W p l e { frames := 4, cells := 0, slots := 0, locals := 100 } s m args below meth c H locs 0 0 Q (F0 m 183 ls [])) :
    ∀ (n v : Nat) (K : KS) (G1 : Nat → Nat → Int) (O1 : Nat → va_E) (H : Heap) (locs : List Loc) (ls : Array Slot), (v : Int) + n = pr → b ≤ K.1 → sbV pr inv (G 11) (G 14) g k v n K = Z → Wd D cs A ad T s (mkV cs ad (rV G1) O1) H locs → cuS pr cs ad G1 O1 K ph → WF G1 → (∀ j, j < 37 → j ≠ 0 → j ≠ 2 → j ≠ 3 → j ≠ 12 → j ≠ 13 → G1 j = G j) → cuFr O O1 → lv_has ls 6 [(0, .ref (ad (125))), (1, .int (iI (f))), (2, .int (iI (g))), (3, .int (iI (b))), (4, .int (iI (k))), (5, .int (iI (v)))] → W p l e { frames := 4, cells := 0, slots := 0, locals := 100 } s m args below meth c H locs 0 0 Q (F0 m 17 ls []) := by
  have hpr := hO0.2.2.1
  have hd14 := (h14.ok hpr.2).dlt 300
  intro n
  induction n with
  | zero =>
    intro v K G1 O1 H locs ls h1 hbK hz w hK hW hF hc hl
    have hU := hK.1
    have hO := hc.ar hO0
    have hz : K = Z := hz
    subst hz
    refine lv_iload X.1 X.2.1 d_Cu_splitByTrace_17 (lv_at hl 5 rfl) ?_
    refine lv_aload_n X.1 X.2.1 d_Cu_splitByTrace_19 rfl (lv_at hl 0 rfl) ?_
    refine t_cu X hT w hU 3 (by decide) k_f_Cu_9 rfl d_Cu_splitByTrace_20 ?_
    refine t_ar X hT w hO 0 (by decide) k_f_Cu_91 rfl d_Cu_splitByTrace_23 ?_
    refine i_ge (a := v) (b := pr) (tgt := 183) X (by omega) (by omega) d_Cu_splitByTrace_26 (by decide) (fun h_26 => ?_) (fun h_26 => ?_)
    · exact KK G1 O1 H locs ls w hK hW hF hc (lv_sub hl [0, 1, 2, 3, 4] rfl)
    · exact absurd h_26 (by omega)
  | succ n ih =>
    intro v K G1 O1 H locs ls h1 hbK hz w hK hW hF hc hl
    have hU := hK.1
    have hO := hc.ar hO0
    have hn := hU.2.2.2.1
    have hpk := hU.2.2.2.2.1 k (by omega)
    have hgk := hK.2.1 k (by omega)
    have hokk := hK.2.2 k (by omega)
    have hdk := (hokk.ok hpr.2).dlt 300
    have hdk0 := dg_ge 300 (K.2.1 k)
    have hdG : dg 300 (G1 (ph k)) = dg 300 (K.2.1 k) := by rw [hgk]
    have wp := wd_2 (show 2 ≤ ph k by omega)
    have hG11 : G1 11 = G 11 := hF 11 (by omega) (by omega) (by omega) (by omega) (by omega) (by omega)
    have hG14 : G1 14 = G 14 := hF 14 (by omega) (by omega) (by omega) (by omega) (by omega) (by omega)
    have hSc : okp pr 25 (addS pr (G 11) (pr - v) 0 (G 14)) := addS_ok (by omega) h11 (fun x hx' => (h14.ok hpr.2).above (N := 300) (by omega) (by omega))
    unfold sbV at hz
    refine lv_iload X.1 X.2.1 d_Cu_splitByTrace_17 (lv_at hl 5 rfl) ?_
    refine lv_aload_n X.1 X.2.1 d_Cu_splitByTrace_19 rfl (lv_at hl 0 rfl) ?_
    refine t_cu X hT w hU 3 (by decide) k_f_Cu_9 rfl d_Cu_splitByTrace_20 ?_
    refine t_ar X hT w hO 0 (by decide) k_f_Cu_91 rfl d_Cu_splitByTrace_23 ?_
    refine i_ge (a := v) (b := pr) (tgt := 183) X (by omega) (by omega) d_Cu_splitByTrace_26 (by decide) (fun h_26 => ?_) (fun h_26 => ?_)
    · exact absurd h_26 (by omega)
    · refine lv_aload_n X.1 X.2.1 d_Cu_splitByTrace_29 rfl (lv_at hl 0 rfl) ?_
      refine t_cu X hT w hU 0 (by decide) k_f_Cu_17 rfl d_Cu_splitByTrace_30 ?_
      refine lv_iload X.1 X.2.1 d_Cu_splitByTrace_33 (lv_at hl 4 rfl) ?_
      refine t_fa (z := k) X hT w hU k rfl (by omega) d_Cu_splitByTrace_35 ?_
      refine g_deg (k := ph k) X hT w (by omega) k_f_Cu_63 d_Cu_splitByTrace_36 ?_
      refine lv_iload_n X.1 X.2.1 d_Cu_splitByTrace_39 rfl (lv_at hl 2 rfl) ?_
      refine i_le (a := dg 300 (G1 (ph k))) (b := g) (tgt := 183) X (by omega) (by omega) d_Cu_splitByTrace_40 (by decide) (fun h_40 => ?_) (fun h_40 => ?_)
      · rw [if_neg (by omega)] at hz
        subst hz
        exact KK G1 O1 H locs ls w hK hW hF hc (lv_sub hl [0, 1, 2, 3, 4] rfl)
      · refine lv_aload_n X.1 X.2.1 d_Cu_splitByTrace_43 rfl (lv_at hl 0 rfl) ?_
        refine t_cu X hT w hU 10 (by decide) k_f_Cu_51 rfl d_Cu_splitByTrace_44 ?_
        refine lv_aload_n X.1 X.2.1 d_Cu_splitByTrace_47 rfl (lv_at hl 0 rfl) ?_
        refine t_cu X hT w hU 8 (by decide) k_f_Cu_45 rfl d_Cu_splitByTrace_48 ?_
        refine w_cVv (n := 1) (i := 2 * 13) (ci := 0) (As := [.ref (ad (2 * 11))]) (rest := []) X w hml hl.1 (c_Po_copyFrom hT (G := G1) (k := 13) (q := 11) (by omega) (by omega) (by omega) (hW 13 (by omega)) (hW 11 (by omega)) (by rw [hG11]; exact h11.ok hpr.2)) (by omega) (mkV_o (by omega)) rfl k_m_Cu_66 k_im_Po_copyFrom k_se_Po_copyFrom k_i_Po k_co_Po_copyFrom (by decide +kernel) rfl ⟨Nat.le_of_ble_eq_true rfl, Nat.le_of_ble_eq_true rfl⟩ ⟨rfl, rfl⟩ ⟨Nat.zero_le _, Nat.zero_le _⟩ rfl (Nat.le_of_ble_eq_true rfl) d_Cu_splitByTrace_51 (fun C' H locs hp w => ?_)
        subst hp
        obtain ⟨Gw1, eGw1⟩ : ∃ gg : Nat → Nat → Int, gg = va_up G1 13 (G1 11) := ⟨_, rfl⟩
        rw [← eGw1] at w
        rw [hG11] at eGw1
        have hW1 : WF Gw1 := by rw [eGw1]; exact hW.up (k := 13) (h11.ok hpr.2)
        have f13 : Gw1 13 = G 11 := by rw [eGw1, va_up_self]
        have f14 : Gw1 14 = G 14 := by rw [eGw1, va_up_ne _ _ (by omega), hG14]
        refine lv_aload_n X.1 X.2.1 d_Cu_splitByTrace_54 rfl (lv_at hl 0 rfl) ?_
        refine t_cu X hT w hU 3 (by decide) k_f_Cu_9 rfl d_Cu_splitByTrace_55 ?_
        refine lv_aload_n X.1 X.2.1 d_Cu_splitByTrace_58 rfl (lv_at hl 0 rfl) ?_
        refine t_cu X hT w hU 10 (by decide) k_f_Cu_51 rfl d_Cu_splitByTrace_59 ?_
        refine lv_aload_n X.1 X.2.1 d_Cu_splitByTrace_62 rfl (lv_at hl 0 rfl) ?_
        refine t_cu X hT w hU 3 (by decide) k_f_Cu_9 rfl d_Cu_splitByTrace_63 ?_
        refine t_ar X hT w hO 0 (by decide) k_f_Cu_91 rfl d_Cu_splitByTrace_66 ?_
        refine lv_iload X.1 X.2.1 d_Cu_splitByTrace_69 (lv_at hl 5 rfl) ?_
        refine i_sub (a := pr) (b := v) X d_Cu_splitByTrace_71 ?_
        refine lv_iconst (v := iI (0)) X.1 X.2.1 d_Cu_splitByTrace_72 (by decide) ?_
        refine lv_aload_n X.1 X.2.1 d_Cu_splitByTrace_73 rfl (lv_at hl 0 rfl) ?_
        refine t_cu X hT w hU 11 (by decide) k_f_Cu_54 rfl d_Cu_splitByTrace_74 ?_
        refine w_cVv (n := 4) (i := 123) (ci := 1) (As := [.ref (ad (2 * 13)), .int (iI (pr - v)), .int (iI ((0 : Nat))), .ref (ad (2 * 14))]) (rest := []) X w hml hl.1 (c_Ar_addShifted hT (G := Gw1) hO (k := 13) (q := 14) (t := 0) (f := pr - v) (by omega) (by omega) (by omega) (by rw [f13]; exact h11) (hW1 14 (by omega)) (by omega) (by rw [f14]; show _ < (25 : Int); omega)) (by omega) (by rw [mkV_O (by decide)]; exact hO.1) rfl k_m_Cu_113 k_im_Ar_addShifted k_se_Ar_addShifted k_i_Ar k_co_Ar_addShifted (by decide +kernel) rfl ⟨Nat.le_of_ble_eq_true rfl, Nat.le_of_ble_eq_true rfl⟩ ⟨rfl, rfl⟩ ⟨Nat.zero_le _, Nat.zero_le _⟩ rfl (Nat.le_of_ble_eq_true rfl) d_Cu_splitByTrace_77 (fun C' H locs hp w => ?_)
        subst hp
        obtain ⟨Gw2, eGw2⟩ : ∃ gg : Nat → Nat → Int, gg = va_up Gw1 13 (addS pr (Gw1 13) (pr - v) 0 (Gw1 14)) := ⟨_, rfl⟩
        rw [← eGw2] at w
        rw [f13, f14] at eGw2
        have hW2 : WF Gw2 := by rw [eGw2]; exact hW1.up (k := 13) (hSc.ok hpr.2)
        have g13 : Gw2 13 = addS pr (G 11) (pr - v) 0 (G 14) := by rw [eGw2, va_up_self]
        have gpk : Gw2 (ph k) = K.2.1 k := by rw [eGw2, va_up_ne _ _ (by omega), eGw1, va_up_ne _ _ (by omega), hgk]
        refine lv_aload_n X.1 X.2.1 d_Cu_splitByTrace_80 rfl (lv_at hl 0 rfl) ?_
        refine t_cu X hT w hU 3 (by decide) k_f_Cu_9 rfl d_Cu_splitByTrace_81 ?_
        refine lv_aload_n X.1 X.2.1 d_Cu_splitByTrace_84 rfl (lv_at hl 0 rfl) ?_
        refine t_cu X hT w hU 9 (by decide) k_f_Cu_48 rfl d_Cu_splitByTrace_85 ?_
        refine lv_aload_n X.1 X.2.1 d_Cu_splitByTrace_88 rfl (lv_at hl 0 rfl) ?_
        refine t_cu X hT w hU 0 (by decide) k_f_Cu_17 rfl d_Cu_splitByTrace_89 ?_
        refine lv_iload X.1 X.2.1 d_Cu_splitByTrace_92 (lv_at hl 4 rfl) ?_
        refine t_fa (z := k) X hT w hU k rfl (by omega) d_Cu_splitByTrace_94 ?_
        refine lv_aload_n X.1 X.2.1 d_Cu_splitByTrace_95 rfl (lv_at hl 0 rfl) ?_
        refine t_cu X hT w hU 10 (by decide) k_f_Cu_51 rfl d_Cu_splitByTrace_96 ?_
        refine w_cVv (n := 3) (i := 123) (ci := 1) (As := [.ref (ad (2 * 12)), .ref (ad (2 * (ph k))), .ref (ad (2 * 13))]) (rest := []) X w hml hl.1 (c_Ar_findCommonDivisor hT (G := Gw2) hO (t := 12) (a := ph k) (b := 13) (by omega) (by omega) (by omega) hW2 (by rw [gpk]; exact hokk) (by rw [g13]; exact hSc)) (by omega) (by rw [mkV_O (by decide)]; exact hO.1) rfl k_m_Cu_117 k_im_Ar_findCommonDivisor k_se_Ar_findCommonDivisor k_i_Ar k_co_Ar_findCommonDivisor (by decide +kernel) rfl ⟨Nat.le_of_ble_eq_true rfl, Nat.le_of_ble_eq_true rfl⟩ ⟨rfl, rfl⟩ ⟨Nat.zero_le _, Nat.zero_le _⟩ rfl (Nat.le_of_ble_eq_true rfl) d_Cu_splitByTrace_99 (fun C' H locs hp w => ?_)
        obtain ⟨G3, rfl, hW3, h312, ok12, hF3⟩ := hp
        rw [gpk, g13] at h312
        obtain ⟨CC, eCC⟩ : ∃ CC, CC = sbC pr inv (G 11) (G 14) k v K := ⟨_, rfl⟩
        have h312 : G3 12 = CC := by rw [h312, eCC]; rfl
        have g3k : G3 (ph k) = K.2.1 k := by rw [hF3 _ (by omega) (by omega) (by omega) (by omega), gpk]
        have hd12 : dg 300 (G3 12) = dg 300 CC := by rw [h312]
        have hd3k : dg 300 (G3 (ph k)) = dg 300 (K.2.1 k) := by rw [g3k]
        have okC : okp pr 25 CC := by rw [← h312]; exact ok12
        have hdC := (okC.ok hpr.2).dlt 300
        have hdC0 := dg_ge 300 CC
        have hdC1 := dg_lt 300 (K.2.1 k)
        have hF3b : ∀ j, j < 61 → j ≠ 0 → j ≠ 2 → j ≠ 3 → j ≠ 12 → j ≠ 13 → G3 j = G1 j := fun j _ j0 j2 j3 j12 j13 => by rw [hF3 j j0 j2 j3 j12, eGw2, va_up_ne _ _ j13, eGw1, va_up_ne _ _ j13]
        have hK3 : cuS pr cs ad G3 O1 K ph := ⟨hU, fun i hi => by have := hU.2.2.2.2.1 i hi; rw [hF3b _ (by omega) (by omega) (by omega) (by omega) (by omega) (by omega)]; exact hK.2.1 i hi, hK.2.2⟩
        refine lv_aload_n X.1 X.2.1 d_Cu_splitByTrace_102 rfl (lv_at hl 0 rfl) ?_
        refine t_cu X hT w hU 9 (by decide) k_f_Cu_48 rfl d_Cu_splitByTrace_103 ?_
        refine g_deg (k := 12) X hT w (by omega) k_f_Cu_63 d_Cu_splitByTrace_106 ?_
        refine z_le (a := dg 300 (G3 12)) (tgt := 177) X (by omega) d_Cu_splitByTrace_109 (by decide) (fun h_109 => ?_) (fun h_109 => ?_)
        · refine i_inc (k := 5) (x := v) (lv' := [(5, .int (iI (v + 1))), (0, .ref (ad (125))), (1, .int (iI (f))), (2, .int (iI (g))), (3, .int (iI (b))), (4, .int (iI (k)))]) X d_Cu_splitByTrace_177 hl rfl (by decide) rfl (fun ls hl => ?_)
          refine lv_goto (tgt := 17) X.1 X.2.1 d_Cu_splitByTrace_180 (by decide) ?_
          rw [if_pos (by omega)] at hz
          have e1 : sbS pr inv (G 11) (G 14) k v K = K := by unfold sbS; rw [← eCC, if_neg (fun h => by omega)]
          rw [e1] at hz
          exact ih (v + 1) K G3 O1 H locs ls (by omega) hbK hz w hK3 hW3 (fun j hj j0 j2 j3 j12 j13 => by rw [hF3b j (by omega) j0 j2 j3 j12 j13]; exact hF j hj j0 j2 j3 j12 j13) hc (lv_sub hl [1, 2, 3, 4, 5, 0] rfl)
        · refine lv_aload_n X.1 X.2.1 d_Cu_splitByTrace_112 rfl (lv_at hl 0 rfl) ?_
          refine t_cu X hT w hU 9 (by decide) k_f_Cu_48 rfl d_Cu_splitByTrace_113 ?_
          refine g_deg (k := 12) X hT w (by omega) k_f_Cu_63 d_Cu_splitByTrace_116 ?_
          refine lv_aload_n X.1 X.2.1 d_Cu_splitByTrace_119 rfl (lv_at hl 0 rfl) ?_
          refine t_cu X hT w hU 0 (by decide) k_f_Cu_17 rfl d_Cu_splitByTrace_120 ?_
          refine lv_iload X.1 X.2.1 d_Cu_splitByTrace_123 (lv_at hl 4 rfl) ?_
          refine t_fa (z := k) X hT w hU k rfl (by omega) d_Cu_splitByTrace_125 ?_
          refine g_deg (k := ph k) X hT w (by omega) k_f_Cu_63 d_Cu_splitByTrace_126 ?_
          refine i_ge (a := dg 300 (G3 12)) (b := dg 300 (G3 (ph k))) (tgt := 177) X (by omega) (by omega) d_Cu_splitByTrace_129 (by decide) (fun h_129 => ?_) (fun h_129 => ?_)
          · refine i_inc (k := 5) (x := v) (lv' := [(5, .int (iI (v + 1))), (0, .ref (ad (125))), (1, .int (iI (f))), (2, .int (iI (g))), (3, .int (iI (b))), (4, .int (iI (k)))]) X d_Cu_splitByTrace_177 hl rfl (by decide) rfl (fun ls hl => ?_)
            refine lv_goto (tgt := 17) X.1 X.2.1 d_Cu_splitByTrace_180 (by decide) ?_
            rw [if_pos (by omega)] at hz
            have e1 : sbS pr inv (G 11) (G 14) k v K = K := by unfold sbS; rw [← eCC, if_neg (fun h => by omega)]
            rw [e1] at hz
            exact ih (v + 1) K G3 O1 H locs ls (by omega) hbK hz w hK3 hW3 (fun j hj j0 j2 j3 j12 j13 => by rw [hF3b j (by omega) j0 j2 j3 j12 j13]; exact hF j hj j0 j2 j3 j12 j13) hc (lv_sub hl [1, 2, 3, 4, 5, 0] rfl)
          · refine lv_aload_n X.1 X.2.1 d_Cu_splitByTrace_132 rfl (lv_at hl 0 rfl) ?_
            refine t_cu X hT w hU 10 (by decide) k_f_Cu_51 rfl d_Cu_splitByTrace_133 ?_
            refine lv_aload_n X.1 X.2.1 d_Cu_splitByTrace_136 rfl (lv_at hl 0 rfl) ?_
            refine t_cu X hT w hU 0 (by decide) k_f_Cu_17 rfl d_Cu_splitByTrace_137 ?_
            refine lv_iload X.1 X.2.1 d_Cu_splitByTrace_140 (lv_at hl 4 rfl) ?_
            refine t_fa (z := k) X hT w hU k rfl (by omega) d_Cu_splitByTrace_142 ?_
            refine w_cVv (n := 1) (i := 2 * 13) (ci := 0) (As := [.ref (ad (2 * (ph k)))]) (rest := []) X w hml hl.1 (c_Po_copyFrom hT (G := G3) (k := 13) (q := ph k) (by omega) (by omega) (by omega) (hW3 13 (by omega)) (hW3 _ (by omega)) (by rw [g3k]; exact hokk.ok hpr.2)) (by omega) (mkV_o (by omega)) rfl k_m_Cu_66 k_im_Po_copyFrom k_se_Po_copyFrom k_i_Po k_co_Po_copyFrom (by decide +kernel) rfl ⟨Nat.le_of_ble_eq_true rfl, Nat.le_of_ble_eq_true rfl⟩ ⟨rfl, rfl⟩ ⟨Nat.zero_le _, Nat.zero_le _⟩ rfl (Nat.le_of_ble_eq_true rfl) d_Cu_splitByTrace_143 (fun C' H locs hp w => ?_)
            subst hp
            obtain ⟨Gw3, eGw3⟩ : ∃ gg : Nat → Nat → Int, gg = va_up G3 13 (G3 (ph k)) := ⟨_, rfl⟩
            rw [← eGw3] at w
            rw [g3k] at eGw3
            have hW4 : WF Gw3 := by rw [eGw3]; exact hW3.up (k := 13) (hokk.ok hpr.2)
            have i13 : Gw3 13 = K.2.1 k := by rw [eGw3, va_up_self]
            have i12 : Gw3 12 = CC := by rw [eGw3, va_up_ne _ _ (by omega), h312]
            have hq := dvm_ok (inv := inv) (M := 25) (by omega) hokk okC (by omega) (by omega) hpr.2 (by omega)
            refine lv_aload_n X.1 X.2.1 d_Cu_splitByTrace_146 rfl (lv_at hl 0 rfl) ?_
            refine t_cu X hT w hU 3 (by decide) k_f_Cu_9 rfl d_Cu_splitByTrace_147 ?_
            refine lv_aload_n X.1 X.2.1 d_Cu_splitByTrace_150 rfl (lv_at hl 0 rfl) ?_
            refine t_cu X hT w hU 10 (by decide) k_f_Cu_51 rfl d_Cu_splitByTrace_151 ?_
            refine lv_aload_n X.1 X.2.1 d_Cu_splitByTrace_154 rfl (lv_at hl 0 rfl) ?_
            refine t_cu X hT w hU 9 (by decide) k_f_Cu_48 rfl d_Cu_splitByTrace_155 ?_
            refine lv_aload_n X.1 X.2.1 d_Cu_splitByTrace_158 rfl (lv_at hl 0 rfl) ?_
            refine t_cu X hT w hU 0 (by decide) k_f_Cu_17 rfl d_Cu_splitByTrace_159 ?_
            refine lv_iload X.1 X.2.1 d_Cu_splitByTrace_162 (lv_at hl 4 rfl) ?_
            refine t_fa (z := k) X hT w hU k rfl (by omega) d_Cu_splitByTrace_164 ?_
            refine w_cVv (n := 3) (i := 123) (ci := 1) (As := [.ref (ad (2 * 13)), .ref (ad (2 * 12)), .ref (ad (2 * (ph k)))]) (rest := []) X w hml hl.1 (c_Ar_divide hT (G := Gw3) hO (k := 13) (q := 12) (t := ph k) (by omega) (by omega) (by omega) (by omega) (by omega) (by omega) (by rw [i13]; exact hokk) (by rw [i12]; exact okC) (hW4 _ (by omega)) (by rw [i13, i12, wp]; omega)) (by omega) (by rw [mkV_O (by decide)]; exact hO.1) rfl k_m_Cu_131 k_im_Ar_divide k_se_Ar_divide k_i_Ar k_co_Ar_divide (by decide +kernel) rfl ⟨Nat.le_of_ble_eq_true rfl, Nat.le_of_ble_eq_true rfl⟩ ⟨rfl, rfl⟩ ⟨Nat.zero_le _, Nat.zero_le _⟩ rfl (Nat.le_of_ble_eq_true rfl) d_Cu_splitByTrace_165 (fun C' H locs hp w => ?_)
            subst hp
            obtain ⟨Gw4, eGw4⟩ : ∃ gg : Nat → Nat → Int, gg = va_up (va_up Gw3 (ph k) (dvm pr inv (Gw3 13) (Gw3 12)).2) 13 (dvm pr inv (Gw3 13) (Gw3 12)).1 := ⟨_, rfl⟩
            rw [← eGw4] at w
            rw [i13, i12] at eGw4
            have hW5 : WF Gw4 := by rw [eGw4]; exact (hW4.up (k := ph k) (by rw [wp]; exact hq.2.ok hpr.2)).up (k := 13) (hq.1.ok hpr.2)
            have j12 : Gw4 12 = CC := by rw [eGw4, va_up_ne _ _ (by omega), va_up_ne _ _ (by omega), i12]
            have hK4 : cuS pr cs ad Gw4 O1 (K.1, va_up K.2.1 k (dvm pr inv (K.2.1 k) CC).2, K.2.2) ph := by
              refine ⟨hU, fun i hi => ?_, fun i hi => ?_⟩
              · have hpi := hU.2.2.2.2.1 i hi
                show Gw4 (ph i) = va_up K.2.1 k _ i
                rw [eGw4, va_up_ne _ _ (by omega)]
                by_cases e1 : i = k
                · rw [e1, va_up_self, va_up_self]
                · rw [va_up_ne _ _ e1, va_up_ne _ _ (fun h => e1 (hU.2.2.2.2.2 i k hi (by omega) h)), eGw3, va_up_ne _ _ (by omega), hF3b _ (by omega) (by omega) (by omega) (by omega) (by omega) (by omega)]; exact hK.2.1 i hi
              · show okp pr 25 (va_up K.2.1 k _ i)
                by_cases e1 : i = k
                · rw [e1, va_up_self]; exact hq.2
                · rw [va_up_ne _ _ e1]; exact hK.2.2 i hi
            refine lv_aload_n X.1 X.2.1 d_Cu_splitByTrace_168 rfl (lv_at hl 0 rfl) ?_
            refine lv_aload_n X.1 X.2.1 d_Cu_splitByTrace_169 rfl (lv_at hl 0 rfl) ?_
            refine t_cu X hT w hU 9 (by decide) k_f_Cu_48 rfl d_Cu_splitByTrace_170 ?_
            refine lv_iconst (v := iI (0)) X.1 X.2.1 d_Cu_splitByTrace_173 (by decide) ?_
            refine w_cVv (n := 2) (i := 125) (ci := 2) (As := [.ref (ad (2 * 12)), .int (iI (0))]) (rest := []) X w hml hl.1 (c_Cu_append hT (G := Gw4) hO hK4 (k := 12) (v := 0) (by omega) hW5 (by rw [j12]; exact okC)) (by omega) (by rw [mkV_O (by decide)]; exact hU.1) rfl k_m_Cu_84 k_im_Cu_append k_se_Cu_append k_i_Cu k_co_Cu_append (by decide +kernel) rfl ⟨Nat.le_of_ble_eq_true rfl, Nat.le_of_ble_eq_true rfl⟩ ⟨rfl, rfl⟩ ⟨Nat.zero_le _, Nat.zero_le _⟩ rfl (Nat.le_of_ble_eq_true rfl) d_Cu_splitByTrace_174 (fun C' H locs hp w => ?_)
            obtain ⟨G6, O6, rfl, hK6, hW6, hF6, hc6⟩ := hp
            refine i_inc (k := 5) (x := v) (lv' := [(5, .int (iI (v + 1))), (0, .ref (ad (125))), (1, .int (iI (f))), (2, .int (iI (g))), (3, .int (iI (b))), (4, .int (iI (k)))]) X d_Cu_splitByTrace_177 hl rfl (by decide) rfl (fun ls hl => ?_)
            refine lv_goto (tgt := 17) X.1 X.2.1 d_Cu_splitByTrace_180 (by decide) ?_
            rw [if_pos (by omega)] at hz
            have e1 : sbS pr inv (G 11) (G 14) k v K = appK (K.1, va_up K.2.1 k (dvm pr inv (K.2.1 k) CC).2, K.2.2) CC 0 := by unfold sbS; rw [← eCC, if_pos ⟨by omega, by omega⟩]
            rw [e1] at hz
            rw [j12] at hK6
            exact ih (v + 1) (appK (K.1, va_up K.2.1 k (dvm pr inv (K.2.1 k) CC).2, K.2.2) CC 0) G6 O6 H locs ls (by omega) (Nat.le_trans hbK (appK_n (K.1, va_up K.2.1 k (dvm pr inv (K.2.1 k) CC).2, K.2.2) CC 0).1) hz w hK6 hW6 (fun j hj j0 j2 j3 j12 j13 => by rw [hF6 j hj, eGw4, va_up_ne _ _ j13, va_up_ne _ _ (by omega), eGw3, va_up_ne _ _ j13, hF3b j (by omega) j0 j2 j3 j12 j13]; exact hF j hj j0 j2 j3 j12 j13) (hc.tr hc6) (lv_sub hl [1, 2, 3, 4, 5, 0] rfl)
theorem l_Cu_splitByTrace_8 (X : Cx p s m args c b_Cu_splitByTrace RCu) (hml : c.maxLocals = 6) (hT : 132 ≤ T) (hO0 : arO cs ad pr inv O) (h11 : okp pr 25 (G 11)) (h14 : okp pr 25 (G 14)) (hg : g ≤ 24) {f b : Nat} (hb : b ≤ 24) {ph : Nat → Nat} {Z : KS}
    (KK : ∀ (G1 : Nat → Nat → Int) (O1 : Nat → va_E) (H : Heap) (locs : List Loc) (ls : Array Slot), Wd D cs A ad T s (mkV cs ad (rV G1) O1) H locs → cuS pr cs ad G1 O1 Z ph → WF G1 → (∀ j, j < 37 → j ≠ 0 → j ≠ 2 → j ≠ 3 → j ≠ 12 → j ≠ 13 → G1 j = G j) → cuFr O O1 → W p l e { frames := 4, cells := 0, slots := 0, locals := 100 } s m args below meth c H locs 0 0 Q (F0 m 189 ls [])) :
    ∀ (n k : Nat) (K : KS) (G1 : Nat → Nat → Int) (O1 : Nat → va_E) (H : Heap) (locs : List Loc) (ls : Array Slot), (k + n = b ∨ (n = 0 ∧ b ≤ k ∧ k ≤ 24)) → b ≤ K.1 → sbK pr inv (G 11) (G 14) g k n K = Z → Wd D cs A ad T s (mkV cs ad (rV G1) O1) H locs → cuS pr cs ad G1 O1 K ph → WF G1 → (∀ j, j < 37 → j ≠ 0 → j ≠ 2 → j ≠ 3 → j ≠ 12 → j ≠ 13 → G1 j = G j) → cuFr O O1 → lv_has ls 6 [(0, .ref (ad (125))), (1, .int (iI (f))), (2, .int (iI (g))), (3, .int (iI (b))), (4, .int (iI (k)))] → W p l e { frames := 4, cells := 0, slots := 0, locals := 100 } s m args below meth c H locs 0 0 Q (F0 m 8 ls []) := by
  have hpr := hO0.2.2.1
  intro n
  induction n with
  | zero =>
    intro k K G1 O1 H locs ls h1 hbK hz w hK hW hF hc hl
    have hz : K = Z := hz
    subst hz
    refine lv_iload X.1 X.2.1 d_Cu_splitByTrace_8 (lv_at hl 4 rfl) ?_
    refine lv_iload_n X.1 X.2.1 d_Cu_splitByTrace_10 rfl (lv_at hl 3 rfl) ?_
    refine i_ge (a := k) (b := b) (tgt := 189) X (by omega) (by omega) d_Cu_splitByTrace_11 (by decide) (fun h_11 => ?_) (fun h_11 => ?_)
    · exact KK G1 O1 H locs ls w hK hW hF hc
    · exact absurd h_11 (by omega)
  | succ n ih =>
    intro k K G1 O1 H locs ls h1 hbK hz w hK hW hF hc hl
    refine lv_iload X.1 X.2.1 d_Cu_splitByTrace_8 (lv_at hl 4 rfl) ?_
    refine lv_iload_n X.1 X.2.1 d_Cu_splitByTrace_10 rfl (lv_at hl 3 rfl) ?_
    refine i_ge (a := k) (b := b) (tgt := 189) X (by omega) (by omega) d_Cu_splitByTrace_11 (by decide) (fun h_11 => ?_) (fun h_11 => ?_)
    · exact absurd h_11 (by omega)
    · refine lv_iconst (v := iI (0)) X.1 X.2.1 d_Cu_splitByTrace_14 (by decide) ?_
      refine lv_istore (lv' := [(5, .int (iI (0))), (0, .ref (ad (125))), (1, .int (iI (f))), (2, .int (iI (g))), (3, .int (iI (b))), (4, .int (iI (k)))]) X.1 X.2.1 d_Cu_splitByTrace_15 hl (by decide) rfl (fun ls hl => ?_)
      refine l_Cu_splitByTrace_17 (G := G) (O := O) (g := g) (f := f) (b := b) (k := k) (ph := ph) (Z := sbV pr inv (G 11) (G 14) g k 0 pr.toNat K) X hml hT hO0 h11 h14 hg (by omega) (fun G2 O2 H locs ls w a1 a2 a3 a4 hl => ?_) pr.toNat 0 K G1 O1 H locs ls (by omega) hbK rfl w hK hW hF hc (lv_sub hl [1, 2, 3, 4, 5, 0] rfl)
      refine i_inc (k := 4) (x := k) (lv' := [(4, .int (iI (k + 1))), (0, .ref (ad (125))), (1, .int (iI (f))), (2, .int (iI (g))), (3, .int (iI (b)))]) X d_Cu_splitByTrace_183 hl rfl (by decide) rfl (fun ls hl => ?_)
      refine lv_goto (tgt := 8) X.1 X.2.1 d_Cu_splitByTrace_186 (by decide) ?_
      exact ih (k + 1) _ G2 O2 H locs ls (by omega) (Nat.le_trans hbK (sbV_n _ _ _)) hz w a1 a2 a3 a4 (lv_sub hl [1, 2, 3, 4, 0] rfl)
end SB
theorem c_Cu_splitByTrace {l : Launch} {D : va_G} {cs : Nat → ClassId} {A : Nat → Prop} {ad : Nat → Nat} {T : Nat} (hT : 132 ≤ T) {G : Nat → Nat → Int} {O : Nat → va_E} {pr : Int} {inv : Nat → Int} (hO : arO cs ad pr inv O) {K : KS} {ph : Nat → Nat} (hK : cuS pr cs ad G O K ph) {f g : Nat} (hf : f ≤ K.1) (hg : g ≤ 24) (hW : WF G) (h11 : okp pr 25 (G 11)) (h14 : okp pr 25 (G 14)) : Cv l y_Cu_splitByTrace ws_Cu_splitByTrace { frames := 4, cells := 0, slots := 0, locals := 100 } D cs A ad T [.ref (ad (125)), .int (iI (f)), .int (iI (g))] (mkV cs ad (rV G) O) (fun C' => ∃ G' O', C' = mkV cs ad (rV G') O' ∧ cuS pr cs ad G' O' (sbK pr inv (G 11) (G 14) g f (K.1 - f) K) ph ∧ WF G' ∧ (∀ j, j < 37 → j ≠ 0 → j ≠ 2 → j ≠ 3 → j ≠ 12 → j ≠ 13 → G' j = G j) ∧ cuFr O O') := by
  refine w_bodyV (by decide) (Nat.le_of_ble_eq_true rfl) ?_
  intro p e s m below meth c X hr hlk hml w ls hl
  have hl : lv_has ls 6 [(0, .ref (ad (125))), (1, .int (iI (f))), (2, .int (iI (g)))] := hl
  have hn := hK.1.2.2.2.1
  have hU := hK.1
  refine lv_aload_n X.1 X.2.1 d_Cu_splitByTrace_0 rfl (lv_at hl 0 rfl) ?_
  refine t_cu X hT w hU 2 (by decide) k_f_Cu_28 rfl d_Cu_splitByTrace_1 ?_
  refine lv_istore_n (lv' := [(3, .int (iI ((K.1 : Nat)))), (0, .ref (ad (125))), (1, .int (iI (f))), (2, .int (iI (g)))]) X.1 X.2.1 d_Cu_splitByTrace_4 rfl hl (by decide) rfl (fun ls hl => ?_)
  refine lv_iload_n X.1 X.2.1 d_Cu_splitByTrace_5 rfl (lv_at hl 2 rfl) ?_
  refine lv_istore (lv' := [(4, .int (iI (f))), (3, .int (iI ((K.1 : Nat)))), (0, .ref (ad (125))), (1, .int (iI (f))), (2, .int (iI (g)))]) X.1 X.2.1 d_Cu_splitByTrace_6 hl (by decide) rfl (fun ls hl => ?_)
  exact l_Cu_splitByTrace_8 (G := G) (O := O) (g := g) (f := f) (b := K.1) (ph := ph) (Z := (sbK pr inv (G 11) (G 14) g f (K.1 - f) K)) X hml hT hO h11 h14 hg hn (fun G2 O2 H locs ls w a1 a2 a3 a4 => w_vret X hr hlk w ⟨G2, O2, rfl, a1, a2, a3, a4⟩ d_Cu_splitByTrace_189) (K.1 - f) f K G O _ _ _ (by omega) (Nat.le_refl _) rfl w hK hW (fun _ _ _ _ _ _ _ => rfl) cuFr.rf (lv_sub hl [2, 3, 4, 1, 0] rfl)
end
section
section DI
variable {p : Program} {l : Launch} {e : Env} {R : Room} {s : State} {m : MethodId} {args : Array Value} {below : List Frame} {meth : Method} {c : Code} {H : Heap} {locs : List Loc} {cells slots : Nat} {Q : State → Prop} {D : va_G} {cs : Nat → ClassId} {A : Nat → Prop} {ad : Nat → Nat} {T : Nat}
variable {cc : ByteArray} {own : String} {pc : Nat} {ls : Array Slot} {rest : List Value}
theorem i_div (X : Cx p s m args c cc own) {a b : Int} (ha : 0 ≤ a ∧ a < 2147483648) (hb : 0 < b ∧ b < 2147483648) (hdg : decode cc pc = .ok (.idiv, 1)) (kk : W p l e R s m args below meth c H locs cells slots Q (F0 m (pc + 1) ls (.int (iI (a / b)) :: rest))) : W p l e R s m args below meth c H locs cells slots Q (F0 m pc ls (.int (iI b) :: .int (iI a) :: rest)) :=
  lv_idiv X.1 X.2.1 hdg (fun h => by rw [iI_0, iI_eq ⟨by omega, by omega⟩ ⟨by omega, by omega⟩] at h; omega) (by rw [iI_div ha.1 ha.2 hb.1 hb.2]; exact kk)
end DI
/-! the degree of the quotient -/
theorem divL_q {pr iv : Int} {B : Nat → Int} {e : Nat} : ∀ (n : Nat) (u : P2) (x : Nat), n ≤ x → (divL pr iv B e n u).2 x = u.2 x
  | 0, _, _, _ => rfl
  | n + 1, u, x, hx => by
    show (divL pr iv B e n (divS pr iv B e u n)).2 x = u.2 x
    rw [divL_q n _ x (by omega)]
    unfold divS
    split
    · rfl
    · exact va_up_ne _ _ (by omega)
theorem dvm_qdg {cs : Nat → ClassId} {ad : Nat → Nat} {pr : Int} {inv : Nat → Int} {O : Nat → va_E} (hO : arO cs ad pr inv O) {A B : Nat → Int} {N K : Nat} (hA : okp pr N A) (hB : okp pr K B) (hN : N ≤ 300) (hK : K ≤ 300) (hd : 0 ≤ dg 300 B) (hAB : dg 300 B ≤ dg 300 A) : dg 300 (dvm pr inv A B).2 = dg 300 A - dg 300 B := by
  have hpr := hO.2.2.1
  have hla := dg_lt 300 A
  have hq := dvm_ok (inv := inv) (M := (dg 300 A - dg 300 B + 1).toNat) (by omega) hA hB hN hK hpr.2 (by omega)
  refine dg_eq (by omega) (by omega) (fun x hx => ?_) (fun x hx _ => hq.2.2 x (by omega))
  have hB1 := hB.lead hd
  have hA1 := hA.lead (by omega)
  have hiv := hO.inv hB1
  unfold dvm
  rw [if_neg (by omega), show (dg 300 A - dg 300 B + 1).toNat = x + 1 by omega]
  show (divL pr _ B _ x (divS pr _ B _ (A, fun _ => 0) x)).2 x ≠ 0
  rw [divL_q x _ x (Nat.le_refl _)]
  have hne : A (x + (dg 300 B).toNat) * inv (B (dg 300 B).toNat).toNat % pr ≠ 0 := by
    rw [show x + (dg 300 B).toNat = (dg 300 A).toNat by omega]
    exact inv_ne hA1 hiv.2
  unfold divS
  rw [if_neg hne]
  show va_up _ x _ x ≠ 0
  rw [va_up_self]
  exact hne
/-- from f on the factors have a degree above 0 -/
def posK (f : Nat) (K : KS) : Prop := ∀ i, f ≤ i → i < K.1 → 0 < dg 300 (K.2.1 i)
def okK (pr : Int) (K : KS) : Prop := ∀ i, i < K.1 → okp pr 25 (K.2.1 i)
theorem appK_pos {f : Nat} {K : KS} {F : Nat → Int} {v : Int} (h : posK f K) (hF : 0 < dg 300 F) : posK f (appK K F v) := by
  unfold appK
  split
  · intro i h1 h2
    show 0 < dg 300 (va_up K.2.1 K.1 F i)
    have h2 : i < K.1 + 1 := h2
    by_cases e : i = K.1
    · rw [e, va_up_self]; exact hF
    · rw [va_up_ne _ _ e]; exact h i h1 (by omega)
  · exact h
theorem appK_okK {pr : Int} {K : KS} {F : Nat → Int} {v : Int} (h : okK pr K) (hF : okp pr 25 F) : okK pr (appK K F v) := by
  unfold appK
  split
  · intro i h2
    show okp pr 25 (va_up K.2.1 K.1 F i)
    have h2 : i < K.1 + 1 := h2
    by_cases e : i = K.1
    · rw [e, va_up_self]; exact hF
    · rw [va_up_ne _ _ e]; exact h i (by omega)
  · exact h
theorem gcdL_ok {cs : Nat → ClassId} {ad : Nat → Nat} {pr : Int} {inv : Nat → Int} {O : Nat → va_E} (hO : arO cs ad pr inv O) : ∀ (n : Nat) (U L : Nat → Int), okp pr 25 U → okp pr 25 L → okp pr 25 (gcdL pr inv n U L)
  | 0, U, L, hU, _ => hU
  | n + 1, U, L, hU, hL => by
    have hpr := hO.2.2.1
    have hdl := (hL.ok hpr.2).dlt 300
    unfold gcdL
    split
    · exact hU
    · exact gcdL_ok hO n L _ hL (dvm_ok25 hO hU hL (by omega) (by omega) (by omega) (by omega))
theorem gcdP_ok {cs : Nat → ClassId} {ad : Nat → Nat} {pr : Int} {inv : Nat → Int} {O : Nat → va_E} (hO : arO cs ad pr inv O) {U L : Nat → Int} (hU : okp pr 25 U) (hL : okp pr 25 L) : okp pr 25 (gcdP pr inv U L) := mon_ok (by have := hO.2.2.1; omega) (gcdL_ok hO _ _ _ hU hL)
theorem sbS_pos {cs : Nat → ClassId} {ad : Nat → Nat} {pr : Int} {inv : Nat → Int} {O : Nat → va_E} (hO : arO cs ad pr inv O) {Tr On : Nat → Int} (hT : okp pr 25 Tr) (hOn : okp pr 25 On) {f k v : Nat} {K : KS} (hk : k < K.1) (h : posK f K) (h2 : okK pr K) : posK f (sbS pr inv Tr On k v K) ∧ okK pr (sbS pr inv Tr On k v K) := by
  have hpr := hO.2.2.1
  have hS : okp pr 25 (addS pr Tr (pr - v) 0 On) := addS_ok (by omega) hT (fun x hx => hOn.2 x (by omega))
  have hC := gcdP_ok hO (h2 k hk) hS
  unfold sbS
  split
  · next hc =>
    have hdk := ((h2 k hk).ok hpr.2).dlt 300
    have hq := dvm_qdg hO (h2 k hk) hC (by omega) (by omega) (Int.le_of_lt hc.1) (Int.le_of_lt hc.2)
    have hq2 := dvm_ok (inv := inv) (M := 25) (by omega) (h2 k hk) hC (by omega) (by omega) hpr.2 (by have := hc.1; unfold sbC at this; omega)
    refine ⟨appK_pos (fun i h3 h4 => ?_) hc.1, appK_okK (fun i h4 => ?_) hC⟩
    · show 0 < dg 300 (va_up K.2.1 k _ i)
      by_cases e : i = k
      · rw [e, va_up_self]
        have := hc.2
        unfold sbC at this ⊢
        omega
      · rw [va_up_ne _ _ e]; exact h i h3 h4
    · show okp pr 25 (va_up K.2.1 k _ i)
      by_cases e : i = k
      · rw [e, va_up_self]; exact hq2.2
      · rw [va_up_ne _ _ e]; exact h2 i h4
  · exact ⟨h, h2⟩
theorem sbV_pos {cs : Nat → ClassId} {ad : Nat → Nat} {pr : Int} {inv : Nat → Int} {O : Nat → va_E} (hO : arO cs ad pr inv O) {Tr On : Nat → Int} (hT : okp pr 25 Tr) (hOn : okp pr 25 On) {f g k : Nat} : ∀ (n v : Nat) (K : KS), k < K.1 → posK f K → okK pr K → posK f (sbV pr inv Tr On g k v n K) ∧ okK pr (sbV pr inv Tr On g k v n K)
  | 0, _, _, _, h, h2 => ⟨h, h2⟩
  | n + 1, v, K, hk, h, h2 => by
    unfold sbV
    split
    · obtain ⟨a, b⟩ := sbS_pos (v := v) hO hT hOn hk h h2
      exact sbV_pos hO hT hOn n (v + 1) _ (Nat.lt_of_lt_of_le hk sbS_n) a b
    · exact ⟨h, h2⟩
theorem sbK_pos {cs : Nat → ClassId} {ad : Nat → Nat} {pr : Int} {inv : Nat → Int} {O : Nat → va_E} (hO : arO cs ad pr inv O) {Tr On : Nat → Int} (hT : okp pr 25 Tr) (hOn : okp pr 25 On) {f g : Nat} : ∀ (n k : Nat) (K : KS), k + n ≤ K.1 → posK f K → okK pr K → posK f (sbK pr inv Tr On g k n K) ∧ okK pr (sbK pr inv Tr On g k n K) ∧ K.1 ≤ (sbK pr inv Tr On g k n K).1
  | 0, _, _, _, h, h2 => ⟨h, h2, Nat.le_refl _⟩
  | n + 1, k, K, hk, h, h2 => by
    obtain ⟨a, b⟩ := sbV_pos (g := g) hO hT hOn pr.toNat 0 K (show k < K.1 by omega) h h2
    have hn : K.1 ≤ (sbV pr inv Tr On g k 0 pr.toNat K).1 := sbV_n _ _ _
    obtain ⟨a2, b2, c2⟩ := sbK_pos (g := g) hO hT hOn n (k + 1) _ (by omega) a b
    exact ⟨a2, b2, Nat.le_trans hn c2⟩
/-- the group is cut into its factors of degree g -/
def splL (pr : Int) (inv : Nat → Int) (X On Gp : Nat → Int) (g f : Nat) (due : Int) : Nat → Nat → KS → (Nat → Int) → KS
  | 0, _, K, _ => K
  | n + 1, i, K, Pw => if (i : Int) < dg 300 Gp ∧ (K.1 : Int) < due then splL pr inv X On Gp g f due n (i + 1) (sbK pr inv (trL pr inv Gp (g - 1) (mulm pr inv X Pw Gp, mulm pr inv X Pw Gp)).2 On g f (K.1 - f) K) (mulm pr inv X Pw Gp) else K
def splK (pr : Int) (inv : Nat → Int) (X On Gp : Nat → Int) (g : Nat) (K : KS) : KS := splL pr inv X On Gp g K.1 ((K.1 : Int) + dg 300 Gp / g) 24 1 (appK K Gp 0) On
theorem trL_ok {cs : Nat → ClassId} {ad : Nat → Nat} {pr : Int} {inv : Nat → Int} {O : Nat → va_E} (hO : arO cs ad pr inv O) {M : Nat → Int} (hM : okp pr 25 M) (hd : 0 ≤ dg 300 M) : ∀ (n : Nat) (z : P2), okp pr 25 z.1 → dg 300 z.1 ≤ 23 → okp pr 25 z.2 → okp pr 25 (trL pr inv M n z).2
  | 0, z, _, _, h => h
  | n + 1, z, h1, h2, h3 => by
    have hpr := hO.2.2.1
    have hdm := (hM.ok hpr.2).dlt 300
    have hf := (frm_ok hO h1 hM h2 hd).1
    have hdf := (hf.ok hpr.2).dlt 300
    have hI := hf.mono (m := 25) (by omega)
    exact trL_ok hO hM hd n (frm pr inv z.1 M, addS pr z.2 1 0 (frm pr inv z.1 M)) hI (by show dg 300 (frm pr inv z.1 M) ≤ 23; omega) (addS_ok (t := 0) (by omega) h3 (fun x hx => hI.2 x (by omega)))
section SP
variable {p : Program} {l : Launch} {e : Env} {s : State} {m : MethodId} {args : Array Value} {below : List Frame} {meth : Method} {c : Code} {H : Heap} {locs : List Loc} {Q : State → Prop} {D : va_G} {cs : Nat → ClassId} {A : Nat → Prop} {ad : Nat → Nat} {T : Nat} {O : Nat → va_E} {pr : Int} {inv : Nat → Int}
variable {g : Nat} {G : Nat → Nat → Int}
theorem l_Cu_split (X : Cx p s m args c b_Cu_split RCu) (hml : c.maxLocals = 5) (hT : 132 ≤ T) (hO0 : arO cs ad pr inv O) (h9 : okp pr 25 (G 9)) (hd9 : 0 < dg 300 (G 9)) (h14 : okp pr 25 (G 14)) (h15 : okp pr 25 (G 15)) (hg : 1 ≤ g ∧ g ≤ 24) {f : Nat} {due : Int} (hdue : 0 ≤ due ∧ due ≤ 1000) {ph : Nat → Nat} {Z : KS}
    (KK : ∀ (G1 : Nat → Nat → Int) (O1 : Nat → va_E) (H : Heap) (locs : List Loc) (ls : Array Slot), Wd D cs A ad T s (mkV cs ad (rV G1) O1) H locs → cuS pr cs ad G1 O1 Z ph → WF G1 → (∀ j, j < 37 → j ≠ 0 → j ≠ 1 → j ≠ 2 → j ≠ 3 → j ≠ 10 → j ≠ 11 → j ≠ 12 → j ≠ 13 → G1 j = G j) → cuFr O O1 → posK f Z → f ≤ Z.1 → W p l e { frames := 5, cells := 0, slots := 0, locals := 125 } s m args below meth c H locs 0 0 Q (F0 m 100 ls [])) :
    ∀ (n i : Nat) (K : KS) (G1 : Nat → Nat → Int) (O1 : Nat → va_E) (H : Heap) (locs : List Loc) (ls : Array Slot), i + n = 25 → f ≤ K.1 → posK f K → okp pr 25 (G1 10) → splL pr inv (G 15) (G 14) (G 9) g f due n i K (G1 10) = Z → Wd D cs A ad T s (mkV cs ad (rV G1) O1) H locs → cuS pr cs ad G1 O1 K ph → WF G1 → (∀ j, j < 37 → j ≠ 0 → j ≠ 1 → j ≠ 2 → j ≠ 3 → j ≠ 10 → j ≠ 11 → j ≠ 12 → j ≠ 13 → G1 j = G j) → cuFr O O1 → lv_has ls 5 [(0, .ref (ad (125))), (1, .int (iI (g))), (2, .int (iI (f))), (3, .int (iI (due))), (4, .int (iI (i)))] → W p l e { frames := 5, cells := 0, slots := 0, locals := 125 } s m args below meth c H locs 0 0 Q (F0 m 40 ls []) := by
  have hpr := hO0.2.2.1
  have hd9b := (h9.ok hpr.2).dlt 300
  intro n
  induction n with
  | zero =>
    intro i K G1 O1 H locs ls h1 hf hpos h10 hz w hK hW hF hc hl
    have hU := hK.1
    have hG9 : dg 300 (G1 9) = dg 300 (G 9) := by rw [hF 9 (by omega) (by omega) (by omega) (by omega) (by omega) (by omega) (by omega) (by omega) (by omega)]
    have hz : K = Z := hz
    subst hz
    refine lv_iload X.1 X.2.1 d_Cu_split_40 (lv_at hl 4 rfl) ?_
    refine lv_aload_n X.1 X.2.1 d_Cu_split_42 rfl (lv_at hl 0 rfl) ?_
    refine t_cu X hT w hU 6 (by decide) k_f_Cu_39 rfl d_Cu_split_43 ?_
    refine g_deg (k := 9) X hT w (by omega) k_f_Cu_63 d_Cu_split_46 ?_
    refine i_ge (a := i) (b := dg 300 (G1 9)) (tgt := 100) X (by omega) (by omega) d_Cu_split_49 (by decide) (fun h_49 => ?_) (fun h_49 => ?_)
    · exact KK G1 O1 H locs ls w hK hW hF hc hpos hf
    · exact absurd h_49 (by omega)
  | succ n ih =>
    intro i K G1 O1 H locs ls h1 hf hpos h10 hz w hK hW hF hc hl
    have hU := hK.1
    have hn := hU.2.2.2.1
    have hO := hc.ar hO0
    have hG9a : G1 9 = G 9 := hF 9 (by omega) (by omega) (by omega) (by omega) (by omega) (by omega) (by omega) (by omega) (by omega)
    have hG9 : dg 300 (G1 9) = dg 300 (G 9) := by rw [hG9a]
    have hG14 : G1 14 = G 14 := hF 14 (by omega) (by omega) (by omega) (by omega) (by omega) (by omega) (by omega) (by omega) (by omega)
    have hG15 : G1 15 = G 15 := hF 15 (by omega) (by omega) (by omega) (by omega) (by omega) (by omega) (by omega) (by omega) (by omega)
    have hmu := mulm_ok hO h15 h10 h9 (Int.le_of_lt hd9)
    have hmt : okp pr (dg 300 (G 9)).toNat (mulm pr inv (G 15) (G1 10) (G 9)) := by
      have hP : okp pr 300 (prd pr (G 15) (G1 10)) := prd_ok (by omega) hpr.2 h15 h10 (by omega) (by have := (h15.ok hpr.2).dlt 300; have := (h10.ok hpr.2).dlt 300; omega)
      exact dvm_ok25 hO hP h9 (by omega) (by omega) (by omega) (by omega)
    have hdmt := (hmt.ok hpr.2).dlt 300
    unfold splL at hz
    refine lv_iload X.1 X.2.1 d_Cu_split_40 (lv_at hl 4 rfl) ?_
    refine lv_aload_n X.1 X.2.1 d_Cu_split_42 rfl (lv_at hl 0 rfl) ?_
    refine t_cu X hT w hU 6 (by decide) k_f_Cu_39 rfl d_Cu_split_43 ?_
    refine g_deg (k := 9) X hT w (by omega) k_f_Cu_63 d_Cu_split_46 ?_
    refine i_ge (a := i) (b := dg 300 (G1 9)) (tgt := 100) X (by omega) (by omega) d_Cu_split_49 (by decide) (fun h_49 => ?_) (fun h_49 => ?_)
    · rw [if_neg (fun h => by omega)] at hz
      subst hz
      exact KK G1 O1 H locs ls w hK hW hF hc hpos hf
    · refine lv_aload_n X.1 X.2.1 d_Cu_split_52 rfl (lv_at hl 0 rfl) ?_
      refine t_cu X hT w hU 2 (by decide) k_f_Cu_28 rfl d_Cu_split_53 ?_
      refine lv_iload_n X.1 X.2.1 d_Cu_split_56 rfl (lv_at hl 3 rfl) ?_
      refine i_ge (a := (K.1 : Nat)) (b := due) (tgt := 100) X (by omega) (by omega) d_Cu_split_57 (by decide) (fun h_57 => ?_) (fun h_57 => ?_)
      · rw [if_neg (fun h => by omega)] at hz
        subst hz
        exact KK G1 O1 H locs ls w hK hW hF hc hpos hf
      · refine lv_aload_n X.1 X.2.1 d_Cu_split_60 rfl (lv_at hl 0 rfl) ?_
        refine t_cu X hT w hU 3 (by decide) k_f_Cu_9 rfl d_Cu_split_61 ?_
        refine lv_aload_n X.1 X.2.1 d_Cu_split_64 rfl (lv_at hl 0 rfl) ?_
        refine t_cu X hT w hU 7 (by decide) k_f_Cu_42 rfl d_Cu_split_65 ?_
        refine lv_aload_n X.1 X.2.1 d_Cu_split_68 rfl (lv_at hl 0 rfl) ?_
        refine t_cu X hT w hU 12 (by decide) k_f_Cu_60 rfl d_Cu_split_69 ?_
        refine lv_aload_n X.1 X.2.1 d_Cu_split_72 rfl (lv_at hl 0 rfl) ?_
        refine t_cu X hT w hU 7 (by decide) k_f_Cu_42 rfl d_Cu_split_73 ?_
        refine lv_aload_n X.1 X.2.1 d_Cu_split_76 rfl (lv_at hl 0 rfl) ?_
        refine t_cu X hT w hU 6 (by decide) k_f_Cu_39 rfl d_Cu_split_77 ?_
        refine w_cVv (n := 4) (i := 123) (ci := 1) (As := [.ref (ad (2 * 10)), .ref (ad (2 * 15)), .ref (ad (2 * 10)), .ref (ad (2 * 9))]) (rest := []) X w hml hl.1 (c_Ar_multiply hT (G := G1) hO (t := 10) (a := 15) (b := 10) (d := 9) (by omega) (by omega) (by omega) (by omega) hW (by rw [hG15]; exact h15) h10 (by rw [hG9a]; exact h9) (by omega)) (by omega) (by rw [mkV_O (by decide)]; exact hO.1) rfl k_m_Cu_121 k_im_Ar_multiply k_se_Ar_multiply k_i_Ar k_co_Ar_multiply (by decide +kernel) rfl ⟨Nat.le_of_ble_eq_true rfl, Nat.le_of_ble_eq_true rfl⟩ ⟨rfl, rfl⟩ ⟨Nat.zero_le _, Nat.zero_le _⟩ rfl (Nat.le_of_ble_eq_true rfl) d_Cu_split_80 (fun C' H locs hp w => ?_)
        subst hp
        obtain ⟨Gw1, eGw1⟩ : ∃ gg : Nat → Nat → Int, gg = va_up (va_up (va_up G1 0 (dvm pr inv (prd pr (G1 15) (G1 10)) (G1 9)).2) 1 (dvm pr inv (prd pr (G1 15) (G1 10)) (G1 9)).1) 10 (dvm pr inv (prd pr (G1 15) (G1 10)) (G1 9)).1 := ⟨_, rfl⟩
        rw [← eGw1] at w
        rw [hG15, hG9a] at eGw1
        have hW1 : WF Gw1 := by rw [eGw1]; exact WF.mul hO hW h15 h10 h9 (Int.le_of_lt hd9) (by omega)
        have f10 : Gw1 10 = mulm pr inv (G 15) (G1 10) (G 9) := by rw [eGw1, va_up_self]; rfl
        have hF1 : ∀ j, j ≠ 0 → j ≠ 1 → j ≠ 10 → Gw1 j = G1 j := fun j j0 j1 j10 => by rw [eGw1, va_up_ne _ _ j10, va_up_ne _ _ j1, va_up_ne _ _ j0]
        have f9 : Gw1 9 = G 9 := by rw [hF1 9 (by omega) (by omega) (by omega), hG9a]
        refine lv_aload_n X.1 X.2.1 d_Cu_split_83 rfl (lv_at hl 0 rfl) ?_
        refine lv_iload_n X.1 X.2.1 d_Cu_split_84 rfl (lv_at hl 1 rfl) ?_
        refine w_cVv (n := 1) (i := 125) (ci := 2) (As := [.int (iI (g))]) (rest := []) X w hml hl.1 (c_Cu_findTrace hT (G := Gw1) hO hU (g := g) hg.2 hW1 (by rw [f10]; exact hmu.1) (by rw [f10]; omega) (by rw [f9]; exact h9) (by rw [f9]; omega)) (by omega) (by rw [mkV_O (by decide)]; exact hU.1) rfl k_m_Cu_125 k_im_Cu_findTrace k_se_Cu_findTrace k_i_Cu k_co_Cu_findTrace (by decide +kernel) rfl ⟨Nat.le_of_ble_eq_true rfl, Nat.le_of_ble_eq_true rfl⟩ ⟨rfl, rfl⟩ ⟨Nat.zero_le _, Nat.zero_le _⟩ rfl (Nat.le_of_ble_eq_true rfl) d_Cu_split_85 (fun C' H locs hp w => ?_)
        obtain ⟨G2, rfl, hW2, e11, ok11, hF2⟩ := hp
        rw [f9, f10] at e11
        have hF2b : ∀ j, j ≠ 0 → j ≠ 1 → j ≠ 10 → j ≠ 11 → j ≠ 13 → G2 j = G1 j := fun j j0 j1 j10 j11 j13 => by rw [hF2 j j0 j1 j11 j13, hF1 j j0 j1 j10]
        have hK2 : cuS pr cs ad G2 O1 K ph := ⟨hU, fun i hi => by have := hU.2.2.2.2.1 i hi; rw [hF2b _ (by omega) (by omega) (by omega) (by omega) (by omega)]; exact hK.2.1 i hi, hK.2.2⟩
        have g14 : G2 14 = G 14 := by rw [hF2b 14 (by omega) (by omega) (by omega) (by omega) (by omega), hG14]
        have g10 : G2 10 = mulm pr inv (G 15) (G1 10) (G 9) := by rw [hF2 10 (by omega) (by omega) (by omega) (by omega), f10]
        refine lv_aload_n X.1 X.2.1 d_Cu_split_88 rfl (lv_at hl 0 rfl) ?_
        refine lv_iload_n X.1 X.2.1 d_Cu_split_89 rfl (lv_at hl 2 rfl) ?_
        refine lv_iload_n X.1 X.2.1 d_Cu_split_90 rfl (lv_at hl 1 rfl) ?_
        refine w_cVv (n := 2) (i := 125) (ci := 2) (As := [.int (iI (f)), .int (iI (g))]) (rest := []) X w hml hl.1 (c_Cu_splitByTrace hT (G := G2) hO hK2 (f := f) (g := g) hf hg.2 hW2 ok11 (by rw [g14]; exact h14)) (by omega) (by rw [mkV_O (by decide)]; exact hU.1) rfl k_m_Cu_128 k_im_Cu_splitByTrace k_se_Cu_splitByTrace k_i_Cu k_co_Cu_splitByTrace (by decide +kernel) rfl ⟨Nat.le_of_ble_eq_true rfl, Nat.le_of_ble_eq_true rfl⟩ ⟨rfl, rfl⟩ ⟨Nat.zero_le _, Nat.zero_le _⟩ rfl (Nat.le_of_ble_eq_true rfl) d_Cu_split_91 (fun C' H locs hp w => ?_)
        obtain ⟨G3, O3, rfl, hK3, hW3, hF3, hc3⟩ := hp
        refine i_inc (k := 4) (x := i) (lv' := [(4, .int (iI (i + 1))), (0, .ref (ad (125))), (1, .int (iI (g))), (2, .int (iI (f))), (3, .int (iI (due)))]) X d_Cu_split_94 hl rfl (by decide) rfl (fun ls hl => ?_)
        refine lv_goto (tgt := 40) X.1 X.2.1 d_Cu_split_97 (by decide) ?_
        rw [if_pos ⟨by omega, by omega⟩] at hz
        rw [e11, g14] at hK3
        have hT2 : okp pr 25 (trL pr inv (G 9) (g - 1) (mulm pr inv (G 15) (G1 10) (G 9), mulm pr inv (G 15) (G1 10) (G 9))).2 := by rw [← e11]; exact ok11
        obtain ⟨p1, p2, p3⟩ := sbK_pos (g := g) hO hT2 h14 (f := f) (K.1 - f) f K (by omega) hpos hK.2.2
        have g3 : G3 10 = mulm pr inv (G 15) (G1 10) (G 9) := by rw [hF3 10 (by omega) (by omega) (by omega) (by omega) (by omega) (by omega), g10]
        exact ih (i + 1) _ G3 O3 H locs ls (by omega) (Nat.le_trans hf p3) p1 (by rw [g3]; exact hmu.1) (by rw [g3]; exact hz) w hK3 hW3 (fun j hj j0 j1 j2 j3 j10 j11 j12 j13 => by rw [hF3 j hj j0 j2 j3 j12 j13, hF2b j j0 j1 j10 j11 j13]; exact hF j hj j0 j1 j2 j3 j10 j11 j12 j13) (hc.tr hc3) (lv_sub hl [1, 2, 3, 4, 0] rfl)
end SP
theorem c_Cu_split {l : Launch} {D : va_G} {cs : Nat → ClassId} {A : Nat → Prop} {ad : Nat → Nat} {T : Nat} (hT : 132 ≤ T) {G : Nat → Nat → Int} {O : Nat → va_E} {pr : Int} {inv : Nat → Int} (hO : arO cs ad pr inv O) {K : KS} {ph : Nat → Nat} (hK : cuS pr cs ad G O K ph) {g : Nat} (hg : 1 ≤ g ∧ g ≤ 24) (hW : WF G) (h9 : okp pr 25 (G 9)) (hd9 : 0 < dg 300 (G 9)) (h14 : okp pr 25 (G 14)) (h15 : okp pr 25 (G 15)) : Cv l y_Cu_split ws_Cu_split { frames := 5, cells := 0, slots := 0, locals := 125 } D cs A ad T [.ref (ad (125)), .int (iI (g))] (mkV cs ad (rV G) O) (fun C' => ∃ G' O', C' = mkV cs ad (rV G') O' ∧ cuS pr cs ad G' O' (splK pr inv (G 15) (G 14) (G 9) g K) ph ∧ WF G' ∧ (∀ j, j < 37 → j ≠ 0 → j ≠ 1 → j ≠ 2 → j ≠ 3 → j ≠ 10 → j ≠ 11 → j ≠ 12 → j ≠ 13 → G' j = G j) ∧ cuFr O O' ∧ posK K.1 (splK pr inv (G 15) (G 14) (G 9) g K) ∧ K.1 ≤ (splK pr inv (G 15) (G 14) (G 9) g K).1) := by
  refine w_bodyV (by decide) (Nat.le_of_ble_eq_true rfl) ?_
  intro p e s m below meth c X hr hlk hml w ls hl
  have hl : lv_has ls 5 [(0, .ref (ad (125))), (1, .int (iI (g)))] := hl
  have hpr := hO.2.2.1
  have hU := hK.1
  have hn := hU.2.2.2.1
  have hd9b := (h9.ok hpr.2).dlt 300
  have hdv : 0 ≤ dg 300 (G 9) / g ∧ dg 300 (G 9) / g ≤ 25 := ⟨Int.ediv_nonneg (by omega) (by omega), Int.le_trans (Int.ediv_le_self _ (by omega)) (by omega)⟩
  refine lv_aload_n X.1 X.2.1 d_Cu_split_0 rfl (lv_at hl 0 rfl) ?_
  refine t_cu X hT w hU 2 (by decide) k_f_Cu_28 rfl d_Cu_split_1 ?_
  refine lv_istore_n (lv' := [(2, .int (iI ((K.1 : Nat)))), (0, .ref (ad (125))), (1, .int (iI (g)))]) X.1 X.2.1 d_Cu_split_4 rfl hl (by decide) rfl (fun ls hl => ?_)
  refine lv_iload_n X.1 X.2.1 d_Cu_split_5 rfl (lv_at hl 0 rfl) ?_
  refine lv_aload_n X.1 X.2.1 d_Cu_split_6 rfl (lv_at hl 1 rfl) ?_
  refine t_cu X hT w hU 6 (by decide) k_f_Cu_39 rfl d_Cu_split_7 ?_
  refine g_deg (k := 9) X hT w (by omega) k_f_Cu_63 d_Cu_split_10 ?_
  refine lv_iload_n X.1 X.2.1 d_Cu_split_13 rfl (lv_at hl 2 rfl) ?_
  refine i_div (a := dg 300 (G 9)) (b := g) X (by omega) (by omega) d_Cu_split_14 ?_
  refine i_add (a := (K.1 : Nat)) (b := (dg 300 (G 9)) / g) X d_Cu_split_15 ?_
  refine lv_istore_n (lv' := [(3, .int (iI ((K.1 : Nat) + ((dg 300 (G 9)) / g)))), (2, .int (iI ((K.1 : Nat)))), (0, .ref (ad (125))), (1, .int (iI (g)))]) X.1 X.2.1 d_Cu_split_16 rfl hl (by decide) rfl (fun ls hl => ?_)
  refine lv_aload_n X.1 X.2.1 d_Cu_split_17 rfl (lv_at hl 2 rfl) ?_
  refine lv_aload_n X.1 X.2.1 d_Cu_split_18 rfl (lv_at hl 2 rfl) ?_
  refine t_cu X hT w hU 6 (by decide) k_f_Cu_39 rfl d_Cu_split_19 ?_
  refine lv_iconst (v := iI (0)) X.1 X.2.1 d_Cu_split_22 (by decide) ?_
  refine w_cVv (n := 2) (i := 125) (ci := 2) (As := [.ref (ad (2 * 9)), .int (iI (0))]) (rest := []) X w hml hl.1 (c_Cu_append hT (G := G) hO hK (k := 9) (v := 0) (by omega) hW h9) (by omega) (by rw [mkV_O (by decide)]; exact hU.1) rfl k_m_Cu_84 k_im_Cu_append k_se_Cu_append k_i_Cu k_co_Cu_append (by decide +kernel) rfl ⟨Nat.le_of_ble_eq_true rfl, Nat.le_of_ble_eq_true rfl⟩ ⟨rfl, rfl⟩ ⟨Nat.zero_le _, Nat.zero_le _⟩ rfl (Nat.le_of_ble_eq_true rfl) d_Cu_split_23 (fun C' H locs hp w => ?_)
  obtain ⟨G1, O1, rfl, hK1, hW1, hF1, hc1⟩ := hp
  have hU1 := hK1.1
  have hU := hK1.1
  have f14 : G1 14 = G 14 := hF1 14 (by omega)
  refine lv_aload_n X.1 X.2.1 d_Cu_split_26 rfl (lv_at hl 2 rfl) ?_
  refine t_cu X hT w hU 7 (by decide) k_f_Cu_42 rfl d_Cu_split_27 ?_
  refine lv_aload_n X.1 X.2.1 d_Cu_split_30 rfl (lv_at hl 2 rfl) ?_
  refine t_cu X hT w hU 11 (by decide) k_f_Cu_54 rfl d_Cu_split_31 ?_
  refine w_cVv (n := 1) (i := 2 * 10) (ci := 0) (As := [.ref (ad (2 * 14))]) (rest := []) X w hml hl.1 (c_Po_copyFrom hT (G := G1) (k := 10) (q := 14) (by omega) (by omega) (by omega) (hW1 10 (by omega)) (hW1 14 (by omega)) (by rw [f14]; exact h14.ok hpr.2)) (by omega) (mkV_o (by omega)) rfl k_m_Cu_66 k_im_Po_copyFrom k_se_Po_copyFrom k_i_Po k_co_Po_copyFrom (by decide +kernel) rfl ⟨Nat.le_of_ble_eq_true rfl, Nat.le_of_ble_eq_true rfl⟩ ⟨rfl, rfl⟩ ⟨Nat.zero_le _, Nat.zero_le _⟩ rfl (Nat.le_of_ble_eq_true rfl) d_Cu_split_34 (fun C' H locs hp w => ?_)
  subst hp
  obtain ⟨Gw1, eGw1⟩ : ∃ gg : Nat → Nat → Int, gg = va_up G1 10 (G1 14) := ⟨_, rfl⟩
  rw [← eGw1] at w
  refine lv_iconst (v := iI (1)) X.1 X.2.1 d_Cu_split_37 (by decide) ?_
  refine lv_istore (lv' := [(4, .int (iI (1))), (3, .int (iI ((K.1 : Nat) + ((dg 300 (G 9)) / g)))), (2, .int (iI ((K.1 : Nat)))), (0, .ref (ad (125))), (1, .int (iI (g)))]) X.1 X.2.1 d_Cu_split_38 hl (by decide) rfl (fun ls hl => ?_)
  rw [f14] at eGw1
  have hFw : ∀ j, j < 37 → j ≠ 10 → Gw1 j = G j := fun j hj j10 => by rw [eGw1, va_up_ne _ _ j10, hF1 j hj]
  have k9 : Gw1 9 = G 9 := hFw 9 (by omega) (by omega)
  have k14 : Gw1 14 = G 14 := hFw 14 (by omega) (by omega)
  have k15 : Gw1 15 = G 15 := hFw 15 (by omega) (by omega)
  have k10 : Gw1 10 = G 14 := by rw [eGw1, va_up_self]
  have hKw : cuS pr cs ad Gw1 O1 (appK K (G 9) 0) ph := ⟨hU1, fun i hi => by have := hU1.2.2.2.2.1 i hi; rw [eGw1, va_up_ne _ _ (by omega)]; exact hK1.2.1 i hi, hK1.2.2⟩
  exact l_Cu_split (G := Gw1) (O := O1) (g := g) (f := K.1) (due := (K.1 : Int) + dg 300 (G 9) / g) (ph := ph) (Z := (splK pr inv (G 15) (G 14) (G 9) g K)) X hml hT (hc1.ar hO) (by rw [k9]; exact h9) (by rw [k9]; exact hd9) (by rw [k14]; exact h14) (by rw [k15]; exact h15) hg (by omega) (fun G2 O2 H locs ls w a1 a2 a3 a4 a5 a6 => w_vret X hr hlk w ⟨G2, O2, rfl, a1, a2, fun j hj j0 j1 j2 j3 j10 j11 j12 j13 => by rw [a3 j hj j0 j1 j2 j3 j10 j11 j12 j13, hFw j hj j10], hc1.tr a4, a5, a6⟩ d_Cu_split_100) 24 1 (appK K (G 9) 0) Gw1 O1 _ _ _ (by omega) (appK_n _ _ _).1 (appK_pos (fun i h1 h2 => absurd h2 (by omega)) hd9) (by rw [k10]; exact h14) (by rw [k10, k9, k14, k15]; rfl) w hKw (by rw [eGw1]; exact hW1.up (k := 10) (h14.ok hpr.2)) (fun _ _ _ _ _ _ _ _ _ _ => rfl) cuFr.rf (lv_sub hl [3, 4, 2, 1, 0] rfl)
end
section
/-- the degrees one after the other -/
def cutL (pr : Int) (inv : Nat → Int) (X On : Nat → Int) : Nat → Nat → KS → (Nat → Int) → (Nat → Int) → KS × (Nat → Int)
  | 0, _, K, R, _ => (K, R)
  | n + 1, d, K, R, I =>
    if 2 * (d : Int) ≤ dg 300 R then
      (if 0 < dg 300 (gcdP pr inv R (addS pr (frm pr inv I R) (pr - 1) 0 X)) then
        cutL pr inv X On n (d + 1) (tofK pr inv K.1 ((splK pr inv X On (gcdP pr inv R (addS pr (frm pr inv I R) (pr - 1) 0 X)) d K).1 - K.1) (splK pr inv X On (gcdP pr inv R (addS pr (frm pr inv I R) (pr - 1) 0 X)) d K) R).1 (tofK pr inv K.1 ((splK pr inv X On (gcdP pr inv R (addS pr (frm pr inv I R) (pr - 1) 0 X)) d K).1 - K.1) (splK pr inv X On (gcdP pr inv R (addS pr (frm pr inv I R) (pr - 1) 0 X)) d K) R).2 (frm pr inv I R)
      else cutL pr inv X On n (d + 1) K R (frm pr inv I R))
    else (K, R)
def endK (z : KS × (Nat → Int)) : KS := if 0 < dg 300 z.2 then appK z.1 z.2 1 else z.1
def cutC (pr : Int) (inv : Nat → Int) (X On : Nat → Int) (K : KS) (A : Nat → Int) : KS := srtK 1 ((endK (cutL pr inv X On 24 1 (0, K.2) (mon pr inv A) X)).1 - 1) (endK (cutL pr inv X On 24 1 (0, K.2) (mon pr inv A) X))
section CUT
variable {p : Program} {l : Launch} {e : Env} {s : State} {m : MethodId} {args : Array Value} {below : List Frame} {meth : Method} {c : Code} {H : Heap} {locs : List Loc} {Q : State → Prop} {D : va_G} {cs : Nat → ClassId} {A : Nat → Prop} {ad : Nat → Nat} {T : Nat} {O : Nat → va_E} {pr : Int} {inv : Nat → Int}
variable {G : Nat → Nat → Int}
theorem l_Cu_cut (X : Cx p s m args c b_Cu_cut RCu) (hml : c.maxLocals = 4) (hT : 132 ≤ T) (hO0 : arO cs ad pr inv O) (h14 : okp pr 25 (G 14)) (h15 : okp pr 25 (G 15)) {ph : Nat → Nat} {Z : KS × (Nat → Int)}
    (KK : ∀ (G1 : Nat → Nat → Int) (O1 : Nat → va_E) (H : Heap) (locs : List Loc) (ls : Array Slot), Wd D cs A ad T s (mkV cs ad (rV G1) O1) H locs → cuS pr cs ad G1 O1 Z.1 ph → WF G1 → (∀ j, 14 ≤ j → j < 37 → G1 j = G j) → cuFr O O1 → G1 7 = Z.2 → okp pr 25 Z.2 → lv_has ls 4 [(0, .ref (ad (125)))] → W p l e { frames := 6, cells := 0, slots := 0, locals := 149 } s m args below meth c H locs 0 0 Q (F0 m 95 ls [])) :
    ∀ (n b : Nat) (K : KS) (G1 : Nat → Nat → Int) (O1 : Nat → va_E) (H : Heap) (locs : List Loc) (ls : Array Slot), b + n = 25 → 1 ≤ b → okp pr 25 (G1 7) → okp pr 25 (G1 8) → dg 300 (G1 8) ≤ 23 → cutL pr inv (G 15) (G 14) n b K (G1 7) (G1 8) = Z → Wd D cs A ad T s (mkV cs ad (rV G1) O1) H locs → cuS pr cs ad G1 O1 K ph → WF G1 → (∀ j, 14 ≤ j → j < 37 → G1 j = G j) → cuFr O O1 → lv_has ls 4 [(0, .ref (ad (125))), (2, .int (iI (b)))] → W p l e { frames := 6, cells := 0, slots := 0, locals := 149 } s m args below meth c H locs 0 0 Q (F0 m 37 ls []) := by
  have hpr := hO0.2.2.1
  intro n
  induction n with
  | zero =>
    intro b K G1 O1 H locs ls h1 hb h7 h8 hd8 hz w hK hW hF hc hl
    have hU := hK.1
    have hz : (K, G1 7) = Z := hz
    subst hz
    refine lv_iload_n X.1 X.2.1 d_Cu_cut_37 rfl (lv_at hl 1 rfl) ?_
    refine lv_bipush (v := iI (24)) X.1 X.2.1 d_Cu_cut_38 (by decide) ?_
    refine i_gt (a := b) (b := 24) (tgt := 95) X (by omega) (by omega) d_Cu_cut_40 (by decide) (fun h_40 => ?_) (fun h_40 => ?_)
    · exact KK G1 O1 H locs ls w hK hW hF hc rfl h7 (lv_sub hl [0] rfl)
    · exact absurd h_40 (by omega)
  | succ n ih =>
    intro b K G1 O1 H locs ls h1 hb h7 h8 hd8 hz w hK hW hF hc hl
    have hU := hK.1
    have hn := hU.2.2.2.1
    have hO := hc.ar hO0
    have hG14 : G1 14 = G 14 := hF 14 (by omega) (by omega)
    have hG15 : G1 15 = G 15 := hF 15 (by omega) (by omega)
    have hd7 := (h7.ok hpr.2).dlt 300
    have hd70 := dg_ge 300 (G1 7)
    unfold cutL at hz
    refine lv_iload_n X.1 X.2.1 d_Cu_cut_37 rfl (lv_at hl 1 rfl) ?_
    refine lv_bipush (v := iI (24)) X.1 X.2.1 d_Cu_cut_38 (by decide) ?_
    refine i_gt (a := b) (b := 24) (tgt := 95) X (by omega) (by omega) d_Cu_cut_40 (by decide) (fun h_40 => ?_) (fun h_40 => ?_)
    · exact absurd h_40 (by omega)
    · refine lv_iconst (v := iI (2)) X.1 X.2.1 d_Cu_cut_43 (by decide) ?_
      refine lv_iload_n X.1 X.2.1 d_Cu_cut_44 rfl (lv_at hl 1 rfl) ?_
      refine i_mul (a := 2) (b := b) X d_Cu_cut_45 ?_
      refine lv_aload_n X.1 X.2.1 d_Cu_cut_46 rfl (lv_at hl 0 rfl) ?_
      refine t_cu X hT w hU 4 (by decide) k_f_Cu_32 rfl d_Cu_cut_47 ?_
      refine g_deg (k := 7) X hT w (by omega) k_f_Cu_63 d_Cu_cut_50 ?_
      refine i_gt (a := 2 * b) (b := dg 300 (G1 7)) (tgt := 95) X (by omega) (by omega) d_Cu_cut_53 (by decide) (fun h_53 => ?_) (fun h_53 => ?_)
      · rw [if_neg (by omega)] at hz
        subst hz
        exact KK G1 O1 H locs ls w hK hW hF hc rfl h7 (lv_sub hl [0] rfl)
      · refine lv_aload_n X.1 X.2.1 d_Cu_cut_56 rfl (lv_at hl 0 rfl) ?_
        refine lv_aload_n X.1 X.2.1 d_Cu_cut_57 rfl (lv_at hl 0 rfl) ?_
        refine t_cu X hT w hU 4 (by decide) k_f_Cu_32 rfl d_Cu_cut_58 ?_
        refine w_cVv (n := 1) (i := 125) (ci := 2) (As := [.ref (ad (2 * 7))]) (rest := []) X w hml hl.1 (c_Cu_gatherNextDegree hT (G := G1) hO hU (k := 7) (by omega) hW h8 hd8 h7 (by omega) (by rw [hG15]; exact h15)) (by omega) (by rw [mkV_O (by decide)]; exact hU.1) rfl k_m_Cu_70 k_im_Cu_gatherNextDegree k_se_Cu_gatherNextDegree k_i_Cu k_co_Cu_gatherNextDegree (by decide +kernel) rfl ⟨Nat.le_of_ble_eq_true rfl, Nat.le_of_ble_eq_true rfl⟩ ⟨rfl, rfl⟩ ⟨Nat.zero_le _, Nat.zero_le _⟩ rfl (Nat.le_of_ble_eq_true rfl) d_Cu_cut_61 (fun C' H locs hp w => ?_)
        obtain ⟨G2, rfl, hW2, e8, e9, ok8, d8, ok9, hF2⟩ := hp
        rw [hG15] at e9
        rw [if_pos (by omega), ← e9, ← e8] at hz
        have hd9 := (ok9.ok hpr.2).dlt 300
        have hd90 := dg_ge 300 (G2 9)
        have k7 : G2 7 = G1 7 := hF2 7 (by omega) (by omega) (by omega) (by omega) (by omega) (by omega) (by omega)
        have k14 : G2 14 = G 14 := by rw [hF2 14 (by omega) (by omega) (by omega) (by omega) (by omega) (by omega) (by omega), hG14]
        have k15 : G2 15 = G 15 := by rw [hF2 15 (by omega) (by omega) (by omega) (by omega) (by omega) (by omega) (by omega), hG15]
        have hK2 : cuS pr cs ad G2 O1 K ph := ⟨hU, fun i hi => by have := hU.2.2.2.2.1 i hi; rw [hF2 _ (by omega) (by omega) (by omega) (by omega) (by omega) (by omega) (by omega)]; exact hK.2.1 i hi, hK.2.2⟩
        refine lv_aload_n X.1 X.2.1 d_Cu_cut_64 rfl (lv_at hl 0 rfl) ?_
        refine t_cu X hT w hU 6 (by decide) k_f_Cu_39 rfl d_Cu_cut_65 ?_
        refine g_deg (k := 9) X hT w (by omega) k_f_Cu_63 d_Cu_cut_68 ?_
        refine z_le (a := dg 300 (G2 9)) (tgt := 89) X (by omega) d_Cu_cut_71 (by decide) (fun h_71 => ?_) (fun h_71 => ?_)
        · refine i_inc (k := 1) (x := b) (lv' := [(2, .int (iI (b + 1))), (0, .ref (ad (125)))]) X d_Cu_cut_89 hl rfl (by decide) rfl (fun ls hl => ?_)
          refine lv_goto (tgt := 37) X.1 X.2.1 d_Cu_cut_92 (by decide) ?_
          rw [if_neg (by omega)] at hz
          exact ih (b + 1) K G2 O1 H locs ls (by omega) (by omega) (by rw [k7]; exact h7) ok8 d8 (by rw [k7]; exact hz) w hK2 hW2 (fun j h1 h2 => by rw [hF2 j (by omega) (by omega) (by omega) (by omega) (by omega) (by omega) (by omega)]; exact hF j h1 h2) hc (lv_sub hl [1, 0] rfl)
        · refine lv_aload_n X.1 X.2.1 d_Cu_cut_74 rfl (lv_at hl 0 rfl) ?_
          refine t_cu X hT w hU 2 (by decide) k_f_Cu_28 rfl d_Cu_cut_75 ?_
          refine lv_istore_n (lv' := [(3, .int (iI ((K.1 : Nat)))), (0, .ref (ad (125))), (2, .int (iI (b)))]) X.1 X.2.1 d_Cu_cut_78 rfl hl (by decide) rfl (fun ls hl => ?_)
          refine lv_aload_n X.1 X.2.1 d_Cu_cut_79 rfl (lv_at hl 1 rfl) ?_
          refine lv_iload_n X.1 X.2.1 d_Cu_cut_80 rfl (lv_at hl 2 rfl) ?_
          refine w_cVv (n := 1) (i := 125) (ci := 2) (As := [.int (iI (b))]) (rest := []) X w hml hl.1 (c_Cu_split hT (G := G2) hO hK2 (g := b) (by omega) hW2 ok9 h_71 (by rw [k14]; exact h14) (by rw [k15]; exact h15)) (by omega) (by rw [mkV_O (by decide)]; exact hU.1) rfl k_m_Cu_78 k_im_Cu_split k_se_Cu_split k_i_Cu k_co_Cu_split (by decide +kernel) rfl ⟨Nat.le_of_ble_eq_true rfl, Nat.le_of_ble_eq_true rfl⟩ ⟨rfl, rfl⟩ ⟨Nat.zero_le _, Nat.zero_le _⟩ rfl (Nat.le_of_ble_eq_true rfl) d_Cu_cut_81 (fun C' H locs hp w => ?_)
          obtain ⟨G3, O3, rfl, hK3, hW3, hF3, hc3, hp3, hn3⟩ := hp
          rw [k14, k15] at hK3 hp3 hn3
          have hO3 := hc3.ar hO
          have m7 : G3 7 = G1 7 := by rw [hF3 7 (by omega) (by omega) (by omega) (by omega) (by omega) (by omega) (by omega) (by omega) (by omega), k7]
          have hU := hK3.1
          refine lv_aload_n X.1 X.2.1 d_Cu_cut_84 rfl (lv_at hl 1 rfl) ?_
          refine lv_iload_n X.1 X.2.1 d_Cu_cut_85 rfl (lv_at hl 0 rfl) ?_
          refine w_cVv (n := 1) (i := 125) (ci := 2) (As := [.int (iI ((K.1 : Nat)))]) (rest := []) X w hml hl.1 (c_Cu_takeOutFactors hT (G := G3) hO3 hK3 (f := K.1) hn3 (fun i h1 h2 => Int.le_of_lt (hp3 i h1 h2)) hW3 (by rw [m7]; exact h7)) (by omega) (by rw [mkV_O (by decide)]; exact hU.1) rfl k_m_Cu_81 k_im_Cu_takeOutFactors k_se_Cu_takeOutFactors k_i_Cu k_co_Cu_takeOutFactors (by decide +kernel) rfl ⟨Nat.le_of_ble_eq_true rfl, Nat.le_of_ble_eq_true rfl⟩ ⟨rfl, rfl⟩ ⟨Nat.zero_le _, Nat.zero_le _⟩ rfl (Nat.le_of_ble_eq_true rfl) d_Cu_cut_86 (fun C' H locs hp w => ?_)
          obtain ⟨G4, O4, rfl, hK4, hW4, e7, ok7, hF4, hc4⟩ := hp
          refine i_inc (k := 2) (x := b) (lv' := [(2, .int (iI (b + 1))), (3, .int (iI ((K.1 : Nat)))), (0, .ref (ad (125)))]) X d_Cu_cut_89 hl rfl (by decide) rfl (fun ls hl => ?_)
          refine lv_goto (tgt := 37) X.1 X.2.1 d_Cu_cut_92 (by decide) ?_
          rw [if_pos (by omega)] at hz
          rw [m7] at e7 hK4
          have m8 : G4 8 = G2 8 := by rw [hF4 8 (by omega) (by omega) (by omega), hF3 8 (by omega) (by omega) (by omega) (by omega) (by omega) (by omega) (by omega) (by omega) (by omega)]
          exact ih (b + 1) _ G4 O4 H locs ls (by omega) (by omega) ok7 (by rw [m8]; exact ok8) (by rw [m8]; exact d8) (by rw [m8, e7]; exact hz) w hK4 hW4 (fun j h1 h2 => by rw [hF4 j (by omega) (by omega) (by omega), hF3 j (by omega) (by omega) (by omega) (by omega) (by omega) (by omega) (by omega) (by omega) (by omega), hF2 j (by omega) (by omega) (by omega) (by omega) (by omega) (by omega) (by omega)]; exact hF j h1 h2) ((hc.tr hc3).tr hc4) (lv_sub hl [2, 0] rfl)
end CUT
theorem c_Cu_cut {l : Launch} {D : va_G} {cs : Nat → ClassId} {A : Nat → Prop} {ad : Nat → Nat} {T : Nat} (hT : 132 ≤ T) {G : Nat → Nat → Int} {O : Nat → va_E} {pr : Int} {inv : Nat → Int} (hO : arO cs ad pr inv O) {K : KS} {ph : Nat → Nat} (hK : cuS pr cs ad G O K ph) {k : Nat} (hk : 16 ≤ k ∧ k < 37) (hW : WF G) (hA : okp pr 25 (G k)) (h14 : okp pr 25 (G 14)) (h15 : okp pr 25 (G 15)) (hdx : dg 300 (G 15) ≤ 23) : Cv l y_Cu_cut ws_Cu_cut { frames := 6, cells := 0, slots := 0, locals := 149 } D cs A ad T [.ref (ad (125)), .ref (ad (2 * k))] (mkV cs ad (rV G) O) (fun C' => ∃ G' O' ph', C' = mkV cs ad (rV G') O' ∧ cuS pr cs ad G' O' (cutC pr inv (G 15) (G 14) K (G k)) ph' ∧ WF G' ∧ (∀ j, 14 ≤ j → j < 37 → G' j = G j) ∧ cuFr O O') := by
  refine w_bodyV (by decide) (Nat.le_of_ble_eq_true rfl) ?_
  intro p e s m below meth c X hr hlk hml w ls hl
  have hl : lv_has ls 4 [(0, .ref (ad (125))), (1, .ref (ad (2 * k)))] := hl
  have hpr := hO.2.2.1
  have hU := hK.1
  have wk := wd_2 (show 2 ≤ k by omega)
  have hO0 := hO
  refine lv_aload_n X.1 X.2.1 d_Cu_cut_0 rfl (lv_at hl 0 rfl) ?_
  refine lv_iconst (v := iI (0)) X.1 X.2.1 d_Cu_cut_1 (by decide) ?_
  refine t_ps (z := 0) X hT w hU 0 rfl k_f_Cu_28 d_Cu_cut_2 (fun H locs w => ?_)
  obtain ⟨O1, eO1⟩ : ∃ oo : Nat → va_E, oo = va_up O 125 (.inr (2, cuF ad 0)) := ⟨_, rfl⟩
  rw [← eO1] at w
  have hU : cuO cs ad 0 ph K.2.2 O1 := by rw [eO1]; exact hU.size (by omega)
  have hc1 : cuFr O O1 := by rw [eO1]; exact cuFr.up (Or.inl rfl)
  have hO := hc1.ar hO
  refine lv_aload_n X.1 X.2.1 d_Cu_cut_5 rfl (lv_at hl 0 rfl) ?_
  refine t_cu X hT w hU 4 (by decide) k_f_Cu_32 rfl d_Cu_cut_6 ?_
  refine lv_aload_n X.1 X.2.1 d_Cu_cut_9 rfl (lv_at hl 1 rfl) ?_
  refine w_cVv (n := 1) (i := 2 * 7) (ci := 0) (As := [.ref (ad (2 * k))]) (rest := []) X w hml hl.1 (c_Po_copyFrom hT (G := G) (k := 7) (q := k) (by omega) (by omega) (by omega) (hW 7 (by omega)) (hW k (by omega)) (hA.ok hpr.2)) (by omega) (mkV_o (by omega)) rfl k_m_Cu_66 k_im_Po_copyFrom k_se_Po_copyFrom k_i_Po k_co_Po_copyFrom (by decide +kernel) rfl ⟨Nat.le_of_ble_eq_true rfl, Nat.le_of_ble_eq_true rfl⟩ ⟨rfl, rfl⟩ ⟨Nat.zero_le _, Nat.zero_le _⟩ rfl (Nat.le_of_ble_eq_true rfl) d_Cu_cut_10 (fun C' H locs hp w => ?_)
  subst hp
  obtain ⟨Gw1, eGw1⟩ : ∃ gg : Nat → Nat → Int, gg = va_up G 7 (G k) := ⟨_, rfl⟩
  rw [← eGw1] at w
  have hW1 : WF Gw1 := by rw [eGw1]; exact hW.up (k := 7) (hA.ok hpr.2)
  have f7 : Gw1 7 = G k := by rw [eGw1, va_up_self]
  refine lv_aload_n X.1 X.2.1 d_Cu_cut_13 rfl (lv_at hl 0 rfl) ?_
  refine t_cu X hT w hU 3 (by decide) k_f_Cu_9 rfl d_Cu_cut_14 ?_
  refine lv_aload_n X.1 X.2.1 d_Cu_cut_17 rfl (lv_at hl 0 rfl) ?_
  refine t_cu X hT w hU 4 (by decide) k_f_Cu_32 rfl d_Cu_cut_18 ?_
  refine w_cVv (n := 1) (i := 123) (ci := 1) (As := [.ref (ad (2 * 7))]) (rest := []) X w hml hl.1 (c_Ar_makeMonic hT (G := Gw1) hO (k := 7) (by omega) (by rw [f7]; exact hA)) (by omega) (by rw [mkV_O (by decide)]; exact hO.1) rfl k_m_Cu_73 k_im_Ar_makeMonic k_se_Ar_makeMonic k_i_Ar k_co_Ar_makeMonic (by decide +kernel) rfl ⟨Nat.le_of_ble_eq_true rfl, Nat.le_of_ble_eq_true rfl⟩ ⟨rfl, rfl⟩ ⟨Nat.zero_le _, Nat.zero_le _⟩ rfl (Nat.le_of_ble_eq_true rfl) d_Cu_cut_21 (fun C' H locs hp w => ?_)
  subst hp
  obtain ⟨Gw2, eGw2⟩ : ∃ gg : Nat → Nat → Int, gg = va_up Gw1 7 (mon pr inv (Gw1 7)) := ⟨_, rfl⟩
  rw [← eGw2] at w
  rw [f7] at eGw2
  have hmo := mon_ok (inv := inv) (show 0 < pr by omega) hA
  have hW2 : WF Gw2 := by rw [eGw2]; exact hW1.up (k := 7) (hmo.ok hpr.2)
  have f15 : Gw2 15 = G 15 := by rw [eGw2, va_up_ne _ _ (by omega), eGw1, va_up_ne _ _ (by omega)]
  refine lv_aload_n X.1 X.2.1 d_Cu_cut_24 rfl (lv_at hl 0 rfl) ?_
  refine t_cu X hT w hU 5 (by decide) k_f_Cu_36 rfl d_Cu_cut_25 ?_
  refine lv_aload_n X.1 X.2.1 d_Cu_cut_28 rfl (lv_at hl 0 rfl) ?_
  refine t_cu X hT w hU 12 (by decide) k_f_Cu_60 rfl d_Cu_cut_29 ?_
  refine w_cVv (n := 1) (i := 2 * 8) (ci := 0) (As := [.ref (ad (2 * 15))]) (rest := []) X w hml hl.1 (c_Po_copyFrom hT (G := Gw2) (k := 8) (q := 15) (by omega) (by omega) (by omega) (hW2 8 (by omega)) (hW2 15 (by omega)) (by rw [f15]; exact h15.ok hpr.2)) (by omega) (mkV_o (by omega)) rfl k_m_Cu_66 k_im_Po_copyFrom k_se_Po_copyFrom k_i_Po k_co_Po_copyFrom (by decide +kernel) rfl ⟨Nat.le_of_ble_eq_true rfl, Nat.le_of_ble_eq_true rfl⟩ ⟨rfl, rfl⟩ ⟨Nat.zero_le _, Nat.zero_le _⟩ rfl (Nat.le_of_ble_eq_true rfl) d_Cu_cut_32 (fun C' H locs hp w => ?_)
  subst hp
  obtain ⟨Gw3, eGw3⟩ : ∃ gg : Nat → Nat → Int, gg = va_up Gw2 8 (Gw2 15) := ⟨_, rfl⟩
  rw [← eGw3] at w
  refine lv_iconst (v := iI (1)) X.1 X.2.1 d_Cu_cut_35 (by decide) ?_
  refine lv_istore_n (lv' := [(2, .int (iI (1))), (0, .ref (ad (125))), (1, .ref (ad (2 * k)))]) X.1 X.2.1 d_Cu_cut_36 rfl hl (by decide) rfl (fun ls hl => ?_)
  rw [f15] at eGw3
  have k8 : Gw3 8 = G 15 := by rw [eGw3, va_up_self]
  have k7 : Gw3 7 = mon pr inv (G k) := by rw [eGw3, va_up_ne _ _ (by omega), eGw2, va_up_self]
  have hFw : ∀ j, 14 ≤ j → Gw3 j = G j := fun j h => by rw [eGw3, va_up_ne _ _ (by omega), eGw2, va_up_ne _ _ (by omega), eGw1, va_up_ne _ _ (by omega)]
  have hKw : cuS pr cs ad Gw3 O1 (0, K.2) ph := ⟨hU, fun i hi => by have := hU.2.2.2.2.1 i hi; rw [hFw _ (by omega)]; exact hK.2.1 i hi, fun i hi => absurd hi (Nat.not_lt_zero _)⟩
  obtain ⟨Z, eZ⟩ : ∃ Z, Z = cutL pr inv (G 15) (G 14) 24 1 (0, K.2) (mon pr inv (G k)) (G 15) := ⟨_, rfl⟩
  refine l_Cu_cut (G := G) (O := O) (ph := ph) (Z := Z) X hml hT hO0 h14 h15 (fun G2 O2 H locs ls w hK2 hW2 hF2 hc2 e7 ok7 hl => ?_) 24 1 (0, K.2) Gw3 O1 _ _ _ (by omega) (by omega) (by rw [k7]; exact hmo) (by rw [k8]; exact h15) (by rw [k8]; exact hdx) (by rw [k7, k8, eZ]) w hKw (by rw [eGw3]; exact hW2.up (k := 8) (h15.ok hpr.2)) (fun j h1 _ => hFw j h1) hc1 (lv_sub hl [1, 0] rfl)
  have hO2 := hc2.ar hO0
  have hU2 := hK2.1
  have hd2 := (ok7.ok hpr.2).dlt 300
  have hd20 := dg_ge 300 Z.2
  have hdG7 : dg 300 (G2 7) = dg 300 Z.2 := by rw [e7]
  refine lv_aload_n X.1 X.2.1 d_Cu_cut_95 rfl (lv_at hl 0 rfl) ?_
  refine t_cu X hT w hU2 4 (by decide) k_f_Cu_32 rfl d_Cu_cut_96 ?_
  refine g_deg (k := 7) X hT w (by omega) k_f_Cu_63 d_Cu_cut_99 ?_
  refine z_le (a := dg 300 (G2 7)) (tgt := 114) X (by omega) d_Cu_cut_102 (by decide) (fun h_102 => ?_) (fun h_102 => ?_)
  · refine lv_aload_n X.1 X.2.1 d_Cu_cut_114 rfl (lv_at hl 0 rfl) ?_
    have eK : Z.1 = endK Z := by unfold endK; rw [if_neg (by omega)]
    have hK2e : cuS pr cs ad G2 O2 (endK Z) ph := by rw [← eK]; exact hK2
    refine w_cVv (n := 0) (i := 125) (ci := 2) (As := []) (rest := []) X w hml hl.1 (c_Cu_sort hT (G := G2) hO2 (K := endK Z) hK2e hW2) (by omega) (by rw [mkV_O (by decide)]; exact hU2.1) rfl k_m_Cu_88 k_im_Cu_sort k_se_Cu_sort k_i_Cu k_co_Cu_sort (by decide +kernel) rfl ⟨Nat.le_of_ble_eq_true rfl, Nat.le_of_ble_eq_true rfl⟩ ⟨rfl, rfl⟩ ⟨Nat.zero_le _, Nat.zero_le _⟩ rfl (Nat.le_of_ble_eq_true rfl) d_Cu_cut_115 (fun C' H locs hp w => ?_)
    obtain ⟨G4, O4, ph4, rfl, hK4, hW4, hF4, hc4⟩ := hp
    exact w_vret X hr hlk w ⟨G4, O4, ph4, rfl, by rw [eZ] at hK4; exact hK4, hW4, fun j h1 h2 => by rw [hF4 j h2]; exact hF2 j h1 h2, hc2.tr hc4⟩ d_Cu_cut_118
  · refine lv_aload_n X.1 X.2.1 d_Cu_cut_105 rfl (lv_at hl 0 rfl) ?_
    refine lv_aload_n X.1 X.2.1 d_Cu_cut_106 rfl (lv_at hl 0 rfl) ?_
    refine t_cu X hT w hU2 4 (by decide) k_f_Cu_32 rfl d_Cu_cut_107 ?_
    refine lv_iconst (v := iI (1)) X.1 X.2.1 d_Cu_cut_110 (by decide) ?_
    refine w_cVv (n := 2) (i := 125) (ci := 2) (As := [.ref (ad (2 * 7)), .int (iI (1))]) (rest := []) X w hml hl.1 (c_Cu_append hT (G := G2) hO2 hK2 (k := 7) (v := 1) (by omega) hW2 (by rw [e7]; exact ok7)) (by omega) (by rw [mkV_O (by decide)]; exact hU2.1) rfl k_m_Cu_84 k_im_Cu_append k_se_Cu_append k_i_Cu k_co_Cu_append (by decide +kernel) rfl ⟨Nat.le_of_ble_eq_true rfl, Nat.le_of_ble_eq_true rfl⟩ ⟨rfl, rfl⟩ ⟨Nat.zero_le _, Nat.zero_le _⟩ rfl (Nat.le_of_ble_eq_true rfl) d_Cu_cut_111 (fun C' H locs hp w => ?_)
    obtain ⟨G3, O3, rfl, hK3, hW3, hF3, hc3⟩ := hp
    have eK : appK Z.1 (G2 7) 1 = endK Z := by unfold endK; rw [if_pos (by omega), e7]
    rw [eK] at hK3
    have hU3 := hK3.1
    refine lv_aload_n X.1 X.2.1 d_Cu_cut_114 rfl (lv_at hl 0 rfl) ?_
    refine w_cVv (n := 0) (i := 125) (ci := 2) (As := []) (rest := []) X w hml hl.1 (c_Cu_sort hT (G := G3) (hc3.ar hO2) hK3 hW3) (by omega) (by rw [mkV_O (by decide)]; exact hU3.1) rfl k_m_Cu_88 k_im_Cu_sort k_se_Cu_sort k_i_Cu k_co_Cu_sort (by decide +kernel) rfl ⟨Nat.le_of_ble_eq_true rfl, Nat.le_of_ble_eq_true rfl⟩ ⟨rfl, rfl⟩ ⟨Nat.zero_le _, Nat.zero_le _⟩ rfl (Nat.le_of_ble_eq_true rfl) d_Cu_cut_115 (fun C' H locs hp w => ?_)
    obtain ⟨G4, O4, ph4, rfl, hK4, hW4, hF4, hc4⟩ := hp
    exact w_vret X hr hlk w ⟨G4, O4, ph4, rfl, by rw [eZ] at hK4; exact hK4, hW4, fun j h1 h2 => by rw [hF4 j h2, hF3 j h2]; exact hF2 j h1 h2, (hc2.tr hc3).tr hc4⟩ d_Cu_cut_118
end
section
/-- x, as the class holds it -/
def xP : Nat → Int := fun x => if x = 1 then 1 else 0
theorem xP_ok {pr : Int} {N : Nat} (hp : 1 < pr) (hN : 1 < N) : okp pr N xP := by
  refine ⟨fun x => ?_, fun x hx => ?_⟩
  · unfold xP; split <;> omega
  · unfold xP; rw [if_neg (by omega)]
/-- x - v -/
def lnS (pr : Int) (v : Nat) : Nat → Int := va_up xP 0 ((pr - v) % pr)
theorem lnS_ok {pr : Int} {v : Nat} (hp : 1 < pr) : okp pr 2 (lnS pr v) := up_okp (xP_ok hp (by omega)) (by omega) ⟨Int.emod_nonneg _ (by omega), Int.emod_lt_of_pos _ (by omega)⟩
theorem lnS_dg {pr : Int} {v : Nat} : dg 300 (lnS pr v) = 1 := by
  refine dg_eq (by omega) (by omega) (fun x hx => ?_) (fun x hx _ => ?_)
  · unfold lnS
    rw [va_up_ne _ _ (by omega)]
    unfold xP
    rw [if_pos (by omega)]; decide
  · unfold lnS
    rw [va_up_ne _ _ (by omega)]
    unfold xP
    rw [if_neg (by omega)]
def mulN (pr : Int) (S : Nat → Int) : Nat → (Nat → Int) → Nat → Int
  | 0, U => U
  | n + 1, U => mulN pr S n (prd pr S U)
def linL (pr : Int) (inv : Nat → Int) : Nat → Nat → P2 → P2
  | _, 0, z => z
  | v, n + 1, z => linL pr inv (v + 1) n (mulN pr (lnS pr v) (tko pr inv (lnS pr v) 24 0 z.2).1 z.1, (tko pr inv (lnS pr v) 24 0 z.2).2)
theorem dvm_low {pr : Int} {inv A B : Nat → Int} (h : dg 300 A < dg 300 B) : (dvm pr inv A B).1 = A := by
  unfold dvm
  split
  · rfl
  · rw [show (dg 300 A - dg 300 B + 1).toNat = 0 by omega]; rfl
theorem tko_dg {cs : Nat → ClassId} {ad : Nat → Nat} {pr : Int} {inv : Nat → Int} {O : Nat → va_E} (hO : arO cs ad pr inv O) {S : Nat → Int} (hS : okp pr 25 S) (hd : dg 300 S = 1) : ∀ (n i : Nat) (F : Nat → Int), okp pr 25 F → 0 ≤ dg 300 F → okp pr 25 (tko pr inv S n i F).2 ∧ 0 ≤ dg 300 (tko pr inv S n i F).2 ∧ dg 300 (tko pr inv S n i F).2 + (tko pr inv S n i F).1 = dg 300 F + i ∧ i ≤ (tko pr inv S n i F).1 ∧ (tko pr inv S n i F).1 ≤ i + n
  | 0, i, F, hF, h0 => ⟨hF, h0, by show dg 300 F + (i : Int) = _; omega, Nat.le_refl _, by show i ≤ i + 0; omega⟩
  | n + 1, i, F, hF, h0 => by
    have hpr := hO.2.2.1
    have hdF := (hF.ok hpr.2).dlt 300
    unfold tko
    split
    · exact ⟨hF, h0, by show dg 300 F + (i : Int) = _; omega, Nat.le_refl _, by show i ≤ i + (n + 1); omega⟩
    · next hneg =>
      have h1 : 1 ≤ dg 300 F := by
        by_cases h : dg 300 F < dg 300 S
        · rw [dvm_low h] at hneg; omega
        · omega
      have hq := dvm_qdg hO hF hS (by omega) (by omega) (by omega) (by omega)
      have hq2 := dvm_ok (inv := inv) (M := 25) (by omega) hF hS (by omega) (by omega) hpr.2 (by omega)
      obtain ⟨a, b, c, d, f⟩ := tko_dg hO hS hd n (i + 1) (dvm pr inv F S).2 hq2.2 (by omega)
      exact ⟨a, b, by omega, by omega, by omega⟩
theorem prd_dg {pr : Int} {A B : Nat → Int} {n1 n2 : Nat} (hp : 0 < pr) (h13 : pr ≤ 13) (hA : okp pr n1 A) (hB : okp pr n2 B) (h2 : n2 ≤ 300) : dg 300 (prd pr A B) ≤ dg 300 A + dg 300 B ∨ dg 300 (prd pr A B) = -1 := by
  have h := prd_ok (N := (dg 300 A + dg 300 B + 1).toNat) hp h13 hA hB h2 (by omega)
  have := (h.ok h13).dlt 300
  have := dg_ge 300 (prd pr A B)
  omega
section CLL
variable {p : Program} {l : Launch} {e : Env} {s : State} {m : MethodId} {args : Array Value} {below : List Frame} {meth : Method} {c : Code} {H : Heap} {locs : List Loc} {Q : State → Prop} {D : va_G} {cs : Nat → ClassId} {A : Nat → Prop} {ad : Nat → Nat} {T : Nat} {O : Nat → va_E} {pr : Int} {inv : Nat → Int}
variable {t q : Nat} {G : Nat → Nat → Int} {n0 : Nat} {ph : Nat → Nat} {tm : Nat → Int}
theorem l_Cu_collectLinear_71 (X : Cx p s m args c b_Cu_collectLinear RCu) (hml : c.maxLocals = 6) (hT : 132 ≤ T) (hO : arO cs ad pr inv O) (hU : cuO cs ad n0 ph tm O) (ht : 16 ≤ t ∧ t < 37) (hq : 16 ≤ q ∧ q < 37) (htq : t ≠ q) {v f : Nat} (hf : f ≤ 24) {Z : Nat → Int}
    (KK : ∀ (G1 : Nat → Nat → Int) (H : Heap) (locs : List Loc) (ls : Array Slot), Wd D cs A ad T s (mkV cs ad (rV G1) O) H locs → WF G1 → G1 t = Z → okp pr 25 Z → G1 13 = lnS pr v → (∀ j, j ≠ 2 → j ≠ 6 → j ≠ 12 → j ≠ 13 → j ≠ t → G1 j = G j) → dg 300 Z + dg 300 (G1 q) ≤ 24 → G1 q = G q → lv_has ls 6 [(0, .ref (ad (125))), (1, .ref (ad (2 * t))), (2, .ref (ad (2 * q))), (3, .int (iI (v)))] → W p l e { frames := 4, cells := 0, slots := 0, locals := 96 } s m args below meth c H locs 0 0 Q (F0 m 113 ls [])) :
    ∀ (n i : Nat) (G1 : Nat → Nat → Int) (H : Heap) (locs : List Loc) (ls : Array Slot), i + n = f → mulN pr (lnS pr v) n (G1 t) = Z → Wd D cs A ad T s (mkV cs ad (rV G1) O) H locs → WF G1 → okp pr 25 (G1 t) → G1 13 = lnS pr v → dg 300 (G1 t) + dg 300 (G q) + n ≤ 24 → 0 ≤ dg 300 (G q) → (∀ j, j ≠ 2 → j ≠ 6 → j ≠ 12 → j ≠ 13 → j ≠ t → G1 j = G j) → lv_has ls 6 [(0, .ref (ad (125))), (1, .ref (ad (2 * t))), (2, .ref (ad (2 * q))), (3, .int (iI (v))), (4, .int (iI (f))), (5, .int (iI (i)))] → W p l e { frames := 4, cells := 0, slots := 0, locals := 96 } s m args below meth c H locs 0 0 Q (F0 m 71 ls []) := by
  have hpr := hO.2.2.1
  have wt := wd_2 (show 2 ≤ t by omega)
  have hln := lnS_ok (v := v) (show 1 < pr by omega)
  have hld := lnS_dg (pr := pr) (v := v)
  intro n
  induction n with
  | zero =>
    intro i G1 H locs ls h1 hz w hW hto h13 hdd hq0 hF hl
    have hz : G1 t = Z := hz
    have hGq : G1 q = G q := hF q (by omega) (by omega) (by omega) (by omega) (Ne.symm htq)
    refine lv_iload X.1 X.2.1 d_Cu_collectLinear_71 (lv_at hl 5 rfl) ?_
    refine lv_iload X.1 X.2.1 d_Cu_collectLinear_73 (lv_at hl 4 rfl) ?_
    refine i_ge (a := i) (b := f) (tgt := 113) X (by omega) (by omega) d_Cu_collectLinear_75 (by decide) (fun h_75 => ?_) (fun h_75 => ?_)
    · exact KK G1 H locs ls w hW hz (by rw [← hz]; exact hto) h13 hF (by rw [← hz, hGq]; omega) hGq (lv_sub hl [0, 1, 2, 3] rfl)
    · exact absurd h_75 (by omega)
  | succ n ih =>
    intro i G1 H locs ls h1 hz w hW hto h13 hdd hq0 hF hl
    have hPo : okp pr 25 (prd pr (lnS pr v) (G1 t)) := prd_ok (by omega) hpr.2 hln hto (by omega) (by omega)
    have hPd := prd_dg (show 0 < pr by omega) hpr.2 hln hto (by omega)
    have hdt := dg_ge 300 (G1 t)
    refine lv_iload X.1 X.2.1 d_Cu_collectLinear_71 (lv_at hl 5 rfl) ?_
    refine lv_iload X.1 X.2.1 d_Cu_collectLinear_73 (lv_at hl 4 rfl) ?_
    refine i_ge (a := i) (b := f) (tgt := 113) X (by omega) (by omega) d_Cu_collectLinear_75 (by decide) (fun h_75 => ?_) (fun h_75 => ?_)
    · exact absurd h_75 (by omega)
    · refine lv_aload_n X.1 X.2.1 d_Cu_collectLinear_78 rfl (lv_at hl 0 rfl) ?_
      refine t_cu X hT w hU 9 (by decide) k_f_Cu_48 rfl d_Cu_collectLinear_79 ?_
      refine lv_aload_n X.1 X.2.1 d_Cu_collectLinear_82 rfl (lv_at hl 1 rfl) ?_
      refine w_cVv (n := 1) (i := 2 * 12) (ci := 0) (As := [.ref (ad (2 * t))]) (rest := []) X w hml hl.1 (c_Po_copyFrom hT (G := G1) (k := 12) (q := t) (by omega) (by omega) (by omega) (hW 12 (by omega)) (hW t (by omega)) (hto.ok hpr.2)) (by omega) (mkV_o (by omega)) rfl k_m_Cu_66 k_im_Po_copyFrom k_se_Po_copyFrom k_i_Po k_co_Po_copyFrom (by decide +kernel) rfl ⟨Nat.le_of_ble_eq_true rfl, Nat.le_of_ble_eq_true rfl⟩ ⟨rfl, rfl⟩ ⟨Nat.zero_le _, Nat.zero_le _⟩ rfl (Nat.le_of_ble_eq_true rfl) d_Cu_collectLinear_83 (fun C' H locs hp w => ?_)
      subst hp
      obtain ⟨Gw1, eGw1⟩ : ∃ gg : Nat → Nat → Int, gg = va_up G1 12 (G1 t) := ⟨_, rfl⟩
      rw [← eGw1] at w
      have hW1 : WF Gw1 := by rw [eGw1]; exact hW.up (k := 12) (hto.ok hpr.2)
      refine lv_aload_n X.1 X.2.1 d_Cu_collectLinear_86 rfl (lv_at hl 1 rfl) ?_
      refine w_cVv (n := 0) (i := 2 * t) (ci := 0) (As := []) (rest := []) X w hml hl.1 (c_Po_clear hT (G := Gw1) (k := t) (by omega) (hW1 t (by omega))) (by omega) (mkV_o (by omega)) rfl k_m_Cu_102 k_im_Po_clear k_se_Po_clear k_i_Po k_co_Po_clear (by decide +kernel) rfl ⟨Nat.le_of_ble_eq_true rfl, Nat.le_of_ble_eq_true rfl⟩ ⟨rfl, rfl⟩ ⟨Nat.zero_le _, Nat.zero_le _⟩ rfl (Nat.le_of_ble_eq_true rfl) d_Cu_collectLinear_87 (fun C' H locs hp w => ?_)
      subst hp
      obtain ⟨Gw2, eGw2⟩ : ∃ gg : Nat → Nat → Int, gg = va_up Gw1 t (fun _ => 0) := ⟨_, rfl⟩
      rw [← eGw2] at w
      have hW2 : WF Gw2 := by rw [eGw2]; exact hW1.up (k := t) (ok_0 _)
      have ft : Gw2 t = fun _ => 0 := by rw [eGw2, va_up_self]
      have f12 : Gw2 12 = G1 t := by rw [eGw2, va_up_ne _ _ (by omega), eGw1, va_up_self]
      have f13 : Gw2 13 = lnS pr v := by rw [eGw2, va_up_ne _ _ (by omega), eGw1, va_up_ne _ _ (by omega), h13]
      refine lv_aload_n X.1 X.2.1 d_Cu_collectLinear_90 rfl (lv_at hl 0 rfl) ?_
      refine t_cu X hT w hU 3 (by decide) k_f_Cu_9 rfl d_Cu_collectLinear_91 ?_
      refine lv_aload_n X.1 X.2.1 d_Cu_collectLinear_94 rfl (lv_at hl 1 rfl) ?_
      refine lv_iconst (v := iI (1)) X.1 X.2.1 d_Cu_collectLinear_95 (by decide) ?_
      refine lv_aload_n X.1 X.2.1 d_Cu_collectLinear_96 rfl (lv_at hl 0 rfl) ?_
      refine t_cu X hT w hU 10 (by decide) k_f_Cu_51 rfl d_Cu_collectLinear_97 ?_
      refine lv_aload_n X.1 X.2.1 d_Cu_collectLinear_100 rfl (lv_at hl 0 rfl) ?_
      refine t_cu X hT w hU 9 (by decide) k_f_Cu_48 rfl d_Cu_collectLinear_101 ?_
      refine w_cVv (n := 4) (i := 123) (ci := 1) (As := [.ref (ad (2 * t)), .int (iI (1)), .ref (ad (2 * 13)), .ref (ad (2 * 12))]) (rest := []) X w hml hl.1 (c_Ar_addProduct hT (G := Gw2) hO (k := t) (q := 13) (r := 12) (f := 1) (by omega) (by omega) (by omega) (by omega) (by omega) (by rw [ft]; exact okp_0 _ (by omega)) (hW2 13 (by omega)) (hW2 12 (by omega)) (by omega) (by rw [f13, f12, wt]; omega)) (by omega) (by rw [mkV_O (by decide)]; exact hO.1) rfl k_m_Cu_105 k_im_Ar_addProduct k_se_Ar_addProduct k_i_Ar k_co_Ar_addProduct (by decide +kernel) rfl ⟨Nat.le_of_ble_eq_true rfl, Nat.le_of_ble_eq_true rfl⟩ ⟨rfl, rfl⟩ ⟨Nat.zero_le _, Nat.zero_le _⟩ rfl (Nat.le_of_ble_eq_true rfl) d_Cu_collectLinear_104 (fun C' H locs hp w => ?_)
      subst hp
      obtain ⟨Gw3, eGw3⟩ : ∃ gg : Nat → Nat → Int, gg = va_up Gw2 t (addP pr (Gw2 t) 1 (Gw2 13) (Gw2 12) (dg 300 (Gw2 13) + 1).toNat) := ⟨_, rfl⟩
      rw [← eGw3] at w
      refine i_inc (k := 5) (x := i) (lv' := [(5, .int (iI (i + 1))), (0, .ref (ad (125))), (1, .ref (ad (2 * t))), (2, .ref (ad (2 * q))), (3, .int (iI (v))), (4, .int (iI (f)))]) X d_Cu_collectLinear_107 hl rfl (by decide) rfl (fun ls hl => ?_)
      refine lv_goto (tgt := 71) X.1 X.2.1 d_Cu_collectLinear_110 (by decide) ?_
      rw [ft, f13, f12] at eGw3
      have gt : Gw3 t = prd pr (lnS pr v) (G1 t) := by rw [eGw3, va_up_self]; rfl
      have hPd2 : dg 300 (Gw3 t) = dg 300 (prd pr (lnS pr v) (G1 t)) := by rw [gt]
      exact ih (i + 1) Gw3 H locs ls (by omega) (by rw [gt]; exact hz) w (by rw [eGw3]; exact hW2.up (k := t) (by rw [wt]; exact hPo.ok hpr.2)) (by rw [gt]; exact hPo) (by rw [eGw3, va_up_ne _ _ (by omega), f13]) (by omega) hq0 (fun j j2 j6 j12 j13 jt => by rw [eGw3, va_up_ne _ _ jt, eGw2, va_up_ne _ _ jt, eGw1, va_up_ne _ _ j12]; exact hF j j2 j6 j12 j13 jt) (lv_sub hl [1, 2, 3, 4, 5, 0] rfl)
theorem l_Cu_collectLinear_7 (X : Cx p s m args c b_Cu_collectLinear RCu) (hml : c.maxLocals = 6) (hT : 132 ≤ T) (hO : arO cs ad pr inv O) (hU : cuO cs ad n0 ph tm O) (ht : 16 ≤ t ∧ t < 37) (hq : 16 ≤ q ∧ q < 37) (htq : t ≠ q) (hx : G 15 = xP) {Z : P2}
    (KK : ∀ (G1 : Nat → Nat → Int) (H : Heap) (locs : List Loc) (ls : Array Slot), Wd D cs A ad T s (mkV cs ad (rV G1) O) H locs → WF G1 → G1 t = Z.1 → okp pr 25 Z.1 → (∀ j, j ≠ 2 → j ≠ 6 → j ≠ 12 → j ≠ 13 → j ≠ t → j ≠ q → G1 j = G j) → W p l e { frames := 4, cells := 0, slots := 0, locals := 96 } s m args below meth c H locs 0 0 Q (F0 m 119 ls [])) :
    ∀ (n v : Nat) (G1 : Nat → Nat → Int) (H : Heap) (locs : List Loc) (ls : Array Slot), (v : Int) + n = pr → linL pr inv v n (G1 t, G1 q) = Z → Wd D cs A ad T s (mkV cs ad (rV G1) O) H locs → WF G1 → okp pr 25 (G1 t) → okp pr 25 (G1 q) → 0 ≤ dg 300 (G1 q) → dg 300 (G1 t) + dg 300 (G1 q) ≤ 24 → (∀ j, j ≠ 2 → j ≠ 6 → j ≠ 12 → j ≠ 13 → j ≠ t → j ≠ q → G1 j = G j) → lv_has ls 6 [(0, .ref (ad (125))), (1, .ref (ad (2 * t))), (2, .ref (ad (2 * q))), (3, .int (iI (v)))] → W p l e { frames := 4, cells := 0, slots := 0, locals := 96 } s m args below meth c H locs 0 0 Q (F0 m 7 ls []) := by
  have hpr := hO.2.2.1
  have wq := wd_2 (show 2 ≤ q by omega)
  intro n
  induction n with
  | zero =>
    intro v G1 H locs ls h1 hz w hW hto hqo hq0 hdd hF hl
    have hz : (G1 t, G1 q) = Z := hz
    subst hz
    refine lv_iload_n X.1 X.2.1 d_Cu_collectLinear_7 rfl (lv_at hl 3 rfl) ?_
    refine lv_aload_n X.1 X.2.1 d_Cu_collectLinear_8 rfl (lv_at hl 0 rfl) ?_
    refine t_cu X hT w hU 3 (by decide) k_f_Cu_9 rfl d_Cu_collectLinear_9 ?_
    refine t_ar X hT w hO 0 (by decide) k_f_Cu_91 rfl d_Cu_collectLinear_12 ?_
    refine i_ge (a := v) (b := pr) (tgt := 119) X (by omega) (by omega) d_Cu_collectLinear_15 (by decide) (fun h_15 => ?_) (fun h_15 => ?_)
    · exact KK G1 H locs ls w hW rfl hto hF
    · exact absurd h_15 (by omega)
  | succ n ih =>
    intro v G1 H locs ls h1 hz w hW hto hqo hq0 hdd hF hl
    have hGx : G1 15 = xP := by rw [hF 15 (by omega) (by omega) (by omega) (by omega) (by omega) (by omega), hx]
    have hln := lnS_ok (v := v) (show 1 < pr by omega)
    have hln25 := hln.mono (m := 25) (by omega)
    have hld := lnS_dg (pr := pr) (v := v)
    have hdq := (hqo.ok hpr.2).dlt 300
    obtain ⟨tz, etz⟩ : ∃ tz, tz = tko pr inv (lnS pr v) 24 0 (G1 q) := ⟨_, rfl⟩
    have htk := tko_dg hO hln25 hld 24 0 (G1 q) hqo hq0
    rw [← etz] at htk
    have hz : linL pr inv (v + 1) n (mulN pr (lnS pr v) tz.1 (G1 t), tz.2) = Z := by rw [etz]; exact hz
    refine lv_iload_n X.1 X.2.1 d_Cu_collectLinear_7 rfl (lv_at hl 3 rfl) ?_
    refine lv_aload_n X.1 X.2.1 d_Cu_collectLinear_8 rfl (lv_at hl 0 rfl) ?_
    refine t_cu X hT w hU 3 (by decide) k_f_Cu_9 rfl d_Cu_collectLinear_9 ?_
    refine t_ar X hT w hO 0 (by decide) k_f_Cu_91 rfl d_Cu_collectLinear_12 ?_
    refine i_ge (a := v) (b := pr) (tgt := 119) X (by omega) (by omega) d_Cu_collectLinear_15 (by decide) (fun h_15 => ?_) (fun h_15 => ?_)
    · exact absurd h_15 (by omega)
    · refine lv_aload_n X.1 X.2.1 d_Cu_collectLinear_18 rfl (lv_at hl 0 rfl) ?_
      refine t_cu X hT w hU 10 (by decide) k_f_Cu_51 rfl d_Cu_collectLinear_19 ?_
      refine lv_aload_n X.1 X.2.1 d_Cu_collectLinear_22 rfl (lv_at hl 0 rfl) ?_
      refine t_cu X hT w hU 12 (by decide) k_f_Cu_60 rfl d_Cu_collectLinear_23 ?_
      refine w_cVv (n := 1) (i := 2 * 13) (ci := 0) (As := [.ref (ad (2 * 15))]) (rest := []) X w hml hl.1 (c_Po_copyFrom hT (G := G1) (k := 13) (q := 15) (by omega) (by omega) (by omega) (hW 13 (by omega)) (hW 15 (by omega)) (by rw [hGx]; exact (xP_ok (pr := pr) (by omega) (by decide)).ok hpr.2)) (by omega) (mkV_o (by omega)) rfl k_m_Cu_66 k_im_Po_copyFrom k_se_Po_copyFrom k_i_Po k_co_Po_copyFrom (by decide +kernel) rfl ⟨Nat.le_of_ble_eq_true rfl, Nat.le_of_ble_eq_true rfl⟩ ⟨rfl, rfl⟩ ⟨Nat.zero_le _, Nat.zero_le _⟩ rfl (Nat.le_of_ble_eq_true rfl) d_Cu_collectLinear_26 (fun C' H locs hp w => ?_)
      subst hp
      obtain ⟨Gw1, eGw1⟩ : ∃ gg : Nat → Nat → Int, gg = va_up G1 13 (G1 15) := ⟨_, rfl⟩
      rw [← eGw1] at w
      rw [hGx] at eGw1
      have hW1 : WF Gw1 := by rw [eGw1]; exact hW.up (k := 13) ((xP_ok (pr := pr) (by omega) (by decide)).ok hpr.2)
      have f13 : Gw1 13 = xP := by rw [eGw1, va_up_self]
      refine lv_aload_n X.1 X.2.1 d_Cu_collectLinear_29 rfl (lv_at hl 0 rfl) ?_
      refine t_cu X hT w hU 10 (by decide) k_f_Cu_51 rfl d_Cu_collectLinear_30 ?_
      refine lv_iconst (v := iI (0)) X.1 X.2.1 d_Cu_collectLinear_33 (by decide) ?_
      refine lv_aload_n X.1 X.2.1 d_Cu_collectLinear_34 rfl (lv_at hl 0 rfl) ?_
      refine t_cu X hT w hU 3 (by decide) k_f_Cu_9 rfl d_Cu_collectLinear_35 ?_
      refine t_ar X hT w hO 0 (by decide) k_f_Cu_91 rfl d_Cu_collectLinear_38 ?_
      refine lv_iload_n X.1 X.2.1 d_Cu_collectLinear_41 rfl (lv_at hl 3 rfl) ?_
      refine i_sub (a := pr) (b := v) X d_Cu_collectLinear_42 ?_
      refine lv_aload_n X.1 X.2.1 d_Cu_collectLinear_43 rfl (lv_at hl 0 rfl) ?_
      refine t_cu X hT w hU 3 (by decide) k_f_Cu_9 rfl d_Cu_collectLinear_44 ?_
      refine t_ar X hT w hO 0 (by decide) k_f_Cu_91 rfl d_Cu_collectLinear_47 ?_
      refine i_rem (a := pr - v) (b := pr) X (by omega) (by omega) d_Cu_collectLinear_50 ?_
      refine w_cVv (n := 2) (i := 2 * 13) (ci := 0) (As := [.int (iI ((0 : Nat))), .int (iI ((pr - v) % pr))]) (rest := []) X w hml hl.1 (c_Po_put hT (G := Gw1) (k := 13) (i := 0) (v := (pr - v) % pr) (by omega) (by decide) ⟨Int.emod_nonneg _ (by omega), by have := Int.emod_lt_of_pos (pr - v) (show 0 < pr by omega); omega⟩ (hW1 13 (by omega))) (by omega) (mkV_o (by omega)) rfl k_m_Cu_94 k_im_Po_put k_se_Po_put k_i_Po k_co_Po_put (by decide +kernel) rfl ⟨Nat.le_of_ble_eq_true rfl, Nat.le_of_ble_eq_true rfl⟩ ⟨rfl, rfl⟩ ⟨Nat.zero_le _, Nat.zero_le _⟩ rfl (Nat.le_of_ble_eq_true rfl) d_Cu_collectLinear_51 (fun C' H locs hp w => ?_)
      subst hp
      obtain ⟨Gw2, eGw2⟩ : ∃ gg : Nat → Nat → Int, gg = va_up Gw1 13 (va_up (Gw1 13) 0 ((pr - v) % pr)) := ⟨_, rfl⟩
      rw [← eGw2] at w
      rw [f13] at eGw2
      have g13 : Gw2 13 = lnS pr v := by rw [eGw2, va_up_self]; rfl
      have hW2 : WF Gw2 := by rw [eGw2]; exact hW1.up (k := 13) (hln25.ok hpr.2)
      have hF2 : ∀ j, j ≠ 13 → Gw2 j = G1 j := fun j h => by rw [eGw2, va_up_ne _ _ h, eGw1, va_up_ne _ _ h]
      have gq : Gw2 q = G1 q := hF2 q (by omega)
      refine lv_aload_n X.1 X.2.1 d_Cu_collectLinear_54 rfl (lv_at hl 0 rfl) ?_
      refine t_cu X hT w hU 3 (by decide) k_f_Cu_9 rfl d_Cu_collectLinear_55 ?_
      refine lv_aload_n X.1 X.2.1 d_Cu_collectLinear_58 rfl (lv_at hl 2 rfl) ?_
      refine lv_aload_n X.1 X.2.1 d_Cu_collectLinear_59 rfl (lv_at hl 0 rfl) ?_
      refine t_cu X hT w hU 10 (by decide) k_f_Cu_51 rfl d_Cu_collectLinear_60 ?_
      refine w_cVi (n := 2) (i := 123) (ci := 1) (As := [.ref (ad (2 * q)), .ref (ad (2 * 13))]) (rest := []) X w hml hl.1 (c_Ar_takeOut hT (G := Gw2) hO (k := q) (q := 13) (by omega) (by omega) (by omega) hW2 (by rw [gq]; exact hqo) (by rw [g13]; exact hln25) (by rw [g13, hld]; omega)) (by omega) (by rw [mkV_O (by decide)]; exact hO.1) rfl k_m_Cu_98 k_im_Ar_takeOut k_se_Ar_takeOut k_i_Ar k_co_Ar_takeOut (by decide +kernel) rfl ⟨Nat.le_of_ble_eq_true rfl, Nat.le_of_ble_eq_true rfl⟩ ⟨rfl, rfl⟩ ⟨Nat.zero_le _, Nat.zero_le _⟩ rfl (Nat.le_of_ble_eq_true rfl) d_Cu_collectLinear_63 (fun r' C' H locs hp w => ?_)
      obtain ⟨G3, rfl, rfl, hW3, e3q, ok3q, hF3⟩ := hp
      rw [g13, gq, ← etz] at e3q ⊢
      have g3t : G3 t = G1 t := by rw [hF3 t (by omega) (by omega) htq, hF2 t (by omega)]
      have g313 : G3 13 = lnS pr v := by rw [hF3 13 (by omega) (by omega) (by omega), g13]
      refine lv_istore (lv' := [(4, .int (iI ((tz.1 : Int)))), (0, .ref (ad (125))), (1, .ref (ad (2 * t))), (2, .ref (ad (2 * q))), (3, .int (iI (v)))]) X.1 X.2.1 d_Cu_collectLinear_66 hl (by decide) rfl (fun ls hl => ?_)
      refine lv_iconst (v := iI (0)) X.1 X.2.1 d_Cu_collectLinear_68 (by decide) ?_
      refine lv_istore (lv' := [(5, .int (iI (0))), (4, .int (iI ((tz.1 : Int)))), (0, .ref (ad (125))), (1, .ref (ad (2 * t))), (2, .ref (ad (2 * q))), (3, .int (iI (v)))]) X.1 X.2.1 d_Cu_collectLinear_69 hl (by decide) rfl (fun ls hl => ?_)
      refine l_Cu_collectLinear_71 (G := G3) (t := t) (q := q) (v := v) (f := tz.1) (Z := mulN pr (lnS pr v) tz.1 (G1 t)) X hml hT hO hU ht hq htq (by omega) (fun G4 H locs ls w a1 a2 a3 a5 a6 a7 a8 hl => ?_) tz.1 0 G3 H locs ls (by omega) (by rw [g3t]) w hW3 (by rw [g3t]; exact hto) g313 (by rw [g3t, e3q]; omega) (by rw [e3q]; omega) (fun _ _ _ _ _ _ => rfl) (lv_sub hl [2, 3, 4, 5, 1, 0] rfl)
      refine i_inc (k := 3) (x := v) (lv' := [(3, .int (iI (v + 1))), (0, .ref (ad (125))), (1, .ref (ad (2 * t))), (2, .ref (ad (2 * q)))]) X d_Cu_collectLinear_113 hl rfl (by decide) rfl (fun ls hl => ?_)
      refine lv_goto (tgt := 7) X.1 X.2.1 d_Cu_collectLinear_116 (by decide) ?_
      exact ih (v + 1) G4 H locs ls (by omega) (by rw [a2, a8, e3q]; exact hz) w a1 (by rw [a2]; exact a3) (by rw [a8]; exact ok3q) (by rw [a8, e3q]; omega) (by rw [a2]; exact a7) (fun j j2 j6 j12 j13 jt jq => by rw [a6 j j2 j6 j12 j13 jt, hF3 j j2 j6 jq, hF2 j j13]; exact hF j j2 j6 j12 j13 jt jq) (lv_sub hl [1, 2, 3, 0] rfl)
end CLL
theorem c_Cu_collectLinear {l : Launch} {D : va_G} {cs : Nat → ClassId} {A : Nat → Prop} {ad : Nat → Nat} {T : Nat} (hT : 132 ≤ T) {G : Nat → Nat → Int} {O : Nat → va_E} {pr : Int} {inv : Nat → Int} (hO : arO cs ad pr inv O) {n : Nat} {ph : Nat → Nat} {tm : Nat → Int} (hU : cuO cs ad n ph tm O) {t q : Nat} (ht : 16 ≤ t ∧ t < 37) (hq : 16 ≤ q ∧ q < 37) (htq : t ≠ q) (hW : WF G) (hx : G 15 = xP) (hqo : okp pr 25 (G q)) (hq0 : 0 ≤ dg 300 (G q)) : Cv l y_Cu_collectLinear ws_Cu_collectLinear { frames := 4, cells := 0, slots := 0, locals := 96 } D cs A ad T [.ref (ad (125)), .ref (ad (2 * t)), .ref (ad (2 * q))] (mkV cs ad (rV G) O) (fun C' => ∃ G', C' = mkV cs ad (rV G') O ∧ WF G' ∧ G' t = (linL pr inv 0 pr.toNat (oneP, G q)).1 ∧ okp pr 25 (G' t) ∧ ∀ j, j ≠ 2 → j ≠ 6 → j ≠ 12 → j ≠ 13 → j ≠ t → j ≠ q → G' j = G j) := by
  refine w_bodyV (by decide) (Nat.le_of_ble_eq_true rfl) ?_
  intro p e s m below meth c X hr hlk hml w ls hl
  have hl : lv_has ls 6 [(0, .ref (ad (125))), (1, .ref (ad (2 * t))), (2, .ref (ad (2 * q)))] := hl
  have hpr := hO.2.2.1
  have wt := wd_2 (show 2 ≤ t by omega)
  have hdq := (hqo.ok hpr.2).dlt 300
  have hone : okp pr 1 oneP := oneP_ok (by omega) (by omega)
  have hd1 := (hone.ok hpr.2).dlt 300
  have hone25 := hone.mono (m := 25) (by omega)
  refine lv_aload_n X.1 X.2.1 d_Cu_collectLinear_0 rfl (lv_at hl 1 rfl) ?_
  refine lv_iconst (v := iI (0)) X.1 X.2.1 d_Cu_collectLinear_1 (by decide) ?_
  refine w_cVv (n := 1) (i := 2 * t) (ci := 0) (As := [.int (iI ((0 : Nat)))]) (rest := []) X w hml hl.1 (c_Po_becomePowerOfX hT (G := G) (k := t) (i := 0) (by omega) (by omega) (hW t (by omega))) (by omega) (mkV_o (by omega)) rfl k_m_Cu_57 k_im_Po_becomePowerOfX k_se_Po_becomePowerOfX k_i_Po k_co_Po_becomePowerOfX (by decide +kernel) rfl ⟨Nat.le_of_ble_eq_true rfl, Nat.le_of_ble_eq_true rfl⟩ ⟨rfl, rfl⟩ ⟨Nat.zero_le _, Nat.zero_le _⟩ rfl (Nat.le_of_ble_eq_true rfl) d_Cu_collectLinear_2 (fun C' H locs hp w => ?_)
  subst hp
  obtain ⟨Gw1, eGw1⟩ : ∃ gg : Nat → Nat → Int, gg = va_up G t (fun x => if x = 0 then 1 else 0) := ⟨_, rfl⟩
  rw [← eGw1] at w
  refine lv_iconst (v := iI (0)) X.1 X.2.1 d_Cu_collectLinear_5 (by decide) ?_
  refine lv_istore_n (lv' := [(3, .int (iI (0))), (0, .ref (ad (125))), (1, .ref (ad (2 * t))), (2, .ref (ad (2 * q)))]) X.1 X.2.1 d_Cu_collectLinear_6 rfl hl (by decide) rfl (fun ls hl => ?_)
  have gt : Gw1 t = oneP := by rw [eGw1, va_up_self]; rfl
  have gq : Gw1 q = G q := by rw [eGw1, va_up_ne _ _ (Ne.symm htq)]
  have hFw : ∀ j, j ≠ t → Gw1 j = G j := fun j h => by rw [eGw1, va_up_ne _ _ h]
  exact l_Cu_collectLinear_7 (G := Gw1) (t := t) (q := q) (Z := linL pr inv 0 pr.toNat (oneP, G q)) X hml hT hO hU ht hq htq (by rw [hFw 15 (by omega), hx]) (fun G2 H locs ls w a1 a2 a3 a4 => w_vret X hr hlk w ⟨G2, rfl, a1, a2, by rw [a2]; exact a3, fun j j2 j6 j12 j13 jt jq => by rw [a4 j j2 j6 j12 j13 jt jq, hFw j jt]⟩ d_Cu_collectLinear_119) pr.toNat 0 Gw1 _ _ _ (by omega) (by rw [gt, gq]) w (by rw [eGw1]; exact hW.up (k := t) (by rw [wt]; exact hone25.ok hpr.2)) (by rw [gt]; exact hone25) (by rw [gq]; exact hqo) (by rw [gq]; exact hq0) (by rw [gt, gq]; omega) (fun _ _ _ _ _ _ _ => rfl) (lv_sub hl [1, 2, 3, 0] rfl)
end
section
/-! ===== BEGIN exceptions that leave a method, and their catching by the caller (launches without stack traces) ===== -/
section VXA
/-! The laws vx_back, vx_callV, vx_callS, vx_callSW, vx_throw0, vx_throwS follow proofs of the library, with one case more: JvmDerived/Free/Laws.lean (Back.of_free), Shelf42/LK1.lean (callV, callS), Shelf/KitTraced.lean (throwNew0V, throwNewS). -/
/-- where a method has thrown q: the class by its name, the cell, what was written, the world -/
def vx_T (XC : String → State → State → Prop) (st : State) (q : Addr) (t : State) (mc ms : Nat) (free : Addr → Prop) : Prop :=
  ∃ (E : String) (ce : Cell) (L : List Loc), XC E st t ∧ t.heap[q]? = some ce ∧ ce.vm = .none ∧ st.vm.findClass E = some ce.cls ∧ st.WarmedH t.vm ∧ st.sameButNew ({ t with vm := st.vm } : State) L mc ms ∧ ∀ z ∈ L, free z.base
def vx_Q (Qc : Array Value → State → Outcome → State → Prop) (XC : String → State → State → Prop) (mc ms : Nat) (free : Addr → Prop) : Array Value → State → Outcome → State → Prop := fun a st o t =>
  (Qc a st o t ∧ ∃ L, FrameEnd st o t L mc ms ∧ ∀ q ∈ L, free q.base) ∨ ∃ q, o = .threw q ∧ vx_T XC st q t mc ms free
/-- a callee that returns or throws -/
def vx_Met (l : Launch) (y : MethodName) (ws : List Cond) (rm : Room) (Pc : Array Value → State → Prop) (Qc : Array Value → State → Outcome → State → Prop) (XC : String → State → State → Prop) (mc ms : Nat) (free : Addr → Prop) : Prop :=
  MetFree l y (headSpec ws rm) Pc (fun _ _ _ _ _ => True) (vx_Q Qc XC mc ms free)
def vx_Post (XC : String → State → State → Prop) (mc ms : Nat) (free : Addr → Prop) : Pt → Array Value → Addr → Pt → Prop := fun A a q B =>
  ∃ (g : JFrame) (mk : MethodId) (t : State) (L : List Loc) (E : String) (ce : Cell), B.U.heap = t.heap ∧ B.U.vm = t.vm ∧ XC E (A.U.calling g mk a) t ∧ t.heap[q]? = some ce ∧ ce.vm = .none ∧ A.U.vm.findClass E = some ce.cls ∧ B.locs = A.locs ++ L ∧ (∀ z ∈ L, free z.base) ∧ B.cells = A.cells + mc ∧ B.slots = A.slots + ms
def vx_Back (l : Launch) (R : Room) (p : Program) (e : Env) (below : List Frame) (s : State) (sargs : Array Value) (y : MethodName) (len W9 : Nat)
    (Pre : Pt → Array Value → Prop) (Post : Pt → Array Value → Option Value → Pt → Prop) (PostX : Pt → Array Value → Addr → Pt → Prop) : Prop :=
  ∀ (m : MethodId) (meth : Method) (c : Code) (A : Pt) (g : JFrame) (ig : Instr) (mk : MethodId) (a : Array Value),
    Stand p l e R s m sargs below meth c A.U A.locs A.cells A.slots → g.method = m → g.locals.size = c.maxLocals → decode c.code g.pc = .ok (ig, len) →
    2 * g.monitorRoom + (g.stack.map fun v => v.category).sum ≤ W9 → A.U.methodNamed? y = some mk → Pre A a →
    (∃ (v : Option Value) (B : Pt), Stand p l e R s m sargs below meth c B.U B.locs B.cells B.slots ∧ Post A a v B ∧
      Steps p.tables e below (doInvoke e (A.U.setTop g) [] mk a).1 (B.U.setTop { g with pc := g.pc + len, stack := v.toList ++ g.stack })) ∨
    (∃ (q : Addr) (B : Pt), Stand p l e R s m sargs below meth c B.U B.locs B.cells B.slots ∧ PostX A a q B ∧
      Steps p.tables e below (doInvoke e (A.U.setTop g) [] mk a).1 ((B.U.setTop g).pushFrame (.throwing q)))
section Payer
variable {l : Launch} {R : Room} {p : Program} {e : Env} {below : List Frame} {s : State} {sargs : Array Value} {y : MethodName} {len W9 : Nat}
theorem vx_back {ws : List Cond} {rm : Room} {Pc : Array Value → State → Prop} {Qc : Array Value → State → Outcome → State → Prop} {XC : String → State → State → Prop} {mc ms : Nat} {free : Addr → Prop} {bytes : ByteArray} {maxL : Nat} {ret : Option FieldType}
    (hM : vx_Met l y ws rm Pc Qc XC mc ms free) (hblind : FrameBlind Pc) (hrc : rm.cells = mc) (hrs : rm.slots = ms)
    (hframes : rm.frames + 1 ≤ R.frames) (hlocals : W9 + (maxL + 11) + rm.locals ≤ R.locals)
    (hws : ∀ w ∈ ws, ∀ a' U, s.WarmedH U.vm → w.before a' U = true) (hcode : Cond.code y bytes maxL ret ∈ ws) (hinit : ∀ a' U, s.WarmedH U.vm → (Cond.initialized y.cls).before a' U = true) :
    vx_Back l R p e below s sargs y len W9 (PreOf R mc ms Pc) (PostOf Qc mc ms free) (vx_Post XC mc ms free) := by
  intro m meth c A g ig mk a X hg hsize hdg hW hn hp
  have h1 : (headSpec ws rm).pre.before a A.U = true := atoms_intro fun w hw => hws w hw _ _ X.warmed
  have h2 : (Cond.code y bytes maxL ret).before a A.U = true := hws _ hcode _ _ X.warmed
  have h3 : (Cond.initialized y.cls).before a A.U = true := hinit _ _ X.warmed
  have h4 : A.cells + (headSpec ws rm).room.cells ≤ R.cells := by rw [show (headSpec ws rm).room.cells = mc from hrc]; exact hp.1
  have h5 : A.slots + (headSpec ws rm).room.slots ≤ R.slots := by rw [show (headSpec ws rm).room.slots = ms from hrs]; exact hp.2.1
  have hPc : Pc a (A.U.calling g mk a) := hblind _ _ _ _ hp.2.2
  obtain ⟨U, Ls, c0, s0⟩ := A
  dsimp only [Pt.U, Pt.locs, Pt.cells, Pt.slots] at h1 h2 h3 h4 h5 X hn hPc ⊢
  obtain ⟨methY, cY, hmY, hcY, -, hlY, -, -, -, -⟩ := Cond.code_spec hn h2
  obtain ⟨kY, hkY, -⟩ := className_of_methodNamed hn
  have hinitY : kY.init = .initialized := Cond.initialized_spec (findClass_of_methodNamed hn) hkY h3
  have h : At U g.method c below := by rw [hg]; exact X.here
  have hlocals9 : W9 + (maxL + 11) + (headSpec ws rm).room.locals ≤ R.locals := hlocals
  have happ : (headSpec ws rm).appliesLoose y e.platform (U.calling g mk a) = true :=
    Spec.appliesLoose_calling (g := g) h hdg hn hkY hinitY
      (X.room_calling (g := g) (R' := (headSpec ws rm).room) hsize hmY hcY hframes (by rw [hlY]; omega) h4 h5) h1
  obtain ⟨mid, hmid⟩ := h.above
  have hfr : (U.setTop g).frames = (.java g :: mid) ++ below := by rw [State.frames_setTop' g h.top, hmid]; rfl
  obtain ⟨o, s₂, hsteps, -, hend, hq⟩ := Steps.callFree hM p X.admits X.cas X.clock (acts := []) hfr happ hPc trivial
  have hq' : vx_Q Qc XC mc ms free a (U.calling g mk a) o s₂ := hq
  rw [State.frames_setTop' g h.top] at hend
  obtain ⟨g₀, hg0⟩ := Option.isSome_iff_exists.mp h.top
  obtain ⟨r, hr⟩ := State.topJava?_eq_some.mp hg0
  have hr' : (({ U with heap := s₂.heap, slotsUsed := s₂.slotsUsed } : State).setVm s₂.vm).frames = .java g₀ :: r := hr
  rcases hq' with ⟨hqc, L, hfe, hL⟩ | ⟨q, rfl, E, ce, L, hx, hce, hcv, hcl, hW₂, hsm, hL⟩
  · obtain ⟨⟨v, rfl⟩, hW₂, e2, q2, q3, q4, q5, q6⟩ := id hfe
    have e3 : s₂ = ({ (U.calling g mk a).setFrames s₂.frames with heap := s₂.heap, slotsUsed := s₂.slotsUsed } : State).setVm s₂.vm := by
      have : s₂ = ({ s₂ with vm := (U.calling g mk a).vm } : State).setVm s₂.vm := rfl
      rw [e2] at this
      exact this
    obtain ⟨c₂, i₂, len₂, hc₂, hd₂, hf₂⟩ := hend
    have hW' : U.WarmedH s₂.vm := hW₂
    have hcc : c₂ = c := by
      have h1 : s₂.code? g.method = U.code? g.method := by
        rw [State.code?_eq, State.code?_eq, hW'.alike.method?]
      exact Option.some.inj (hc₂.symm.trans (h1.trans h.code))
    subst hcc
    have hlen : len₂ = len := by rw [hdg] at hd₂; cases hd₂; rfl
    subst hlen
    have hs₂ : s₂ = (({ U with heap := s₂.heap, slotsUsed := s₂.slotsUsed } : State).setVm s₂.vm).setTop { g with pc := g.pc + len₂, stack := v.toList ++ g.stack } := by
      refine e3.trans ?_
      rw [hf₂, State.calling_eq h.top, State.setFrames_setFrames, State.setTop_of_frames _ hr', hr]
      rfl
    have hsame : U.sameButNew ({ U with heap := s₂.heap, slotsUsed := s₂.slotsUsed } : State) L mc ms := by
      refine ⟨?_, q2, q3, q4, q5, q6⟩
      obtain ⟨t, ht, -⟩ := State.frames_cons hr
      show ({ U with heap := s₂.heap, slotsUsed := s₂.slotsUsed } : State) = { U.setFrames U.frames with heap := s₂.heap, slotsUsed := s₂.slotsUsed }
      rw [State.setFrames_self ht]
    subst hg
    refine Or.inl ⟨v, ⟨(({ U with heap := s₂.heap, slotsUsed := s₂.slotsUsed } : State).setVm s₂.vm), Ls ++ L, c0 + mc, s0 + ms⟩,
      ⟨X.admits, X.cas, X.clock, X.frames, X.room, X.hears, X.method, X.code, (X.here.setHeapUsed s₂.heap s₂.slotsUsed).setVm hW'.alike, X.tail, State.WarmedH.trans X.warmed hW', X.limits, X.bytes, X.same.trans (hsame.setVm s.vm)⟩,
      ⟨g, mk, s₂, L, rfl, rfl, hqc, rfl, hL, rfl, rfl⟩, ?_⟩
    show Steps p.tables e below _ ((({ U with heap := s₂.heap, slotsUsed := s₂.slotsUsed } : State).setVm s₂.vm).setTop { g with pc := g.pc + len₂, stack := v.toList ++ g.stack })
    rw [← hs₂]
    exact hsteps
  · obtain ⟨e2, q2, q3, q4, q5, q6⟩ := id hsm
    have e3 : s₂ = ({ (U.calling g mk a).setFrames s₂.frames with heap := s₂.heap, slotsUsed := s₂.slotsUsed } : State).setVm s₂.vm := by
      have : s₂ = ({ s₂ with vm := (U.calling g mk a).vm } : State).setVm s₂.vm := rfl
      rw [e2] at this
      exact this
    have hf₂ : s₂.frames = .throwing q :: .java g :: U.frames.tail := hend
    have hW' : U.WarmedH s₂.vm := hW₂
    have hs₂ : s₂ = ((({ U with heap := s₂.heap, slotsUsed := s₂.slotsUsed } : State).setVm s₂.vm).setTop g).pushFrame (.throwing q) := by
      refine e3.trans ?_
      rw [hf₂, State.calling_eq h.top, State.setFrames_setFrames, State.pushFrame, State.frames_setTop _ hr', State.setTop_of_frames _ hr', State.setFrames_setFrames, hr]
      rfl
    have hsame : U.sameButNew ({ U with heap := s₂.heap, slotsUsed := s₂.slotsUsed } : State) L mc ms := by
      refine ⟨?_, q2, q3, q4, q5, q6⟩
      obtain ⟨t, ht, -⟩ := State.frames_cons hr
      show ({ U with heap := s₂.heap, slotsUsed := s₂.slotsUsed } : State) = { U.setFrames U.frames with heap := s₂.heap, slotsUsed := s₂.slotsUsed }
      rw [State.setFrames_self ht]
    subst hg
    refine Or.inr ⟨q, ⟨(({ U with heap := s₂.heap, slotsUsed := s₂.slotsUsed } : State).setVm s₂.vm), Ls ++ L, c0 + mc, s0 + ms⟩,
      ⟨X.admits, X.cas, X.clock, X.frames, X.room, X.hears, X.method, X.code, (X.here.setHeapUsed s₂.heap s₂.slotsUsed).setVm hW'.alike, X.tail, State.WarmedH.trans X.warmed hW', X.limits, X.bytes, X.same.trans (hsame.setVm s.vm)⟩,
      ⟨g, mk, s₂, L, E, ce, rfl, rfl, hx, hce, hcv, hcl, rfl, hL, rfl, rfl⟩, ?_⟩
    show Steps p.tables e below _ (((({ U with heap := s₂.heap, slotsUsed := s₂.slotsUsed } : State).setVm s₂.vm).setTop g).pushFrame (.throwing q))
    rw [← hs₂]
    exact hsteps
end Payer
section Calls
variable {p : Program} {l : Launch} {e : Env} {R : Room} {s : State} {m : MethodId} {args : Array Value} {below : List Frame} {meth : Method} {c : Code} {T : State} {locs : List Loc} {cells slots : Nat}
theorem vx_callV (X : Stand p l e R s m args below meth c T locs cells slots) (hexec : p.tables.exec = Jvm.exec) {own C : String} {index : Nat} {y : MethodName} {bytes : ByteArray} {maxL : Nat} {ret : Option FieldType}
    (hown : s.vm.findClass own = some m.cls) (hlink : (Cond.methodLink own index y).before args s = true) (hinst : (Cond.instanceMethod y).before args s = true) (hsel : (Cond.selects C y y).before args s = true)
    (hcode : (Cond.code y bytes maxL ret).before args s = true) (hy : y.cls ≠ "java/lang/invoke/MethodHandle" ∧ y.cls ≠ "java/lang/invoke/VarHandle")
    {W9 : Nat} {Pre : Pt → Array Value → Prop} {Post : Pt → Array Value → Option Value → Pt → Prop} {PostX : Pt → Array Value → Addr → Pt → Prop} (hK : vx_Back l R p e below s args y 3 W9 Pre Post PostX)
    {b : Addr} {cellB : Cell} (hcell : T.heap[b]? = some cellB) (hobj : cellB.vm.isStatics = false) (hcls : s.vm.findClass C = some cellB.cls)
    {g : JFrame} (hg : g.method = m) (hsize : g.locals.size = c.maxLocals) {argsL rest : List Value} (hlen : ∀ sig, parseMethodDescriptor y.desc = some sig → argsL.length = sig.parameters.length)
    (hstack : g.stack = argsL.reverse ++ .ref b :: rest) (hW : 2 * g.monitorRoom + (rest.map fun v => v.category).sum ≤ W9) (hdg : decode c.code g.pc = .ok (.invokevirtual index, 3))
    (hpre : ∀ vm₁, s.WarmedH vm₁ → Pre ⟨T.setVm vm₁, locs, cells, slots⟩ (Value.ref b :: argsL).toArray) :
    (∃ (v : Option Value) (vm₁ : Vm) (B : Pt), s.WarmedH vm₁ ∧ Stand p l e R s m args below meth c B.U B.locs B.cells B.slots ∧ Post ⟨T.setVm vm₁, locs, cells, slots⟩ (Value.ref b :: argsL).toArray v B ∧
      ∀ target, Steps p.tables e below (B.U.setTop { g with pc := g.pc + 3, stack := v.toList ++ rest }) target → Steps p.tables e below (T.setTop g) target) ∨
    (∃ (q : Addr) (vm₁ : Vm) (B : Pt), s.WarmedH vm₁ ∧ Stand p l e R s m args below meth c B.U B.locs B.cells B.slots ∧ PostX ⟨T.setVm vm₁, locs, cells, slots⟩ (Value.ref b :: argsL).toArray q B ∧
      Steps p.tables e below (T.setTop g) ((B.U.setTop { g with stack := rest }).pushFrame (.throwing q))) := by
  obtain ⟨mk, methM, hnamed, hmethM, hstM, habM⟩ := Cond.instanceMethod_spec hinst
  obtain ⟨methM', cM, hmethM', -, -, -, -, -, -, hsigM⟩ := Cond.code_spec hnamed hcode
  cases hmethM.symm.trans hmethM'
  obtain ⟨c2, r2, m2, q1, q2, q3, q4, kP, hkP, hkPi⟩ := Cond.selects_spec hsel
  cases hcls.symm.trans q1
  cases (State.methodFound?_of_named hnamed hy).symm.trans q2
  cases hnamed.symm.trans q3
  have hselP : selectMethod e.platform s.vm cellB.cls mk = .method mk := by rw [Launch.admits_selectMethod X.admits]; exact q4
  obtain ⟨vm₁, X₁, hstep₁⟩ := X.invokevirtual hexec hown hlink hnamed hmethM hstM hkP hkPi hy (a := b) (cell := cellB) hcell
    (fun z h => by rw [h] at hobj; cases hobj) hselP hmethM habM hkP hkPi (g := g) hg (argsL := argsL) (rest := rest) (hlen _ hsigM) hstack hdg
  rcases hK m meth c ⟨T.setVm vm₁, locs, cells, slots⟩ { g with stack := rest } (.invokevirtual index) mk (Value.ref b :: argsL).toArray X₁ hg hsize hdg hW (X₁.named hnamed) (hpre vm₁ X₁.warmed) with ⟨v, B, X', hpost, hsteps⟩ | ⟨q, B, X', hpost, hsteps⟩
  · exact Or.inl ⟨v, vm₁, B, X₁.warmed, X', hpost, fun target h => hstep₁ _ fun acts => by rw [doInvoke_state]; exact hsteps.trans h⟩
  · exact Or.inr ⟨q, vm₁, B, X₁.warmed, X', hpost, hstep₁ _ fun acts => by rw [doInvoke_state]; exact hsteps⟩
theorem vx_callS (X : Stand p l e R s m args below meth c T locs cells slots) (hexec : p.tables.exec = Jvm.exec) {own : String} {index : Nat} {y : MethodName} {bytes : ByteArray} {maxL : Nat} {ret : Option FieldType}
    (hown : s.vm.findClass own = some m.cls) (hlink : (Cond.methodLink own index y).before args s = true) (hstat : (Cond.static y).before args s = true) (hinit : (Cond.initialized y.cls).before args s = true)
    (hcode : (Cond.code y bytes maxL ret).before args s = true) (hy : y.cls ≠ "java/lang/invoke/MethodHandle" ∧ y.cls ≠ "java/lang/invoke/VarHandle")
    {W9 : Nat} {Pre : Pt → Array Value → Prop} {Post : Pt → Array Value → Option Value → Pt → Prop} {PostX : Pt → Array Value → Addr → Pt → Prop} (hK : vx_Back l R p e below s args y 3 W9 Pre Post PostX)
    {g : JFrame} (hg : g.method = m) (hsize : g.locals.size = c.maxLocals) {argsL rest : List Value} (hlen : ∀ sig, parseMethodDescriptor y.desc = some sig → argsL.length = sig.parameters.length)
    (hstack : g.stack = argsL.reverse ++ rest) (hW : 2 * g.monitorRoom + (rest.map fun v => v.category).sum ≤ W9) (hdg : decode c.code g.pc = .ok (.invokestatic index, 3))
    (hpre : ∀ vm₁, s.WarmedH vm₁ → Pre ⟨T.setVm vm₁, locs, cells, slots⟩ argsL.toArray) :
    (∃ (v : Option Value) (vm₁ : Vm) (B : Pt), s.WarmedH vm₁ ∧ Stand p l e R s m args below meth c B.U B.locs B.cells B.slots ∧ Post ⟨T.setVm vm₁, locs, cells, slots⟩ argsL.toArray v B ∧
      ∀ target, Steps p.tables e below (B.U.setTop { g with pc := g.pc + 3, stack := v.toList ++ rest }) target → Steps p.tables e below (T.setTop g) target) ∨
    (∃ (q : Addr) (vm₁ : Vm) (B : Pt), s.WarmedH vm₁ ∧ Stand p l e R s m args below meth c B.U B.locs B.cells B.slots ∧ PostX ⟨T.setVm vm₁, locs, cells, slots⟩ argsL.toArray q B ∧
      Steps p.tables e below (T.setTop g) ((B.U.setTop { g with stack := rest }).pushFrame (.throwing q))) := by
  obtain ⟨mk, hnamed⟩ := Cond.code_named hcode
  obtain ⟨methM, cM, hmethM, -, -, -, -, -, -, hsigM⟩ := Cond.code_spec hnamed hcode
  have hstatic : methM.isStatic = true := Cond.static_spec hnamed hmethM hstat
  obtain ⟨kP, hkP, -⟩ := className_of_methodNamed hnamed
  have hinitP : kP.init = .initialized := Cond.initialized_spec (findClass_of_methodNamed hnamed) hkP hinit
  obtain ⟨vm₁, X₁, hstep₁⟩ := X.invokestatic hexec hown hlink hnamed hmethM hstatic hkP hinitP hy (g := g) hg (argsL := argsL) (rest := rest) (hlen _ hsigM) hstack hdg
  rcases hK m meth c ⟨T.setVm vm₁, locs, cells, slots⟩ { g with stack := rest } (.invokestatic index) mk argsL.toArray X₁ hg hsize hdg hW (X₁.named hnamed) (hpre vm₁ X₁.warmed) with ⟨v, B, X', hpost, hsteps⟩ | ⟨q, B, X', hpost, hsteps⟩
  · exact Or.inl ⟨v, vm₁, B, X₁.warmed, X', hpost, fun target h => hstep₁ _ fun acts => by rw [doInvoke_state]; exact hsteps.trans h⟩
  · exact Or.inr ⟨q, vm₁, B, X₁.warmed, X', hpost, hstep₁ _ fun acts => by rw [doInvoke_state]; exact hsteps⟩
end Calls
theorem vx_cls {s : State} {T : State} {vm₁ : Vm} {E : String} {k : ClassId} (hW : s.WarmedH vm₁) (h : (T.setVm vm₁).vm.findClass E = some k) : s.vm.findClass E = some k := by
  have h1 : vm₁.findClass E = some k := h
  rw [hW.alike.findClass] at h1
  exact h1
/-- the method's frame g, with q thrown over it -/
def vx_W (p : Program) (l : Launch) (e : Env) (R : Room) (s : State) (m : MethodId) (args : Array Value) (below : List Frame) (meth : Method) (c : Code) (H : Heap) (locs : List Loc) (cells slots : Nat) (Q : State → Prop) (g : JFrame) (q : Addr) : Prop :=
  ∀ T : State, T.heap = H → Stand p l e R s m args below meth c T locs cells slots → ∃ t, Steps p.tables e below ((T.setTop g).pushFrame (.throwing q)) t ∧ Q t
def vx_Run (p : Program) (l : Launch) (e : Env) (R : Room) (s : State) (m : MethodId) (args : Array Value) (below : List Frame) (meth : Method) (c : Code) (H : Heap) (locs : List Loc) (cells slots mc ms : Nat) (g : JFrame) (rest : List Value) (Qa : State → Outcome → State → Prop) (XC : String → State → State → Prop) (free : Addr → Prop) : Prop :=
  ∀ T : State, T.heap = H → Stand p l e R s m args below meth c T locs cells slots →
    (∃ (v : Option Value) (st₀ t T' : State) (L : List Loc), st₀.heap = H ∧ Stand p l e R s m args below meth c T' (locs ++ L) (cells + mc) (slots + ms) ∧ (∀ q ∈ L, free q.base) ∧ T'.heap = t.heap ∧ T'.vm = t.vm ∧ Qa st₀ (.returned v) t ∧
      Goes p e below T g T' { g with pc := g.pc + 3, stack := v.toList ++ rest }) ∨
    (∃ (q : Addr) (st₀ t T' : State) (L : List Loc) (E : String) (ce : Cell), st₀.heap = H ∧ Stand p l e R s m args below meth c T' (locs ++ L) (cells + mc) (slots + ms) ∧ (∀ z ∈ L, free z.base) ∧ T'.heap = t.heap ∧ T'.vm = t.vm ∧ XC E st₀ t ∧ t.heap[q]? = some ce ∧ ce.vm = .none ∧ s.vm.findClass E = some ce.cls ∧
      Steps p.tables e below (T.setTop g) ((T'.setTop { g with stack := rest }).pushFrame (.throwing q)))
def vx_X {S : Type} (px : S → Prop) (B : String → S → State → Prop) (A : Nat → Prop) : String → State → State → Prop := fun E st t => ∃ u : S, px u ∧ B E u t ∧ va_F A st t
section Runs
variable {p : Program} {l : Launch} {e : Env} {R : Room} {s : State} {m : MethodId} {args : Array Value} {below : List Frame} {meth : Method} {c : Code} {H : Heap} {locs : List Loc} {cells slots : Nat}
variable {y : MethodName} {bytes cc : ByteArray} {maxL nL mc ms n index : Nat} {ret : Option FieldType} {ws : List Cond} {rm : Room} {Pc : Array Value → State → Prop} {Qc : Array Value → State → Outcome → State → Prop} {XC : String → State → State → Prop} {free : Addr → Prop} {Ts : List Cond} {own C : String} {b : Addr} {As rest : List Value} {g : JFrame}
theorem vx_callBack (cb : CallB R s args own index y bytes maxL ret ws rm mc ms n) (hM : vx_Met l y ws rm Pc Qc XC mc ms free) (hbl : FrameBlind Pc) : vx_Back l R p e below s args y 3 8 (PreOf R mc ms Pc) (PostOf Qc mc ms free) (vx_Post XC mc ms free) := by
  obtain ⟨hrc, hrs, hfr, hlo, hws, hcw, -, hini, -⟩ := cb
  exact vx_back (bytes := bytes) (maxL := maxL) (ret := ret) hM hbl hrc hrs hfr hlo hws hcw (fun a' U hW => word_at hW (Or.inl (by first | rfl | simp [Cond.onTables, Cond.keeps, Cond.steady])) hini)
theorem vx_runV (S : CallFix p m c cc nL s args Ts own) (hM : vx_Met l y ws rm Pc Qc XC mc ms free) (cw : CallW R s args own C index y bytes maxL ret ws rm mc ms n) (hp : PreV s H C b Pc As)
    (hg : g.method = m) (hn : As.length = n) (hsize : g.locals.size = nL) (hstack : g.stack = As.reverse ++ .ref b :: rest) (hW : 2 * g.monitorRoom + (rest.map fun v => v.category).sum ≤ 8) (hdg : decode cc g.pc = .ok (.invokevirtual index, 3)) (hf : cells + mc ≤ R.cells ∧ slots + ms ≤ R.slots) :
    vx_Run p l e R s m args below meth c H locs cells slots mc ms g rest (Qc (Value.ref b :: As).toArray) XC free := by
  have hK : vx_Back l R p e below s args y 3 8 (PreOf R mc ms Pc) (PostOf Qc mc ms free) (vx_Post XC mc ms free) := vx_callBack cw.1 hM hp.1
  obtain ⟨⟨-, -, -, -, -, -, hcode, -, hy, hlen, hl⟩, hin, hse⟩ := cw
  obtain ⟨hx, hb, hml, ho, -⟩ := S
  obtain ⟨-, ⟨cellB, hcB, hoB, hclB⟩, hPc⟩ := hp
  intro T hT X
  rcases vx_callV X hx (C := C) (bytes := bytes) (maxL := maxL) (ret := ret) ho hl hin hse hcode hy hK (by rw [hT]; exact hcB) hoB hclB hg (hsize.trans hml.symm) (argsL := As) (rest := rest) (fun sig h => hn.trans (hlen sig h)) hstack hW (by rw [hb]; exact hdg)
    (fun vm₁ hW₁ => ⟨hf.1, hf.2, hPc (T.setVm vm₁) hT hW₁⟩) with ⟨v, vm₁, ⟨U', l2, c2, s2⟩, hW₁, X', ⟨g', mk, t, L, e1, e2, hq, h1, hL, h2, h3⟩, st⟩ | ⟨q, vm₁, ⟨U', l2, c2, s2⟩, hW₁, X', ⟨g', mk, t, L, E, ce, e1, e2, hq, hce, hcv, hcl, h1, hL, h2, h3⟩, st⟩
  · dsimp only [Pt.U, Pt.locs, Pt.cells, Pt.slots] at X' e1 e2 h1 h2 h3 st
    subst h1; subst h2; subst h3
    exact Or.inl ⟨v, (T.setVm vm₁).calling g' mk (Value.ref b :: As).toArray, t, U', L, hT, X', hL, e1, e2, hq, st⟩
  · dsimp only [Pt.U, Pt.locs, Pt.cells, Pt.slots] at X' e1 e2 h1 h2 h3 st hcl
    subst h1; subst h2; subst h3
    exact Or.inr ⟨q, (T.setVm vm₁).calling g' mk (Value.ref b :: As).toArray, t, U', L, E, ce, hT, X', hL, e1, e2, hq, hce, hcv, vx_cls hW₁ hcl, st⟩
theorem vx_runS (S : CallFix p m c cc nL s args Ts own) (hM : vx_Met l y ws rm Pc Qc XC mc ms free) (cw : CallB R s args own index y bytes maxL ret ws rm mc ms n ∧ (Cond.static y).before args s = true) (hp : PreS s H Pc As)
    (hg : g.method = m) (hn : As.length = n) (hsize : g.locals.size = nL) (hstack : g.stack = As.reverse ++ rest) (hW : 2 * g.monitorRoom + (rest.map fun v => v.category).sum ≤ 8) (hdg : decode cc g.pc = .ok (.invokestatic index, 3)) (hf : cells + mc ≤ R.cells ∧ slots + ms ≤ R.slots) :
    vx_Run p l e R s m args below meth c H locs cells slots mc ms g rest (Qc As.toArray) XC free := by
  have hK : vx_Back l R p e below s args y 3 8 (PreOf R mc ms Pc) (PostOf Qc mc ms free) (vx_Post XC mc ms free) := vx_callBack cw.1 hM hp.1
  obtain ⟨⟨-, -, -, -, -, -, hcode, hini, hy, hlen, hl⟩, hstt⟩ := cw
  obtain ⟨hx, hb, hml, ho, -⟩ := S
  intro T hT X
  rcases vx_callS X hx (bytes := bytes) (maxL := maxL) (ret := ret) ho hl hstt hini hcode hy hK hg (hsize.trans hml.symm) (argsL := As) (rest := rest) (fun sig h => hn.trans (hlen sig h)) hstack hW (by rw [hb]; exact hdg)
    (fun vm₁ hW₁ => ⟨hf.1, hf.2, hp.2 (T.setVm vm₁) hT hW₁⟩) with ⟨v, vm₁, ⟨U', l2, c2, s2⟩, hW₁, X', ⟨g', mk, t, L, e1, e2, hq, h1, hL, h2, h3⟩, st⟩ | ⟨q, vm₁, ⟨U', l2, c2, s2⟩, hW₁, X', ⟨g', mk, t, L, E, ce, e1, e2, hq, hce, hcv, hcl, h1, hL, h2, h3⟩, st⟩
  · dsimp only [Pt.U, Pt.locs, Pt.cells, Pt.slots] at X' e1 e2 h1 h2 h3 st
    subst h1; subst h2; subst h3
    exact Or.inl ⟨v, (T.setVm vm₁).calling g' mk As.toArray, t, U', L, hT, X', hL, e1, e2, hq, st⟩
  · dsimp only [Pt.U, Pt.locs, Pt.cells, Pt.slots] at X' e1 e2 h1 h2 h3 st hcl
    subst h1; subst h2; subst h3
    exact Or.inr ⟨q, (T.setVm vm₁).calling g' mk As.toArray, t, U', L, E, ce, hT, X', hL, e1, e2, hq, hce, hcv, vx_cls hW₁ hcl, st⟩
end Runs
section Rows
variable {p : Program} {l : Launch} {e : Env} {R : Room} {s : State} {m : MethodId} {args : Array Value} {below : List Frame} {meth : Method} {c : Code} {H : Heap} {locs : List Loc} {cells slots : Nat} {Q : State → Prop}
variable {mc ms : Nat} {free : Addr → Prop} {A0 A1 : Nat → Prop} {H0 : Heap} {a : Array Value} {pc : Nat} {ls : Array Slot} {st0 rest : List Value}
theorem vx_keep {st₀ t T' : State} {L : List Loc} (h0 : st₀.heap = H) (e1 : T'.heap = t.heap) (hS : va_S A0 H0 H locs) (hA : ∀ q, q < H.size → A1 q → A0 q) (hf : ∀ q, free q → A0 q) (hL : ∀ q ∈ L, free q.base) (hF : va_F A1 st₀ t) :
    H.size ≤ T'.heap.size ∧ (∀ q : Nat, q < H.size → ¬ A1 q → T'.heap[q]? = H[q]?) ∧ va_S A0 H0 T'.heap (locs ++ L) := by
  obtain ⟨hz, hk⟩ := hF
  rw [h0] at hz hk
  exact ⟨by rw [e1]; exact hz, fun q h1 h2 => by rw [e1]; exact hk q h1 h2,
    ⟨Nat.le_trans hS.1 (by rw [e1]; exact hz), fun q h1 h2 => by rw [e1, hk q (Nat.lt_of_lt_of_le h1 hS.1) (fun z => h2 (hA q (Nat.lt_of_lt_of_le h1 hS.1) z))]; exact hS.2.1 q h1 h2, fun q hq => by
      rcases List.mem_append.mp hq with h | h
      · exact hS.2.2 q h
      · exact hf _ (hL q h)⟩⟩
theorem vx_calli {S SX : Type} {post : Int32 → S → Prop} {px : SX → Prop} {B : S → State → Prop} {BX : String → SX → State → Prop} {AX : Nat → Prop} (hr : vx_Run p l e R s m args below meth c H locs cells slots mc ms (F0 m pc ls st0) rest (va_Qi post B A1 a) (vx_X px BX AX) free) (hS : va_S A0 H0 H locs) (hA : ∀ q, q < H.size → A1 q → A0 q) (hf : ∀ q, free q → A0 q) (hAX : ∀ q, q < H.size → AX q → A0 q)
    (kx : ∀ (E : String) (ce : Cell) (q9 : Addr) (u : SX) (t : State) (H1 : Heap) (locs1 : List Loc), t.heap = H1 → s.vm.Alike t.vm → px u → BX E u t → H.size ≤ H1.size → (∀ q : Nat, q < H.size → ¬ AX q → H1[q]? = H[q]?) → va_S A0 H0 H1 locs1 → H1[q9]? = some ce → ce.vm = .none → s.vm.findClass E = some ce.cls → vx_W p l e R s m args below meth c H1 locs1 (cells + mc) (slots + ms) Q (F0 m pc ls rest) q9)
    (kk : ∀ (r : Int32) (u : S) (t : State) (H1 : Heap) (locs1 : List Loc), t.heap = H1 → s.vm.Alike t.vm → post r u → B u t → H.size ≤ H1.size → (∀ q : Nat, q < H.size → ¬ A1 q → H1[q]? = H[q]?) → va_S A0 H0 H1 locs1 → W p l e R s m args below meth c H1 locs1 (cells + mc) (slots + ms) Q (F0 m (pc + 3) ls (.int r :: rest))) : W p l e R s m args below meth c H locs cells slots Q (F0 m pc ls st0) := by
  intro T hT X
  rcases hr T hT X with ⟨v, st₀, t, T', L, h0, X', hL, e1, e2, ⟨⟨r, u, hv, hp, hb⟩, hF⟩, st⟩ | ⟨q, st₀, t, T', L, E, ce, h0, X', hL, e1, e2, ⟨u, hp, hb, hF⟩, hce, hcv, hcl, st⟩
  · cases hv
    obtain ⟨k1, k2, k3⟩ := vx_keep h0 e1 hS hA hf hL hF
    obtain ⟨t2, a1, b1⟩ := kk r u t T'.heap (locs ++ L) e1.symm (by rw [← e2]; exact X'.warmed.alike) hp hb k1 k2 k3 T' rfl X'
    exact ⟨t2, st t2 a1, b1⟩
  · obtain ⟨k1, k2, k3⟩ := vx_keep h0 e1 hS hAX hf hL hF
    obtain ⟨t2, a1, b1⟩ := kx E ce q u t T'.heap (locs ++ L) e1.symm (by rw [← e2]; exact X'.warmed.alike) hp hb k1 k2 k3 (by rw [e1]; exact hce) hcv hcl T' rfl X'
    exact ⟨t2, st.trans a1, b1⟩
theorem vx_calll {S SX : Type} {post : Int64 → S → Prop} {px : SX → Prop} {B : S → State → Prop} {BX : String → SX → State → Prop} {AX : Nat → Prop} (hr : vx_Run p l e R s m args below meth c H locs cells slots mc ms (F0 m pc ls st0) rest (va_Ql post B A1 a) (vx_X px BX AX) free) (hS : va_S A0 H0 H locs) (hA : ∀ q, q < H.size → A1 q → A0 q) (hf : ∀ q, free q → A0 q) (hAX : ∀ q, q < H.size → AX q → A0 q)
    (kx : ∀ (E : String) (ce : Cell) (q9 : Addr) (u : SX) (t : State) (H1 : Heap) (locs1 : List Loc), t.heap = H1 → s.vm.Alike t.vm → px u → BX E u t → H.size ≤ H1.size → (∀ q : Nat, q < H.size → ¬ AX q → H1[q]? = H[q]?) → va_S A0 H0 H1 locs1 → H1[q9]? = some ce → ce.vm = .none → s.vm.findClass E = some ce.cls → vx_W p l e R s m args below meth c H1 locs1 (cells + mc) (slots + ms) Q (F0 m pc ls rest) q9)
    (kk : ∀ (r : Int64) (u : S) (t : State) (H1 : Heap) (locs1 : List Loc), t.heap = H1 → s.vm.Alike t.vm → post r u → B u t → H.size ≤ H1.size → (∀ q : Nat, q < H.size → ¬ A1 q → H1[q]? = H[q]?) → va_S A0 H0 H1 locs1 → W p l e R s m args below meth c H1 locs1 (cells + mc) (slots + ms) Q (F0 m (pc + 3) ls (.long r :: rest))) : W p l e R s m args below meth c H locs cells slots Q (F0 m pc ls st0) := by
  intro T hT X
  rcases hr T hT X with ⟨v, st₀, t, T', L, h0, X', hL, e1, e2, ⟨⟨r, u, hv, hp, hb⟩, hF⟩, st⟩ | ⟨q, st₀, t, T', L, E, ce, h0, X', hL, e1, e2, ⟨u, hp, hb, hF⟩, hce, hcv, hcl, st⟩
  · cases hv
    obtain ⟨k1, k2, k3⟩ := vx_keep h0 e1 hS hA hf hL hF
    obtain ⟨t2, a1, b1⟩ := kk r u t T'.heap (locs ++ L) e1.symm (by rw [← e2]; exact X'.warmed.alike) hp hb k1 k2 k3 T' rfl X'
    exact ⟨t2, st t2 a1, b1⟩
  · obtain ⟨k1, k2, k3⟩ := vx_keep h0 e1 hS hAX hf hL hF
    obtain ⟨t2, a1, b1⟩ := kx E ce q u t T'.heap (locs ++ L) e1.symm (by rw [← e2]; exact X'.warmed.alike) hp hb k1 k2 k3 (by rw [e1]; exact hce) hcv hcl T' rfl X'
    exact ⟨t2, st.trans a1, b1⟩
theorem vx_callf {S SX : Type} {post : UInt32 → S → Prop} {px : SX → Prop} {B : S → State → Prop} {BX : String → SX → State → Prop} {AX : Nat → Prop} (hr : vx_Run p l e R s m args below meth c H locs cells slots mc ms (F0 m pc ls st0) rest (va_Qf post B A1 a) (vx_X px BX AX) free) (hS : va_S A0 H0 H locs) (hA : ∀ q, q < H.size → A1 q → A0 q) (hf : ∀ q, free q → A0 q) (hAX : ∀ q, q < H.size → AX q → A0 q)
    (kx : ∀ (E : String) (ce : Cell) (q9 : Addr) (u : SX) (t : State) (H1 : Heap) (locs1 : List Loc), t.heap = H1 → s.vm.Alike t.vm → px u → BX E u t → H.size ≤ H1.size → (∀ q : Nat, q < H.size → ¬ AX q → H1[q]? = H[q]?) → va_S A0 H0 H1 locs1 → H1[q9]? = some ce → ce.vm = .none → s.vm.findClass E = some ce.cls → vx_W p l e R s m args below meth c H1 locs1 (cells + mc) (slots + ms) Q (F0 m pc ls rest) q9)
    (kk : ∀ (r : UInt32) (u : S) (t : State) (H1 : Heap) (locs1 : List Loc), t.heap = H1 → s.vm.Alike t.vm → post r u → B u t → H.size ≤ H1.size → (∀ q : Nat, q < H.size → ¬ A1 q → H1[q]? = H[q]?) → va_S A0 H0 H1 locs1 → W p l e R s m args below meth c H1 locs1 (cells + mc) (slots + ms) Q (F0 m (pc + 3) ls (.float r :: rest))) : W p l e R s m args below meth c H locs cells slots Q (F0 m pc ls st0) := by
  intro T hT X
  rcases hr T hT X with ⟨v, st₀, t, T', L, h0, X', hL, e1, e2, ⟨⟨r, u, hv, hp, hb⟩, hF⟩, st⟩ | ⟨q, st₀, t, T', L, E, ce, h0, X', hL, e1, e2, ⟨u, hp, hb, hF⟩, hce, hcv, hcl, st⟩
  · cases hv
    obtain ⟨k1, k2, k3⟩ := vx_keep h0 e1 hS hA hf hL hF
    obtain ⟨t2, a1, b1⟩ := kk r u t T'.heap (locs ++ L) e1.symm (by rw [← e2]; exact X'.warmed.alike) hp hb k1 k2 k3 T' rfl X'
    exact ⟨t2, st t2 a1, b1⟩
  · obtain ⟨k1, k2, k3⟩ := vx_keep h0 e1 hS hAX hf hL hF
    obtain ⟨t2, a1, b1⟩ := kx E ce q u t T'.heap (locs ++ L) e1.symm (by rw [← e2]; exact X'.warmed.alike) hp hb k1 k2 k3 (by rw [e1]; exact hce) hcv hcl T' rfl X'
    exact ⟨t2, st.trans a1, b1⟩
theorem vx_calld {S SX : Type} {post : UInt64 → S → Prop} {px : SX → Prop} {B : S → State → Prop} {BX : String → SX → State → Prop} {AX : Nat → Prop} (hr : vx_Run p l e R s m args below meth c H locs cells slots mc ms (F0 m pc ls st0) rest (va_Qd post B A1 a) (vx_X px BX AX) free) (hS : va_S A0 H0 H locs) (hA : ∀ q, q < H.size → A1 q → A0 q) (hf : ∀ q, free q → A0 q) (hAX : ∀ q, q < H.size → AX q → A0 q)
    (kx : ∀ (E : String) (ce : Cell) (q9 : Addr) (u : SX) (t : State) (H1 : Heap) (locs1 : List Loc), t.heap = H1 → s.vm.Alike t.vm → px u → BX E u t → H.size ≤ H1.size → (∀ q : Nat, q < H.size → ¬ AX q → H1[q]? = H[q]?) → va_S A0 H0 H1 locs1 → H1[q9]? = some ce → ce.vm = .none → s.vm.findClass E = some ce.cls → vx_W p l e R s m args below meth c H1 locs1 (cells + mc) (slots + ms) Q (F0 m pc ls rest) q9)
    (kk : ∀ (r : UInt64) (u : S) (t : State) (H1 : Heap) (locs1 : List Loc), t.heap = H1 → s.vm.Alike t.vm → post r u → B u t → H.size ≤ H1.size → (∀ q : Nat, q < H.size → ¬ A1 q → H1[q]? = H[q]?) → va_S A0 H0 H1 locs1 → W p l e R s m args below meth c H1 locs1 (cells + mc) (slots + ms) Q (F0 m (pc + 3) ls (.double r :: rest))) : W p l e R s m args below meth c H locs cells slots Q (F0 m pc ls st0) := by
  intro T hT X
  rcases hr T hT X with ⟨v, st₀, t, T', L, h0, X', hL, e1, e2, ⟨⟨r, u, hv, hp, hb⟩, hF⟩, st⟩ | ⟨q, st₀, t, T', L, E, ce, h0, X', hL, e1, e2, ⟨u, hp, hb, hF⟩, hce, hcv, hcl, st⟩
  · cases hv
    obtain ⟨k1, k2, k3⟩ := vx_keep h0 e1 hS hA hf hL hF
    obtain ⟨t2, a1, b1⟩ := kk r u t T'.heap (locs ++ L) e1.symm (by rw [← e2]; exact X'.warmed.alike) hp hb k1 k2 k3 T' rfl X'
    exact ⟨t2, st t2 a1, b1⟩
  · obtain ⟨k1, k2, k3⟩ := vx_keep h0 e1 hS hAX hf hL hF
    obtain ⟨t2, a1, b1⟩ := kx E ce q u t T'.heap (locs ++ L) e1.symm (by rw [← e2]; exact X'.warmed.alike) hp hb k1 k2 k3 (by rw [e1]; exact hce) hcv hcl T' rfl X'
    exact ⟨t2, st.trans a1, b1⟩
theorem vx_callv {S SX : Type} {post : S → Prop} {px : SX → Prop} {B : S → State → Prop} {BX : String → SX → State → Prop} {AX : Nat → Prop} (hr : vx_Run p l e R s m args below meth c H locs cells slots mc ms (F0 m pc ls st0) rest (va_Qv post B A1 a) (vx_X px BX AX) free) (hS : va_S A0 H0 H locs) (hA : ∀ q, q < H.size → A1 q → A0 q) (hf : ∀ q, free q → A0 q) (hAX : ∀ q, q < H.size → AX q → A0 q)
    (kx : ∀ (E : String) (ce : Cell) (q9 : Addr) (u : SX) (t : State) (H1 : Heap) (locs1 : List Loc), t.heap = H1 → s.vm.Alike t.vm → px u → BX E u t → H.size ≤ H1.size → (∀ q : Nat, q < H.size → ¬ AX q → H1[q]? = H[q]?) → va_S A0 H0 H1 locs1 → H1[q9]? = some ce → ce.vm = .none → s.vm.findClass E = some ce.cls → vx_W p l e R s m args below meth c H1 locs1 (cells + mc) (slots + ms) Q (F0 m pc ls rest) q9)
    (kk : ∀ (u : S) (t : State) (H1 : Heap) (locs1 : List Loc), t.heap = H1 → s.vm.Alike t.vm → post u → B u t → H.size ≤ H1.size → (∀ q : Nat, q < H.size → ¬ A1 q → H1[q]? = H[q]?) → va_S A0 H0 H1 locs1 → W p l e R s m args below meth c H1 locs1 (cells + mc) (slots + ms) Q (F0 m (pc + 3) ls (rest))) : W p l e R s m args below meth c H locs cells slots Q (F0 m pc ls st0) := by
  intro T hT X
  rcases hr T hT X with ⟨v, st₀, t, T', L, h0, X', hL, e1, e2, ⟨⟨u, hv, hp, hb⟩, hF⟩, st⟩ | ⟨q, st₀, t, T', L, E, ce, h0, X', hL, e1, e2, ⟨u, hp, hb, hF⟩, hce, hcv, hcl, st⟩
  · cases hv
    obtain ⟨k1, k2, k3⟩ := vx_keep h0 e1 hS hA hf hL hF
    obtain ⟨t2, a1, b1⟩ := kk u t T'.heap (locs ++ L) e1.symm (by rw [← e2]; exact X'.warmed.alike) hp hb k1 k2 k3 T' rfl X'
    exact ⟨t2, st t2 a1, b1⟩
  · obtain ⟨k1, k2, k3⟩ := vx_keep h0 e1 hS hAX hf hL hF
    obtain ⟨t2, a1, b1⟩ := kx E ce q u t T'.heap (locs ++ L) e1.symm (by rw [← e2]; exact X'.warmed.alike) hp hb k1 k2 k3 (by rw [e1]; exact hce) hcv hcl T' rfl X'
    exact ⟨t2, st.trans a1, b1⟩
end Rows
section Ends
variable {p : Program} {l : Launch} {e : Env} {R : Room} {s : State} {m : MethodId} {args : Array Value} {below : List Frame} {meth : Method} {c : Code} {H : Heap} {locs : List Loc} {cells slots : Nat} {Q : State → Prop}
variable {mc ms : Nat} {free : Addr → Prop} {A0 A1 : Nat → Prop} {H0 : Heap} {a : Array Value} {ls : Array Slot} {st0 rest : List Value}
variable {Qc : Array Value → State → Outcome → State → Prop} {XC : String → State → State → Prop}
/-- what a body that may throw owes at its end -/
def vx_MQ (below : List Frame) (Qc : Array Value → State → Outcome → State → Prop) (XC : String → State → State → Prop) (a : Array Value) (s : State) (mc ms : Nat) (free : Addr → Prop) : State → Prop := fun t =>
  ∃ o, t.status = .running ∧ Ended t below o ∧ vx_Q Qc XC mc ms free a s o t
theorem vx_ret {g : JFrame} {mc ms : Nat} (k : W p l e R s m args below meth c H locs cells slots (MQ below Qc args s mc ms free) g) : W p l e R s m args below meth c H locs cells slots (vx_MQ below Qc XC args s mc ms free) g := by
  intro T hT X
  obtain ⟨t, a1, o, b1, b2, b3, b4⟩ := k T hT X
  exact ⟨t, a1, o, b1, b2, Or.inl ⟨b3, b4⟩⟩
/-- not caught here: it goes on to the caller -/
theorem vx_widen {g : JFrame} {q : Addr} {k n : Nat} (h1 : cells ≤ k) (h2 : slots ≤ n) (kk : vx_W p l e R s m args below meth c H locs k n Q g q) : vx_W p l e R s m args below meth c H locs cells slots Q g q := fun T hT X => kk T hT (stand_widen X h1 h2)
theorem vx_out {pc : Nat} {E : String} {ce : Cell} {q : Addr} {mc ms : Nat} (hout : ∀ x ∈ c.exceptionTable.toList, covers x pc = false) (hlocks : meth.locks = false) (hcell : H[q]? = some ce) (hv : ce.vm = .none) (hcl : s.vm.findClass E = some ce.cls)
    (hx : ∀ t : State, t.heap = H → s.vm.Alike t.vm → XC E s t) (hf : ∀ z ∈ locs, free z.base) (hc : cells ≤ mc) (hs : slots ≤ ms) :
    vx_W p l e R s m args below meth c H locs cells slots (vx_MQ below Qc XC args s mc ms free) (F0 m pc ls rest) q := by
  intro T hT X
  obtain ⟨st1, hrun, hend, hW, hsm⟩ := X.leaveThrown q (g := F0 m pc ls rest) rfl rfl rfl hout hlocks
  have hcell9 : (T.setFrames (.throwing q :: below)).heap[q]? = some ce := by
    show T.heap[q]? = some ce
    rw [hT]; exact hcell
  exact ⟨_, st1, .threw q, hrun, hend, Or.inr ⟨q, rfl, E, ce, locs, hx _ hT hW.alike, hcell9, hv, hcl, hW, hsm.mono hc hs, hf⟩⟩
theorem vx_frame {U : State} {k n : Nat} (h : s.sameButNew ({ U with vm := s.vm } : State) locs k n) : s.heap.size ≤ U.heap.size ∧ ∀ q : Nat, q < s.heap.size → (∀ z ∈ locs, z.base ≠ q) → U.heap[q]? = s.heap[q]? := by
  obtain ⟨-, h2, -, -, -, h6⟩ := h
  refine ⟨h2, fun q hq hz => ?_⟩
  obtain ⟨c9, e1, e2, e3, e4⟩ := h6 q _ (Array.getElem?_eq_getElem hq)
  have hs : c9.slots = (s.heap[q]).slots := Array.ext_getElem? fun i => e4 i fun hm => hz _ hm rfl
  have h9 : c9 = s.heap[q] := by
    rw [hs] at e2
    exact e2
  have e5 : U.heap[q]? = some c9 := e1
  rw [e5, h9, Array.getElem?_eq_getElem hq]
/-- the words of a throw but the four that speak of the heap -/
def vx_no (w : Cond) : Bool := decide (w ≠ .isRef (.static Bundle.tN "UNASSIGNED_STACK" Bundle.steD)) && decide (w ≠ .isRef (.static Bundle.tN "SUPPRESSED_SENTINEL" Bundle.listD)) && decide (w ≠ .laysStatic Bundle.tN "UNASSIGNED_STACK" Bundle.steD) && decide (w ≠ .laysStatic Bundle.tN "SUPPRESSED_SENTINEL" Bundle.listD)
def vx_at0 (own : String) (ic : Nat) (X : String) (names : List String) : List Cond := (Bundle.ownAtoms0 own ic X names).filter vx_no
def vx_atS (own : String) (ic : Nat) (X : String) (names : List String) : List Cond := (Bundle.ownAtoms own ic X names).filter vx_no
/-- a word that the tables alone decide, or a good one -/
def vx_ot (w : Cond) : Bool := w.onTables || goodWord w
theorem vx_ot_at {args a' : Array Value} {s U : State} {w : Cond} (hW : s.WarmedH U.vm) (hvm : s.vm = U.vm) (hg : vx_ot w = true) (h : w.before args s = true) : w.before a' U = true := by
  simp only [vx_ot, Bool.or_eq_true] at hg
  rcases hg with hg | hg
  · exact va_tabs hg hvm h
  · exact word_at hW (good_of_word hg) h
/-- a list's words: the good ones out of the method's own list, the others by premises of their own -/
theorem vx_hat {args : Array Value} {s : State} {L B : List Cond} (h1 : ∀ w ∈ L.filter goodWord, w.before args s = true) (h2 : ∀ w ∈ L.filter (fun w => !goodWord w), w ∈ B) (h3 : ∀ w ∈ B, w.before args s = true) : ∀ w ∈ L, w.before args s = true := by
  intro w hw
  by_cases g : goodWord w = true
  · exact h1 w (List.mem_filter.mpr ⟨hw, g⟩)
  · refine h3 w (h2 w (List.mem_filter.mpr ⟨hw, ?_⟩))
    show (!goodWord w) = true
    cases hgw : goodWord w
    · rfl
    · exact absurd hgw g
theorem vx_c {args : Array Value} {s : State} {w : Cond} {B : List Cond} (h : w.before args s = true) (t : ∀ w ∈ B, w.before args s = true) : ∀ w' ∈ w :: B, w'.before args s = true := fun w' h' => (List.mem_cons.mp h').elim (fun e => by rw [e]; exact h) (t w')
theorem vx_n {args : Array Value} {s : State} : ∀ w ∈ ([] : List Cond), w.before args s = true := fun _ h => nomatch h
theorem vx_own {args : Array Value} {s : State} {L : List Cond} (h1 : ∀ w ∈ L.filter vx_no, w.before args s = true)
    (hU : (Cond.isRef (.static Bundle.tN "UNASSIGNED_STACK" Bundle.steD)).before args s = true) (hN : (Cond.isRef (.static Bundle.tN "SUPPRESSED_SENTINEL" Bundle.listD)).before args s = true)
    (lU : (Cond.laysStatic Bundle.tN "UNASSIGNED_STACK" Bundle.steD).before args s = true) (lN : (Cond.laysStatic Bundle.tN "SUPPRESSED_SENTINEL" Bundle.listD).before args s = true) : ∀ w ∈ L, w.before args s = true := by
  intro w hw
  by_cases e1 : w = .isRef (.static Bundle.tN "UNASSIGNED_STACK" Bundle.steD)
  · rw [e1]; exact hU
  · by_cases e2 : w = .isRef (.static Bundle.tN "SUPPRESSED_SENTINEL" Bundle.listD)
    · rw [e2]; exact hN
    · by_cases e3 : w = .laysStatic Bundle.tN "UNASSIGNED_STACK" Bundle.steD
      · rw [e3]; exact lU
      · by_cases e4 : w = .laysStatic Bundle.tN "SUPPRESSED_SENTINEL" Bundle.listD
        · rw [e4]; exact lN
        · exact h1 w (List.mem_filter.mpr ⟨hw, by unfold vx_no; rw [decide_eq_true e1, decide_eq_true e2, decide_eq_true e3, decide_eq_true e4]; rfl⟩)
/-- where a static field lies, its class's statics cell in H -/
def vx_L (C n d : String) (A : Nat → Prop) (U : State) (H : Heap) : Prop := ∃ (c : ClassId) (k : Class) (i : Nat) (f : Field) (a : Nat) (cell : Cell), U.vm.findClass C = some c ∧ U.fieldFound? C n d = some (c, k, i, f) ∧ f.isStatic = true ∧ k.statics = some a ∧ H[a]? = some cell ∧ cell.vm.isStatics = true ∧ cell.cls = c ∧ f.slot < cell.slots.size ∧ k.staticTypes[f.slot]? = some f.type ∧ ¬ A a
theorem vx_L.moved {C n d : String} {A : Nat → Prop} {u U : State} {H : Heap} (hvm : u.vm.Alike U.vm) (h : vx_L C n d A u H) : vx_L C n d A U H := by
  obtain ⟨c, k, i, f, a, cell, h1, h2, h3, h4, h5, h6, h7, h8, h9, h10⟩ := h
  obtain ⟨k', hi', he⟩ := State.fieldFound?_setVm hvm h2
  exact ⟨c, k', i, f, a, cell, by rw [hvm.findClass]; exact h1, hi', h3, by rw [he]; exact h4, h5, h6, h7, h8, by rw [he]; exact h9, h10⟩
theorem vx_L.kept {C n d : String} {A : Nat → Prop} {U : State} {H H1 : Heap} (h : vx_L C n d A U H) (hq : ∀ a : Nat, a < H.size → ¬ A a → H1[a]? = H[a]?) : vx_L C n d A U H1 := by
  obtain ⟨c, k, i, f, a, cell, h1, h2, h3, h4, h5, h6, h7, h8, h9, h10⟩ := h
  exact ⟨c, k, i, f, a, cell, h1, h2, h3, h4, by rw [hq a (Array.getElem?_eq_some_iff.mp h5).1 h10]; exact h5, h6, h7, h8, h9, h10⟩
theorem vx_L.narrow {C n d : String} {A B : Nat → Prop} {U : State} {H : Heap} (h : vx_L C n d A U H) (hAB : ∀ q, B q → A q) : vx_L C n d B U H := by
  obtain ⟨c, k, i, f, a, cell, h1, h2, h3, h4, h5, h6, h7, h8, h9, h10⟩ := h
  exact ⟨c, k, i, f, a, cell, h1, h2, h3, h4, h5, h6, h7, h8, h9, fun z => h10 (hAB _ z)⟩
theorem vx_L.word {C n d : String} {A : Nat → Prop} {s : State} {args : Array Value} (h : vx_L C n d A s s.heap) : (Cond.laysStatic C n d).before args s = true := by
  obtain ⟨c, k, i, f, a, cell, h1, h2, h3, h4, h5, h6, h7, h8, h9, -⟩ := h
  show (Cond.laysStatic C n d).holds args s none s [] = true
  exact Cond.laysStatic_of h1 h2 h3 h4 h5 h6 h7 h8 h9
/-- .. and what it holds: null or some reference -/
def vx_Zq (C n d : String) (A : Nat → Prop) (U : State) (H : Heap) : Prop := va_Zq C n d A U H ∧ vx_L C n d A U H
theorem vx_Zq.moved {C n d : String} {A : Nat → Prop} {u U : State} {H : Heap} (hvm : u.vm.Alike U.vm) (h : vx_Zq C n d A u H) : vx_Zq C n d A U H := ⟨va_Zq.moved hvm h.1, vx_L.moved hvm h.2⟩
theorem vx_Zq.kept {C n d : String} {A : Nat → Prop} {U : State} {H H1 : Heap} (h : vx_Zq C n d A U H) (hq : ∀ a : Nat, a < H.size → ¬ A a → H1[a]? = H[a]?) : vx_Zq C n d A U H1 := ⟨va_Zq.kept h.1 hq, vx_L.kept h.2 hq⟩
theorem vx_Zq.narrow {C n d : String} {A B : Nat → Prop} {U : State} {H : Heap} (h : vx_Zq C n d A U H) (hAB : ∀ q, B q → A q) : vx_Zq C n d B U H := ⟨va_Zq.narrow h.1 hAB, vx_L.narrow h.2 hAB⟩
theorem vx_Zqof {args : Array Value} {s : State} {C n d : String} {A : Nat → Prop} (hl : (Cond.laysStatic C n d).before args s = true) (hini : (Cond.initialized C).before args s = true) (h : (Cond.isRef (.static C n d)).before args s = true) (hA : ∀ a : Nat, a < s.heap.size → ¬ A a) : vx_Zq C n d A s s.heap := by
  refine ⟨va_Zqof hl hini h hA, ?_⟩
  obtain ⟨c, k, i, f, a, cell, h1, h2, h3, h4, h5, h6, h7, h8, h9⟩ := Cond.laysStatic_spec hl
  exact ⟨c, k, i, f, a, cell, h1, h2, h3, h4, h5, h6, h7, h8, h9, hA a (Array.getElem?_eq_some_iff.mp h5).1⟩
theorem vx_isRef {C n d : String} {v : Value} {A : Nat → Prop} {s : State} {args : Array Value} (h : va_Z C n d v A s s.heap) (hv : v.isRef = true) : (Cond.isRef (.static C n d)).before args s = true := by
  obtain ⟨cf, kf, fi, f, a, cell, h1, h2, h3, h4, h5, h6, h7, -⟩ := h
  have he : (Term.static C n d).eval args s none [] s = some v := by
    simp [Term.eval, State.fieldNamed?, h1, h2, h4, h5, h6, h7]
  simp only [Cond.before, Cond.holds, Cond.value, he]
  cases v <;> simp_all [Value.isRef]
theorem vx_isRefq {C n d : String} {A : Nat → Prop} {s : State} {args : Array Value} (h : va_Zq C n d A s s.heap) : (Cond.isRef (.static C n d)).before args s = true := by
  rcases h with h | ⟨t, h⟩
  · exact vx_isRef h rfl
  · exact vx_isRef h rfl
/-- the same frame, seen from here: as if the method were called anew in this heap -/
theorem vx_rebase {T : State} (X : Stand p l e R s m args below meth c T locs cells slots) {R' : Room} (hf : R'.frames ≤ R.frames) (hl : R'.locals ≤ R.locals) (hc : cells + R'.cells ≤ R.cells) (hs : slots + R'.slots ≤ R.slots) :
    Stand p l e R' ((T.setVm s.vm).setFrames (.invoking m args :: below)) m args below meth c T [] 0 0 := by
  have htop : (T.setVm s.vm).topJava?.isSome := X.here.top
  have hF : ((T.setVm s.vm).setFrames (.invoking m args :: below)).frames = .invoking m args :: below := State.frames_setFrames _ (State.cur_lt_of_top htop)
  obtain ⟨g₀, hg0⟩ := Option.isSome_iff_exists.mp htop
  obtain ⟨r, hr⟩ := State.topJava?_eq_some.mp hg0
  have hl9 : e.platform.stackLimits (T.setVm s.vm).me = e.platform.stackLimits s.me := X.limits
  have hb9 : (T.setVm s.vm).me.stackBytes = s.me.stackBytes := X.bytes
  refine ⟨X.admits, X.cas, X.clock, hF, ?_, X.hears, X.method, X.code, X.here, X.tail, X.warmed, ?_, ?_, ?_⟩
  · have h := X.room
    have hU : ((T.setVm s.vm).setFrames (.invoking m args :: below)).localsInUse = s.localsInUse := by
      rw [State.localsInUse_invoking hF (meth := meth) (c := c) X.method X.code, State.localsInUse_invoking X.frames X.method X.code]
    simp only [State.hasRoom, Bool.and_eq_true, decide_eq_true_eq] at h ⊢
    obtain ⟨⟨⟨⟨h1, h2, h3, h4, h5, h6⟩, h7⟩, h8⟩, h9⟩ := h
    rw [X.frames, List.length_cons] at h2 h3
    have q1 := X.heapSize
    have q2 := X.used
    simp only [hF, hU, List.length_cons, State.stackLimits_setFrames, State.stackBytes_setFrames, hl9, hb9]
    refine ⟨⟨⟨⟨by omega, by omega, by omega, by omega, by omega, h6⟩, ?_⟩, ?_⟩, X.book⟩
    · show T.heap.size + R'.cells ≤ e.platform.maxCells
      omega
    · show T.slotsUsed + R'.slots ≤ e.platform.maxSlots
      omega
  · rw [State.stackLimits_setFrames]; rfl
  · rw [State.stackBytes_setFrames]; rfl
  · refine ⟨?_, Nat.le_refl _, Nat.le_refl _, ?_, ?_, fun a c9 h9 => ⟨c9, h9, rfl, rfl, fun _ _ => rfl⟩⟩
    · obtain ⟨t, ht, -⟩ := State.frames_cons hr
      show T.setVm s.vm = { ((T.setVm s.vm).setFrames (.invoking m args :: below)).setFrames (T.setVm s.vm).frames with heap := T.heap, slotsUsed := T.slotsUsed }
      rw [State.setFrames_setFrames, State.setFrames_self ht]
      rfl
    · show T.slotsUsed = T.slotsUsed + ((T.heap.toList.drop T.heap.size).map (·.slots.size)).sum
      rw [List.drop_eq_nil_of_le (Nat.le_of_eq Array.length_toList)]
      rfl
    · show ((T.heap.toList.drop T.heap.size).map (·.slots.size)).sum ≤ 0
      rw [List.drop_eq_nil_of_le (Nat.le_of_eq Array.length_toList)]
      exact Nat.le_refl _
/-- 'throw new E()': new; dup; invokespecial; athrow -/
theorem vx_throw0 {cc : ByteArray} {pc : Nat} (hexec : p.tables.exec = Jvm.exec) (hb : c.code = cc) (hl : l.stackTraces = false) {own cls : String} {names : List String} {ik ic mc ms : Nat} {A : Nat → Prop}
    (hown : s.vm.findClass own = some m.cls) (hcls : Bundle.fit cls = true) (hnames : ∀ n ∈ names, Bundle.fit n = true)
    (hk : (Cond.classLink own ik cls).before args s = true) (hini : (Cond.initialized cls).before args s = true) (hat : ∀ w ∈ vx_at0 own ic cls names, w.before args s = true)
    (hgood : ∀ w ∈ Cond.classLink own ik cls :: Cond.initialized cls :: vx_at0 own ic cls names, vx_ot w = true)
    (hU : vx_Zq Bundle.tN "UNASSIGNED_STACK" Bundle.steD A s s.heap) (hN : vx_Zq Bundle.tN "SUPPRESSED_SENTINEL" Bundle.listD A s s.heap) (hS : va_S A s.heap H locs) (hsize : ls.size = c.maxLocals)
    (d0 : decode cc pc = .ok (.new ik, 3)) (d3 : decode cc (pc + 3) = .ok (.dup, 1)) (d4 : decode cc (pc + 4) = .ok (.invokespecial ic, 3)) (d7 : decode cc (pc + 7) = .ok (.athrow, 1))
    (hout : ∀ x ∈ c.exceptionTable.toList, covers x (pc + 7) = false)
    (hRframes : names.length + 3 < R.frames) (hRlocals : (rest.map fun v => v.category).sum + (13 * (names.length + 1) + 42) ≤ R.locals) (hRcells : cells + 1 ≤ R.cells) (hRslots : slots + 6 ≤ R.slots) (hlocks : meth.locks = false)
    (hx : ∀ t : State, s.vm.Alike t.vm → H.size ≤ t.heap.size → (∀ q : Nat, q < H.size → t.heap[q]? = H[q]?) → XC cls s t)
    (hf : ∀ z ∈ locs, free z.base) (hc : cells + 1 ≤ mc) (hs : slots + 6 ≤ ms) :
    W p l e R s m args below meth c H locs cells slots (vx_MQ below Qc XC args s mc ms free) (F0 m pc ls rest) := by
  intro T hT X
  have htr : e.platform.stackTraces = false := (show e.platform.stackTraces = l.stackTraces by rw [X.admits.platform]).trans hl
  have Y := vx_rebase X (R' := { frames := R.frames, locals := R.locals, cells := 1, slots := 6 }) (Nat.le_refl _) (Nat.le_refl _) hRcells hRslots
  obtain ⟨s', hA⟩ : ∃ z, z = (T.setVm s.vm).setFrames (.invoking m args :: below) := ⟨_, rfl⟩
  rw [← hA] at Y
  have hvm : s'.vm = s.vm := by rw [hA]; rfl
  have hhp : s'.heap = H := by rw [hA]; exact hT
  have hW0 : s.WarmedH s'.vm := by rw [hvm]; exact State.WarmedH.refl s
  have hat' : ∀ w ∈ vx_at0 own ic cls names, w.before args s' = true := fun w hw => vx_ot_at hW0 hvm.symm (hgood w (List.mem_cons_of_mem _ (List.mem_cons_of_mem _ hw))) (hat w hw)
  have hk' : (Cond.classLink own ik cls).before args s' = true := vx_ot_at hW0 hvm.symm (hgood _ List.mem_cons_self) hk
  have hini' : (Cond.initialized cls).before args s' = true := vx_ot_at hW0 hvm.symm (hgood _ (List.mem_cons_of_mem _ List.mem_cons_self)) hini
  have hU' : vx_Zq Bundle.tN "UNASSIGNED_STACK" Bundle.steD A s' s'.heap := by rw [hhp]; exact vx_Zq.moved hW0.alike (hU.kept hS.2.1)
  have hN' : vx_Zq Bundle.tN "SUPPRESSED_SENTINEL" Bundle.listD A s' s'.heap := by rw [hhp]; exact vx_Zq.moved hW0.alike (hN.kept hS.2.1)
  have h : ∀ w ∈ Bundle.ownAtoms0 own ic cls names, w.before args s' = true := vx_own hat' (vx_isRefq hU'.1) (vx_isRefq hN'.1) hU'.2.word hN'.2.word
  have hown' : s'.vm.findClass own = some m.cls := by rw [hvm]; exact hown
  have hins : (Cond.instantiable cls 6).before args s' = true := h _ (by simp [Bundle.ownAtoms0])
  obtain ⟨vm₁, cX, kX, hfX, hkX, -, -, X₁, st1⟩ := Y.newCold hexec (own := own) (C := cls) (index := ik) (n := 6) hown' hk' hins hini'
    (g := F0 m pc ls rest) rfl (by rw [hb]; exact d0) (Nat.le_refl _) (Nat.le_refl _)
  generalize hT1 : (T.setVm vm₁).pushCell { cls := cX, slots := kX.instanceTypes.map defaultValue, vm := .none } = T1 at X₁ st1
  have hcat : (Value.ref T.heap.size).category = 1 := rfl
  have hcellA : T1.heap[T.heap.size]? = some (freshCell cX kX) := by rw [← hT1]; exact State.heap_pushCell_size _ _
  have d3' : decode c.code (pc + 3) = .ok (.dup, 1) := by rw [hb]; exact d3
  obtain ⟨U, hsteps, hrun, hend, hW, hsame, ce, hce, hO⟩ := X₁.ctorThrow0 hexec htr (own := own) (cls := cls) (names := names) (ic := ic) hown' hcls hnames h (fun x hx => nomatch hx) hfX hkX hcellA (by rw [hhp, hT]; exact Nat.le_refl _)
    (g := { method := m, pc := pc + 4, locals := ls, stack := .ref T.heap.size :: .ref T.heap.size :: rest, locked := none }) rfl hsize rfl rfl (rest := rest) rfl
    (by rw [hb]; exact d4) (by rw [hb]; exact d7) hout hRframes (by simp only [List.map_cons, List.sum_cons, hcat]; omega) hlocks
  obtain ⟨f1, f2⟩ := vx_frame hsame
  rw [hhp] at f1 f2
  have hWs : s.WarmedH U.vm := State.WarmedH.trans hW0 hW
  have hcl : s.vm.findClass cls = some ce.cls := by
    have h9 := hO.cls
    rw [hvm] at h9
    exact h9
  have hall : s.sameButNew ({ U with vm := s.vm } : State) locs mc ms := by
    subst hA
    obtain ⟨e1, e2⟩ := hsame
    rw [State.setFrames_setFrames] at e1
    have h2 : (T.setVm s.vm).sameButNew ({ U with vm := s.vm } : State) [] (0 + 1) (0 + 6) := ⟨e1, e2⟩
    have h3 := X.same.trans h2
    rw [List.append_nil] at h3
    exact h3.mono hc hs
  refine ⟨U, ?_, .threw T.heap.size, hrun, hend, Or.inr ⟨T.heap.size, rfl, cls, ce, locs, hx U hWs.alike f1 (fun q hq => f2 q hq (fun z hz => nomatch hz)), hce, hO.vm, hcl, hWs, hall, hf⟩⟩
  refine st1 _ ?_
  show Steps p.tables e below (T1.setTop { method := m, pc := pc + 3, locals := ls, stack := .ref T.heap.size :: rest, locked := none }) _
  jvm_step X₁.here [X₁.here.top, hexec, d3', Value.category]
  exact hsteps
/-- 'throw new E("text")': new; dup; ldc; invokespecial; athrow -/
theorem vx_throwS {cc : ByteArray} {pc : Nat} (hexec : p.tables.exec = Jvm.exec) (hb : c.code = cc) (hl : l.stackTraces = false) {own cls text : String} {names : List String} {ik is ic mc ms sa : Nat} {A : Nat → Prop}
    (hown : s.vm.findClass own = some m.cls) (hcls : Bundle.fit cls = true) (hnames : ∀ n ∈ names, Bundle.fit n = true)
    (hk : (Cond.classLink own ik cls).before args s = true) (hini : (Cond.initialized cls).before args s = true) (hstr : vk_R own is text sa s) (hat : ∀ w ∈ vx_atS own ic cls names, w.before args s = true)
    (hgood : ∀ w ∈ Cond.classLink own ik cls :: Cond.initialized cls :: vx_atS own ic cls names, vx_ot w = true)
    (hU : vx_Zq Bundle.tN "UNASSIGNED_STACK" Bundle.steD A s s.heap) (hN : vx_Zq Bundle.tN "SUPPRESSED_SENTINEL" Bundle.listD A s s.heap) (hS : va_S A s.heap H locs) (hsize : ls.size = c.maxLocals)
    (d0 : decode cc pc = .ok (.new ik, 3)) (d3 : decode cc (pc + 3) = .ok (.dup, 1)) (d4 : decode cc (pc + 4) = .ok (.ldc is, 2)) (d6 : decode cc (pc + 6) = .ok (.invokespecial ic, 3)) (d9 : decode cc (pc + 9) = .ok (.athrow, 1))
    (hout : ∀ x ∈ c.exceptionTable.toList, covers x (pc + 9) = false)
    (hRframes : names.length + 3 < R.frames) (hRlocals : (rest.map fun v => v.category).sum + (13 * (names.length + 1) + 43) ≤ R.locals) (hRcells : cells + 1 ≤ R.cells) (hRslots : slots + 6 ≤ R.slots) (hlocks : meth.locks = false)
    (hx : ∀ t : State, s.vm.Alike t.vm → H.size ≤ t.heap.size → (∀ q : Nat, q < H.size → t.heap[q]? = H[q]?) → XC cls s t)
    (hf : ∀ z ∈ locs, free z.base) (hc : cells + 1 ≤ mc) (hs : slots + 6 ≤ ms) :
    W p l e R s m args below meth c H locs cells slots (vx_MQ below Qc XC args s mc ms free) (F0 m pc ls rest) := by
  intro T hT X
  have htr : e.platform.stackTraces = false := (show e.platform.stackTraces = l.stackTraces by rw [X.admits.platform]).trans hl
  have Y := vx_rebase X (R' := { frames := R.frames, locals := R.locals, cells := 1, slots := 6 }) (Nat.le_refl _) (Nat.le_refl _) hRcells hRslots
  obtain ⟨s', hA⟩ : ∃ z, z = (T.setVm s.vm).setFrames (.invoking m args :: below) := ⟨_, rfl⟩
  rw [← hA] at Y
  have hvm : s'.vm = s.vm := by rw [hA]; rfl
  have hhp : s'.heap = H := by rw [hA]; exact hT
  have hW0 : s.WarmedH s'.vm := by rw [hvm]; exact State.WarmedH.refl s
  have hat' : ∀ w ∈ vx_atS own ic cls names, w.before args s' = true := fun w hw => vx_ot_at hW0 hvm.symm (hgood w (List.mem_cons_of_mem _ (List.mem_cons_of_mem _ hw))) (hat w hw)
  have hk' : (Cond.classLink own ik cls).before args s' = true := vx_ot_at hW0 hvm.symm (hgood _ List.mem_cons_self) hk
  have hini' : (Cond.initialized cls).before args s' = true := vx_ot_at hW0 hvm.symm (hgood _ (List.mem_cons_of_mem _ List.mem_cons_self)) hini
  have hU' : vx_Zq Bundle.tN "UNASSIGNED_STACK" Bundle.steD A s' s'.heap := by rw [hhp]; exact vx_Zq.moved hW0.alike (hU.kept hS.2.1)
  have hN' : vx_Zq Bundle.tN "SUPPRESSED_SENTINEL" Bundle.listD A s' s'.heap := by rw [hhp]; exact vx_Zq.moved hW0.alike (hN.kept hS.2.1)
  have h : ∀ w ∈ Bundle.ownAtoms own ic cls names, w.before args s' = true := vx_own hat' (vx_isRefq hU'.1) (vx_isRefq hN'.1) hU'.2.word hN'.2.word
  have hown' : s'.vm.findClass own = some m.cls := by rw [hvm]; exact hown
  have hins : (Cond.instantiable cls 6).before args s' = true := h _ (by simp [Bundle.ownAtoms])
  obtain ⟨vm₁, cX, kX, hfX, hkX, -, -, X₁, st1⟩ := Y.newCold hexec (own := own) (C := cls) (index := ik) (n := 6) hown' hk' hins hini'
    (g := F0 m pc ls rest) rfl (by rw [hb]; exact d0) (Nat.le_refl _) (Nat.le_refl _)
  generalize hT1 : (T.setVm vm₁).pushCell { cls := cX, slots := kX.instanceTypes.map defaultValue, vm := .none } = T1 at X₁ st1
  have hcat : (Value.ref T.heap.size).category = 1 := rfl
  have hcellA : T1.heap[T.heap.size]? = some (freshCell cX kX) := by rw [← hT1]; exact State.heap_pushCell_size _ _
  have d3' : decode c.code (pc + 3) = .ok (.dup, 1) := by rw [hb]; exact d3
  have d4' : decode c.code (pc + 4) = .ok (.ldc is, 2) := by rw [hb]; exact d4
  have hstr' : vk_R own is text sa s' := vk_R.warm hW0 hstr
  obtain ⟨U, hsteps, hrun, hend, hW, hsame, ce, hce, hO⟩ := X₁.ctorThrowS hexec htr (own := own) (cls := cls) (names := names) (ic := ic) hown' hcls hnames h (fun x hx => nomatch hx) hfX hkX hcellA (by rw [hhp, hT]; exact Nat.le_refl _) (msg := .ref sa) rfl
    (g := { method := m, pc := pc + 6, locals := ls, stack := .ref sa :: .ref T.heap.size :: .ref T.heap.size :: rest, locked := none }) rfl hsize rfl rfl (rest := rest) rfl
    (by rw [hb]; exact d6) (by rw [hb]; exact d9) hout hRframes (by simp only [List.map_cons, List.sum_cons, hcat]; omega) hlocks
  obtain ⟨f1, f2⟩ := vx_frame hsame
  rw [hhp] at f1 f2
  have hWs : s.WarmedH U.vm := State.WarmedH.trans hW0 hW
  have hcl : s.vm.findClass cls = some ce.cls := by
    have h9 := hO.cls
    rw [hvm] at h9
    exact h9
  have hall : s.sameButNew ({ U with vm := s.vm } : State) locs mc ms := by
    subst hA
    obtain ⟨e1, e2⟩ := hsame
    rw [State.setFrames_setFrames] at e1
    have h2 : (T.setVm s.vm).sameButNew ({ U with vm := s.vm } : State) [] (0 + 1) (0 + 6) := ⟨e1, e2⟩
    have h3 := X.same.trans h2
    rw [List.append_nil] at h3
    exact h3.mono hc hs
  refine ⟨U, ?_, .threw T.heap.size, hrun, hend, Or.inr ⟨T.heap.size, rfl, cls, ce, locs, hx U hWs.alike f1 (fun q hq => f2 q hq (fun z hz => nomatch hz)), hce, hO.vm, hcl, hWs, hall, hf⟩⟩
  refine st1 _ ?_
  show Steps p.tables e below (T1.setTop { method := m, pc := pc + 3, locals := ls, stack := .ref T.heap.size :: rest, locked := none }) _
  jvm_step X₁.here [X₁.here.top, hexec, d3', Value.category]
  exact X₁.ldcString hexec (own := own) (text := text) (index := is) (a := sa) hown' hstr'.1 hstr'.2
    (g := { method := m, pc := pc + 4, locals := ls, stack := .ref T.heap.size :: .ref T.heap.size :: rest, locked := none }) rfl d4' _ hsteps
/-- 'throw new E("text")', the text by a wide index -/
theorem vx_throwSW {cc : ByteArray} {pc : Nat} (hexec : p.tables.exec = Jvm.exec) (hb : c.code = cc) (hl : l.stackTraces = false) {own cls text : String} {names : List String} {ik is ic mc ms sa : Nat} {A : Nat → Prop}
    (hown : s.vm.findClass own = some m.cls) (hcls : Bundle.fit cls = true) (hnames : ∀ n ∈ names, Bundle.fit n = true)
    (hk : (Cond.classLink own ik cls).before args s = true) (hini : (Cond.initialized cls).before args s = true) (hstr : vk_R own is text sa s) (hat : ∀ w ∈ vx_atS own ic cls names, w.before args s = true)
    (hgood : ∀ w ∈ Cond.classLink own ik cls :: Cond.initialized cls :: vx_atS own ic cls names, vx_ot w = true)
    (hU : vx_Zq Bundle.tN "UNASSIGNED_STACK" Bundle.steD A s s.heap) (hN : vx_Zq Bundle.tN "SUPPRESSED_SENTINEL" Bundle.listD A s s.heap) (hS : va_S A s.heap H locs) (hsize : ls.size = c.maxLocals)
    (d0 : decode cc pc = .ok (.new ik, 3)) (d3 : decode cc (pc + 3) = .ok (.dup, 1)) (d4 : decode cc (pc + 4) = .ok (.ldc_w is, 3)) (d7 : decode cc (pc + 7) = .ok (.invokespecial ic, 3)) (d10 : decode cc (pc + 10) = .ok (.athrow, 1))
    (hout : ∀ x ∈ c.exceptionTable.toList, covers x (pc + 10) = false)
    (hRframes : names.length + 3 < R.frames) (hRlocals : (rest.map fun v => v.category).sum + (13 * (names.length + 1) + 43) ≤ R.locals) (hRcells : cells + 1 ≤ R.cells) (hRslots : slots + 6 ≤ R.slots) (hlocks : meth.locks = false)
    (hx : ∀ t : State, s.vm.Alike t.vm → H.size ≤ t.heap.size → (∀ q : Nat, q < H.size → t.heap[q]? = H[q]?) → XC cls s t)
    (hf : ∀ z ∈ locs, free z.base) (hc : cells + 1 ≤ mc) (hs : slots + 6 ≤ ms) :
    W p l e R s m args below meth c H locs cells slots (vx_MQ below Qc XC args s mc ms free) (F0 m pc ls rest) := by
  intro T hT X
  have htr : e.platform.stackTraces = false := (show e.platform.stackTraces = l.stackTraces by rw [X.admits.platform]).trans hl
  have Y := vx_rebase X (R' := { frames := R.frames, locals := R.locals, cells := 1, slots := 6 }) (Nat.le_refl _) (Nat.le_refl _) hRcells hRslots
  obtain ⟨s', hA⟩ : ∃ z, z = (T.setVm s.vm).setFrames (.invoking m args :: below) := ⟨_, rfl⟩
  rw [← hA] at Y
  have hvm : s'.vm = s.vm := by rw [hA]; rfl
  have hhp : s'.heap = H := by rw [hA]; exact hT
  have hW0 : s.WarmedH s'.vm := by rw [hvm]; exact State.WarmedH.refl s
  have hat' : ∀ w ∈ vx_atS own ic cls names, w.before args s' = true := fun w hw => vx_ot_at hW0 hvm.symm (hgood w (List.mem_cons_of_mem _ (List.mem_cons_of_mem _ hw))) (hat w hw)
  have hk' : (Cond.classLink own ik cls).before args s' = true := vx_ot_at hW0 hvm.symm (hgood _ List.mem_cons_self) hk
  have hini' : (Cond.initialized cls).before args s' = true := vx_ot_at hW0 hvm.symm (hgood _ (List.mem_cons_of_mem _ List.mem_cons_self)) hini
  have hU' : vx_Zq Bundle.tN "UNASSIGNED_STACK" Bundle.steD A s' s'.heap := by rw [hhp]; exact vx_Zq.moved hW0.alike (hU.kept hS.2.1)
  have hN' : vx_Zq Bundle.tN "SUPPRESSED_SENTINEL" Bundle.listD A s' s'.heap := by rw [hhp]; exact vx_Zq.moved hW0.alike (hN.kept hS.2.1)
  have h : ∀ w ∈ Bundle.ownAtoms own ic cls names, w.before args s' = true := vx_own hat' (vx_isRefq hU'.1) (vx_isRefq hN'.1) hU'.2.word hN'.2.word
  have hown' : s'.vm.findClass own = some m.cls := by rw [hvm]; exact hown
  have hins : (Cond.instantiable cls 6).before args s' = true := h _ (by simp [Bundle.ownAtoms])
  obtain ⟨vm₁, cX, kX, hfX, hkX, -, -, X₁, st1⟩ := Y.newCold hexec (own := own) (C := cls) (index := ik) (n := 6) hown' hk' hins hini'
    (g := F0 m pc ls rest) rfl (by rw [hb]; exact d0) (Nat.le_refl _) (Nat.le_refl _)
  generalize hT1 : (T.setVm vm₁).pushCell { cls := cX, slots := kX.instanceTypes.map defaultValue, vm := .none } = T1 at X₁ st1
  have hcat : (Value.ref T.heap.size).category = 1 := rfl
  have hcellA : T1.heap[T.heap.size]? = some (freshCell cX kX) := by rw [← hT1]; exact State.heap_pushCell_size _ _
  have d3' : decode c.code (pc + 3) = .ok (.dup, 1) := by rw [hb]; exact d3
  have d4' : decode c.code (pc + 4) = .ok (.ldc_w is, 3) := by rw [hb]; exact d4
  have hstr' : vk_R own is text sa s' := vk_R.warm hW0 hstr
  obtain ⟨U, hsteps, hrun, hend, hW, hsame, ce, hce, hO⟩ := X₁.ctorThrowS hexec htr (own := own) (cls := cls) (names := names) (ic := ic) hown' hcls hnames h (fun x hx => nomatch hx) hfX hkX hcellA (by rw [hhp, hT]; exact Nat.le_refl _) (msg := .ref sa) rfl
    (g := { method := m, pc := pc + 7, locals := ls, stack := .ref sa :: .ref T.heap.size :: .ref T.heap.size :: rest, locked := none }) rfl hsize rfl rfl (rest := rest) rfl
    (by rw [hb]; exact d7) (by rw [hb]; exact d10) hout hRframes (by simp only [List.map_cons, List.sum_cons, hcat]; omega) hlocks
  obtain ⟨f1, f2⟩ := vx_frame hsame
  rw [hhp] at f1 f2
  have hWs : s.WarmedH U.vm := State.WarmedH.trans hW0 hW
  have hcl : s.vm.findClass cls = some ce.cls := by
    have h9 := hO.cls
    rw [hvm] at h9
    exact h9
  have hall : s.sameButNew ({ U with vm := s.vm } : State) locs mc ms := by
    subst hA
    obtain ⟨e1, e2⟩ := hsame
    rw [State.setFrames_setFrames] at e1
    have h2 : (T.setVm s.vm).sameButNew ({ U with vm := s.vm } : State) [] (0 + 1) (0 + 6) := ⟨e1, e2⟩
    have h3 := X.same.trans h2
    rw [List.append_nil] at h3
    exact h3.mono hc hs
  refine ⟨U, ?_, .threw T.heap.size, hrun, hend, Or.inr ⟨T.heap.size, rfl, cls, ce, locs, hx U hWs.alike f1 (fun q hq => f2 q hq (fun z hz => nomatch hz)), hce, hO.vm, hcl, hWs, hall, hf⟩⟩
  refine st1 _ ?_
  show Steps p.tables e below (T1.setTop { method := m, pc := pc + 3, locals := ls, stack := .ref T.heap.size :: rest, locked := none }) _
  jvm_step X₁.here [X₁.here.top, hexec, d3', Value.category]
  exact X₁.ldcStringW hexec (own := own) (text := text) (index := is) (a := sa) hown' hstr'.1 hstr'.2
    (g := { method := m, pc := pc + 4, locals := ls, stack := .ref T.heap.size :: .ref T.heap.size :: rest, locked := none }) rfl d4' _ hsteps
end Ends
section Bodies
variable {l : Launch}
theorem vx_ofW {y : MethodName} {ws ws' : List Cond} {rm : Room} {Pc : Array Value → State → Prop} {Qc : Array Value → State → Outcome → State → Prop} {XC : String → State → State → Prop} {mc ms : Nat} {free : Addr → Prop} {cc : ByteArray} {maxL : Nat} {ret : Option FieldType}
    (hy : plainName y.cls = true) (hw : ws = Cond.code y cc maxL ret :: ws')
    (body : ∀ p e s m args below meth c s₁, BodyLoose p l y (headSpec ws rm) cc maxL ret e s m args below meth c s₁ → c.maxLocals = maxL → (∀ x ∈ c.exceptionTable.toList, False) → Pc args s →
      W p l e (headSpec ws rm).room s m args below meth c s.heap [] 0 0 (vx_MQ below Qc XC args s mc ms free) (entryFrame m args maxL)) : vx_Met l y ws rm Pc Qc XC mc ms free := by
  refine MetFree.of_bodyS (code := cc) (maxLocals := maxL) (ret := ret) hy ?_ ?_
  · intro args s m h hn
    obtain ⟨meth, c, h1, h2, h3, h4, h5, h6, -, -⟩ := Cond.code_spec hn (atoms_spec (ws := ws) h _ (by rw [hw]; exact List.mem_cons_self))
    exact ⟨meth, c, h1, h2, h3, h4, h5, h6⟩
  · intro p e s m args below meth c s₁ B hml hP _
    have hh0 : s₁.heap = s.heap := by rw [B.state]; rfl
    have ht : ∀ x ∈ c.exceptionTable.toList, False := by
      obtain ⟨meth9, c9, h1, h2, -, -, -, -, h7, -⟩ := Cond.code_spec B.named (atoms_spec (ws := ws) B.pre _ (by rw [hw]; exact List.mem_cons_self))
      cases Option.some.inj (h1.symm.trans B.method)
      cases Option.some.inj (h2.symm.trans (Stand.of_body B).code)
      intro x hx
      rw [Array.isEmpty_iff.mp h7] at hx
      cases hx
    obtain ⟨t, a1, o, b1, b2, b3⟩ := body p e s m args below meth c s₁ B hml ht hP s₁ hh0 (Stand.of_body B)
    exact ⟨t, o, a1, b1, b2, b3⟩
/-- the table of a body with handlers -/
theorem vx_table {p : Program} {x y : MethodName} {S : Spec} {cc bytes : ByteArray} {maxL maxL' : Nat} {ret ret' : Option FieldType} {e : Env} {s s₁ : State} {m : MethodId} {args : Array Value} {below : List Frame} {meth : Method} {c : Code} {hh : List (Nat × Nat × Nat × Nat)}
    (B : BodyLoose p l y S cc maxL ret e s m args below meth c s₁) (h : (Cond.codeWith y bytes maxL' ret' hh).before args s = true) : c.exceptionTable.toList = tableOf hh := by
  obtain ⟨m9, meth9, c9, hn9, h1, h2, -, -, h6, -⟩ := Cond.codeWith_spec h
  cases Option.some.inj (hn9.symm.trans B.named)
  cases Option.some.inj (h1.symm.trans B.method)
  cases Option.some.inj (h2.symm.trans (Stand.of_body B).code)
  rw [← h6, table_eq]
end Bodies
end VXA
/-! ===== END ===== -/
/-! ===== BEGIN a static call of a method with an exception table ===== -/
section VXS
variable {p : Program} {l : Launch} {e : Env} {R : Room} {s : State} {m : MethodId} {args : Array Value} {below : List Frame} {meth : Method} {c : Code} {T : State} {H : Heap} {locs : List Loc} {cells slots : Nat}
abbrev vx_CSW (R : Room) (s : State) (args : Array Value) (own : String) (index : Nat) (y : MethodName) (bytes : ByteArray) (maxL : Nat) (ret : Option FieldType) (hh : List (Nat × Nat × Nat × Nat)) (ws : List Cond) (rm : Room) (mc ms n : Nat) : Prop :=
  (rm.cells = mc ∧ rm.slots = ms ∧ rm.frames + 1 ≤ R.frames ∧ 8 + (maxL + 11) + rm.locals ≤ R.locals ∧ (∀ w ∈ ws, ∀ (a' : Array Value) (U : State), s.WarmedH U.vm → w.before a' U = true) ∧ Cond.codeWith y bytes maxL ret hh ∈ ws) ∧
  (Cond.codeWith y bytes maxL ret hh).before args s = true ∧ (Cond.initialized y.cls).before args s = true ∧ (y.cls ≠ "java/lang/invoke/MethodHandle" ∧ y.cls ≠ "java/lang/invoke/VarHandle") ∧
  (∀ sig, parseMethodDescriptor y.desc = some sig → n = sig.parameters.length) ∧ (Cond.methodLink own index y).before args s = true ∧ (Cond.static y).before args s = true
theorem vx_cwSW {own : String} {index maxL mc ms : Nat} {y : MethodName} {bytes : ByteArray} {ret : Option FieldType} {hh : List (Nat × Nat × Nat × Nat)} {Ts ws ws' : List Cond} {rm : Room} (n : Nat) (ht : ∀ w ∈ Ts, w.before args s = true) (hT : GoodIn Ts (va_wsS own index y ws)) (hw : ws = Cond.codeWith y bytes maxL ret hh :: ws') (hrc : rm.cells = mc) (hrs : rm.slots = ms)
    (hd : y.cls ≠ "java/lang/invoke/MethodHandle" ∧ y.cls ≠ "java/lang/invoke/VarHandle" ∧ (parseMethodDescriptor y.desc).map (fun d => d.parameters.length) = some n) (hR : rm.frames + 1 ≤ R.frames ∧ 8 + (maxL + 11) + rm.locals ≤ R.locals) :
    vx_CSW R s args own index y bytes maxL ret hh ws rm mc ms n := by
  have ok : ∀ w ∈ va_wsS own index y ws, w.before args s = true := fun w h => ht w (hT w h).1
  have hG : GoodIn Ts ws := fun w h => hT w (by unfold va_wsS; exact List.mem_append_right _ h)
  have hc : Cond.codeWith y bytes maxL ret hh ∈ ws := by rw [hw]; exact List.mem_cons_self
  refine ⟨⟨hrc, hrs, hR.1, hR.2, pay_in ht hG, hc⟩, ht _ (hG _ hc).1, ok _ (by simp [va_wsS]), ⟨hd.1, hd.2.1⟩, fun sig h => ?_, ok _ (by simp [va_wsS]), ok _ (by simp [va_wsS])⟩
  have h2 := hd.2.2
  rw [h] at h2
  exact (Option.some.inj h2).symm
theorem vx_callSW (X : Stand p l e R s m args below meth c T locs cells slots) (hexec : p.tables.exec = Jvm.exec) {own : String} {index : Nat} {y : MethodName} {bytes : ByteArray} {maxL : Nat} {ret : Option FieldType} {hh : List (Nat × Nat × Nat × Nat)}
    (hown : s.vm.findClass own = some m.cls) (hlink : (Cond.methodLink own index y).before args s = true) (hstat : (Cond.static y).before args s = true) (hinit : (Cond.initialized y.cls).before args s = true)
    (hcode : (Cond.codeWith y bytes maxL ret hh).before args s = true) (hy : y.cls ≠ "java/lang/invoke/MethodHandle" ∧ y.cls ≠ "java/lang/invoke/VarHandle")
    {W9 : Nat} {Pre : Pt → Array Value → Prop} {Post : Pt → Array Value → Option Value → Pt → Prop} (hK : Back l R p e below s args y 3 W9 Pre Post)
    {g : JFrame} (hg : g.method = m) (hsize : g.locals.size = c.maxLocals) {argsL rest : List Value} (hlen : ∀ sig, parseMethodDescriptor y.desc = some sig → argsL.length = sig.parameters.length)
    (hstack : g.stack = argsL.reverse ++ rest) (hW : 2 * g.monitorRoom + (rest.map fun v => v.category).sum ≤ W9) (hdg : decode c.code g.pc = .ok (.invokestatic index, 3))
    (hpre : ∀ vm₁, s.WarmedH vm₁ → Pre ⟨T.setVm vm₁, locs, cells, slots⟩ argsL.toArray) :
    ∃ (v : Option Value) (vm₁ : Vm) (B : Pt), s.WarmedH vm₁ ∧ Stand p l e R s m args below meth c B.U B.locs B.cells B.slots ∧ Post ⟨T.setVm vm₁, locs, cells, slots⟩ argsL.toArray v B ∧
      ∀ target, Steps p.tables e below (B.U.setTop { g with pc := g.pc + 3, stack := v.toList ++ rest }) target → Steps p.tables e below (T.setTop g) target := by
  obtain ⟨mk, methM, cM, hnamed, hmethM, -, -, -, -, -, -, hsigM⟩ := Cond.codeWith_spec hcode
  have hstatic : methM.isStatic = true := Cond.static_spec hnamed hmethM hstat
  obtain ⟨kP, hkP, -⟩ := className_of_methodNamed hnamed
  have hinitP : kP.init = .initialized := Cond.initialized_spec (findClass_of_methodNamed hnamed) hkP hinit
  obtain ⟨vm₁, X₁, hstep₁⟩ := X.invokestatic hexec hown hlink hnamed hmethM hstatic hkP hinitP hy (g := g) hg (argsL := argsL) (rest := rest) (hlen _ hsigM) hstack hdg
  obtain ⟨v, B, X', hpost, hsteps⟩ := hK m meth c ⟨T.setVm vm₁, locs, cells, slots⟩ { g with stack := rest } (.invokestatic index) mk argsL.toArray X₁ hg hsize hdg hW (X₁.named hnamed) (hpre vm₁ X₁.warmed)
  exact ⟨v, vm₁, B, X₁.warmed, X', hpost, fun target h => hstep₁ _ fun acts => by rw [doInvoke_state]; exact hsteps.trans h⟩
theorem vx_runSW {y : MethodName} {bytes cc : ByteArray} {maxL nL mc ms n index : Nat} {ret : Option FieldType} {hh : List (Nat × Nat × Nat × Nat)} {ws : List Cond} {rm : Room} {Pc : Array Value → State → Prop} {Qc : Array Value → State → Outcome → State → Prop} {free : Addr → Prop} {Ts : List Cond} {own : String} {As rest : List Value} {g : JFrame}
    (S : CallFix p m c cc nL s args Ts own) (hM : Met l y ws rm Pc Qc mc ms free) (cw : vx_CSW R s args own index y bytes maxL ret hh ws rm mc ms n) (hp : PreS s H Pc As)
    (hg : g.method = m) (hn : As.length = n) (hsize : g.locals.size = nL) (hstack : g.stack = As.reverse ++ rest) (hW : 2 * g.monitorRoom + (rest.map fun v => v.category).sum ≤ 8) (hdg : decode cc g.pc = .ok (.invokestatic index, 3)) (hf : cells + mc ≤ R.cells ∧ slots + ms ≤ R.slots) :
    va_Run p l e R s m args below meth c H locs cells slots mc ms g rest (Qc As.toArray) (free) := by
  obtain ⟨⟨hrc, hrs, hfr, hlo, hws, hcw⟩, hcode, hini, hy, hlen, hl, hstt⟩ := cw
  have hK : Back l R p e below s args y 3 8 (PreOf R mc ms Pc) (PostOf Qc mc ms free) := va_backW (hh := hh) (bytes := bytes) (maxL := maxL) (ret := ret) hM hp.1 hrc hrs hfr hlo hws hcw (fun a' U hW => word_at hW (Or.inl (by first | rfl | simp [Cond.onTables, Cond.keeps, Cond.steady])) hini)
  obtain ⟨hx, hb, hml, ho, -⟩ := S
  intro T hT X
  obtain ⟨v, vm₁, ⟨U', l2, c2, s2⟩, hW₁, X', ⟨g', mk, t, L, e1, e2, hq, h1, hL, h2, h3⟩, st⟩ := vx_callSW X hx (hh := hh) (bytes := bytes) (maxL := maxL) (ret := ret) ho hl hstt hini hcode hy hK hg (hsize.trans hml.symm) (argsL := As) (rest := rest) (fun sig h => hn.trans (hlen sig h)) hstack hW (by rw [hb]; exact hdg)
    (fun vm₁ hW₁ => ⟨hf.1, hf.2, hp.2 (T.setVm vm₁) hT hW₁⟩)
  dsimp only [Pt.U, Pt.locs, Pt.cells, Pt.slots] at X' e1 e2 h1 h2 h3 st
  subst h1; subst h2; subst h3
  exact ⟨v, (T.setVm vm₁).calling g' mk As.toArray, t, U', L, hT, X', hL, e1, e2, hq, st⟩
/-- a thing of a world lies in the heap -/
theorem vx_lt {D : va_G} {cl : List vw_C} {ws : va_W} {H1 : Heap} (h : va_P D cl ws H1) {k : Nat} {q : Nat × va_E} (hk : ws[k]? = some q) : q.1 < H1.size := (h k q hk).lt
end VXS
/-! ===== END ===== -/
/-! ===== BEGIN methods with a table of their own: called by a name, returning or throwing ===== -/
section VXH
/-! vx_backW, vx_callVX, vx_callSX, vx_callVW, vx_runVW, vx_runVX, vx_runSX, vx_ofWH follow the same proofs as their sisters above (Free/Laws.lean, Shelf42/LK1.lean); vx_outP calls Shelf42/NT130.lean (outThrough). -/
section
variable {l : Launch} {R : Room} {p : Program} {e : Env} {below : List Frame} {s : State} {sargs : Array Value} {y : MethodName} {len W9 : Nat}
theorem vx_backW {ws : List Cond} {rm : Room} {Pc : Array Value → State → Prop} {Qc : Array Value → State → Outcome → State → Prop} {XC : String → State → State → Prop} {mc ms : Nat} {free : Addr → Prop} {bytes : ByteArray} {maxL : Nat} {ret : Option FieldType} {hh : List (Nat × Nat × Nat × Nat)}
    (hM : vx_Met l y ws rm Pc Qc XC mc ms free) (hblind : FrameBlind Pc) (hrc : rm.cells = mc) (hrs : rm.slots = ms)
    (hframes : rm.frames + 1 ≤ R.frames) (hlocals : W9 + (maxL + 11) + rm.locals ≤ R.locals)
    (hws : ∀ w ∈ ws, ∀ a' U, s.WarmedH U.vm → w.before a' U = true) (hcode : Cond.codeWith y bytes maxL ret hh ∈ ws) (hinit : ∀ a' U, s.WarmedH U.vm → (Cond.initialized y.cls).before a' U = true) :
    vx_Back l R p e below s sargs y len W9 (PreOf R mc ms Pc) (PostOf Qc mc ms free) (vx_Post XC mc ms free) := by
  intro m meth c A g ig mk a X hg hsize hdg hW hn hp
  have h1 : (headSpec ws rm).pre.before a A.U = true := atoms_intro fun w hw => hws w hw _ _ X.warmed
  have h2 : (Cond.codeWith y bytes maxL ret hh).before a A.U = true := hws _ hcode _ _ X.warmed
  have h3 : (Cond.initialized y.cls).before a A.U = true := hinit _ _ X.warmed
  have h4 : A.cells + (headSpec ws rm).room.cells ≤ R.cells := by rw [show (headSpec ws rm).room.cells = mc from hrc]; exact hp.1
  have h5 : A.slots + (headSpec ws rm).room.slots ≤ R.slots := by rw [show (headSpec ws rm).room.slots = ms from hrs]; exact hp.2.1
  have hPc : Pc a (A.U.calling g mk a) := hblind _ _ _ _ hp.2.2
  obtain ⟨U, Ls, c0, s0⟩ := A
  dsimp only [Pt.U, Pt.locs, Pt.cells, Pt.slots] at h1 h2 h3 h4 h5 X hn hPc ⊢
  obtain ⟨m9, methY, cY, hn9, hmY, hcY, -, hlY, -⟩ := Cond.codeWith_spec h2
  cases Option.some.inj (hn9.symm.trans hn)
  obtain ⟨kY, hkY, -⟩ := className_of_methodNamed hn
  have hinitY : kY.init = .initialized := Cond.initialized_spec (findClass_of_methodNamed hn) hkY h3
  have h : At U g.method c below := by rw [hg]; exact X.here
  have hlocals9 : W9 + (maxL + 11) + (headSpec ws rm).room.locals ≤ R.locals := hlocals
  have happ : (headSpec ws rm).appliesLoose y e.platform (U.calling g mk a) = true :=
    Spec.appliesLoose_calling (g := g) h hdg hn hkY hinitY
      (X.room_calling (g := g) (R' := (headSpec ws rm).room) hsize hmY hcY hframes (by rw [hlY]; omega) h4 h5) h1
  obtain ⟨mid, hmid⟩ := h.above
  have hfr : (U.setTop g).frames = (.java g :: mid) ++ below := by rw [State.frames_setTop' g h.top, hmid]; rfl
  obtain ⟨o, s₂, hsteps, -, hend, hq⟩ := Steps.callFree hM p X.admits X.cas X.clock (acts := []) hfr happ hPc trivial
  have hq' : vx_Q Qc XC mc ms free a (U.calling g mk a) o s₂ := hq
  rw [State.frames_setTop' g h.top] at hend
  obtain ⟨g₀, hg0⟩ := Option.isSome_iff_exists.mp h.top
  obtain ⟨r, hr⟩ := State.topJava?_eq_some.mp hg0
  have hr' : (({ U with heap := s₂.heap, slotsUsed := s₂.slotsUsed } : State).setVm s₂.vm).frames = .java g₀ :: r := hr
  rcases hq' with ⟨hqc, L, hfe, hL⟩ | ⟨q, rfl, E, ce, L, hx, hce, hcv, hcl, hW₂, hsm, hL⟩
  · obtain ⟨⟨v, rfl⟩, hW₂, e2, q2, q3, q4, q5, q6⟩ := id hfe
    have e3 : s₂ = ({ (U.calling g mk a).setFrames s₂.frames with heap := s₂.heap, slotsUsed := s₂.slotsUsed } : State).setVm s₂.vm := by
      have : s₂ = ({ s₂ with vm := (U.calling g mk a).vm } : State).setVm s₂.vm := rfl
      rw [e2] at this
      exact this
    obtain ⟨c₂, i₂, len₂, hc₂, hd₂, hf₂⟩ := hend
    have hW' : U.WarmedH s₂.vm := hW₂
    have hcc : c₂ = c := by
      have h1 : s₂.code? g.method = U.code? g.method := by
        rw [State.code?_eq, State.code?_eq, hW'.alike.method?]
      exact Option.some.inj (hc₂.symm.trans (h1.trans h.code))
    subst hcc
    have hlen : len₂ = len := by rw [hdg] at hd₂; cases hd₂; rfl
    subst hlen
    have hs₂ : s₂ = (({ U with heap := s₂.heap, slotsUsed := s₂.slotsUsed } : State).setVm s₂.vm).setTop { g with pc := g.pc + len₂, stack := v.toList ++ g.stack } := by
      refine e3.trans ?_
      rw [hf₂, State.calling_eq h.top, State.setFrames_setFrames, State.setTop_of_frames _ hr', hr]
      rfl
    have hsame : U.sameButNew ({ U with heap := s₂.heap, slotsUsed := s₂.slotsUsed } : State) L mc ms := by
      refine ⟨?_, q2, q3, q4, q5, q6⟩
      obtain ⟨t, ht, -⟩ := State.frames_cons hr
      show ({ U with heap := s₂.heap, slotsUsed := s₂.slotsUsed } : State) = { U.setFrames U.frames with heap := s₂.heap, slotsUsed := s₂.slotsUsed }
      rw [State.setFrames_self ht]
    subst hg
    refine Or.inl ⟨v, ⟨(({ U with heap := s₂.heap, slotsUsed := s₂.slotsUsed } : State).setVm s₂.vm), Ls ++ L, c0 + mc, s0 + ms⟩,
      ⟨X.admits, X.cas, X.clock, X.frames, X.room, X.hears, X.method, X.code, (X.here.setHeapUsed s₂.heap s₂.slotsUsed).setVm hW'.alike, X.tail, State.WarmedH.trans X.warmed hW', X.limits, X.bytes, X.same.trans (hsame.setVm s.vm)⟩,
      ⟨g, mk, s₂, L, rfl, rfl, hqc, rfl, hL, rfl, rfl⟩, ?_⟩
    show Steps p.tables e below _ ((({ U with heap := s₂.heap, slotsUsed := s₂.slotsUsed } : State).setVm s₂.vm).setTop { g with pc := g.pc + len₂, stack := v.toList ++ g.stack })
    rw [← hs₂]
    exact hsteps
  · obtain ⟨e2, q2, q3, q4, q5, q6⟩ := id hsm
    have e3 : s₂ = ({ (U.calling g mk a).setFrames s₂.frames with heap := s₂.heap, slotsUsed := s₂.slotsUsed } : State).setVm s₂.vm := by
      have : s₂ = ({ s₂ with vm := (U.calling g mk a).vm } : State).setVm s₂.vm := rfl
      rw [e2] at this
      exact this
    have hf₂ : s₂.frames = .throwing q :: .java g :: U.frames.tail := hend
    have hW' : U.WarmedH s₂.vm := hW₂
    have hs₂ : s₂ = ((({ U with heap := s₂.heap, slotsUsed := s₂.slotsUsed } : State).setVm s₂.vm).setTop g).pushFrame (.throwing q) := by
      refine e3.trans ?_
      rw [hf₂, State.calling_eq h.top, State.setFrames_setFrames, State.pushFrame, State.frames_setTop _ hr', State.setTop_of_frames _ hr', State.setFrames_setFrames, hr]
      rfl
    have hsame : U.sameButNew ({ U with heap := s₂.heap, slotsUsed := s₂.slotsUsed } : State) L mc ms := by
      refine ⟨?_, q2, q3, q4, q5, q6⟩
      obtain ⟨t, ht, -⟩ := State.frames_cons hr
      show ({ U with heap := s₂.heap, slotsUsed := s₂.slotsUsed } : State) = { U.setFrames U.frames with heap := s₂.heap, slotsUsed := s₂.slotsUsed }
      rw [State.setFrames_self ht]
    subst hg
    refine Or.inr ⟨q, ⟨(({ U with heap := s₂.heap, slotsUsed := s₂.slotsUsed } : State).setVm s₂.vm), Ls ++ L, c0 + mc, s0 + ms⟩,
      ⟨X.admits, X.cas, X.clock, X.frames, X.room, X.hears, X.method, X.code, (X.here.setHeapUsed s₂.heap s₂.slotsUsed).setVm hW'.alike, X.tail, State.WarmedH.trans X.warmed hW', X.limits, X.bytes, X.same.trans (hsame.setVm s.vm)⟩,
      ⟨g, mk, s₂, L, E, ce, rfl, rfl, hx, hce, hcv, hcl, rfl, hL, rfl, rfl⟩, ?_⟩
    show Steps p.tables e below _ (((({ U with heap := s₂.heap, slotsUsed := s₂.slotsUsed } : State).setVm s₂.vm).setTop g).pushFrame (.throwing q))
    rw [← hs₂]
    exact hsteps
end
variable {p : Program} {l : Launch} {e : Env} {R : Room} {s : State} {m : MethodId} {args : Array Value} {below : List Frame} {meth : Method} {c : Code} {T : State} {H : Heap} {locs : List Loc} {cells slots : Nat}
theorem vx_callVX (X : Stand p l e R s m args below meth c T locs cells slots) (hexec : p.tables.exec = Jvm.exec) {own C : String} {index : Nat} {y : MethodName} {bytes : ByteArray} {maxL : Nat} {ret : Option FieldType} {hh : List (Nat × Nat × Nat × Nat)}
    (hown : s.vm.findClass own = some m.cls) (hlink : (Cond.methodLink own index y).before args s = true) (hinst : (Cond.instanceMethod y).before args s = true) (hsel : (Cond.selects C y y).before args s = true)
    (hcode : (Cond.codeWith y bytes maxL ret hh).before args s = true) (hy : y.cls ≠ "java/lang/invoke/MethodHandle" ∧ y.cls ≠ "java/lang/invoke/VarHandle")
    {W9 : Nat} {Pre : Pt → Array Value → Prop} {Post : Pt → Array Value → Option Value → Pt → Prop} {PostX : Pt → Array Value → Addr → Pt → Prop} (hK : vx_Back l R p e below s args y 3 W9 Pre Post PostX)
    {b : Addr} {cellB : Cell} (hcell : T.heap[b]? = some cellB) (hobj : cellB.vm.isStatics = false) (hcls : s.vm.findClass C = some cellB.cls)
    {g : JFrame} (hg : g.method = m) (hsize : g.locals.size = c.maxLocals) {argsL rest : List Value} (hlen : ∀ sig, parseMethodDescriptor y.desc = some sig → argsL.length = sig.parameters.length)
    (hstack : g.stack = argsL.reverse ++ .ref b :: rest) (hW : 2 * g.monitorRoom + (rest.map fun v => v.category).sum ≤ W9) (hdg : decode c.code g.pc = .ok (.invokevirtual index, 3))
    (hpre : ∀ vm₁, s.WarmedH vm₁ → Pre ⟨T.setVm vm₁, locs, cells, slots⟩ (Value.ref b :: argsL).toArray) :
    (∃ (v : Option Value) (vm₁ : Vm) (B : Pt), s.WarmedH vm₁ ∧ Stand p l e R s m args below meth c B.U B.locs B.cells B.slots ∧ Post ⟨T.setVm vm₁, locs, cells, slots⟩ (Value.ref b :: argsL).toArray v B ∧
      ∀ target, Steps p.tables e below (B.U.setTop { g with pc := g.pc + 3, stack := v.toList ++ rest }) target → Steps p.tables e below (T.setTop g) target) ∨
    (∃ (q : Addr) (vm₁ : Vm) (B : Pt), s.WarmedH vm₁ ∧ Stand p l e R s m args below meth c B.U B.locs B.cells B.slots ∧ PostX ⟨T.setVm vm₁, locs, cells, slots⟩ (Value.ref b :: argsL).toArray q B ∧
      Steps p.tables e below (T.setTop g) ((B.U.setTop { g with stack := rest }).pushFrame (.throwing q))) := by
  obtain ⟨mk, methM, hnamed, hmethM, hstM, habM⟩ := Cond.instanceMethod_spec hinst
  obtain ⟨m8, methM', cM, hn8, hmethM', -, -, -, -, -, -, hsigM⟩ := Cond.codeWith_spec hcode
  cases Option.some.inj (hn8.symm.trans hnamed)
  cases hmethM.symm.trans hmethM'
  obtain ⟨c2, r2, m2, q1, q2, q3, q4, kP, hkP, hkPi⟩ := Cond.selects_spec hsel
  cases hcls.symm.trans q1
  cases (State.methodFound?_of_named hnamed hy).symm.trans q2
  cases hnamed.symm.trans q3
  have hselP : selectMethod e.platform s.vm cellB.cls mk = .method mk := by rw [Launch.admits_selectMethod X.admits]; exact q4
  obtain ⟨vm₁, X₁, hstep₁⟩ := X.invokevirtual hexec hown hlink hnamed hmethM hstM hkP hkPi hy (a := b) (cell := cellB) hcell
    (fun z h => by rw [h] at hobj; cases hobj) hselP hmethM habM hkP hkPi (g := g) hg (argsL := argsL) (rest := rest) (hlen _ hsigM) hstack hdg
  rcases hK m meth c ⟨T.setVm vm₁, locs, cells, slots⟩ { g with stack := rest } (.invokevirtual index) mk (Value.ref b :: argsL).toArray X₁ hg hsize hdg hW (X₁.named hnamed) (hpre vm₁ X₁.warmed) with ⟨v, B, X', hpost, hsteps⟩ | ⟨q, B, X', hpost, hsteps⟩
  · exact Or.inl ⟨v, vm₁, B, X₁.warmed, X', hpost, fun target h => hstep₁ _ fun acts => by rw [doInvoke_state]; exact hsteps.trans h⟩
  · exact Or.inr ⟨q, vm₁, B, X₁.warmed, X', hpost, hstep₁ _ fun acts => by rw [doInvoke_state]; exact hsteps⟩
theorem vx_callSX (X : Stand p l e R s m args below meth c T locs cells slots) (hexec : p.tables.exec = Jvm.exec) {own : String} {index : Nat} {y : MethodName} {bytes : ByteArray} {maxL : Nat} {ret : Option FieldType} {hh : List (Nat × Nat × Nat × Nat)}
    (hown : s.vm.findClass own = some m.cls) (hlink : (Cond.methodLink own index y).before args s = true) (hstat : (Cond.static y).before args s = true) (hinit : (Cond.initialized y.cls).before args s = true)
    (hcode : (Cond.codeWith y bytes maxL ret hh).before args s = true) (hy : y.cls ≠ "java/lang/invoke/MethodHandle" ∧ y.cls ≠ "java/lang/invoke/VarHandle")
    {W9 : Nat} {Pre : Pt → Array Value → Prop} {Post : Pt → Array Value → Option Value → Pt → Prop} {PostX : Pt → Array Value → Addr → Pt → Prop} (hK : vx_Back l R p e below s args y 3 W9 Pre Post PostX)
    {g : JFrame} (hg : g.method = m) (hsize : g.locals.size = c.maxLocals) {argsL rest : List Value} (hlen : ∀ sig, parseMethodDescriptor y.desc = some sig → argsL.length = sig.parameters.length)
    (hstack : g.stack = argsL.reverse ++ rest) (hW : 2 * g.monitorRoom + (rest.map fun v => v.category).sum ≤ W9) (hdg : decode c.code g.pc = .ok (.invokestatic index, 3))
    (hpre : ∀ vm₁, s.WarmedH vm₁ → Pre ⟨T.setVm vm₁, locs, cells, slots⟩ argsL.toArray) :
    (∃ (v : Option Value) (vm₁ : Vm) (B : Pt), s.WarmedH vm₁ ∧ Stand p l e R s m args below meth c B.U B.locs B.cells B.slots ∧ Post ⟨T.setVm vm₁, locs, cells, slots⟩ argsL.toArray v B ∧
      ∀ target, Steps p.tables e below (B.U.setTop { g with pc := g.pc + 3, stack := v.toList ++ rest }) target → Steps p.tables e below (T.setTop g) target) ∨
    (∃ (q : Addr) (vm₁ : Vm) (B : Pt), s.WarmedH vm₁ ∧ Stand p l e R s m args below meth c B.U B.locs B.cells B.slots ∧ PostX ⟨T.setVm vm₁, locs, cells, slots⟩ argsL.toArray q B ∧
      Steps p.tables e below (T.setTop g) ((B.U.setTop { g with stack := rest }).pushFrame (.throwing q))) := by
  obtain ⟨mk, methM, cM, hnamed, hmethM, -, -, -, -, -, -, hsigM⟩ := Cond.codeWith_spec hcode
  have hstatic : methM.isStatic = true := Cond.static_spec hnamed hmethM hstat
  obtain ⟨kP, hkP, -⟩ := className_of_methodNamed hnamed
  have hinitP : kP.init = .initialized := Cond.initialized_spec (findClass_of_methodNamed hnamed) hkP hinit
  obtain ⟨vm₁, X₁, hstep₁⟩ := X.invokestatic hexec hown hlink hnamed hmethM hstatic hkP hinitP hy (g := g) hg (argsL := argsL) (rest := rest) (hlen _ hsigM) hstack hdg
  rcases hK m meth c ⟨T.setVm vm₁, locs, cells, slots⟩ { g with stack := rest } (.invokestatic index) mk argsL.toArray X₁ hg hsize hdg hW (X₁.named hnamed) (hpre vm₁ X₁.warmed) with ⟨v, B, X', hpost, hsteps⟩ | ⟨q, B, X', hpost, hsteps⟩
  · exact Or.inl ⟨v, vm₁, B, X₁.warmed, X', hpost, fun target h => hstep₁ _ fun acts => by rw [doInvoke_state]; exact hsteps.trans h⟩
  · exact Or.inr ⟨q, vm₁, B, X₁.warmed, X', hpost, hstep₁ _ fun acts => by rw [doInvoke_state]; exact hsteps⟩
theorem vx_callVW (X : Stand p l e R s m args below meth c T locs cells slots) (hexec : p.tables.exec = Jvm.exec) {own C : String} {index : Nat} {y : MethodName} {bytes : ByteArray} {maxL : Nat} {ret : Option FieldType} {hh : List (Nat × Nat × Nat × Nat)}
    (hown : s.vm.findClass own = some m.cls) (hlink : (Cond.methodLink own index y).before args s = true) (hinst : (Cond.instanceMethod y).before args s = true) (hsel : (Cond.selects C y y).before args s = true)
    (hcode : (Cond.codeWith y bytes maxL ret hh).before args s = true) (hy : y.cls ≠ "java/lang/invoke/MethodHandle" ∧ y.cls ≠ "java/lang/invoke/VarHandle")
    {W9 : Nat} {Pre : Pt → Array Value → Prop} {Post : Pt → Array Value → Option Value → Pt → Prop} (hK : Back l R p e below s args y 3 W9 Pre Post)
    {b : Addr} {cellB : Cell} (hcell : T.heap[b]? = some cellB) (hobj : cellB.vm.isStatics = false) (hcls : s.vm.findClass C = some cellB.cls)
    {g : JFrame} (hg : g.method = m) (hsize : g.locals.size = c.maxLocals) {argsL rest : List Value} (hlen : ∀ sig, parseMethodDescriptor y.desc = some sig → argsL.length = sig.parameters.length)
    (hstack : g.stack = argsL.reverse ++ .ref b :: rest) (hW : 2 * g.monitorRoom + (rest.map fun v => v.category).sum ≤ W9) (hdg : decode c.code g.pc = .ok (.invokevirtual index, 3))
    (hpre : ∀ vm₁, s.WarmedH vm₁ → Pre ⟨T.setVm vm₁, locs, cells, slots⟩ (Value.ref b :: argsL).toArray) :
    ∃ (v : Option Value) (vm₁ : Vm) (B : Pt), s.WarmedH vm₁ ∧ Stand p l e R s m args below meth c B.U B.locs B.cells B.slots ∧ Post ⟨T.setVm vm₁, locs, cells, slots⟩ (Value.ref b :: argsL).toArray v B ∧
      ∀ target, Steps p.tables e below (B.U.setTop { g with pc := g.pc + 3, stack := v.toList ++ rest }) target → Steps p.tables e below (T.setTop g) target := by
  obtain ⟨mk, methM, hnamed, hmethM, hstM, habM⟩ := Cond.instanceMethod_spec hinst
  obtain ⟨m8, methM', cM, hn8, hmethM', -, -, -, -, -, -, hsigM⟩ := Cond.codeWith_spec hcode
  cases Option.some.inj (hn8.symm.trans hnamed)
  cases hmethM.symm.trans hmethM'
  obtain ⟨c2, r2, m2, q1, q2, q3, q4, kP, hkP, hkPi⟩ := Cond.selects_spec hsel
  cases hcls.symm.trans q1
  cases (State.methodFound?_of_named hnamed hy).symm.trans q2
  cases hnamed.symm.trans q3
  have hselP : selectMethod e.platform s.vm cellB.cls mk = .method mk := by rw [Launch.admits_selectMethod X.admits]; exact q4
  obtain ⟨vm₁, X₁, hstep₁⟩ := X.invokevirtual hexec hown hlink hnamed hmethM hstM hkP hkPi hy (a := b) (cell := cellB) hcell
    (fun z h => by rw [h] at hobj; cases hobj) hselP hmethM habM hkP hkPi (g := g) hg (argsL := argsL) (rest := rest) (hlen _ hsigM) hstack hdg
  obtain ⟨v, B, X', hpost, hsteps⟩ := hK m meth c ⟨T.setVm vm₁, locs, cells, slots⟩ { g with stack := rest } (.invokevirtual index) mk (Value.ref b :: argsL).toArray X₁ hg hsize hdg hW (X₁.named hnamed) (hpre vm₁ X₁.warmed)
  exact ⟨v, vm₁, B, X₁.warmed, X', hpost, fun target h => hstep₁ _ fun acts => by rw [doInvoke_state]; exact hsteps.trans h⟩
abbrev vx_CVW (R : Room) (s : State) (args : Array Value) (own C : String) (index : Nat) (y : MethodName) (bytes : ByteArray) (maxL : Nat) (ret : Option FieldType) (hh : List (Nat × Nat × Nat × Nat)) (ws : List Cond) (rm : Room) (mc ms n : Nat) : Prop :=
  (rm.cells = mc ∧ rm.slots = ms ∧ rm.frames + 1 ≤ R.frames ∧ 8 + (maxL + 11) + rm.locals ≤ R.locals ∧ (∀ w ∈ ws, ∀ (a' : Array Value) (U : State), s.WarmedH U.vm → w.before a' U = true) ∧ Cond.codeWith y bytes maxL ret hh ∈ ws) ∧
  (Cond.codeWith y bytes maxL ret hh).before args s = true ∧ (Cond.initialized y.cls).before args s = true ∧ (y.cls ≠ "java/lang/invoke/MethodHandle" ∧ y.cls ≠ "java/lang/invoke/VarHandle") ∧
  (∀ sig, parseMethodDescriptor y.desc = some sig → n = sig.parameters.length) ∧ (Cond.methodLink own index y).before args s = true ∧ (Cond.instanceMethod y).before args s = true ∧ (Cond.selects C y y).before args s = true
theorem vx_cwVW {own C : String} {index maxL mc ms : Nat} {y : MethodName} {bytes : ByteArray} {ret : Option FieldType} {hh : List (Nat × Nat × Nat × Nat)} {Ts ws ws' : List Cond} {rm : Room} (n : Nat) (ht : ∀ w ∈ Ts, w.before args s = true) (hT : GoodIn Ts (wsV own index C y ws)) (hw : ws = Cond.codeWith y bytes maxL ret hh :: ws') (hrc : rm.cells = mc) (hrs : rm.slots = ms)
    (hd : y.cls = C ∧ y.cls ≠ "java/lang/invoke/MethodHandle" ∧ y.cls ≠ "java/lang/invoke/VarHandle" ∧ (parseMethodDescriptor y.desc).map (fun d => d.parameters.length) = some n) (hR : rm.frames + 1 ≤ R.frames ∧ 8 + (maxL + 11) + rm.locals ≤ R.locals) :
    vx_CVW R s args own C index y bytes maxL ret hh ws rm mc ms n := by
  obtain ⟨hC, hd⟩ := hd
  subst hC
  have ok : ∀ w ∈ wsV own index y.cls y ws, w.before args s = true := fun w h => ht w (hT w h).1
  have hG : GoodIn Ts ws := fun w h => hT w (by unfold wsV; exact List.mem_append_right _ h)
  have hc : Cond.codeWith y bytes maxL ret hh ∈ ws := by rw [hw]; exact List.mem_cons_self
  refine ⟨⟨hrc, hrs, hR.1, hR.2, pay_in ht hG, hc⟩, ht _ (hG _ hc).1, ok _ (by simp [wsV]), ⟨hd.1, hd.2.1⟩, fun sig h => ?_, ok _ (by simp [wsV]), ok _ (by simp [wsV]), ok _ (by simp [wsV])⟩
  have h2 := hd.2.2
  rw [h] at h2
  exact (Option.some.inj h2).symm
theorem vx_runVW {y : MethodName} {bytes cc : ByteArray} {maxL nL mc ms n index : Nat} {ret : Option FieldType} {hh : List (Nat × Nat × Nat × Nat)} {ws : List Cond} {rm : Room} {Pc : Array Value → State → Prop} {Qc : Array Value → State → Outcome → State → Prop} {free : Addr → Prop} {Ts : List Cond} {own C : String} {b : Addr} {As rest : List Value} {g : JFrame}
    (S : CallFix p m c cc nL s args Ts own) (hM : Met l y ws rm Pc Qc mc ms free) (cw : vx_CVW R s args own C index y bytes maxL ret hh ws rm mc ms n) (hp : PreV s H C b Pc As)
    (hg : g.method = m) (hn : As.length = n) (hsize : g.locals.size = nL) (hstack : g.stack = As.reverse ++ .ref b :: rest) (hW : 2 * g.monitorRoom + (rest.map fun v => v.category).sum ≤ 8) (hdg : decode cc g.pc = .ok (.invokevirtual index, 3)) (hf : cells + mc ≤ R.cells ∧ slots + ms ≤ R.slots) :
    va_Run p l e R s m args below meth c H locs cells slots mc ms g rest (Qc (Value.ref b :: As).toArray) free := by
  obtain ⟨⟨hrc, hrs, hfr, hlo, hws, hcw⟩, hcode, hini, hy, hlen, hl, hin, hse⟩ := cw
  have hK : Back l R p e below s args y 3 8 (PreOf R mc ms Pc) (PostOf Qc mc ms free) := va_backW (hh := hh) (bytes := bytes) (maxL := maxL) (ret := ret) hM hp.1 hrc hrs hfr hlo hws hcw (fun a' U hW => word_at hW (Or.inl (by first | rfl | simp [Cond.onTables, Cond.keeps, Cond.steady])) hini)
  obtain ⟨hx, hb, hml, ho, -⟩ := S
  obtain ⟨-, ⟨cellB, hcB, hoB, hclB⟩, hPc⟩ := hp
  intro T hT X
  obtain ⟨v, vm₁, ⟨U', l2, c2, s2⟩, hW₁, X', ⟨g', mk, t, L, e1, e2, hq, h1, hL, h2, h3⟩, st⟩ := vx_callVW X hx (C := C) (hh := hh) (bytes := bytes) (maxL := maxL) (ret := ret) ho hl hin hse hcode hy hK (by rw [hT]; exact hcB) hoB hclB hg (hsize.trans hml.symm) (argsL := As) (rest := rest) (fun sig h => hn.trans (hlen sig h)) hstack hW (by rw [hb]; exact hdg)
    (fun vm₁ hW₁ => ⟨hf.1, hf.2, hPc (T.setVm vm₁) hT hW₁⟩)
  dsimp only [Pt.U, Pt.locs, Pt.cells, Pt.slots] at X' e1 e2 h1 h2 h3 st
  subst h1; subst h2; subst h3
  exact ⟨v, (T.setVm vm₁).calling g' mk (Value.ref b :: As).toArray, t, U', L, hT, X', hL, e1, e2, hq, st⟩
section
variable {y : MethodName} {bytes cc : ByteArray} {maxL nL mc ms n index : Nat} {ret : Option FieldType} {ws : List Cond} {rm : Room} {Pc : Array Value → State → Prop} {Qc : Array Value → State → Outcome → State → Prop} {XC : String → State → State → Prop} {free : Addr → Prop} {Ts : List Cond} {own C : String} {b : Addr} {As rest : List Value} {g : JFrame}
theorem vx_runVX {hh : List (Nat × Nat × Nat × Nat)} (S : CallFix p m c cc nL s args Ts own) (hM : vx_Met l y ws rm Pc Qc XC mc ms free) (cw : vx_CVW R s args own C index y bytes maxL ret hh ws rm mc ms n) (hp : PreV s H C b Pc As)
    (hg : g.method = m) (hn : As.length = n) (hsize : g.locals.size = nL) (hstack : g.stack = As.reverse ++ .ref b :: rest) (hW : 2 * g.monitorRoom + (rest.map fun v => v.category).sum ≤ 8) (hdg : decode cc g.pc = .ok (.invokevirtual index, 3)) (hf : cells + mc ≤ R.cells ∧ slots + ms ≤ R.slots) :
    vx_Run p l e R s m args below meth c H locs cells slots mc ms g rest (Qc (Value.ref b :: As).toArray) XC free := by
  obtain ⟨⟨hrc, hrs, hfr, hlo, hws, hcw⟩, hcode, hini, hy, hlen, hl, hin, hse⟩ := cw
  have hK : vx_Back l R p e below s args y 3 8 (PreOf R mc ms Pc) (PostOf Qc mc ms free) (vx_Post XC mc ms free) := vx_backW (hh := hh) (bytes := bytes) (maxL := maxL) (ret := ret) hM hp.1 hrc hrs hfr hlo hws hcw (fun a' U hW => word_at hW (Or.inl (by first | rfl | simp [Cond.onTables, Cond.keeps, Cond.steady])) hini)
  obtain ⟨hx, hb, hml, ho, -⟩ := S
  obtain ⟨-, ⟨cellB, hcB, hoB, hclB⟩, hPc⟩ := hp
  intro T hT X
  rcases vx_callVX X hx (C := C) (hh := hh) (bytes := bytes) (maxL := maxL) (ret := ret) ho hl hin hse hcode hy hK (by rw [hT]; exact hcB) hoB hclB hg (hsize.trans hml.symm) (argsL := As) (rest := rest) (fun sig h => hn.trans (hlen sig h)) hstack hW (by rw [hb]; exact hdg)
    (fun vm₁ hW₁ => ⟨hf.1, hf.2, hPc (T.setVm vm₁) hT hW₁⟩) with ⟨v, vm₁, ⟨U', l2, c2, s2⟩, hW₁, X', ⟨g', mk, t, L, e1, e2, hq, h1, hL, h2, h3⟩, st⟩ | ⟨q, vm₁, ⟨U', l2, c2, s2⟩, hW₁, X', ⟨g', mk, t, L, E, ce, e1, e2, hq, hce, hcv, hcl, h1, hL, h2, h3⟩, st⟩
  · dsimp only [Pt.U, Pt.locs, Pt.cells, Pt.slots] at X' e1 e2 h1 h2 h3 st
    subst h1; subst h2; subst h3
    exact Or.inl ⟨v, (T.setVm vm₁).calling g' mk (Value.ref b :: As).toArray, t, U', L, hT, X', hL, e1, e2, hq, st⟩
  · dsimp only [Pt.U, Pt.locs, Pt.cells, Pt.slots] at X' e1 e2 h1 h2 h3 st hcl
    subst h1; subst h2; subst h3
    exact Or.inr ⟨q, (T.setVm vm₁).calling g' mk (Value.ref b :: As).toArray, t, U', L, E, ce, hT, X', hL, e1, e2, hq, hce, hcv, vx_cls hW₁ hcl, st⟩
theorem vx_runSX {hh : List (Nat × Nat × Nat × Nat)} (S : CallFix p m c cc nL s args Ts own) (hM : vx_Met l y ws rm Pc Qc XC mc ms free) (cw : vx_CSW R s args own index y bytes maxL ret hh ws rm mc ms n) (hp : PreS s H Pc As)
    (hg : g.method = m) (hn : As.length = n) (hsize : g.locals.size = nL) (hstack : g.stack = As.reverse ++ rest) (hW : 2 * g.monitorRoom + (rest.map fun v => v.category).sum ≤ 8) (hdg : decode cc g.pc = .ok (.invokestatic index, 3)) (hf : cells + mc ≤ R.cells ∧ slots + ms ≤ R.slots) :
    vx_Run p l e R s m args below meth c H locs cells slots mc ms g rest (Qc As.toArray) XC free := by
  obtain ⟨⟨hrc, hrs, hfr, hlo, hws, hcw⟩, hcode, hini, hy, hlen, hl, hstt⟩ := cw
  have hK : vx_Back l R p e below s args y 3 8 (PreOf R mc ms Pc) (PostOf Qc mc ms free) (vx_Post XC mc ms free) := vx_backW (hh := hh) (bytes := bytes) (maxL := maxL) (ret := ret) hM hp.1 hrc hrs hfr hlo hws hcw (fun a' U hW => word_at hW (Or.inl (by first | rfl | simp [Cond.onTables, Cond.keeps, Cond.steady])) hini)
  obtain ⟨hx, hb, hml, ho, -⟩ := S
  intro T hT X
  rcases vx_callSX X hx (hh := hh) (bytes := bytes) (maxL := maxL) (ret := ret) ho hl hstt hini hcode hy hK hg (hsize.trans hml.symm) (argsL := As) (rest := rest) (fun sig h => hn.trans (hlen sig h)) hstack hW (by rw [hb]; exact hdg)
    (fun vm₁ hW₁ => ⟨hf.1, hf.2, hp.2 (T.setVm vm₁) hT hW₁⟩) with ⟨v, vm₁, ⟨U', l2, c2, s2⟩, hW₁, X', ⟨g', mk, t, L, e1, e2, hq, h1, hL, h2, h3⟩, st⟩ | ⟨q, vm₁, ⟨U', l2, c2, s2⟩, hW₁, X', ⟨g', mk, t, L, E, ce, e1, e2, hq, hce, hcv, hcl, h1, hL, h2, h3⟩, st⟩
  · dsimp only [Pt.U, Pt.locs, Pt.cells, Pt.slots] at X' e1 e2 h1 h2 h3 st
    subst h1; subst h2; subst h3
    exact Or.inl ⟨v, (T.setVm vm₁).calling g' mk As.toArray, t, U', L, hT, X', hL, e1, e2, hq, st⟩
  · dsimp only [Pt.U, Pt.locs, Pt.cells, Pt.slots] at X' e1 e2 h1 h2 h3 st hcl
    subst h1; subst h2; subst h3
    exact Or.inr ⟨q, (T.setVm vm₁).calling g' mk As.toArray, t, U', L, E, ce, hT, X', hL, e1, e2, hq, hce, hcv, vx_cls hW₁ hcl, st⟩
end
end VXH
theorem vx_ofWH {l : Launch} {y : MethodName} {ws ws' : List Cond} {rm : Room} {Pc : Array Value → State → Prop} {Qc : Array Value → State → Outcome → State → Prop} {XC : String → State → State → Prop} {mc ms : Nat} {free : Addr → Prop} {cc : ByteArray} {maxL : Nat} {ret : Option FieldType} {hh : List (Nat × Nat × Nat × Nat)}
    (hy : plainName y.cls = true) (hw : ws = Cond.codeWith y cc maxL ret hh :: ws')
    (body : ∀ p e s m args below meth c s₁, BodyLoose p l y (headSpec ws rm) cc maxL ret e s m args below meth c s₁ → c.maxLocals = maxL → Pc args s →
      W p l e (headSpec ws rm).room s m args below meth c s.heap [] 0 0 (vx_MQ below Qc XC args s mc ms free) (entryFrame m args maxL)) : vx_Met l y ws rm Pc Qc XC mc ms free := by
  refine MetFree.of_bodyS (code := cc) (maxLocals := maxL) (ret := ret) hy ?_ ?_
  · intro args s m h hn
    obtain ⟨m9, meth, c, hn9, h1, h2, h3, h4, -, h5, h6, -⟩ := Cond.codeWith_spec (atoms_spec (ws := ws) h _ (by rw [hw]; exact List.mem_cons_self))
    cases hn.symm.trans hn9
    exact ⟨meth, c, h1, h2, h3, h4, h5, h6⟩
  · intro p e s m args below meth c s₁ B hml hP _
    have hh0 : s₁.heap = s.heap := by rw [B.state]; rfl
    obtain ⟨t, a1, o, b1, b2, b3⟩ := body p e s m args below meth c s₁ B hml hP s₁ hh0 (Stand.of_body B)
    exact ⟨t, o, a1, b1, b2, b3⟩
/-! ===== END ===== -/
end
