/-! words of the throws -/
def nmX : List String := ["java/lang/RuntimeException", "java/lang/Exception"]
/-- the tables' words that are kept though they are no good words -/
def FA : List Cond := lw_tbl.filter Cond.faceAtom
theorem fa_in {w : Cond} (h : w ∈ lw_tbl) (g : w.faceAtom = true) : w ∈ FA := List.mem_filter.mpr ⟨h, g⟩
theorem fa_moved {a a' : Array Value} {u U : State} {w : Cond} (hvm : u.vm.Alike U.vm) (hw : w.faceAtom = true) (h : w.before a u = true) (ho : w.onTables = true) : w.before a' U = true := by
  have h1 := Cond.faceAtom_setVm hvm w hw h
  have h2 := Cond.onTables_vm (A := a) (A' := a') (U := u) (U' := U) U.vm w ho
  rw [h2] at h1
  exact h1

def aIAE : List Cond := vx_atS RFf 56 "java/lang/IllegalArgumentException" nmX
set_option maxRecDepth 100000 in
theorem aIAE_g : ∀ w ∈ aIAE.filter goodWord, w ∈ lw_tbl := by decide +kernel
set_option maxRecDepth 100000 in
theorem aIAE_n : ∀ w ∈ aIAE.filter (fun w => !goodWord w), w ∈ lw_tbl ∧ w.faceAtom = true := by decide +kernel
set_option maxRecDepth 100000 in
theorem aIAE_o : ∀ w ∈ Cond.classLink RFf 52 "java/lang/IllegalArgumentException" :: Cond.initialized "java/lang/IllegalArgumentException" :: aIAE, vx_ot w = true := by decide +kernel
def aARE : List Cond := vx_atS RFf 104 "java/lang/ArithmeticException" nmX
set_option maxRecDepth 100000 in
theorem aARE_g : ∀ w ∈ aARE.filter goodWord, w ∈ lw_tbl := by decide +kernel
set_option maxRecDepth 100000 in
theorem aARE_n : ∀ w ∈ aARE.filter (fun w => !goodWord w), w ∈ lw_tbl ∧ w.faceAtom = true := by decide +kernel
set_option maxRecDepth 100000 in
theorem aARE_o : ∀ w ∈ Cond.classLink RFf 100 "java/lang/ArithmeticException" :: Cond.initialized "java/lang/ArithmeticException" :: aARE, vx_ot w = true := by decide +kernel
def aISE : List Cond := vx_atS RFf 131 "java/lang/IllegalStateException" nmX
set_option maxRecDepth 100000 in
theorem aISE_g : ∀ w ∈ aISE.filter goodWord, w ∈ lw_tbl := by decide +kernel
set_option maxRecDepth 100000 in
theorem aISE_n : ∀ w ∈ aISE.filter (fun w => !goodWord w), w ∈ lw_tbl ∧ w.faceAtom = true := by decide +kernel
set_option maxRecDepth 100000 in
theorem aISE_o : ∀ w ∈ Cond.classLink RFf 127 "java/lang/IllegalStateException" :: Cond.initialized "java/lang/IllegalStateException" :: aISE, vx_ot w = true := by decide +kernel
def sixN : ByteArray := ⟨#[0x2a, 0x2b, 0xb7, 0x00, 0x0d, 0xb1]⟩
theorem sixN_0 : decode sixN 0 = .ok (.aload_n 0, 1) := by decide +kernel
theorem sixN_1 : decode sixN 1 = .ok (.aload_n 1, 1) := by decide +kernel
theorem sixN_2 : decode sixN 2 = .ok (.invokespecial 13, 3) := by decide +kernel
theorem sixN_5 : decode sixN 5 = .ok (.return_, 1) := by decide +kernel
def tlX (own : String) (ic : Nat) (X : String) : List Cond := [.methodLink own ic (Bundle.initS X), .instantiable X 6, .castable X X, .selects X Bundle.tFill0 Bundle.tFill0, .selects X Bundle.tFill Bundle.tFill, .lays X Bundle.tN "cause" "Ljava/lang/Throwable;", .lays X Bundle.tN "stackTrace" Bundle.steD, .lays X Bundle.tN "suppressedExceptions" Bundle.listD, .lays X Bundle.tN "detailMessage" "Ljava/lang/String;", .fieldLink Bundle.tN 198 Bundle.tN "backtrace" "Ljava/lang/Object;", .lays Bundle.tN Bundle.tN "backtrace" "Ljava/lang/Object;", .lays X Bundle.tN "backtrace" "Ljava/lang/Object;"]
/-- what a throw asks where the class's own constructor passes by an entry ix of its own -/
def atN (own : String) (ic : Nat) (X Y : String) (ix : Nat) (rx : ByteArray) (names : List String) : List Cond := Bundle.throwableAtoms.filter vx_no ++ (Bundle.throwableSAtoms ++ (Bundle.passSAtoms X Y ix rx ++ (Bundle.chainSAtoms Y names ++ tlX own ic X)))
def aNSE : List Cond := atN RFf 155 "java/util/NoSuchElementException" "java/lang/RuntimeException" 13 sixN ["java/lang/Exception"]
set_option maxRecDepth 100000 in
theorem aNSE_g : ∀ w ∈ aNSE.filter goodWord, w ∈ lw_tbl := by decide +kernel
set_option maxRecDepth 100000 in
theorem aNSE_n : ∀ w ∈ aNSE.filter (fun w => !goodWord w), w ∈ lw_tbl ∧ w.faceAtom = true := by decide +kernel
set_option maxRecDepth 100000 in
theorem aNSE_o : ∀ w ∈ Cond.classLink RFf 151 "java/util/NoSuchElementException" :: Cond.initialized "java/util/NoSuchElementException" :: aNSE, vx_ot w = true := by decide +kernel
