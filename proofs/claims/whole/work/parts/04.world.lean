/-! ints as Int32: iI -/
def iI (z : Int) : Int32 := Int32.ofInt z
abbrev rg (z : Int) : Prop := -2147483648 ≤ z ∧ z < 2147483648
theorem iI_toInt {z : Int} (h : rg z) : (iI z).toInt = z := Int32.toInt_ofInt_of_le (by have := h.1; omega) (by have := h.2; omega)
theorem iI_add (a b : Int) : iI a + iI b = iI (a + b) := (Int32.ofInt_add a b).symm
theorem iI_sub (a b : Int) : iI a - iI b = iI (a - b) := (Int32.ofInt_sub a b).symm
theorem iI_mul (a b : Int) : iI a * iI b = iI (a * b) := (Int32.ofInt_mul a b).symm
theorem iI_neg (a : Int) : - iI a = iI (- a) := (Int32.ofInt_neg a).symm
theorem iI_lt {a b : Int} (ha : rg a) (hb : rg b) : iI a < iI b ↔ a < b := by rw [Int32.lt_iff_toInt_lt, iI_toInt ha, iI_toInt hb]
theorem iI_le {a b : Int} (ha : rg a) (hb : rg b) : iI a ≤ iI b ↔ a ≤ b := by rw [Int32.le_iff_toInt_le, iI_toInt ha, iI_toInt hb]
theorem iI_eq {a b : Int} (ha : rg a) (hb : rg b) : iI a = iI b ↔ a = b := by
  constructor
  · intro h
    have := congrArg Int32.toInt h
    rwa [iI_toInt ha, iI_toInt hb] at this
  · intro h; rw [h]
theorem iI_of (x : Int32) : ∃ z : Int, rg z ∧ x = iI z := ⟨x.toInt, ⟨by have := Int32.le_toInt x; omega, by have := Int32.toInt_lt x; omega⟩, (Int32.ofInt_toInt x).symm⟩
theorem iI_nI (n : Nat) : nI n = iI (n : Int) := by unfold nI iI; rw [Int32.ofInt_eq_ofNat]
theorem iI_0 : (0 : Int32) = iI 0 := rfl
theorem iI_rem {a b : Int} (ha : 0 ≤ a) (ha2 : a < 2147483648) (hb : 0 < b) (hb2 : b < 2147483648) : iI a - iI a / iI b * iI b = iI (a % b) := by
  obtain ⟨n, rfl⟩ := Int.eq_ofNat_of_zero_le ha
  obtain ⟨d, rfl⟩ := Int.eq_ofNat_of_zero_le (Int.le_of_lt hb)
  have h := pk_rem (a := n) (d := d) (by omega) (by omega) (by omega)
  rw [iI_nI, iI_nI, iI_nI] at h
  rw [h]; rfl
theorem iI_div {a b : Int} (ha : 0 ≤ a) (ha2 : a < 2147483648) (hb : 0 < b) (hb2 : b < 2147483648) : iI a / iI b = iI (a / b) := by
  obtain ⟨n, rfl⟩ := Int.eq_ofNat_of_zero_le ha
  obtain ⟨d, rfl⟩ := Int.eq_ofNat_of_zero_le (Int.le_of_lt hb)
  have h := pk_div (a := n) (d := d) (by omega) (by omega) (by omega)
  rw [iI_nI, iI_nI, iI_nI] at h
  rw [h]; rfl
theorem iI_clamp {j : Nat} (h : j < 2147483648) : (iI (j : Int)).toNatClampNeg = j := by rw [← iI_nI]; exact nI_clamp (by omega)
theorem iI_in {j n : Nat} (h : j < n) (hn : n < 2147483648) : vp_in (iI (j : Int)) n := by rw [← iI_nI]; exact vp_in_nI h (by omega)
/-! the world by virtual places: place i holds the content C i, at the address ad i -/
def vW (ad : Nat → Nat) (C : Nat → va_E) (T : Nat) : va_W := (List.range T).map (fun i => (ad i, C i))
theorem vW_get {ad : Nat → Nat} {C : Nat → va_E} {T i : Nat} (h : i < T) : (vW ad C T)[i]? = some (ad i, C i) := by simp [vW, h]
theorem vW_of {ad : Nat → Nat} {C : Nat → va_E} {T i : Nat} {q : Nat × va_E} (h : (vW ad C T)[i]? = some q) : i < T ∧ q = (ad i, C i) := by
  by_cases hi : i < T
  · rw [vW_get hi] at h; exact ⟨hi, (Option.some.inj h).symm⟩
  · have : (vW ad C T)[i]? = none := List.getElem?_eq_none (by simp [vW]; omega)
    rw [this] at h; cases h
theorem vW_set {ad : Nat → Nat} {C : Nat → va_E} {T i : Nat} {e : va_E} : (vW ad C T).set i (ad i, e) = vW ad (va_up C i e) T := by
  apply List.ext_getElem?
  intro j
  by_cases hj : j < T
  · by_cases hi : i = j
    · subst hi
      rw [List.getElem?_set_self (by simp [vW]; exact hj), vW_get hj, va_up_self]
    · rw [List.getElem?_set_ne hi, vW_get hj, vW_get hj, va_up_ne _ _ (Ne.symm hi)]
  · rw [List.getElem?_eq_none (by simp [vW]; omega), List.getElem?_eq_none (by simp [vW]; omega)]
def dW (A : Nat → Prop) (ad : Nat → Nat) (T : Nat) : Prop := (∀ i j, i < T → j < T → ad i = ad j → i = j) ∧ ∀ i, i < T → A (ad i)
theorem dW.va {A : Nat → Prop} {ad : Nat → Nat} {T : Nat} (h : dW A ad T) (C : Nat → va_E) : va_D A (vW ad C T) := by
  refine ⟨fun i j x y hi hj e => ?_, fun k q hk => ?_⟩
  · obtain ⟨h1, rfl⟩ := vW_of hi
    obtain ⟨h2, rfl⟩ := vW_of hj
    exact h.1 i j h1 h2 e
  · obtain ⟨h1, rfl⟩ := vW_of hk
    exact h.2 k h1
abbrev tyL (cs : Nat → ClassId) : List (ClassId × FieldType) := [(cs 0, .int), (cs 1, .long), (cs 2, .object RPo), (cs 3, .array .int)]
/-- the world of a method while it runs: from s to the heap H -/
def Wd (D : va_G) (cs : Nat → ClassId) (A : Nat → Prop) (ad : Nat → Nat) (T : Nat) (s : State) (C : Nat → va_E) (H : Heap) (locs : List Loc) : Prop :=
  va_K D classes (tyL cs) s ∧ dW A ad T ∧ (∀ q, s.heap.size ≤ q → A q) ∧ va_P D classes (vW ad C T) H ∧ va_S A s.heap H locs
/-- a contract's start and end, of the world -/
def PW (D : va_G) (cs : Nat → ClassId) (A : Nat → Prop) (ad : Nat → Nat) (T : Nat) (C : Nat → va_E) (U : State) : Prop :=
  va_K D classes (tyL cs) U ∧ dW A ad T ∧ (∀ q, U.heap.size ≤ q → A q) ∧ va_P D classes (vW ad C T) U.heap
def QW (D : va_G) (cs : Nat → ClassId) (ad : Nat → Nat) (T : Nat) (C : Nat → va_E) (t : State) : Prop :=
  va_K D classes (tyL cs) t ∧ va_P D classes (vW ad C T) t.heap
def Cv (l : Launch) (y : MethodName) (ws : List Cond) (rm : Room) (D : va_G) (cs : Nat → ClassId) (A : Nat → Prop) (ad : Nat → Nat) (T : Nat) (av : List Value) (C : Nat → va_E) (post : (Nat → va_E) → Prop) : Prop :=
  Met l y ws rm (va_Pc av (PW D cs A ad T C)) (va_Qv post (QW D cs ad T) A) 0 0 A
def Ci (l : Launch) (y : MethodName) (ws : List Cond) (rm : Room) (D : va_G) (cs : Nat → ClassId) (A : Nat → Prop) (ad : Nat → Nat) (T : Nat) (av : List Value) (C : Nat → va_E) (post : Int32 → (Nat → va_E) → Prop) : Prop :=
  Met l y ws rm (va_Pc av (PW D cs A ad T C)) (va_Qi post (QW D cs ad T) A) 0 0 A
/-- what stays the same through a method's run -/
def Cx (p : Program) (s : State) (m : MethodId) (args : Array Value) (c : Code) (cc : ByteArray) (own : String) : Prop :=
  p.tables.exec = Jvm.exec ∧ c.code = cc ∧ s.vm.findClass own = some m.cls ∧ ∀ w ∈ TB, w.before args s = true
/-- contents -/
abbrev iA (F : Nat → Int) : Nat → Int32 := fun j => iI (F j)
def aI (cs : Nat → ClassId) (n : Nat) (F : Nat → Int) : va_E := .inl (cs 0, n, .inl (iA F))
def pE (ad : Nat → Nat) (j : Nat) (d : Int) : va_E := .inr (0, [.ref (ad j), .int (iI d)])
theorem upd_iA (F : Nat → Int) (k : Nat) (v : Int) : upd (iA F) k (iI v) = iA (va_up F k v) := by
  funext j
  by_cases h : j = k
  · subst h; simp [upd, iA, va_up]
  · simp [upd, iA, va_up, h]
section RW
variable {p : Program} {l : Launch} {e : Env} {R : Room} {s : State} {m : MethodId} {args : Array Value} {below : List Frame} {meth : Method} {c : Code} {H : Heap} {locs : List Loc} {cells slots : Nat} {Q : State → Prop}
variable {cc : ByteArray} {own : String} {pc : Nat} {ls : Array Slot} {rest : List Value} {D : va_G} {cs : Nat → ClassId} {A : Nat → Prop} {ad : Nat → Nat} {T : Nat} {C : Nat → va_E}
theorem w_get (X : Cx p s m args c cc own) (w : Wd D cs A ad T s C H locs) {Cn : String} {Tn : u_T} {N ci index i : Nat} {fs : List Value} {v : Value} (hi : i < T) (hC : C i = .inr (ci, fs)) (hc : classes[ci]? = some (Cn, Tn, N)) (hin : ∀ w ∈ u_ws Cn Tn N, w ∈ TB) (k : Nat) (hk : k < N) (hlink : Cond.fieldLink own index (Tn k).1 (Tn k).2.1 (Tn k).2.2.1 ∈ TB) (hv : fs[k]? = some v) (hdg : decode cc pc = .ok (.getfield index, 3))
    (kk : W p l e R s m args below meth c H locs cells slots Q (F0 m (pc + 3) ls (v :: rest))) : W p l e R s m args below meth c H locs cells slots Q (F0 m pc ls (.ref (ad i) :: rest)) :=
  va_get X.1 X.2.1 X.2.2.2 hin X.2.2.1 w.1 w.2.2.2.1 i (by rw [vW_get hi, hC]) hc k hk (X.2.2.2 _ hlink) (fun _ h => h) hv hdg kk
theorem w_put (X : Cx p s m args c cc own) (w : Wd D cs A ad T s C H locs) {Cn : String} {Tn : u_T} {N ci index i : Nat} {fs : List Value} {v : Value} (hi : i < T) (hC : C i = .inr (ci, fs)) (hc : classes[ci]? = some (Cn, Tn, N)) (hin : ∀ w ∈ u_ws Cn Tn N, w ∈ TB) (ty0 : Nat → FieldType) (hty : ∀ k, k < N → parseFieldDescriptor (Tn k).2.2.1 = some (ty0 k)) (hnm : ∀ a, a < N → ∀ b, b < N → a ≠ b → (Tn a).2.1 ≠ (Tn b).2.1) (k : Nat) (hk : k < N) (hlink : Cond.fieldLink own index (Tn k).1 (Tn k).2.1 (Tn k).2.2.1 ∈ TB) (hfin : (Tn k).2.2.2 = false) (hn : narrow (ty0 k) v = v) (hfit : fits (ty0 k) v = true) (hl : k < fs.length) (hdg : decode cc pc = .ok (.putfield index, 3))
    (kk : ∀ (H1 : Heap) (locs1 : List Loc), Wd D cs A ad T s (va_up C i (.inr (ci, fs.set k v))) H1 locs1 → W p l e R s m args below meth c H1 locs1 cells slots Q (F0 m (pc + 3) ls rest)) : W p l e R s m args below meth c H locs cells slots Q (F0 m pc ls (v :: .ref (ad i) :: rest)) :=
  va_put X.1 X.2.1 X.2.2.2 hin ty0 hty hnm X.2.2.1 w.1 w.2.2.2.1 (w.2.1.va C) w.2.2.2.2 i (by rw [vW_get hi, hC]) hc k hk (X.2.2.2 _ hlink) (fun _ h => h) hfin (hty k hk) hn hfit hl hdg (fun H1 locs1 h1 _ h3 => kk H1 locs1 ⟨w.1, w.2.1, w.2.2.1, by rw [vW_set] at h1; exact h1, h3⟩)
theorem w_ild (X : Cx p s m args c cc own) (w : Wd D cs A ad T s C H locs) {i n : Nat} {F : Nat → Int} (hi : i < T) (hC : C i = aI cs n F) {z : Int} (j : Nat) (hz : z = (j : Int)) (hj : j < n) (hn : n < 2147483648) (hdg : decode cc pc = .ok (.iaload, 1))
    (kk : W p l e R s m args below meth c H locs cells slots Q (F0 m (pc + 1) ls (.int (iI (F j)) :: rest))) : W p l e R s m args below meth c H locs cells slots Q (F0 m pc ls (.int (iI z) :: .ref (ad i) :: rest)) := by
  subst hz
  refine va_iald X.1 X.2.1 w.1 w.2.2.2.1 i 0 (by rw [vW_get hi, hC]; rfl) rfl (iI_in hj hn) hdg ?_
  rw [iI_clamp (by omega)]
  exact kk
theorem w_ist (X : Cx p s m args c cc own) (w : Wd D cs A ad T s C H locs) {i n : Nat} {F : Nat → Int} (hi : i < T) (hC : C i = aI cs n F) {z v : Int} (j : Nat) (hz : z = (j : Int)) (hj : j < n) (hn : n < 2147483648) (hdg : decode cc pc = .ok (.iastore, 1))
    (kk : ∀ (H1 : Heap) (locs1 : List Loc), Wd D cs A ad T s (va_up C i (aI cs n (va_up F j v))) H1 locs1 → W p l e R s m args below meth c H1 locs1 cells slots Q (F0 m (pc + 1) ls rest)) : W p l e R s m args below meth c H locs cells slots Q (F0 m pc ls (.int (iI v) :: .int (iI z) :: .ref (ad i) :: rest)) := by
  subst hz
  refine va_iast X.1 X.2.1 w.1 w.2.2.2.1 (w.2.1.va C) w.2.2.2.2 i 0 (by rw [vW_get hi, hC]; rfl) rfl (iI_in hj hn) hdg (fun H1 locs1 h1 _ h3 => kk H1 locs1 ⟨w.1, w.2.1, w.2.2.1, ?_, h3⟩)
  rw [vW_set, iI_clamp (by omega), upd_iA] at h1
  exact h1
theorem i_add (X : Cx p s m args c cc own) {a b : Int} (hdg : decode cc pc = .ok (.iadd, 1)) (kk : W p l e R s m args below meth c H locs cells slots Q (F0 m (pc + 1) ls (.int (iI (a + b)) :: rest))) : W p l e R s m args below meth c H locs cells slots Q (F0 m pc ls (.int (iI b) :: .int (iI a) :: rest)) := lv_iadd X.1 X.2.1 hdg (by rw [iI_add]; exact kk)
theorem i_sub (X : Cx p s m args c cc own) {a b : Int} (hdg : decode cc pc = .ok (.isub, 1)) (kk : W p l e R s m args below meth c H locs cells slots Q (F0 m (pc + 1) ls (.int (iI (a - b)) :: rest))) : W p l e R s m args below meth c H locs cells slots Q (F0 m pc ls (.int (iI b) :: .int (iI a) :: rest)) := lv_isub X.1 X.2.1 hdg (by rw [iI_sub]; exact kk)
theorem i_mul (X : Cx p s m args c cc own) {a b : Int} (hdg : decode cc pc = .ok (.imul, 1)) (kk : W p l e R s m args below meth c H locs cells slots Q (F0 m (pc + 1) ls (.int (iI (a * b)) :: rest))) : W p l e R s m args below meth c H locs cells slots Q (F0 m pc ls (.int (iI b) :: .int (iI a) :: rest)) := lv_imul X.1 X.2.1 hdg (by rw [iI_mul]; exact kk)
theorem i_rem (X : Cx p s m args c cc own) {a b : Int} (ha : 0 ≤ a ∧ a < 2147483648) (hb : 0 < b ∧ b < 2147483648) (hdg : decode cc pc = .ok (.irem, 1)) (kk : W p l e R s m args below meth c H locs cells slots Q (F0 m (pc + 1) ls (.int (iI (a % b)) :: rest))) : W p l e R s m args below meth c H locs cells slots Q (F0 m pc ls (.int (iI b) :: .int (iI a) :: rest)) :=
  lv_irem X.1 X.2.1 hdg (fun h => by rw [iI_0, iI_eq ⟨by omega, by omega⟩ ⟨by omega, by omega⟩] at h; omega) (by rw [iI_rem ha.1 ha.2 hb.1 hb.2]; exact kk)
theorem i_ge (X : Cx p s m args c cc own) {a b off : Int} {tgt : Nat} (ha : rg a) (hb : rg b) (hdg : decode cc pc = .ok (.if_icmp .ge off, 3)) (ht : (pc : Int) + off = (tgt : Int)) (kt : b ≤ a → W p l e R s m args below meth c H locs cells slots Q (F0 m tgt ls rest)) (kf : a < b → W p l e R s m args below meth c H locs cells slots Q (F0 m (pc + 3) ls rest)) : W p l e R s m args below meth c H locs cells slots Q (F0 m pc ls (.int (iI b) :: .int (iI a) :: rest)) := lv_icmp_ge X.1 X.2.1 hdg ht (fun h => kt ((iI_le hb ha).mp h)) (fun h => kf (Int.not_le.mp fun g => h ((iI_le hb ha).mpr g)))
theorem i_lt (X : Cx p s m args c cc own) {a b off : Int} {tgt : Nat} (ha : rg a) (hb : rg b) (hdg : decode cc pc = .ok (.if_icmp .lt off, 3)) (ht : (pc : Int) + off = (tgt : Int)) (kt : a < b → W p l e R s m args below meth c H locs cells slots Q (F0 m tgt ls rest)) (kf : b ≤ a → W p l e R s m args below meth c H locs cells slots Q (F0 m (pc + 3) ls rest)) : W p l e R s m args below meth c H locs cells slots Q (F0 m pc ls (.int (iI b) :: .int (iI a) :: rest)) := lv_icmp_lt X.1 X.2.1 hdg ht (fun h => kt ((iI_lt ha hb).mp h)) (fun h => kf (Int.not_lt.mp fun g => h ((iI_lt ha hb).mpr g)))
theorem i_gt (X : Cx p s m args c cc own) {a b off : Int} {tgt : Nat} (ha : rg a) (hb : rg b) (hdg : decode cc pc = .ok (.if_icmp .gt off, 3)) (ht : (pc : Int) + off = (tgt : Int)) (kt : b < a → W p l e R s m args below meth c H locs cells slots Q (F0 m tgt ls rest)) (kf : a ≤ b → W p l e R s m args below meth c H locs cells slots Q (F0 m (pc + 3) ls rest)) : W p l e R s m args below meth c H locs cells slots Q (F0 m pc ls (.int (iI b) :: .int (iI a) :: rest)) := lv_icmp_gt X.1 X.2.1 hdg ht (fun h => kt ((iI_lt hb ha).mp h)) (fun h => kf (Int.not_lt.mp fun g => h ((iI_lt hb ha).mpr g)))
theorem i_le (X : Cx p s m args c cc own) {a b off : Int} {tgt : Nat} (ha : rg a) (hb : rg b) (hdg : decode cc pc = .ok (.if_icmp .le off, 3)) (ht : (pc : Int) + off = (tgt : Int)) (kt : a ≤ b → W p l e R s m args below meth c H locs cells slots Q (F0 m tgt ls rest)) (kf : b < a → W p l e R s m args below meth c H locs cells slots Q (F0 m (pc + 3) ls rest)) : W p l e R s m args below meth c H locs cells slots Q (F0 m pc ls (.int (iI b) :: .int (iI a) :: rest)) := lv_icmp_le X.1 X.2.1 hdg ht (fun h => kt ((iI_le ha hb).mp h)) (fun h => kf (Int.not_le.mp fun g => h ((iI_le ha hb).mpr g)))
theorem i_eq (X : Cx p s m args c cc own) {a b off : Int} {tgt : Nat} (ha : rg a) (hb : rg b) (hdg : decode cc pc = .ok (.if_icmp .eq off, 3)) (ht : (pc : Int) + off = (tgt : Int)) (kt : a = b → W p l e R s m args below meth c H locs cells slots Q (F0 m tgt ls rest)) (kf : a ≠ b → W p l e R s m args below meth c H locs cells slots Q (F0 m (pc + 3) ls rest)) : W p l e R s m args below meth c H locs cells slots Q (F0 m pc ls (.int (iI b) :: .int (iI a) :: rest)) := lv_icmp_eq X.1 X.2.1 hdg ht (fun h => kt ((iI_eq ha hb).mp h)) (fun h => kf (fun g => h ((iI_eq ha hb).mpr g)))
theorem i_ne (X : Cx p s m args c cc own) {a b off : Int} {tgt : Nat} (ha : rg a) (hb : rg b) (hdg : decode cc pc = .ok (.if_icmp .ne off, 3)) (ht : (pc : Int) + off = (tgt : Int)) (kt : a ≠ b → W p l e R s m args below meth c H locs cells slots Q (F0 m tgt ls rest)) (kf : a = b → W p l e R s m args below meth c H locs cells slots Q (F0 m (pc + 3) ls rest)) : W p l e R s m args below meth c H locs cells slots Q (F0 m pc ls (.int (iI b) :: .int (iI a) :: rest)) := lv_icmp_ne X.1 X.2.1 hdg ht (fun h => kt (fun g => h ((iI_eq ha hb).mpr g))) (fun h => kf (by first | exact (iI_eq ha hb).mp (Classical.not_not.mp h) | exact (iI_eq ha hb).mp h))
theorem z_lt (X : Cx p s m args c cc own) {a off : Int} {tgt : Nat} (ha : rg a) (hdg : decode cc pc = .ok (.ifCond .lt off, 3)) (ht : (pc : Int) + off = (tgt : Int)) (kt : a < 0 → W p l e R s m args below meth c H locs cells slots Q (F0 m tgt ls rest)) (kf : 0 ≤ a → W p l e R s m args below meth c H locs cells slots Q (F0 m (pc + 3) ls rest)) : W p l e R s m args below meth c H locs cells slots Q (F0 m pc ls (.int (iI a) :: rest)) := lv_if_lt X.1 X.2.1 hdg ht (fun h => kt ((iI_lt ha (by constructor <;> omega)).mp h)) (fun h => kf (Int.not_lt.mp fun g => h ((iI_lt ha (by constructor <;> omega)).mpr g)))
theorem z_ge (X : Cx p s m args c cc own) {a off : Int} {tgt : Nat} (ha : rg a) (hdg : decode cc pc = .ok (.ifCond .ge off, 3)) (ht : (pc : Int) + off = (tgt : Int)) (kt : 0 ≤ a → W p l e R s m args below meth c H locs cells slots Q (F0 m tgt ls rest)) (kf : a < 0 → W p l e R s m args below meth c H locs cells slots Q (F0 m (pc + 3) ls rest)) : W p l e R s m args below meth c H locs cells slots Q (F0 m pc ls (.int (iI a) :: rest)) := lv_if_ge X.1 X.2.1 hdg ht (fun h => kt ((iI_le (by constructor <;> omega) ha).mp h)) (fun h => kf (Int.not_le.mp fun g => h ((iI_le (by constructor <;> omega) ha).mpr g)))
theorem z_gt (X : Cx p s m args c cc own) {a off : Int} {tgt : Nat} (ha : rg a) (hdg : decode cc pc = .ok (.ifCond .gt off, 3)) (ht : (pc : Int) + off = (tgt : Int)) (kt : 0 < a → W p l e R s m args below meth c H locs cells slots Q (F0 m tgt ls rest)) (kf : a ≤ 0 → W p l e R s m args below meth c H locs cells slots Q (F0 m (pc + 3) ls rest)) : W p l e R s m args below meth c H locs cells slots Q (F0 m pc ls (.int (iI a) :: rest)) := lv_if_gt X.1 X.2.1 hdg ht (fun h => kt ((iI_lt (by constructor <;> omega) ha).mp h)) (fun h => kf (Int.not_lt.mp fun g => h ((iI_lt (by constructor <;> omega) ha).mpr g)))
theorem z_le (X : Cx p s m args c cc own) {a off : Int} {tgt : Nat} (ha : rg a) (hdg : decode cc pc = .ok (.ifCond .le off, 3)) (ht : (pc : Int) + off = (tgt : Int)) (kt : a ≤ 0 → W p l e R s m args below meth c H locs cells slots Q (F0 m tgt ls rest)) (kf : 0 < a → W p l e R s m args below meth c H locs cells slots Q (F0 m (pc + 3) ls rest)) : W p l e R s m args below meth c H locs cells slots Q (F0 m pc ls (.int (iI a) :: rest)) := lv_if_le X.1 X.2.1 hdg ht (fun h => kt ((iI_le ha (by constructor <;> omega)).mp h)) (fun h => kf (Int.not_le.mp fun g => h ((iI_le ha (by constructor <;> omega)).mpr g)))
theorem z_eq (X : Cx p s m args c cc own) {a off : Int} {tgt : Nat} (ha : rg a) (hdg : decode cc pc = .ok (.ifCond .eq off, 3)) (ht : (pc : Int) + off = (tgt : Int)) (kt : a = 0 → W p l e R s m args below meth c H locs cells slots Q (F0 m tgt ls rest)) (kf : a ≠ 0 → W p l e R s m args below meth c H locs cells slots Q (F0 m (pc + 3) ls rest)) : W p l e R s m args below meth c H locs cells slots Q (F0 m pc ls (.int (iI a) :: rest)) := lv_if_eq X.1 X.2.1 hdg ht (fun h => kt ((iI_eq ha (by constructor <;> omega)).mp h)) (fun h => kf (fun g => h ((iI_eq ha (by constructor <;> omega)).mpr g)))
theorem z_ne (X : Cx p s m args c cc own) {a off : Int} {tgt : Nat} (ha : rg a) (hdg : decode cc pc = .ok (.ifCond .ne off, 3)) (ht : (pc : Int) + off = (tgt : Int)) (kt : a ≠ 0 → W p l e R s m args below meth c H locs cells slots Q (F0 m tgt ls rest)) (kf : a = 0 → W p l e R s m args below meth c H locs cells slots Q (F0 m (pc + 3) ls rest)) : W p l e R s m args below meth c H locs cells slots Q (F0 m pc ls (.int (iI a) :: rest)) := lv_if_ne X.1 X.2.1 hdg ht (fun h => kt (fun g => h ((iI_eq ha (by constructor <;> omega)).mpr g))) (fun h => kf (by first | exact (iI_eq ha (by constructor <;> omega)).mp (Classical.not_not.mp h) | exact (iI_eq ha (by constructor <;> omega)).mp h))
theorem i_inc (X : Cx p s m args c cc own) {i nL k : Nat} {n x : Int} {lv lv' : List (Nat × Value)} (hdg : decode cc pc = .ok (.iinc i n, 3)) (h : lv_has ls nL lv) (hk : lv[k]? = some (i, .int (iI x))) (hn : i < nL) (hl : (i, Value.int (iI (x + n))) :: lv.filter (fun q => !(q.1 == i) && !(q.1 + 1 == i && q.2.category == 2)) = lv') (kk : ∀ ls' : Array Slot, lv_has ls' nL lv' → W p l e R s m args below meth c H locs cells slots Q (F0 m (pc + 3) ls' rest)) : W p l e R s m args below meth c H locs cells slots Q (F0 m pc ls rest) := lv_iinc X.1 X.2.1 hdg h hk (v := iI (x + n)) (by rw [← iI_add]; rfl) hn hl kk
end RW
