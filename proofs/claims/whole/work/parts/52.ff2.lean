def strs : List (Nat × String) := [(54, "no such field"), (176, "no such register"), (178, "no such coefficient"), (93, "no such operation"), (98, "division by 0"), (102, "the degree is too high"), (113, "the exponent is below 0"), (180, "the modulus has no degree above 0"), (129, "there is no inverse"), (182, "the polynomial is 0"), (143, "the degree is too high to be cut"), (153, "no such factor")]
def fieldsF : Nat → Int := fun j => if j = 0 then 2 else if j = 1 then 3 else if j = 2 then 5 else if j = 3 then 7 else if j = 4 then 11 else 13
def cutF : Nat → Int := fun j => if j = 0 then 24 else if j = 1 then 18 else if j = 2 then 12 else if j = 3 then 10 else 8
def stA (n : String) (F : Nat → Int) (A : Nat → Prop) (U : State) : Prop := ∃ t : Nat, va_Z RFf n "[I" (.ref t) A U U.heap ∧ va_T .int t 6 (fun j => .int (iI (F j))) A U U.heap
def ncL : List (String × String) := [("java/lang/IllegalArgumentException", "java/util/NoSuchElementException"), ("java/lang/ArithmeticException", "java/util/NoSuchElementException"), ("java/lang/ArithmeticException", "java/lang/IllegalArgumentException"), ("java/lang/IllegalStateException", "java/util/NoSuchElementException"), ("java/lang/IllegalStateException", "java/lang/IllegalArgumentException")]
/-- what holds besides the world: words, constants, static arrays -/
def EV (A : Nat → Prop) (U : State) : Prop := (∀ w ∈ FA, w.before #[] U = true) ∧ vx_Zq Bundle.tN "UNASSIGNED_STACK" Bundle.steD A U U.heap ∧ vx_Zq Bundle.tN "SUPPRESSED_SENTINEL" Bundle.listD A U U.heap ∧ (∀ q ∈ strs, ∃ sa, vk_R RFf q.1 q.2 sa U) ∧ AOI U ∧ stA "FIELDS" fieldsF A U ∧ stA "CUT_DEGREES" cutF A U ∧ va_AO RPo U ∧ va_Nw (.fieldLinkNest "FieldFactors$Arithmetic" 42 "FieldFactors" "FIELDS" "[I" "FieldFactors") U ∧ ∀ q ∈ ncL, va_Nc q.1 q.2 U
theorem face_ot {w : Cond} (h : w.faceAtom = true) : w.onTables = true := by cases w <;> first | rfl | simp [Cond.faceAtom] at h
theorem stA.next {n : String} {F : Nat → Int} {A : Nat → Prop} {s U : State} {H : Heap} {locs : List Loc} (h : stA n F A s) (hS : va_S A s.heap H locs) (hU : U.heap = H) (hW : s.WarmedH U.vm) : stA n F A U := by
  obtain ⟨t, h1, h2⟩ := h
  exact ⟨t, by rw [hU]; exact va_Z.moved hW.alike (h1.kept hS.2.1), by rw [hU]; exact va_T.moved hW.alike (h2.kept hS.2.1)⟩
theorem EV.next {A : Nat → Prop} {s U : State} {H : Heap} {locs : List Loc} (h : EV A s) (hS : va_S A s.heap H locs) (hU : U.heap = H) (hW : s.WarmedH U.vm) : EV A U := by
  obtain ⟨h1, h2, h3, h4, h5, h6, h7, h8, h9, h10⟩ := h
  refine ⟨fun w hw => ?_, by rw [hU]; exact vx_Zq.moved hW.alike (h2.kept hS.2.1), by rw [hU]; exact vx_Zq.moved hW.alike (h3.kept hS.2.1), fun q hq => ?_, over_moved hW.alike h5, h6.next hS hU hW, h7.next hS hU hW, va_AO.moved hW.alike h8, va_Nw.warmF hW h9, fun q hq => va_Nc.moved hW.alike (h10 q hq)⟩
  · have hf := (List.mem_filter.mp hw).2
    exact fa_moved hW.alike hf (h1 w hw) (face_ot hf)
  · obtain ⟨sa, hsa⟩ := h4 q hq
    exact ⟨sa, vk_R.warm hW hsa⟩
theorem EV.calling {A : Nat → Prop} {U : State} (h : EV A U) (g : JFrame) (mk : MethodId) (a : Array Value) : EV A (U.calling g mk a) :=
  h.next (U := U.calling g mk a) (H := U.heap) (locs := []) va_S.rf rfl (State.WarmedH.refl U)
theorem PE.blind {D : va_G} {cs : Nat → ClassId} {A : Nat → Prop} {ad : Nat → Nat} {T : Nat} {C : Nat → va_E} {av : List Value} : FrameBlind (va_Pc av (PE (EV A) D cs A ad T C)) := fun a U g mk q => by
  obtain ⟨q0, q1, q2⟩ := q
  exact ⟨q0, (PW.blind a U g mk ⟨q0, q1⟩).2, q2.calling g mk a⟩
theorem vaP_kept {D : va_G} {ws : va_W} {H H1 : Heap} (h : va_P D classes ws H) (hq : ∀ q : Nat, q < H.size → H1[q]? = H[q]?) : va_P D classes ws H1 := fun k q hk => (h k q hk).kept (hq _ (vx_lt h hk))
/-- what is thrown: the class, and the world then -/
def XP (px : String → (Nat → va_E) → Prop) (D : va_G) (cs : Nat → ClassId) (A : Nat → Prop) (ad : Nat → Nat) (T : Nat) : String → State → State → Prop := vx_X (fun u : String × (Nat → va_E) => px u.1 u.2) (fun E u t => E = u.1 ∧ QW D cs ad T u.2 t) A
def FXv (l : Launch) (y : MethodName) (ws : List Cond) (rm : Room) (D : va_G) (cs : Nat → ClassId) (A : Nat → Prop) (ad : Nat → Nat) (T : Nat) (av : List Value) (C : Nat → va_E) (post : (Nat → va_E) → Prop) (px : String → (Nat → va_E) → Prop) (k : Nat) : Prop :=
  vx_Met l y ws rm (va_Pc av (PE (EV A) D cs A ad T C)) (va_Qv post (QW D cs ad T) A) (XP px D cs A ad T) k (6 * k) A
def FXi (l : Launch) (y : MethodName) (ws : List Cond) (rm : Room) (D : va_G) (cs : Nat → ClassId) (A : Nat → Prop) (ad : Nat → Nat) (T : Nat) (av : List Value) (C : Nat → va_E) (post : Int32 → (Nat → va_E) → Prop) (px : String → (Nat → va_E) → Prop) (k : Nat) : Prop :=
  vx_Met l y ws rm (va_Pc av (PE (EV A) D cs A ad T C)) (va_Qi post (QW D cs ad T) A) (XP px D cs A ad T) k (6 * k) A
def FXr (l : Launch) (y : MethodName) (ws : List Cond) (rm : Room) (D : va_G) (cs : Nat → ClassId) (A : Nat → Prop) (ad : Nat → Nat) (T : Nat) (av : List Value) (C : Nat → va_E) (post : Nat → (Nat → va_E) → Prop) (px : String → (Nat → va_E) → Prop) (k : Nat) : Prop :=
  vx_Met l y ws rm (va_Pc av (PE (EV A) D cs A ad T C)) (va_Qr (fun _ => True) (fun u a t => post a u ∧ QW D cs ad T u t) A) (XP px D cs A ad T) k (6 * k) A
theorem f_bodyv {l : Launch} {D : va_G} {cs : Nat → ClassId} {A : Nat → Prop} {ad : Nat → Nat} {T : Nat} {C : Nat → va_E} {y : MethodName} {bytes : ByteArray} {maxL : Nat} {ret : Option FieldType} {rm : Room} {av : List Value} {post : (Nat → va_E) → Prop} {px : String → (Nat → va_E) → Prop} {k : Nat} (hy : plainName y.cls = true) (hln : (lg_sl av).length ≤ maxL)
    (body : ∀ (p : Program) (e : Env) (s : State) (m : MethodId) (below : List Frame) (meth : Method) (c : Code), Cx p s m av.toArray c bytes y.cls → meth.sig.returnType = ret → meth.locks = false → c.maxLocals = maxL → (∀ x ∈ c.exceptionTable.toList, False) → EV A s → Wd D cs A ad T s C s.heap [] → ∀ ls : Array Slot, lv_has ls maxL (lv_args 0 av) →
      W p l e rm s m av.toArray below meth c s.heap [] 0 0 (vx_MQ below (va_Qv post (QW D cs ad T) A) (XP px D cs A ad T) av.toArray s k (6 * k) A) (F0 m 0 ls [])) : FXv l y (Cond.code y bytes maxL ret :: TB) rm D cs A ad T av C post px k := by
  refine vx_ofW (cc := bytes) (maxL := maxL) (ret := ret) hy rfl ?_
  intro p e s m args below meth c s₁ B hml hnx hv
  obtain ⟨rfl, ⟨hK, hd, hA, hP⟩, hEV⟩ := hv
  have hl := lv_entry av (n := maxL) hln
  rw [lg_entry_eq]
  exact body p e s m below meth c ⟨B.exec, B.bytes, findClass_of_methodNamed B.named, fun w hw => atoms_spec (ws := Cond.code y bytes maxL ret :: TB) B.pre w (List.mem_cons_of_mem _ hw)⟩ B.returns B.notSynchronized hml hnx hEV ⟨hK, hd, hA, hP, va_S.rf⟩ _ hl
theorem f_bodyi {l : Launch} {D : va_G} {cs : Nat → ClassId} {A : Nat → Prop} {ad : Nat → Nat} {T : Nat} {C : Nat → va_E} {y : MethodName} {bytes : ByteArray} {maxL : Nat} {ret : Option FieldType} {rm : Room} {av : List Value} {post : Int32 → (Nat → va_E) → Prop} {px : String → (Nat → va_E) → Prop} {k : Nat} (hy : plainName y.cls = true) (hln : (lg_sl av).length ≤ maxL)
    (body : ∀ (p : Program) (e : Env) (s : State) (m : MethodId) (below : List Frame) (meth : Method) (c : Code), Cx p s m av.toArray c bytes y.cls → meth.sig.returnType = ret → meth.locks = false → c.maxLocals = maxL → (∀ x ∈ c.exceptionTable.toList, False) → EV A s → Wd D cs A ad T s C s.heap [] → ∀ ls : Array Slot, lv_has ls maxL (lv_args 0 av) →
      W p l e rm s m av.toArray below meth c s.heap [] 0 0 (vx_MQ below (va_Qi post (QW D cs ad T) A) (XP px D cs A ad T) av.toArray s k (6 * k) A) (F0 m 0 ls [])) : FXi l y (Cond.code y bytes maxL ret :: TB) rm D cs A ad T av C post px k := by
  refine vx_ofW (cc := bytes) (maxL := maxL) (ret := ret) hy rfl ?_
  intro p e s m args below meth c s₁ B hml hnx hv
  obtain ⟨rfl, ⟨hK, hd, hA, hP⟩, hEV⟩ := hv
  have hl := lv_entry av (n := maxL) hln
  rw [lg_entry_eq]
  exact body p e s m below meth c ⟨B.exec, B.bytes, findClass_of_methodNamed B.named, fun w hw => atoms_spec (ws := Cond.code y bytes maxL ret :: TB) B.pre w (List.mem_cons_of_mem _ hw)⟩ B.returns B.notSynchronized hml hnx hEV ⟨hK, hd, hA, hP, va_S.rf⟩ _ hl
theorem f_bodyr {l : Launch} {D : va_G} {cs : Nat → ClassId} {A : Nat → Prop} {ad : Nat → Nat} {T : Nat} {C : Nat → va_E} {y : MethodName} {bytes : ByteArray} {maxL : Nat} {ret : Option FieldType} {rm : Room} {av : List Value} {post : Nat → (Nat → va_E) → Prop} {px : String → (Nat → va_E) → Prop} {k : Nat} (hy : plainName y.cls = true) (hln : (lg_sl av).length ≤ maxL)
    (body : ∀ (p : Program) (e : Env) (s : State) (m : MethodId) (below : List Frame) (meth : Method) (c : Code), Cx p s m av.toArray c bytes y.cls → meth.sig.returnType = ret → meth.locks = false → c.maxLocals = maxL → (∀ x ∈ c.exceptionTable.toList, False) → EV A s → Wd D cs A ad T s C s.heap [] → ∀ ls : Array Slot, lv_has ls maxL (lv_args 0 av) →
      W p l e rm s m av.toArray below meth c s.heap [] 0 0 (vx_MQ below (va_Qr (fun _ => True) (fun u a t => post a u ∧ QW D cs ad T u t) A) (XP px D cs A ad T) av.toArray s k (6 * k) A) (F0 m 0 ls [])) : FXr l y (Cond.code y bytes maxL ret :: TB) rm D cs A ad T av C post px k := by
  refine vx_ofW (cc := bytes) (maxL := maxL) (ret := ret) hy rfl ?_
  intro p e s m args below meth c s₁ B hml hnx hv
  obtain ⟨rfl, ⟨hK, hd, hA, hP⟩, hEV⟩ := hv
  have hl := lv_entry av (n := maxL) hln
  rw [lg_entry_eq]
  exact body p e s m below meth c ⟨B.exec, B.bytes, findClass_of_methodNamed B.named, fun w hw => atoms_spec (ws := Cond.code y bytes maxL ret :: TB) B.pre w (List.mem_cons_of_mem _ hw)⟩ B.returns B.notSynchronized hml hnx hEV ⟨hK, hd, hA, hP, va_S.rf⟩ _ hl
