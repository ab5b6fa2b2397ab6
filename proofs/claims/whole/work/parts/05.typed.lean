/-! bodies, ends and calls -/
section WB
variable {l : Launch} {D : va_G} {cs : Nat → ClassId} {A : Nat → Prop} {ad : Nat → Nat} {T : Nat} {C : Nat → va_E}
theorem w_bodyV {y : MethodName} {bytes : ByteArray} {maxL : Nat} {ret : Option FieldType} {rm : Room} {av : List Value} {post : (Nat → va_E) → Prop} (hy : plainName y.cls = true) (hln : (lg_sl av).length ≤ maxL)
    (body : ∀ (p : Program) (e : Env) (s : State) (m : MethodId) (below : List Frame) (meth : Method) (c : Code), Cx p s m av.toArray c bytes y.cls → meth.sig.returnType = ret → meth.locks = false → c.maxLocals = maxL → Wd D cs A ad T s C s.heap [] → ∀ ls : Array Slot, lv_has ls maxL (lv_args 0 av) →
      W p l e rm s m av.toArray below meth c s.heap [] 0 0 (MQ below (va_Qv post (QW D cs ad T) A) av.toArray s 0 0 A) (F0 m 0 ls [])) : Cv l y (Cond.code y bytes maxL ret :: TB) rm D cs A ad T av C post := by
  refine Met.ofW (cc := bytes) (maxL := maxL) (ret := ret) hy rfl ?_
  intro p e s m args below meth c s₁ B hml hv
  obtain ⟨rfl, hK, hd, hA, hP⟩ := hv
  have hl := lv_entry av (n := maxL) hln
  rw [lg_entry_eq]
  exact body p e s m below meth c ⟨B.exec, B.bytes, findClass_of_methodNamed B.named, fun w hw => atoms_spec (ws := Cond.code y bytes maxL ret :: TB) B.pre w (List.mem_cons_of_mem _ hw)⟩ B.returns B.notSynchronized hml ⟨hK, hd, hA, hP, va_S.rf⟩ _ hl
theorem w_bodyI {y : MethodName} {bytes : ByteArray} {maxL : Nat} {ret : Option FieldType} {rm : Room} {av : List Value} {post : Int32 → (Nat → va_E) → Prop} (hy : plainName y.cls = true) (hln : (lg_sl av).length ≤ maxL)
    (body : ∀ (p : Program) (e : Env) (s : State) (m : MethodId) (below : List Frame) (meth : Method) (c : Code), Cx p s m av.toArray c bytes y.cls → meth.sig.returnType = ret → meth.locks = false → c.maxLocals = maxL → Wd D cs A ad T s C s.heap [] → ∀ ls : Array Slot, lv_has ls maxL (lv_args 0 av) →
      W p l e rm s m av.toArray below meth c s.heap [] 0 0 (MQ below (va_Qi post (QW D cs ad T) A) av.toArray s 0 0 A) (F0 m 0 ls [])) : Ci l y (Cond.code y bytes maxL ret :: TB) rm D cs A ad T av C post := by
  refine Met.ofW (cc := bytes) (maxL := maxL) (ret := ret) hy rfl ?_
  intro p e s m args below meth c s₁ B hml hv
  obtain ⟨rfl, hK, hd, hA, hP⟩ := hv
  have hl := lv_entry av (n := maxL) hln
  rw [lg_entry_eq]
  exact body p e s m below meth c ⟨B.exec, B.bytes, findClass_of_methodNamed B.named, fun w hw => atoms_spec (ws := Cond.code y bytes maxL ret :: TB) B.pre w (List.mem_cons_of_mem _ hw)⟩ B.returns B.notSynchronized hml ⟨hK, hd, hA, hP, va_S.rf⟩ _ hl
end WB
section WR
variable {p : Program} {l : Launch} {e : Env} {R : Room} {s : State} {m : MethodId} {args : Array Value} {below : List Frame} {meth : Method} {c : Code} {H : Heap} {locs : List Loc} {cells slots : Nat} {Q : State → Prop}
variable {cc : ByteArray} {own : String} {pc : Nat} {ls : Array Slot} {rest st : List Value} {D : va_G} {cs : Nat → ClassId} {A : Nat → Prop} {ad : Nat → Nat} {T : Nat} {C : Nat → va_E}
theorem w_vret {post : (Nat → va_E) → Prop} (X : Cx p s m args c cc own) (hr : meth.sig.returnType = none) (hlk : meth.locks = false) (w : Wd D cs A ad T s C H locs) (hp : post C) (hdg : decode cc pc = .ok (.return_, 1)) : W p l e R s m args below meth c H locs 0 0 (MQ below (va_Qv post (QW D cs ad T) A) args s 0 0 A) (F0 m pc ls []) :=
  W.vret X.1 X.2.1 hr (fun t ht hW => ⟨⟨C, rfl, hp, va_K.moved hW.alike w.1, by rw [ht]; exact w.2.2.2.1⟩, w.2.2.2.2.F ht⟩) w.2.2.2.2.2.2 hdg hlk
theorem w_iret {post : Int32 → (Nat → va_E) → Prop} {v : Int32} (X : Cx p s m args c cc own) (hr : meth.sig.returnType = some .int) (hlk : meth.locks = false) (w : Wd D cs A ad T s C H locs) (hp : post v C) (hdg : decode cc pc = .ok (.ireturn, 1)) : W p l e R s m args below meth c H locs 0 0 (MQ below (va_Qi post (QW D cs ad T) A) args s 0 0 A) (F0 m pc ls [.int v]) :=
  W.iret X.1 X.2.1 hr (fun t ht hW => ⟨⟨v, C, rfl, hp, va_K.moved hW.alike w.1, by rw [ht]; exact w.2.2.2.1⟩, w.2.2.2.2.F ht⟩) w.2.2.2.2.2.2 hdg hlk
theorem w_zret {post : Int32 → (Nat → va_E) → Prop} {v : Int32} (X : Cx p s m args c cc own) (hr : meth.sig.returnType = some .boolean) (hn : narrow .boolean (.int v) = .int v) (hlk : meth.locks = false) (w : Wd D cs A ad T s C H locs) (hp : post v C) (hdg : decode cc pc = .ok (.ireturn, 1)) : W p l e R s m args below meth c H locs 0 0 (MQ below (va_Qi post (QW D cs ad T) A) args s 0 0 A) (F0 m pc ls [.int v]) :=
  W.zret X.1 X.2.1 hr hn (fun t ht hW => ⟨⟨v, C, rfl, hp, va_K.moved hW.alike w.1, by rw [ht]; exact w.2.2.2.1⟩, w.2.2.2.2.F ht⟩) w.2.2.2.2.2.2 hdg hlk
theorem PW.blind {av : List Value} : FrameBlind (va_Pc av (PW D cs A ad T C)) := fun a U g mk q => by
  obtain ⟨q0, hK, hd, hA, hP⟩ := q
  exact ⟨q0, va_K.moved (u := U) (U := U.calling g mk a) (Vm.Alike.refl U.vm) hK, hd, hA, hP⟩
theorem Wd.pre (w : Wd D cs A ad T s C H locs) {U : State} (hU : U.heap = H) (hW : s.WarmedH U.vm) : PW D cs A ad T C U :=
  ⟨va_K.moved hW.alike w.1, w.2.1, fun q h => w.2.2.1 q (Nat.le_trans w.2.2.2.2.1 (by rw [← hU]; exact h)), by rw [hU]; exact w.2.2.2.1⟩
theorem Wd.post (w : Wd D cs A ad T s C H locs) {C' : Nat → va_E} {t : State} {H1 : Heap} {locs1 : List Loc} (ht : t.heap = H1) (hB : QW D cs ad T C' t) (hS : va_S A s.heap H1 locs1) : Wd D cs A ad T s C' H1 locs1 := ⟨w.1, w.2.1, w.2.2.1, by rw [← ht]; exact hB.2, hS⟩
theorem w_cVv {y : MethodName} {bytes : ByteArray} {n maxL nL index i ci N : Nat} {ret : Option FieldType} {rm : Room} {As : List Value} {post : (Nat → va_E) → Prop} {Cn : String} {Tn : u_T} {fs : List Value}
    (X : Cx p s m args c cc own) (w : Wd D cs A ad T s C H locs) (hml : c.maxLocals = nL) (hls : ls.size = nL) (hM : Cv l y (Cond.code y bytes maxL ret :: TB) rm D cs A ad T (.ref (ad i) :: As) C post)
    (hi : i < T) (hC : C i = .inr (ci, fs)) (hc : classes[ci]? = some (Cn, Tn, N)) (k1 : Cond.methodLink own index y ∈ TB) (k2 : Cond.instanceMethod y ∈ TB) (k3 : Cond.selects Cn y y ∈ TB) (k4 : Cond.initialized Cn ∈ TB) (k5 : Cond.code y bytes maxL ret ∈ TB)
    (hd : y.cls = Cn ∧ y.cls ≠ "java/lang/invoke/MethodHandle" ∧ y.cls ≠ "java/lang/invoke/VarHandle" ∧ (parseMethodDescriptor y.desc).map (fun d => d.parameters.length) = some n) (hn : As.length = n) (hR : rm.frames + 1 ≤ R.frames ∧ 8 + (maxL + 11) + rm.locals ≤ R.locals) (hrc : rm.cells = 0 ∧ rm.slots = 0) (hcl : cells ≤ R.cells ∧ slots ≤ R.slots)
    (hst : st = As.reverse ++ .ref (ad i) :: rest) (hW : (rest.map fun v => v.category).sum ≤ 8) (hdg : decode cc pc = .ok (.invokevirtual index, 3))
    (kk : ∀ (C' : Nat → va_E) (H' : Heap) (locs' : List Loc), post C' → Wd D cs A ad T s C' H' locs' → W p l e R s m args below meth c H' locs' cells slots Q (F0 m (pc + 3) ls rest)) : W p l e R s m args below meth c H locs cells slots Q (F0 m pc ls st) :=
  va_callv (va_runV (As := As) (rest := rest) ⟨X.1, X.2.1, hml, X.2.2.1, X.2.2.2⟩ hM (cwV n X.2.2.2 (tb_V k1 k2 k3 k4 (tb_cons k5 tb_good)) rfl hrc.1 hrc.2 hd hR) ⟨PW.blind, va_recv w.1 w.2.2.2.1 (ci := ci) (q0 := i) hc (by rw [vW_get hi, hC]), fun U hU hW => ⟨rfl, w.pre hU hW⟩⟩ rfl hn hls hst (lv_room hW) hdg hcl) w.2.2.2.2 (fun _ _ h => h) (fun _ h => h) (fun u t H1 locs1 ht hvm hp hB hz hk hS => kk u H1 locs1 hp (w.post ht hB hS))
theorem w_cVi {y : MethodName} {bytes : ByteArray} {n maxL nL index i ci N : Nat} {ret : Option FieldType} {rm : Room} {As : List Value} {post : Int32 → (Nat → va_E) → Prop} {Cn : String} {Tn : u_T} {fs : List Value}
    (X : Cx p s m args c cc own) (w : Wd D cs A ad T s C H locs) (hml : c.maxLocals = nL) (hls : ls.size = nL) (hM : Ci l y (Cond.code y bytes maxL ret :: TB) rm D cs A ad T (.ref (ad i) :: As) C post)
    (hi : i < T) (hC : C i = .inr (ci, fs)) (hc : classes[ci]? = some (Cn, Tn, N)) (k1 : Cond.methodLink own index y ∈ TB) (k2 : Cond.instanceMethod y ∈ TB) (k3 : Cond.selects Cn y y ∈ TB) (k4 : Cond.initialized Cn ∈ TB) (k5 : Cond.code y bytes maxL ret ∈ TB)
    (hd : y.cls = Cn ∧ y.cls ≠ "java/lang/invoke/MethodHandle" ∧ y.cls ≠ "java/lang/invoke/VarHandle" ∧ (parseMethodDescriptor y.desc).map (fun d => d.parameters.length) = some n) (hn : As.length = n) (hR : rm.frames + 1 ≤ R.frames ∧ 8 + (maxL + 11) + rm.locals ≤ R.locals) (hrc : rm.cells = 0 ∧ rm.slots = 0) (hcl : cells ≤ R.cells ∧ slots ≤ R.slots)
    (hst : st = As.reverse ++ .ref (ad i) :: rest) (hW : (rest.map fun v => v.category).sum ≤ 8) (hdg : decode cc pc = .ok (.invokevirtual index, 3))
    (kk : ∀ (r : Int32) (C' : Nat → va_E) (H' : Heap) (locs' : List Loc), post r C' → Wd D cs A ad T s C' H' locs' → W p l e R s m args below meth c H' locs' cells slots Q (F0 m (pc + 3) ls (.int r :: rest))) : W p l e R s m args below meth c H locs cells slots Q (F0 m pc ls st) :=
  va_calli (va_runV (As := As) (rest := rest) ⟨X.1, X.2.1, hml, X.2.2.1, X.2.2.2⟩ hM (cwV n X.2.2.2 (tb_V k1 k2 k3 k4 (tb_cons k5 tb_good)) rfl hrc.1 hrc.2 hd hR) ⟨PW.blind, va_recv w.1 w.2.2.2.1 (ci := ci) (q0 := i) hc (by rw [vW_get hi, hC]), fun U hU hW => ⟨rfl, w.pre hU hW⟩⟩ rfl hn hls hst (lv_room hW) hdg hcl) w.2.2.2.2 (fun _ _ h => h) (fun _ h => h) (fun r u t H1 locs1 ht hvm hp hB hz hk hS => kk r u H1 locs1 hp (w.post ht hB hS))
theorem w_cSv {y : MethodName} {bytes : ByteArray} {n maxL nL index : Nat} {ret : Option FieldType} {rm : Room} {As : List Value} {post : (Nat → va_E) → Prop}
    (X : Cx p s m args c cc own) (w : Wd D cs A ad T s C H locs) (hml : c.maxLocals = nL) (hls : ls.size = nL) (hM : Cv l y (Cond.code y bytes maxL ret :: TB) rm D cs A ad T As C post)
    (k1 : Cond.methodLink own index y ∈ TB) (k2 : Cond.static y ∈ TB) (k4 : Cond.initialized own ∈ TB) (k5 : Cond.code y bytes maxL ret ∈ TB)
    (hd : y.cls = own ∧ y.cls ≠ "java/lang/invoke/MethodHandle" ∧ y.cls ≠ "java/lang/invoke/VarHandle" ∧ (parseMethodDescriptor y.desc).map (fun d => d.parameters.length) = some n) (hn : As.length = n) (hR : rm.frames + 1 ≤ R.frames ∧ 8 + (maxL + 11) + rm.locals ≤ R.locals) (hrc : rm.cells = 0 ∧ rm.slots = 0) (hcl : cells ≤ R.cells ∧ slots ≤ R.slots)
    (hst : st = As.reverse ++ rest) (hW : (rest.map fun v => v.category).sum ≤ 8) (hdg : decode cc pc = .ok (.invokestatic index, 3))
    (kk : ∀ (C' : Nat → va_E) (H' : Heap) (locs' : List Loc), post C' → Wd D cs A ad T s C' H' locs' → W p l e R s m args below meth c H' locs' cells slots Q (F0 m (pc + 3) ls rest)) : W p l e R s m args below meth c H locs cells slots Q (F0 m pc ls st) :=
  va_callv (va_runS (As := As) (rest := rest) ⟨X.1, X.2.1, hml, X.2.2.1, X.2.2.2⟩ hM (cwS n X.2.2.2 (tb_S k1 k2 k4 (tb_cons k5 tb_good)) rfl hrc.1 hrc.2 hd hR) ⟨PW.blind, fun U hU hW => ⟨rfl, w.pre hU hW⟩⟩ rfl hn hls hst (lv_room hW) hdg hcl) w.2.2.2.2 (fun _ _ h => h) (fun _ h => h) (fun u t H1 locs1 ht hvm hp hB hz hk hS => kk u H1 locs1 hp (w.post ht hB hS))
theorem w_cSi {y : MethodName} {bytes : ByteArray} {n maxL nL index : Nat} {ret : Option FieldType} {rm : Room} {As : List Value} {post : Int32 → (Nat → va_E) → Prop}
    (X : Cx p s m args c cc own) (w : Wd D cs A ad T s C H locs) (hml : c.maxLocals = nL) (hls : ls.size = nL) (hM : Ci l y (Cond.code y bytes maxL ret :: TB) rm D cs A ad T As C post)
    (k1 : Cond.methodLink own index y ∈ TB) (k2 : Cond.static y ∈ TB) (k4 : Cond.initialized own ∈ TB) (k5 : Cond.code y bytes maxL ret ∈ TB)
    (hd : y.cls = own ∧ y.cls ≠ "java/lang/invoke/MethodHandle" ∧ y.cls ≠ "java/lang/invoke/VarHandle" ∧ (parseMethodDescriptor y.desc).map (fun d => d.parameters.length) = some n) (hn : As.length = n) (hR : rm.frames + 1 ≤ R.frames ∧ 8 + (maxL + 11) + rm.locals ≤ R.locals) (hrc : rm.cells = 0 ∧ rm.slots = 0) (hcl : cells ≤ R.cells ∧ slots ≤ R.slots)
    (hst : st = As.reverse ++ rest) (hW : (rest.map fun v => v.category).sum ≤ 8) (hdg : decode cc pc = .ok (.invokestatic index, 3))
    (kk : ∀ (r : Int32) (C' : Nat → va_E) (H' : Heap) (locs' : List Loc), post r C' → Wd D cs A ad T s C' H' locs' → W p l e R s m args below meth c H' locs' cells slots Q (F0 m (pc + 3) ls (.int r :: rest))) : W p l e R s m args below meth c H locs cells slots Q (F0 m pc ls st) :=
  va_calli (va_runS (As := As) (rest := rest) ⟨X.1, X.2.1, hml, X.2.2.1, X.2.2.2⟩ hM (cwS n X.2.2.2 (tb_S k1 k2 k4 (tb_cons k5 tb_good)) rfl hrc.1 hrc.2 hd hR) ⟨PW.blind, fun U hU hW => ⟨rfl, w.pre hU hW⟩⟩ rfl hn hls hst (lv_room hW) hdg hcl) w.2.2.2.2 (fun _ _ h => h) (fun _ h => h) (fun r u t H1 locs1 ht hvm hp hB hz hk hS => kk r u H1 locs1 hp (w.post ht hB hS))
end WR
/-! the typed world: 61 polynomials at the places 2 k (object) and 2 k + 1 (row), the other cells O from 122 on -/
abbrev PV : Type := Int × (Nat → Int)
def wd (k : Nat) : Nat := if k < 2 then 300 else 25
def mkV (cs : Nat → ClassId) (ad : Nat → Nat) (V : Nat → PV) (O : Nat → va_E) : Nat → va_E := fun i => if i < 122 then (if i % 2 = 0 then pE ad (i + 1) (V (i / 2)).1 else aI cs (wd (i / 2)) (V (i / 2)).2) else O i
theorem wd_lt (k : Nat) : wd k < 2147483648 := by unfold wd; split <;> omega
theorem wd_ge (k : Nat) : 25 ≤ wd k := by unfold wd; split <;> omega
theorem mkV_o {cs : Nat → ClassId} {ad : Nat → Nat} {V : Nat → PV} {O : Nat → va_E} {k : Nat} (h : k < 61) : mkV cs ad V O (2 * k) = pE ad (2 * k + 1) (V k).1 := by
  unfold mkV
  rw [if_pos (by omega), if_pos (by omega), show 2 * k / 2 = k by omega]
theorem mkV_a {cs : Nat → ClassId} {ad : Nat → Nat} {V : Nat → PV} {O : Nat → va_E} {k : Nat} (h : k < 61) : mkV cs ad V O (2 * k + 1) = aI cs (wd k) (V k).2 := by
  unfold mkV
  rw [if_pos (by omega), if_neg (by omega), show (2 * k + 1) / 2 = k by omega]
theorem mkV_O {cs : Nat → ClassId} {ad : Nat → Nat} {V : Nat → PV} {O : Nat → va_E} {i : Nat} (h : 122 ≤ i) : mkV cs ad V O i = O i := by
  unfold mkV
  rw [if_neg (by omega)]
theorem mkV_so {cs : Nat → ClassId} {ad : Nat → Nat} {V : Nat → PV} {O : Nat → va_E} {k : Nat} {z : Int} (h : k < 61) : va_up (mkV cs ad V O) (2 * k) (pE ad (2 * k + 1) z) = mkV cs ad (va_up V k (z, (V k).2)) O := by
  funext i
  by_cases hi : i = 2 * k
  · subst hi
    rw [va_up_self, mkV_o h, va_up_self]
  · rw [va_up_ne _ _ hi]
    unfold mkV
    by_cases h1 : i < 122
    · rw [if_pos h1, if_pos h1]
      by_cases h2 : i % 2 = 0
      · rw [if_pos h2, if_pos h2, va_up_ne _ _ (by omega)]
      · rw [if_neg h2, if_neg h2]
        by_cases h3 : i / 2 = k
        · rw [h3, va_up_self]
        · rw [va_up_ne _ _ h3]
    · rw [if_neg h1, if_neg h1]
theorem mkV_sa {cs : Nat → ClassId} {ad : Nat → Nat} {V : Nat → PV} {O : Nat → va_E} {k : Nat} {F : Nat → Int} (h : k < 61) : va_up (mkV cs ad V O) (2 * k + 1) (aI cs (wd k) F) = mkV cs ad (va_up V k ((V k).1, F)) O := by
  funext i
  by_cases hi : i = 2 * k + 1
  · subst hi
    rw [va_up_self, mkV_a h, va_up_self]
  · rw [va_up_ne _ _ hi]
    unfold mkV
    by_cases h1 : i < 122
    · rw [if_pos h1, if_pos h1]
      by_cases h2 : i % 2 = 0
      · rw [if_pos h2, if_pos h2]
        by_cases h3 : i / 2 = k
        · rw [h3, va_up_self]
        · rw [va_up_ne _ _ h3]
      · rw [if_neg h2, if_neg h2, va_up_ne _ _ (by omega)]
    · rw [if_neg h1, if_neg h1]
theorem mkV_sO {cs : Nat → ClassId} {ad : Nat → Nat} {V : Nat → PV} {O : Nat → va_E} {i : Nat} {x : va_E} (h : 122 ≤ i) : va_up (mkV cs ad V O) i x = mkV cs ad V (va_up O i x) := by
  funext j
  by_cases hj : j = i
  · subst hj
    rw [va_up_self, mkV_O h, va_up_self]
  · rw [va_up_ne _ _ hj]
    unfold mkV
    split
    · rfl
    · rw [va_up_ne _ _ hj]
section TR
variable {p : Program} {l : Launch} {e : Env} {R : Room} {s : State} {m : MethodId} {args : Array Value} {below : List Frame} {meth : Method} {c : Code} {H : Heap} {locs : List Loc} {cells slots : Nat} {Q : State → Prop}
variable {cc : ByteArray} {own : String} {pc : Nat} {ls : Array Slot} {rest st : List Value} {D : va_G} {cs : Nat → ClassId} {A : Nat → Prop} {ad : Nat → Nat} {T : Nat} {V : Nat → PV} {O : Nat → va_E}
theorem t_deg {k index : Nat} (X : Cx p s m args c cc own) (hT : 132 ≤ T) (w : Wd D cs A ad T s (mkV cs ad V O) H locs) (hk : k < 61) (hlink : Cond.fieldLink own index "FieldFactors$Polynomial" "degree" "I" ∈ TB) (hdg : decode cc pc = .ok (.getfield index, 3))
    (kk : W p l e R s m args below meth c H locs cells slots Q (F0 m (pc + 3) ls (.int (iI (V k).1) :: rest))) : W p l e R s m args below meth c H locs cells slots Q (F0 m pc ls (.ref (ad (2 * k)) :: rest)) :=
  w_get X w (Nat.lt_of_lt_of_le (by omega) hT) (mkV_o hk) (ci := 0) rfl k_l_Po 1 (by decide) hlink rfl hdg kk
theorem t_co {k index : Nat} (X : Cx p s m args c cc own) (hT : 132 ≤ T) (w : Wd D cs A ad T s (mkV cs ad V O) H locs) (hk : k < 61) (hlink : Cond.fieldLink own index "FieldFactors$Polynomial" "coefficients" "[I" ∈ TB) (hdg : decode cc pc = .ok (.getfield index, 3))
    (kk : W p l e R s m args below meth c H locs cells slots Q (F0 m (pc + 3) ls (.ref (ad (2 * k + 1)) :: rest))) : W p l e R s m args below meth c H locs cells slots Q (F0 m pc ls (.ref (ad (2 * k)) :: rest)) :=
  w_get X w (Nat.lt_of_lt_of_le (by omega) hT) (mkV_o hk) (ci := 0) rfl k_l_Po 0 (by decide) hlink rfl hdg kk
theorem t_ld {k : Nat} {z : Int} (X : Cx p s m args c cc own) (hT : 132 ≤ T) (w : Wd D cs A ad T s (mkV cs ad V O) H locs) (hk : k < 61) (j : Nat) (hz : z = (j : Int)) (hj : j < wd k) (hdg : decode cc pc = .ok (.iaload, 1))
    (kk : W p l e R s m args below meth c H locs cells slots Q (F0 m (pc + 1) ls (.int (iI ((V k).2 j)) :: rest))) : W p l e R s m args below meth c H locs cells slots Q (F0 m pc ls (.int (iI z) :: .ref (ad (2 * k + 1)) :: rest)) :=
  w_ild X w (Nat.lt_of_lt_of_le (by omega) hT) (mkV_a hk) j hz hj (wd_lt k) hdg kk
theorem t_st {k : Nat} {z v : Int} (X : Cx p s m args c cc own) (hT : 132 ≤ T) (w : Wd D cs A ad T s (mkV cs ad V O) H locs) (hk : k < 61) (j : Nat) (hz : z = (j : Int)) (hj : j < wd k) (hdg : decode cc pc = .ok (.iastore, 1))
    (kk : ∀ (H1 : Heap) (locs1 : List Loc), Wd D cs A ad T s (mkV cs ad (va_up V k ((V k).1, va_up (V k).2 j v)) O) H1 locs1 → W p l e R s m args below meth c H1 locs1 cells slots Q (F0 m (pc + 1) ls rest)) : W p l e R s m args below meth c H locs cells slots Q (F0 m pc ls (.int (iI v) :: .int (iI z) :: .ref (ad (2 * k + 1)) :: rest)) :=
  w_ist X w (Nat.lt_of_lt_of_le (by omega) hT) (mkV_a hk) j hz hj (wd_lt k) hdg (fun H1 locs1 h => kk H1 locs1 (by rw [mkV_sa hk] at h; exact h))
theorem t_pd {k index : Nat} {z : Int} (X : Cx p s m args c cc own) (hT : 132 ≤ T) (w : Wd D cs A ad T s (mkV cs ad V O) H locs) (hk : k < 61) (hlink : Cond.fieldLink own index "FieldFactors$Polynomial" "degree" "I" ∈ TB) (hdg : decode cc pc = .ok (.putfield index, 3))
    (kk : ∀ (H1 : Heap) (locs1 : List Loc), Wd D cs A ad T s (mkV cs ad (va_up V k (z, (V k).2)) O) H1 locs1 → W p l e R s m args below meth c H1 locs1 cells slots Q (F0 m (pc + 3) ls rest)) : W p l e R s m args below meth c H locs cells slots Q (F0 m pc ls (.int (iI z) :: .ref (ad (2 * k)) :: rest)) :=
  w_put X w (Nat.lt_of_lt_of_le (by omega) hT) (mkV_o hk) (ci := 0) rfl k_l_Po tPo tyPo nPo 1 (by decide) hlink rfl rfl rfl (Nat.le_of_ble_eq_true rfl) hdg (fun H1 locs1 h => kk H1 locs1 (by have h := h; rw [← mkV_so hk]; exact h))
end TR
