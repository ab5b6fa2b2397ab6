/-! Math.floorMod -/
theorem ixor_neg {a b : Int} (ha : rg a) (hb : 0 ≤ b ∧ b < 2147483648) : (iI a ^^^ iI b) < iI 0 ↔ a < 0 := by
  have key : ∀ x : Int32, x < iI 0 ↔ x.toBitVec.msb = true := fun x => by
    rw [Int32.lt_iff_toInt_lt, BitVec.msb_eq_toInt, decide_eq_true_iff]
    rfl
  have hbm : (iI b).toBitVec.msb = false := by
    cases h : (iI b).toBitVec.msb with
    | false => rfl
    | true =>
      have h2 := (key (iI b)).mpr h
      rw [iI_lt (by omega) (by omega)] at h2
      omega
  rw [key, Int32.toBitVec_xor, BitVec.msb_xor, hbm, Bool.xor_false, ← key, iI_lt ha (by omega)]
section FMS
variable {p : Program} {l : Launch} {e : Env} {R : Room} {s : State} {m : MethodId} {args : Array Value} {below : List Frame} {meth : Method} {c : Code} {H : Heap} {locs : List Loc} {cells slots : Nat} {Q : State → Prop} {D : va_G} {cs : Nat → ClassId} {A : Nat → Prop} {ad : Nat → Nat} {T : Nat}
variable {cc : ByteArray} {own : String} {pc : Nat} {ls : Array Slot} {rest st : List Value} {C : Nat → va_E}
theorem i_xge (X : Cx p s m args c cc own) {a b off : Int} {tgt : Nat} (ha : rg a) (hb : 0 ≤ b ∧ b < 2147483648) (d1 : decode cc pc = .ok (.ixor, 1)) (d2 : decode cc (pc + 1) = .ok (.ifCond .ge off, 3)) (ht : ((pc + 1 : Nat) : Int) + off = (tgt : Int)) (kt : 0 ≤ a → W p l e R s m args below meth c H locs cells slots Q (F0 m tgt ls rest)) (kf : a < 0 → W p l e R s m args below meth c H locs cells slots Q (F0 m (pc + 1 + 3) ls rest)) : W p l e R s m args below meth c H locs cells slots Q (F0 m pc ls (.int (iI b) :: .int (iI a) :: rest)) := by
  refine lv_ixor X.1 X.2.1 d1 ?_
  have key := ixor_neg ha hb
  refine lv_if_ge X.1 X.2.1 d2 ht (fun h => kt ?_) (fun h => kf ?_)
  · by_cases g : a < 0
    · have g2 := key.mpr g
      rw [Int32.lt_iff_toInt_lt] at g2
      rw [Int32.le_iff_toInt_le] at h
      have e : (0 : Int32).toInt = (iI 0).toInt := rfl
      omega
    · omega
  · refine key.mp ?_
    rw [Int32.lt_iff_toInt_lt]
    rw [Int32.le_iff_toInt_le] at h
    have e : (0 : Int32).toInt = (iI 0).toInt := rfl
    omega
theorem w_cSiM {y : MethodName} {bytes : ByteArray} {n maxL nL index : Nat} {ret : Option FieldType} {rm : Room} {As : List Value} {post : Int32 → (Nat → va_E) → Prop}
    (X : Cx p s m args c cc own) (w : Wd D cs A ad T s C H locs) (hml : c.maxLocals = nL) (hls : ls.size = nL) (hM : Ci l y (Cond.code y bytes maxL ret :: TB) rm D cs A ad T As C post)
    (k1 : Cond.methodLink own index y ∈ TB) (k2 : Cond.static y ∈ TB) (k4 : Cond.initialized y.cls ∈ TB) (k5 : Cond.code y bytes maxL ret ∈ TB)
    (hd : y.cls ≠ "java/lang/invoke/MethodHandle" ∧ y.cls ≠ "java/lang/invoke/VarHandle" ∧ (parseMethodDescriptor y.desc).map (fun d => d.parameters.length) = some n) (hn : As.length = n) (hR : rm.frames + 1 ≤ R.frames ∧ 8 + (maxL + 11) + rm.locals ≤ R.locals) (hrc : rm.cells = 0 ∧ rm.slots = 0) (hcl : cells ≤ R.cells ∧ slots ≤ R.slots)
    (hst : st = As.reverse ++ rest) (hW : (rest.map fun v => v.category).sum ≤ 8) (hdg : decode cc pc = .ok (.invokestatic index, 3))
    (kk : ∀ (r : Int32) (C' : Nat → va_E) (H' : Heap) (locs' : List Loc), post r C' → Wd D cs A ad T s C' H' locs' → W p l e R s m args below meth c H' locs' cells slots Q (F0 m (pc + 3) ls (.int r :: rest))) : W p l e R s m args below meth c H locs cells slots Q (F0 m pc ls st) :=
  va_calli (va_runS (As := As) (rest := rest) ⟨X.1, X.2.1, hml, X.2.2.1, X.2.2.2⟩ hM ⟨callB_of n X.2.2.2 (tb_cons k5 tb_good) rfl hrc.1 hrc.2 (X.2.2.2 _ k4) (X.2.2.2 _ k1) hd hR, X.2.2.2 _ k2⟩ ⟨PW.blind, fun U hU hW => ⟨rfl, w.pre hU hW⟩⟩ rfl hn hls hst (lv_room hW) hdg hcl) w.2.2.2.2 (fun _ _ h => h) (fun _ h => h) (fun r u t H1 locs1 ht hvm hp hB hz hk hS => kk r u H1 locs1 hp (w.post ht hB hS))
end FMS
theorem w_bodyIF {l : Launch} {D : va_G} {cs : Nat → ClassId} {A : Nat → Prop} {ad : Nat → Nat} {T : Nat} {C : Nat → va_E} {y : MethodName} {bytes : ByteArray} {maxL : Nat} {ret : Option FieldType} {rm : Room} {av : List Value} {post : Int32 → (Nat → va_E) → Prop} (hy : plainFor y = true) (hln : (lg_sl av).length ≤ maxL)
    (body : ∀ (p : Program) (e : Env) (s : State) (m : MethodId) (below : List Frame) (meth : Method) (c : Code), Cx p s m av.toArray c bytes y.cls → meth.sig.returnType = ret → meth.locks = false → c.maxLocals = maxL → Wd D cs A ad T s C s.heap [] → ∀ ls : Array Slot, lv_has ls maxL (lv_args 0 av) →
      W p l e rm s m av.toArray below meth c s.heap [] 0 0 (MQ below (va_Qi post (QW D cs ad T) A) av.toArray s 0 0 A) (F0 m 0 ls [])) : Ci l y (Cond.code y bytes maxL ret :: TB) rm D cs A ad T av C post := by
  unfold Ci Met
  refine MetFree.of_bodySF (code := bytes) (maxLocals := maxL) (ret := ret) hy ?_ ?_
  · intro args s m h hn
    obtain ⟨meth, c, h1, h2, h3, h4, h5, h6, -, -⟩ := Cond.code_spec hn (atoms_spec (ws := Cond.code y bytes maxL ret :: TB) h _ List.mem_cons_self)
    exact ⟨meth, c, h1, h2, h3, h4, h5, h6⟩
  · intro p e s m args below meth c s₁ B hml hv _
    have hh0 : s₁.heap = s.heap := by rw [B.state]; rfl
    obtain ⟨rfl, hK, hd, hA, hP⟩ := hv
    have hl := lv_entry av (n := maxL) hln
    have hb := body p e s m below meth c ⟨B.exec, B.bytes, findClass_of_methodNamed B.named, fun w hw => atoms_spec (ws := Cond.code y bytes maxL ret :: TB) B.pre w (List.mem_cons_of_mem _ hw)⟩ B.returns B.notSynchronized hml ⟨hK, hd, hA, hP, va_S.rf⟩ _ hl
    rw [← lg_entry_eq] at hb
    obtain ⟨t, a1, o, b1, b2, b3⟩ := hb s₁ hh0 (Stand.of_body B)
    exact ⟨t, o, a1, b1, b2, ⟨b3.1, b3.2⟩⟩
theorem tmod_neg {a b : Int} (hb : 0 < b) (ha : a < 0) (h : a.tmod b ≠ 0) : a.tmod b + b = a % b := by
  have h1 := tmod_fix (a := a) hb
  have h2 : -b < a.tmod b ∧ a.tmod b ≤ 0 := by
    have h3 := Int.tmod_lt_of_pos (-a) hb
    have h4 := Int.tmod_nonneg b (show 0 ≤ -a by omega)
    rw [Int.neg_tmod] at h3 h4
    omega
  rw [← h1.1, Int.emod_eq_of_lt (by omega) (by omega)]
theorem tmod_pos {a b : Int} (hb : 0 < b) (ha : 0 ≤ a ∨ a.tmod b = 0) : a.tmod b = a % b := by
  rcases ha with h | h
  · exact Int.tmod_eq_emod_of_nonneg h
  · have h1 := tmod_fix (a := a) hb
    rw [h, Int.zero_add, Int.emod_self] at h1
    rw [h]; exact h1.1
theorem c_Math_floorMod {l : Launch} {D : va_G} {cs : Nat → ClassId} {A : Nat → Prop} {ad : Nat → Nat} {T : Nat} {C : Nat → va_E} {v q : Int} (hv : rg v) (hq : 2 ≤ q ∧ q ≤ 13) : Ci l y_Math_floorMod ws_Math_floorMod { frames := 0, cells := 0, slots := 0, locals := 0 } D cs A ad T [.int (iI v), .int (iI q)] C (fun r C' => r = iI (v % q) ∧ C' = C) := by
  refine w_bodyIF (by decide +kernel) (Nat.le_of_ble_eq_true rfl) ?_
  intro p e s m below meth c X hr hlk hml w ls hl
  have hl : lv_has ls 3 [(0, .int (iI v)), (1, .int (iI q))] := hl
  have hb1 := Int.tmod_lt_of_pos v (show 0 < q by omega)
  have hb2 : -q < v.tmod q := by
    have := Int.tmod_lt_of_pos (-v) (show 0 < q by omega)
    rw [Int.neg_tmod] at this
    omega
  refine lv_iload_n X.1 X.2.1 d_Math_floorMod_0 rfl (lv_at hl 0 rfl) ?_
  refine lv_iload_n X.1 X.2.1 d_Math_floorMod_1 rfl (lv_at hl 1 rfl) ?_
  refine i_remT (a := v) (b := q) X (by omega) (by omega) d_Math_floorMod_2 ?_
  refine lv_istore_n (lv' := [(2, .int (iI (v.tmod q))), (0, .int (iI (v))), (1, .int (iI (q)))]) X.1 X.2.1 d_Math_floorMod_3 rfl hl (by decide) rfl (fun ls hl => ?_)
  refine lv_iload_n X.1 X.2.1 d_Math_floorMod_4 rfl (lv_at hl 1 rfl) ?_
  refine lv_iload_n X.1 X.2.1 d_Math_floorMod_5 rfl (lv_at hl 2 rfl) ?_
  refine i_xge (tgt := 18) X hv (by omega) d_Math_floorMod_6 d_Math_floorMod_7 (by decide) (fun h_7 => ?_) (fun h_7 => ?_)
  · refine lv_iload_n X.1 X.2.1 d_Math_floorMod_18 rfl (lv_at hl 0 rfl) ?_
    exact w_iret X hr hlk w ⟨by rw [tmod_pos (by omega) (Or.inl h_7)], rfl⟩ d_Math_floorMod_19
  · refine lv_iload_n X.1 X.2.1 d_Math_floorMod_10 rfl (lv_at hl 0 rfl) ?_
    refine z_eq (a := v.tmod q) (tgt := 18) X (by omega) d_Math_floorMod_11 (by decide) (fun h_11 => ?_) (fun h_11 => ?_)
    · refine lv_iload_n X.1 X.2.1 d_Math_floorMod_18 rfl (lv_at hl 0 rfl) ?_
      exact w_iret X hr hlk w ⟨by rw [tmod_pos (by omega) (Or.inr h_11)], rfl⟩ d_Math_floorMod_19
    · refine lv_iload_n X.1 X.2.1 d_Math_floorMod_14 rfl (lv_at hl 0 rfl) ?_
      refine lv_iload_n X.1 X.2.1 d_Math_floorMod_15 rfl (lv_at hl 2 rfl) ?_
      refine i_add (a := v.tmod q) (b := q) X d_Math_floorMod_16 ?_
      exact w_iret X hr hlk w ⟨by rw [tmod_neg (by omega) h_7 h_11], rfl⟩ d_Math_floorMod_17
