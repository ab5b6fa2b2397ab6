/-! longs -/
def lI (z : Int) : Int64 := Int64.ofInt z
abbrev lrg (z : Int) : Prop := -9223372036854775808 ≤ z ∧ z < 9223372036854775808
theorem lI_toInt {z : Int} (h : lrg z) : (lI z).toInt = z := Int64.toInt_ofInt_of_le (by have := h.1; omega) (by have := h.2; omega)
theorem lI_add (a b : Int) : lI a + lI b = lI (a + b) := (Int64.ofInt_add a b).symm
theorem lI_mul (a b : Int) : lI a * lI b = lI (a * b) := (Int64.ofInt_mul a b).symm
theorem lI_eq {a b : Int} (ha : lrg a) (hb : lrg b) : lI a = lI b ↔ a = b := by
  constructor
  · intro h
    have := congrArg Int64.toInt h
    rwa [lI_toInt ha, lI_toInt hb] at this
  · intro h; rw [h]
theorem iI_l {a : Int} (h : rg a) : (iI a).toInt64 = lI a := by
  apply Int64.toInt_inj.mp
  rw [Int32.toInt_toInt64, iI_toInt h, lI_toInt (by omega)]
def lcI (a b : Int) : Int := if b < a then 1 else if a = b then 0 else -1
theorem lcI_rg (a b : Int) : rg (lcI a b) := by unfold lcI; split; decide; split <;> decide
theorem lcI_0 {a b : Int} : lcI a b = 0 ↔ a = b := by unfold lcI; split; omega; split <;> omega
theorem lg_lI {a b : Int} (ha : lrg a) (hb : lrg b) : lg_cmp (lI a) (lI b) = iI (lcI a b) := by
  have e1 : lI b < lI a ↔ b < a := by rw [Int64.lt_iff_toInt_lt, lI_toInt ha, lI_toInt hb]
  unfold lg_cmp lcI
  by_cases h : b < a
  · rw [if_pos (e1.mpr h), if_pos h]; rfl
  · rw [if_neg (fun g => h (e1.mp g)), if_neg h]
    by_cases h2 : a = b
    · rw [if_pos ((lI_eq ha hb).mpr h2), if_pos h2]; rfl
    · rw [if_neg (fun g => h2 ((lI_eq ha hb).mp g)), if_neg h2]; rfl
def aL (cs : Nat → ClassId) (n : Nat) (F : Nat → Int) : va_E := .inl (cs 1, n, .inr (.inl (fun j => lI (F j))))
theorem upd_lA (F : Nat → Int) (k : Nat) (v : Int) : vp_updL (fun j => lI (F j)) k (lI v) = fun j => lI (va_up F k v j) := by
  funext j
  by_cases h : j = k
  · subst h; simp [vp_updL, va_up]
  · simp [vp_updL, va_up, h]
def Cl (l : Launch) (y : MethodName) (ws : List Cond) (rm : Room) (D : va_G) (cs : Nat → ClassId) (A : Nat → Prop) (ad : Nat → Nat) (T : Nat) (av : List Value) (C : Nat → va_E) (post : Int64 → (Nat → va_E) → Prop) : Prop :=
  Met l y ws rm (va_Pc av (PW D cs A ad T C)) (va_Ql post (QW D cs ad T) A) 0 0 A
section LB
variable {l : Launch} {D : va_G} {cs : Nat → ClassId} {A : Nat → Prop} {ad : Nat → Nat} {T : Nat} {C : Nat → va_E}
theorem w_bodyL {y : MethodName} {bytes : ByteArray} {maxL : Nat} {ret : Option FieldType} {rm : Room} {av : List Value} {post : Int64 → (Nat → va_E) → Prop} (hy : plainName y.cls = true) (hln : (lg_sl av).length ≤ maxL)
    (body : ∀ (p : Program) (e : Env) (s : State) (m : MethodId) (below : List Frame) (meth : Method) (c : Code), Cx p s m av.toArray c bytes y.cls → meth.sig.returnType = ret → meth.locks = false → c.maxLocals = maxL → Wd D cs A ad T s C s.heap [] → ∀ ls : Array Slot, lv_has ls maxL (lv_args 0 av) →
      W p l e rm s m av.toArray below meth c s.heap [] 0 0 (MQ below (va_Ql post (QW D cs ad T) A) av.toArray s 0 0 A) (F0 m 0 ls [])) : Cl l y (Cond.code y bytes maxL ret :: TB) rm D cs A ad T av C post := by
  refine Met.ofW (cc := bytes) (maxL := maxL) (ret := ret) hy rfl ?_
  intro p e s m args below meth c s₁ B hml hv
  obtain ⟨rfl, hK, hd, hA, hP⟩ := hv
  have hl := lv_entry av (n := maxL) hln
  rw [lg_entry_eq]
  exact body p e s m below meth c ⟨B.exec, B.bytes, findClass_of_methodNamed B.named, fun w hw => atoms_spec (ws := Cond.code y bytes maxL ret :: TB) B.pre w (List.mem_cons_of_mem _ hw)⟩ B.returns B.notSynchronized hml ⟨hK, hd, hA, hP, va_S.rf⟩ _ hl
end LB
section LR
variable {p : Program} {l : Launch} {e : Env} {R : Room} {s : State} {m : MethodId} {args : Array Value} {below : List Frame} {meth : Method} {c : Code} {H : Heap} {locs : List Loc} {cells slots : Nat} {Q : State → Prop} {D : va_G} {cs : Nat → ClassId} {A : Nat → Prop} {ad : Nat → Nat} {T : Nat}
variable {cc : ByteArray} {own : String} {pc : Nat} {ls : Array Slot} {rest st : List Value} {C : Nat → va_E}
theorem w_lret {post : Int64 → (Nat → va_E) → Prop} {v : Int64} (X : Cx p s m args c cc own) (hr : meth.sig.returnType = some .long) (hlk : meth.locks = false) (w : Wd D cs A ad T s C H locs) (hp : post v C) (hdg : decode cc pc = .ok (.lreturn, 1)) : W p l e R s m args below meth c H locs 0 0 (MQ below (va_Ql post (QW D cs ad T) A) args s 0 0 A) (F0 m pc ls [.long v]) :=
  W.lret X.1 X.2.1 hr (fun t ht hW => ⟨⟨v, C, rfl, hp, va_K.moved hW.alike w.1, by rw [ht]; exact w.2.2.2.1⟩, w.2.2.2.2.F ht⟩) w.2.2.2.2.2.2 hdg hlk
theorem w_cVl {y : MethodName} {bytes : ByteArray} {n maxL nL index i ci N : Nat} {ret : Option FieldType} {rm : Room} {As : List Value} {post : Int64 → (Nat → va_E) → Prop} {Cn : String} {Tn : u_T} {fs : List Value}
    (X : Cx p s m args c cc own) (w : Wd D cs A ad T s C H locs) (hml : c.maxLocals = nL) (hls : ls.size = nL) (hM : Cl l y (Cond.code y bytes maxL ret :: TB) rm D cs A ad T (.ref (ad i) :: As) C post)
    (hi : i < T) (hC : C i = .inr (ci, fs)) (hc : classes[ci]? = some (Cn, Tn, N)) (k1 : Cond.methodLink own index y ∈ TB) (k2 : Cond.instanceMethod y ∈ TB) (k3 : Cond.selects Cn y y ∈ TB) (k4 : Cond.initialized Cn ∈ TB) (k5 : Cond.code y bytes maxL ret ∈ TB)
    (hd : y.cls = Cn ∧ y.cls ≠ "java/lang/invoke/MethodHandle" ∧ y.cls ≠ "java/lang/invoke/VarHandle" ∧ (parseMethodDescriptor y.desc).map (fun d => d.parameters.length) = some n) (hn : As.length = n) (hR : rm.frames + 1 ≤ R.frames ∧ 8 + (maxL + 11) + rm.locals ≤ R.locals) (hrc : rm.cells = 0 ∧ rm.slots = 0) (hcl : cells ≤ R.cells ∧ slots ≤ R.slots)
    (hst : st = As.reverse ++ .ref (ad i) :: rest) (hW : (rest.map fun v => v.category).sum ≤ 8) (hdg : decode cc pc = .ok (.invokevirtual index, 3))
    (kk : ∀ (r : Int64) (C' : Nat → va_E) (H' : Heap) (locs' : List Loc), post r C' → Wd D cs A ad T s C' H' locs' → W p l e R s m args below meth c H' locs' cells slots Q (F0 m (pc + 3) ls (.long r :: rest))) : W p l e R s m args below meth c H locs cells slots Q (F0 m pc ls st) :=
  va_calll (va_runV (As := As) (rest := rest) ⟨X.1, X.2.1, hml, X.2.2.1, X.2.2.2⟩ hM (cwV n X.2.2.2 (tb_V k1 k2 k3 k4 (tb_cons k5 tb_good)) rfl hrc.1 hrc.2 hd hR) ⟨PW.blind, va_recv w.1 w.2.2.2.1 (ci := ci) (q0 := i) hc (by rw [vW_get hi, hC]), fun U hU hW => ⟨rfl, w.pre hU hW⟩⟩ rfl hn hls hst (lv_room hW) hdg hcl) w.2.2.2.2 (fun _ _ h => h) (fun _ h => h) (fun r u t H1 locs1 ht hvm hp hB hz hk hS => kk r u H1 locs1 hp (w.post ht hB hS))
theorem l_add (X : Cx p s m args c cc own) {a b : Int} (hdg : decode cc pc = .ok (.ladd, 1)) (kk : W p l e R s m args below meth c H locs cells slots Q (F0 m (pc + 1) ls (.long (lI (a + b)) :: rest))) : W p l e R s m args below meth c H locs cells slots Q (F0 m pc ls (.long (lI b) :: .long (lI a) :: rest)) := lv_ladd X.1 X.2.1 hdg (by rw [lI_add]; exact kk)
theorem l_mul (X : Cx p s m args c cc own) {a b : Int} (hdg : decode cc pc = .ok (.lmul, 1)) (kk : W p l e R s m args below meth c H locs cells slots Q (F0 m (pc + 1) ls (.long (lI (a * b)) :: rest))) : W p l e R s m args below meth c H locs cells slots Q (F0 m pc ls (.long (lI b) :: .long (lI a) :: rest)) := lv_lmul X.1 X.2.1 hdg (by rw [lI_mul]; exact kk)
theorem l_i2l (X : Cx p s m args c cc own) {a : Int} (ha : rg a) (hdg : decode cc pc = .ok (.i2l, 1)) (kk : W p l e R s m args below meth c H locs cells slots Q (F0 m (pc + 1) ls (.long (lI a) :: rest))) : W p l e R s m args below meth c H locs cells slots Q (F0 m pc ls (.int (iI a) :: rest)) := lv_i2l X.1 X.2.1 hdg (iI_l ha) kk
theorem l_cmp (X : Cx p s m args c cc own) {a b : Int} (ha : lrg a) (hb : lrg b) (hdg : decode cc pc = .ok (.lcmp, 1)) (kk : W p l e R s m args below meth c H locs cells slots Q (F0 m (pc + 1) ls (.int (iI (lcI a b)) :: rest))) : W p l e R s m args below meth c H locs cells slots Q (F0 m pc ls (.long (lI b) :: .long (lI a) :: rest)) := W.lcmp X.1 X.2.1 hdg (by rw [lg_lI ha hb]; exact kk)
theorem w_lld (X : Cx p s m args c cc own) (w : Wd D cs A ad T s C H locs) {i n : Nat} {F : Nat → Int} (hi : i < T) (hC : C i = aL cs n F) {z : Int} (j : Nat) (hz : z = (j : Int)) (hj : j < n) (hn : n < 2147483648) (hdg : decode cc pc = .ok (.laload, 1))
    (kk : W p l e R s m args below meth c H locs cells slots Q (F0 m (pc + 1) ls (.long (lI (F j)) :: rest))) : W p l e R s m args below meth c H locs cells slots Q (F0 m pc ls (.int (iI z) :: .ref (ad i) :: rest)) := by
  subst hz
  refine va_lald X.1 X.2.1 w.1 w.2.2.2.1 i 1 (by rw [vW_get hi, hC]; rfl) rfl (iI_in hj hn) hdg ?_
  rw [iI_clamp (by omega)]
  exact kk
theorem w_lst (X : Cx p s m args c cc own) (w : Wd D cs A ad T s C H locs) {i n : Nat} {F : Nat → Int} (hi : i < T) (hC : C i = aL cs n F) {z v : Int} (j : Nat) (hz : z = (j : Int)) (hj : j < n) (hn : n < 2147483648) (hdg : decode cc pc = .ok (.lastore, 1))
    (kk : ∀ (H1 : Heap) (locs1 : List Loc), Wd D cs A ad T s (va_up C i (aL cs n (va_up F j v))) H1 locs1 → W p l e R s m args below meth c H1 locs1 cells slots Q (F0 m (pc + 1) ls rest)) : W p l e R s m args below meth c H locs cells slots Q (F0 m pc ls (.long (lI v) :: .int (iI z) :: .ref (ad i) :: rest)) := by
  subst hz
  refine va_last X.1 X.2.1 w.1 w.2.2.2.1 (w.2.1.va C) w.2.2.2.2 i 1 (by rw [vW_get hi, hC]; rfl) rfl (iI_in hj hn) hdg (fun H1 locs1 h1 _ h3 => kk H1 locs1 ⟨w.1, w.2.1, w.2.2.1, ?_, h3⟩)
  rw [vW_set, iI_clamp (by omega), upd_lA] at h1
  exact h1
end LR
/-! OrderSearch: its object at the place 128, its codes at 129 and 130 -/
def osF (ad : Nat → Nat) : List Value := [.ref (ad 123), .ref (ad 129), .ref (ad 130), .ref (ad (2 * 16)), .ref (ad (2 * 17)), .ref (ad (2 * 18))]
def osO (cs : Nat → ClassId) (ad : Nat → Nat) (lo hi : Nat → Int) (O : Nat → va_E) : Prop := O 128 = .inr (3, osF ad) ∧ O 129 = aL cs 500 lo ∧ O 130 = aL cs 500 hi ∧ ∀ j, j < 500 → lrg (lo j) ∧ lrg (hi j)
section OT
variable {p : Program} {l : Launch} {e : Env} {R : Room} {s : State} {m : MethodId} {args : Array Value} {below : List Frame} {meth : Method} {c : Code} {H : Heap} {locs : List Loc} {cells slots : Nat} {Q : State → Prop} {D : va_G} {cs : Nat → ClassId} {A : Nat → Prop} {ad : Nat → Nat} {T : Nat}
variable {cc : ByteArray} {own : String} {pc : Nat} {ls : Array Slot} {rest st : List Value} {V : Nat → PV} {O : Nat → va_E} {lo hi : Nat → Int}
theorem t_os {index : Nat} (X : Cx p s m args c cc own) (hT : 132 ≤ T) (w : Wd D cs A ad T s (mkV cs ad V O) H locs) (hS : osO cs ad lo hi O) (k : Nat) (hk : k < 6) (hlink : Cond.fieldLink own index (FOs k).1 (FOs k).2.1 (FOs k).2.2.1 ∈ TB) {v : Value} (hv : (osF ad)[k]? = some v) (hdg : decode cc pc = .ok (.getfield index, 3))
    (kk : W p l e R s m args below meth c H locs cells slots Q (F0 m (pc + 3) ls (v :: rest))) : W p l e R s m args below meth c H locs cells slots Q (F0 m pc ls (.ref (ad 128) :: rest)) :=
  w_get X w (Nat.lt_of_lt_of_le (by decide) hT) (by rw [mkV_O (by decide)]; exact hS.1) (ci := 3) rfl k_l_Os k hk hlink hv hdg kk
theorem t_lo {z : Int} (X : Cx p s m args c cc own) (hT : 132 ≤ T) (w : Wd D cs A ad T s (mkV cs ad V O) H locs) (hS : osO cs ad lo hi O) (j : Nat) (hz : z = (j : Int)) (hj : j < 500) (hdg : decode cc pc = .ok (.laload, 1))
    (kk : W p l e R s m args below meth c H locs cells slots Q (F0 m (pc + 1) ls (.long (lI (lo j)) :: rest))) : W p l e R s m args below meth c H locs cells slots Q (F0 m pc ls (.int (iI z) :: .ref (ad 129) :: rest)) :=
  w_lld X w (Nat.lt_of_lt_of_le (by decide) hT) (by rw [mkV_O (by decide)]; exact hS.2.1) j hz hj (by decide) hdg kk
theorem t_hi {z : Int} (X : Cx p s m args c cc own) (hT : 132 ≤ T) (w : Wd D cs A ad T s (mkV cs ad V O) H locs) (hS : osO cs ad lo hi O) (j : Nat) (hz : z = (j : Int)) (hj : j < 500) (hdg : decode cc pc = .ok (.laload, 1))
    (kk : W p l e R s m args below meth c H locs cells slots Q (F0 m (pc + 1) ls (.long (lI (hi j)) :: rest))) : W p l e R s m args below meth c H locs cells slots Q (F0 m pc ls (.int (iI z) :: .ref (ad 130) :: rest)) :=
  w_lld X w (Nat.lt_of_lt_of_le (by decide) hT) (by rw [mkV_O (by decide)]; exact hS.2.2.1) j hz hj (by decide) hdg kk
theorem t_slo {z v : Int} (X : Cx p s m args c cc own) (hT : 132 ≤ T) (w : Wd D cs A ad T s (mkV cs ad V O) H locs) (hS : osO cs ad lo hi O) (j : Nat) (hz : z = (j : Int)) (hj : j < 500) (hdg : decode cc pc = .ok (.lastore, 1))
    (kk : ∀ (H1 : Heap) (locs1 : List Loc), Wd D cs A ad T s (mkV cs ad V (va_up O 129 (aL cs 500 (va_up lo j v)))) H1 locs1 → W p l e R s m args below meth c H1 locs1 cells slots Q (F0 m (pc + 1) ls rest)) : W p l e R s m args below meth c H locs cells slots Q (F0 m pc ls (.long (lI v) :: .int (iI z) :: .ref (ad 129) :: rest)) :=
  w_lst X w (Nat.lt_of_lt_of_le (by decide) hT) (by rw [mkV_O (by decide)]; exact hS.2.1) j hz hj (by decide) hdg (fun H1 locs1 h => kk H1 locs1 (by rw [mkV_sO (by decide)] at h; exact h))
theorem t_shi {z v : Int} (X : Cx p s m args c cc own) (hT : 132 ≤ T) (w : Wd D cs A ad T s (mkV cs ad V O) H locs) (hS : osO cs ad lo hi O) (j : Nat) (hz : z = (j : Int)) (hj : j < 500) (hdg : decode cc pc = .ok (.lastore, 1))
    (kk : ∀ (H1 : Heap) (locs1 : List Loc), Wd D cs A ad T s (mkV cs ad V (va_up O 130 (aL cs 500 (va_up hi j v)))) H1 locs1 → W p l e R s m args below meth c H1 locs1 cells slots Q (F0 m (pc + 1) ls rest)) : W p l e R s m args below meth c H locs cells slots Q (F0 m pc ls (.long (lI v) :: .int (iI z) :: .ref (ad 130) :: rest)) :=
  w_lst X w (Nat.lt_of_lt_of_le (by decide) hT) (by rw [mkV_O (by decide)]; exact hS.2.2.1) j hz hj (by decide) hdg (fun H1 locs1 h => kk H1 locs1 (by rw [mkV_sO (by decide)] at h; exact h))
end OT
theorem arO.up {cs : Nat → ClassId} {ad : Nat → Nat} {pr : Int} {inv : Nat → Int} {O : Nat → va_E} (hO : arO cs ad pr inv O) {i : Nat} {x : va_E} (h1 : i ≠ 123) (h2 : i ≠ 124) : arO cs ad pr inv (va_up O i x) := ⟨by rw [va_up_ne _ _ (Ne.symm h1)]; exact hO.1, by rw [va_up_ne _ _ (Ne.symm h2)]; exact hO.2.1, hO.2.2⟩
theorem osO.upl {cs : Nat → ClassId} {ad : Nat → Nat} {lo hi lo' : Nat → Int} {O : Nat → va_E} (h : osO cs ad lo hi O) (hr : ∀ j, j < 500 → lrg (lo' j)) : osO cs ad lo' hi (va_up O 129 (aL cs 500 lo')) := ⟨by rw [va_up_ne _ _ (by decide)]; exact h.1, va_up_self _ _ _, by rw [va_up_ne _ _ (by decide)]; exact h.2.2.1, fun j hj => ⟨hr j hj, (h.2.2.2 j hj).2⟩⟩
theorem osO.uph {cs : Nat → ClassId} {ad : Nat → Nat} {lo hi hi' : Nat → Int} {O : Nat → va_E} (h : osO cs ad lo hi O) (hr : ∀ j, j < 500 → lrg (hi' j)) : osO cs ad lo hi' (va_up O 130 (aL cs 500 hi')) := ⟨by rw [va_up_ne _ _ (by decide)]; exact h.1, by rw [va_up_ne _ _ (by decide)]; exact h.2.1, va_up_self _ _ _, fun j hj => ⟨(h.2.2.2 j hj).1, hr j hj⟩⟩
/-- half a row read as a number -/
def cod (pr : Int) (F : Nat → Int) : Nat → Nat → Int → Int
  | _, 0, a => a
  | i, n + 1, a => cod pr F (i + 1) n (a * pr + F i)
theorem cod_rg {pr : Int} (hp : 0 ≤ pr ∧ pr ≤ 13) {F : Nat → Int} (hF : ∀ x, 0 ≤ F x ∧ F x < 13) : ∀ (n i : Nat) (a : Int), 0 ≤ a → 0 ≤ cod pr F i n a ∧ cod pr F i n a < (a + 1) * 13 ^ n
  | 0, i, a, ha => by simp [cod]; omega
  | n + 1, i, a, ha => by
    have h1 := hF i
    have h2 : 0 ≤ a * pr := Int.mul_nonneg ha hp.1
    have h3 : a * pr ≤ a * 13 := Int.mul_le_mul_of_nonneg_left hp.2 ha
    obtain ⟨h4, h5⟩ := cod_rg hp hF n (i + 1) (a * pr + F i) (by omega)
    refine ⟨h4, Int.lt_of_lt_of_le h5 ?_⟩
    rw [Int.pow_succ, Int.mul_comm (13 ^ n) 13, ← Int.mul_assoc]
    exact Int.mul_le_mul_of_nonneg_right (by omega) (Int.pow_nonneg (by decide))
theorem cod_l {pr : Int} (hp : 0 ≤ pr ∧ pr ≤ 13) {F : Nat → Int} (hF : ∀ x, 0 ≤ F x ∧ F x < 13) (i : Nat) : lrg (cod pr F i 12 0) := by
  have := cod_rg hp hF 12 i 0 (by omega)
  have h2 : ((0 : Int) + 1) * 13 ^ 12 = 23298085122481 := by decide
  omega
section CO
variable {p : Program} {l : Launch} {e : Env} {s : State} {m : MethodId} {args : Array Value} {below : List Frame} {meth : Method} {c : Code} {H : Heap} {locs : List Loc} {Q : State → Prop} {D : va_G} {cs : Nat → ClassId} {A : Nat → Prop} {ad : Nat → Nat} {T : Nat} {O : Nat → va_E} {pr : Int} {inv : Nat → Int} {lo hi : Nat → Int}
variable {f : Nat} {G : Nat → Nat → Int}
theorem l_Os_code {post : Int64 → (Nat → va_E) → Prop} (X : Cx p s m args c b_Os_code ROs) (hr : meth.sig.returnType = some .long) (hlk : meth.locks = false) (hT : 132 ≤ T) (hO : arO cs ad pr inv O) (hS : osO cs ad lo hi O) (hF : ok 25 (G 16)) (hf : f ≤ 12) (w : Wd D cs A ad T s (mkV cs ad (rV G) O) H locs) {Z : Int} (hp : post (lI Z) (mkV cs ad (rV G) O)) :
    ∀ (n i : Nat) (a : Int) (ls : Array Slot), i + n = f + 12 → cod pr (G 16) i n a = Z → lv_has ls 5 [(0, .ref (ad (128))), (1, .int (iI (f))), (2, .long (lI (a))), (4, .int (iI (i)))] → W p l e { frames := 0, cells := 0, slots := 0, locals := 0 } s m args below meth c H locs 0 0 (MQ below (va_Ql post (QW D cs ad T) A) args s 0 0 A) (F0 m 5 ls []) := by
  have hpr := hO.2.2.1
  have w16 : wd 16 = 25 := rfl
  intro n
  induction n with
  | zero =>
    intro i a ls h1 hz hl
    have hz : a = Z := hz
    subst hz
    refine lv_iload X.1 X.2.1 d_Os_code_5 (lv_at hl 3 rfl) ?_
    refine lv_iload_n X.1 X.2.1 d_Os_code_7 rfl (lv_at hl 1 rfl) ?_
    refine lv_bipush (v := iI (12)) X.1 X.2.1 d_Os_code_8 (by decide) ?_
    refine i_add (a := f) (b := 12) X d_Os_code_10 ?_
    refine i_ge (a := i) (b := f + 12) (tgt := 43) X (by omega) (by omega) d_Os_code_11 (by decide) (fun h_11 => ?_) (fun h_11 => ?_)
    · refine lv_lload_n X.1 X.2.1 d_Os_code_43 rfl (lv_at hl 2 rfl) ?_
      exact w_lret X hr hlk w hp d_Os_code_44
    · exact absurd h_11 (by omega)
  | succ n ih =>
    intro i a ls h1 hz hl
    have hai := hF.1 i
    refine lv_iload X.1 X.2.1 d_Os_code_5 (lv_at hl 3 rfl) ?_
    refine lv_iload_n X.1 X.2.1 d_Os_code_7 rfl (lv_at hl 1 rfl) ?_
    refine lv_bipush (v := iI (12)) X.1 X.2.1 d_Os_code_8 (by decide) ?_
    refine i_add (a := f) (b := 12) X d_Os_code_10 ?_
    refine i_ge (a := i) (b := f + 12) (tgt := 43) X (by omega) (by omega) d_Os_code_11 (by decide) (fun h_11 => ?_) (fun h_11 => ?_)
    · exact absurd h_11 (by omega)
    · refine lv_lload_n X.1 X.2.1 d_Os_code_14 rfl (lv_at hl 2 rfl) ?_
      refine lv_aload_n X.1 X.2.1 d_Os_code_15 rfl (lv_at hl 0 rfl) ?_
      refine t_os X hT w hS 0 (by decide) k_f_Os_9 rfl d_Os_code_16 ?_
      refine t_ar X hT w hO 0 (by decide) k_f_Os_73 rfl d_Os_code_19 ?_
      refine l_i2l (a := pr) X (by omega) d_Os_code_22 ?_
      refine l_mul (a := a) (b := pr) X d_Os_code_23 ?_
      refine lv_aload_n X.1 X.2.1 d_Os_code_24 rfl (lv_at hl 0 rfl) ?_
      refine t_os X hT w hS 3 (by decide) k_f_Os_27 rfl d_Os_code_25 ?_
      refine t_co (k := 16) X hT w (by omega) k_f_Os_40 d_Os_code_28 ?_
      refine lv_iload X.1 X.2.1 d_Os_code_31 (lv_at hl 3 rfl) ?_
      refine g_ld (k := 16) (z := i) X hT w (by omega) (i) (by omega) (by omega) d_Os_code_33 ?_
      refine l_i2l (a := G 16 i) X (by omega) d_Os_code_34 ?_
      refine l_add (a := a * pr) (b := G 16 i) X d_Os_code_35 ?_
      refine lv_lstore_n (lv' := [(2, .long (lI ((a * pr) + (G 16 i)))), (0, .ref (ad (128))), (1, .int (iI (f))), (4, .int (iI (i)))]) X.1 X.2.1 d_Os_code_36 rfl hl (by decide) rfl (fun ls hl => ?_)
      refine i_inc (k := 3) (x := i) (lv' := [(4, .int (iI (i + 1))), (2, .long (lI ((a * pr) + (G 16 i)))), (0, .ref (ad (128))), (1, .int (iI (f)))]) X d_Os_code_37 hl rfl (by decide) rfl (fun ls hl => ?_)
      refine lv_goto (tgt := 5) X.1 X.2.1 d_Os_code_40 (by decide) ?_
      exact ih (i + 1) _ ls (by omega) hz (lv_sub hl [2, 3, 1, 0] rfl)
end CO
theorem c_Os_code {l : Launch} {D : va_G} {cs : Nat → ClassId} {A : Nat → Prop} {ad : Nat → Nat} {T : Nat} (hT : 132 ≤ T) {G : Nat → Nat → Int} {O : Nat → va_E} {pr : Int} {inv : Nat → Int} (hO : arO cs ad pr inv O) {lo hi : Nat → Int} (hS : osO cs ad lo hi O) {f : Nat} (hf : f ≤ 12) (hF : ok 25 (G 16)) : Cl l y_Os_code ws_Os_code { frames := 0, cells := 0, slots := 0, locals := 0 } D cs A ad T [.ref (ad (128)), .int (iI (f))] (mkV cs ad (rV G) O) (fun r C' => r = lI (cod pr (G 16) f 12 0) ∧ C' = mkV cs ad (rV G) O) := by
  refine w_bodyL (by decide) (Nat.le_of_ble_eq_true rfl) ?_
  intro p e s m below meth c X hr hlk hml w ls hl
  have hl : lv_has ls 5 [(0, .ref (ad (128))), (1, .int (iI (f)))] := hl
  refine lv_lconst (v := lI (0)) X.1 X.2.1 d_Os_code_0 (by decide) ?_
  refine lv_lstore_n (lv' := [(2, .long (lI (0))), (0, .ref (ad (128))), (1, .int (iI (f)))]) X.1 X.2.1 d_Os_code_1 rfl hl (by decide) rfl (fun ls hl => ?_)
  refine lv_iload_n X.1 X.2.1 d_Os_code_2 rfl (lv_at hl 2 rfl) ?_
  refine lv_istore (lv' := [(4, .int (iI (f))), (2, .long (lI (0))), (0, .ref (ad (128))), (1, .int (iI (f)))]) X.1 X.2.1 d_Os_code_3 hl (by decide) rfl (fun ls hl => ?_)
  exact l_Os_code X hr hlk hT hO hS hF hf w (Z := cod pr (G 16) f 12 0) ⟨rfl, rfl⟩ 12 f 0 ls (by omega) rfl (lv_sub hl [2, 3, 1, 0] rfl)
/-- the first place at which the two codes stand, or -1 -/
def fss (lo hi : Nat → Int) (a b : Int) : Nat → Nat → Int
  | _, 0 => -1
  | i, n + 1 => if lo i = a ∧ hi i = b then (i : Int) else fss lo hi a b (i + 1) n
section FS
variable {p : Program} {l : Launch} {e : Env} {s : State} {m : MethodId} {args : Array Value} {below : List Frame} {meth : Method} {c : Code} {H : Heap} {locs : List Loc} {Q : State → Prop} {D : va_G} {cs : Nat → ClassId} {A : Nat → Prop} {ad : Nat → Nat} {T : Nat} {O : Nat → va_E} {pr : Int} {inv : Nat → Int} {lo hi : Nat → Int}
variable {a b : Int} {G : Nat → Nat → Int}
theorem l_Os_findShortStep {post : Int32 → (Nat → va_E) → Prop} (X : Cx p s m args c b_Os_findShortStep ROs) (hr : meth.sig.returnType = some .int) (hlk : meth.locks = false) (hT : 132 ≤ T) (hS : osO cs ad lo hi O) (ha : lrg a) (hb : lrg b) (w : Wd D cs A ad T s (mkV cs ad (rV G) O) H locs) {Z : Int} (hp : post (iI Z) (mkV cs ad (rV G) O)) :
    ∀ (n i : Nat) (ls : Array Slot), i + n = 500 → fss lo hi a b i n = Z → lv_has ls 6 [(0, .ref (ad (128))), (1, .long (lI (a))), (3, .long (lI (b))), (5, .int (iI (i)))] → W p l e { frames := 1, cells := 0, slots := 0, locals := 24 } s m args below meth c H locs 0 0 (MQ below (va_Qi post (QW D cs ad T) A) args s 0 0 A) (F0 m 16 ls []) := by
  intro n
  induction n with
  | zero =>
    intro i ls h1 hz hl
    have hz : -1 = Z := hz
    subst hz
    refine lv_iload X.1 X.2.1 d_Os_findShortStep_16 (lv_at hl 3 rfl) ?_
    refine lv_sipush (v := iI (500)) X.1 X.2.1 d_Os_findShortStep_18 (by decide) ?_
    refine i_ge (a := i) (b := 500) (tgt := 57) X (by omega) (by omega) d_Os_findShortStep_21 (by decide) (fun h_21 => ?_) (fun h_21 => ?_)
    · refine lv_iconst (v := iI (-1)) X.1 X.2.1 d_Os_findShortStep_57 (by decide) ?_
      exact w_iret X hr hlk w hp d_Os_findShortStep_58
    · exact absurd h_21 (by omega)
  | succ n ih =>
    intro i ls h1 hz hl
    have hai := hS.2.2.2 i (by omega)
    unfold fss at hz
    refine lv_iload X.1 X.2.1 d_Os_findShortStep_16 (lv_at hl 3 rfl) ?_
    refine lv_sipush (v := iI (500)) X.1 X.2.1 d_Os_findShortStep_18 (by decide) ?_
    refine i_ge (a := i) (b := 500) (tgt := 57) X (by omega) (by omega) d_Os_findShortStep_21 (by decide) (fun h_21 => ?_) (fun h_21 => ?_)
    · exact absurd h_21 (by omega)
    · refine lv_aload_n X.1 X.2.1 d_Os_findShortStep_24 rfl (lv_at hl 0 rfl) ?_
      refine t_os X hT w hS 1 (by decide) k_f_Os_15 rfl d_Os_findShortStep_25 ?_
      refine lv_iload X.1 X.2.1 d_Os_findShortStep_28 (lv_at hl 3 rfl) ?_
      refine t_lo (z := i) X hT w hS (i) (by omega) (by omega) d_Os_findShortStep_30 ?_
      refine lv_lload_n X.1 X.2.1 d_Os_findShortStep_31 rfl (lv_at hl 1 rfl) ?_
      refine l_cmp (a := lo i) (b := a) X hai.1 ha d_Os_findShortStep_32 ?_
      refine z_ne (a := lcI (lo i) (a)) (tgt := 51) X (lcI_rg _ _) d_Os_findShortStep_33 (by decide) (fun h_33 => ?_) (fun h_33 => ?_)
      · refine i_inc (k := 3) (x := i) (lv' := [(5, .int (iI (i + 1))), (0, .ref (ad (128))), (1, .long (lI (a))), (3, .long (lI (b)))]) X d_Os_findShortStep_51 hl rfl (by decide) rfl (fun ls hl => ?_)
        refine lv_goto (tgt := 16) X.1 X.2.1 d_Os_findShortStep_54 (by decide) ?_
        rw [if_neg (fun e => h_33 (lcI_0.mpr e.1))] at hz
        exact ih (i + 1) ls (by omega) hz (lv_sub hl [1, 2, 3, 0] rfl)
      · refine lv_aload_n X.1 X.2.1 d_Os_findShortStep_36 rfl (lv_at hl 0 rfl) ?_
        refine t_os X hT w hS 2 (by decide) k_f_Os_19 rfl d_Os_findShortStep_37 ?_
        refine lv_iload X.1 X.2.1 d_Os_findShortStep_40 (lv_at hl 3 rfl) ?_
        refine t_hi (z := i) X hT w hS (i) (by omega) (by omega) d_Os_findShortStep_42 ?_
        refine lv_lload_n X.1 X.2.1 d_Os_findShortStep_43 rfl (lv_at hl 2 rfl) ?_
        refine l_cmp (a := hi i) (b := b) X hai.2 hb d_Os_findShortStep_44 ?_
        refine z_ne (a := lcI (hi i) (b)) (tgt := 51) X (lcI_rg _ _) d_Os_findShortStep_45 (by decide) (fun h_45 => ?_) (fun h_45 => ?_)
        · refine i_inc (k := 3) (x := i) (lv' := [(5, .int (iI (i + 1))), (0, .ref (ad (128))), (1, .long (lI (a))), (3, .long (lI (b)))]) X d_Os_findShortStep_51 hl rfl (by decide) rfl (fun ls hl => ?_)
          refine lv_goto (tgt := 16) X.1 X.2.1 d_Os_findShortStep_54 (by decide) ?_
          rw [if_neg (fun e => h_45 (lcI_0.mpr e.2))] at hz
          exact ih (i + 1) ls (by omega) hz (lv_sub hl [1, 2, 3, 0] rfl)
        · refine lv_iload X.1 X.2.1 d_Os_findShortStep_48 (lv_at hl 3 rfl) ?_
          rw [if_pos ⟨lcI_0.mp h_33, lcI_0.mp h_45⟩] at hz
          subst hz
          exact w_iret X hr hlk w hp d_Os_findShortStep_50
end FS
theorem c_Os_findShortStep {l : Launch} {D : va_G} {cs : Nat → ClassId} {A : Nat → Prop} {ad : Nat → Nat} {T : Nat} (hT : 132 ≤ T) {G : Nat → Nat → Int} {O : Nat → va_E} {pr : Int} {inv : Nat → Int} (hO : arO cs ad pr inv O) {lo hi : Nat → Int} (hS : osO cs ad lo hi O) (hF : ok 25 (G 16)) : Ci l y_Os_findShortStep ws_Os_findShortStep { frames := 1, cells := 0, slots := 0, locals := 24 } D cs A ad T [.ref (ad (128))] (mkV cs ad (rV G) O) (fun r C' => r = iI (fss lo hi (cod pr (G 16) 0 12 0) (cod pr (G 16) 12 12 0) 0 500) ∧ C' = mkV cs ad (rV G) O) := by
  refine w_bodyI (by decide) (Nat.le_of_ble_eq_true rfl) ?_
  intro p e s m below meth c X hr hlk hml w ls hl
  have hl : lv_has ls 6 [(0, .ref (ad (128)))] := hl
  have hpr := hO.2.2.1
  refine lv_aload_n X.1 X.2.1 d_Os_findShortStep_0 rfl (lv_at hl 0 rfl) ?_
  refine lv_iconst (v := iI (0)) X.1 X.2.1 d_Os_findShortStep_1 (by decide) ?_
  refine w_cVl (n := 1) (i := 128) (ci := 3) (As := [.int (iI ((0 : Nat)))]) (rest := []) X w hml hl.1 (c_Os_code hT hO hS (G := G) (f := 0) (by omega) hF) (by omega) (by rw [mkV_O (by decide)]; exact hS.1) rfl k_m_Os_55 k_im_Os_code k_se_Os_code k_i_Os k_co_Os_code (by decide +kernel) rfl ⟨Nat.le_of_ble_eq_true rfl, Nat.le_of_ble_eq_true rfl⟩ ⟨rfl, rfl⟩ ⟨Nat.zero_le _, Nat.zero_le _⟩ rfl (Nat.le_of_ble_eq_true rfl) d_Os_findShortStep_2 (fun r' C' H locs hp w => ?_)
  obtain ⟨rfl, rfl⟩ := hp
  skip
  refine lv_lstore_n (lv' := [(1, .long (lI (cod pr (G 16) 0 12 0))), (0, .ref (ad (128)))]) X.1 X.2.1 d_Os_findShortStep_5 rfl hl (by decide) rfl (fun ls hl => ?_)
  refine lv_aload_n X.1 X.2.1 d_Os_findShortStep_6 rfl (lv_at hl 1 rfl) ?_
  refine lv_bipush (v := iI (12)) X.1 X.2.1 d_Os_findShortStep_7 (by decide) ?_
  refine w_cVl (n := 1) (i := 128) (ci := 3) (As := [.int (iI ((12 : Nat)))]) (rest := []) X w hml hl.1 (c_Os_code hT hO hS (G := G) (f := 12) (by omega) hF) (by omega) (by rw [mkV_O (by decide)]; exact hS.1) rfl k_m_Os_55 k_im_Os_code k_se_Os_code k_i_Os k_co_Os_code (by decide +kernel) rfl ⟨Nat.le_of_ble_eq_true rfl, Nat.le_of_ble_eq_true rfl⟩ ⟨rfl, rfl⟩ ⟨Nat.zero_le _, Nat.zero_le _⟩ rfl (Nat.le_of_ble_eq_true rfl) d_Os_findShortStep_9 (fun r' C' H locs hp w => ?_)
  obtain ⟨rfl, rfl⟩ := hp
  skip
  refine lv_lstore_n (lv' := [(3, .long (lI (cod pr (G 16) 12 12 0))), (1, .long (lI (cod pr (G 16) 0 12 0))), (0, .ref (ad (128)))]) X.1 X.2.1 d_Os_findShortStep_12 rfl hl (by decide) rfl (fun ls hl => ?_)
  refine lv_iconst (v := iI (0)) X.1 X.2.1 d_Os_findShortStep_13 (by decide) ?_
  refine lv_istore (lv' := [(5, .int (iI (0))), (3, .long (lI (cod pr (G 16) 12 12 0))), (1, .long (lI (cod pr (G 16) 0 12 0))), (0, .ref (ad (128)))]) X.1 X.2.1 d_Os_findShortStep_14 hl (by decide) rfl (fun ls hl => ?_)
  exact l_Os_findShortStep X hr hlk hT hS (cod_l (by omega) hF.1 0) (cod_l (by omega) hF.1 12) w (Z := fss lo hi (cod pr (G 16) 0 12 0) (cod pr (G 16) 12 12 0) 0 500) ⟨rfl, rfl⟩ 500 0 ls (by omega) rfl (lv_sub hl [3, 2, 1, 0] rfl)
