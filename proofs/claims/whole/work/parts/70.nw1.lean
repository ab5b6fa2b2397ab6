/-! constructors: worlds that grow -/
theorem vW_push {ad : Nat → Nat} {C : Nat → va_E} {T q : Nat} {x : va_E} : vW ad C T ++ [(q, x)] = vW (va_up ad T q) (va_up C T x) (T + 1) := by
  apply List.ext_getElem?
  intro i
  have hlen : (vW ad C T).length = T := by simp [vW]
  by_cases h1 : i < T
  · rw [List.getElem?_append_left (by rw [hlen]; exact h1), vW_get h1, vW_get (by omega), va_up_ne _ _ (by omega), va_up_ne _ _ (by omega)]
  · by_cases h2 : i = T
    · subst h2
      rw [List.getElem?_append_right (by rw [hlen]; exact Nat.le_refl _), hlen, Nat.sub_self, vW_get (by omega), va_up_self, va_up_self]
      rfl
    · rw [List.getElem?_eq_none (by simp [hlen]; omega), List.getElem?_eq_none (by simp [vW]; omega)]
theorem dW.of_va {A : Nat → Prop} {ad : Nat → Nat} {C : Nat → va_E} {T : Nat} (h : va_D A (vW ad C T)) : dW A ad T :=
  ⟨fun i j hi hj e => h.1 i j _ _ (vW_get hi) (vW_get hj) e, fun i hi => h.2 i _ (vW_get hi)⟩
def aQn (cs : Nat → ClassId) (n : Nat) (f : Nat → Option Nat) : va_E := .inl (cs 2, n, .inr (.inr (.inr (.inr f))))
section NWR
variable {p : Program} {l : Launch} {e : Env} {R : Room} {s : State} {m : MethodId} {args : Array Value} {below : List Frame} {meth : Method} {c : Code} {H : Heap} {locs : List Loc} {cells slots : Nat} {Q : State → Prop}
variable {cc : ByteArray} {own : String} {pc : Nat} {ls : Array Slot} {rest st : List Value} {D : va_G} {cs : Nat → ClassId} {A : Nat → Prop} {ad : Nat → Nat} {T : Nat} {C : Nat → va_E} {px : String → (Nat → va_E) → Prop} {k : Nat} {XC : String → State → State → Prop}
theorem n_new {Cn : String} {Tn : u_T} {N ci index : Nat} (X : Cx p s m args c cc own) (w : Wd D cs A ad T s C H locs) (hin : ∀ w ∈ u_ws Cn Tn N, w ∈ TB) (ty : Nat → FieldType) (hty : ∀ k, k < N → parseFieldDescriptor (Tn k).2.2.1 = some (ty k)) (k1 : Cond.classLink own index Cn ∈ TB) (k2 : Cond.instantiable Cn N ∈ TB) (k3 : Cond.initialized Cn ∈ TB) (hc : classes[ci]? = some (Cn, Tn, N)) {fs : List Value} (hfs : ∀ j, j < N → defaultValue (ty j) = vp_V fs j) (hcells : cells + 1 ≤ R.cells) (hslots : slots + N ≤ R.slots) (hdg : decode cc pc = .ok (.new index, 3))
    (kk : ∀ (q : Nat) (H1 : Heap), Wd D cs A (va_up ad T q) (T + 1) s (va_up C T (.inr (ci, fs))) H1 locs → W p l e R s m args below meth c H1 locs (cells + 1) (slots + N) Q (F0 m (pc + 3) ls (.ref q :: rest))) : W p l e R s m args below meth c H locs cells slots Q (F0 m pc ls rest) :=
  va_new X.1 X.2.1 X.2.2.2 hin ty hty X.2.2.1 (X.2.2.2 _ k1) (X.2.2.2 _ k2) (X.2.2.2 _ k3) w.1 w.2.2.2.1 (w.2.1.va C) w.2.2.2.2 w.2.2.1 hc hfs hcells hslots hdg (fun q H1 h1 h2 h3 => kk q H1 (by rw [vW_push] at h1 h2; exact ⟨w.1, dW.of_va h2, w.2.2.1, h1, h3⟩))
theorem n_newa {z : Int} (n : Nat) (hz : z = (n : Int)) (hn : n < 1000) (X : Cx p s m args c cc own) (w : Wd D cs A ad T s C H locs) (hcells : cells + 1 ≤ R.cells) (hslots : slots + n ≤ R.slots) (hdg : decode cc pc = .ok (.newarray .int, 2))
    (kk : ∀ (q : Nat) (H1 : Heap), Wd D cs A (va_up ad T q) (T + 1) s (va_up C T (aI cs n (fun _ => 0))) H1 locs → W p l e R s m args below meth c H1 locs (cells + 1) (slots + n) Q (F0 m (pc + 2) ls (.ref q :: rest))) : W p l e R s m args below meth c H locs cells slots Q (F0 m pc ls (.int (iI z) :: rest)) := by
  subst hz
  refine va_newa (atype := .int) X.1 X.2.1 (X.2.2.2 _ k_ac_int) rfl w.1 w.2.2.2.1 (w.2.1.va C) w.2.2.2.2 w.2.2.1 (a0 := (n, .inl (iA (fun _ => 0)))) (fun cA => rfl) (fun h => by rw [iI_0, iI_lt (by omega) (by omega)] at h; omega) (iI_clamp (by omega)) (by show n * 4 ≤ _; omega) hcells hslots hdg (fun q cA H1 hK h1 h2 h3 => ?_)
  have e1 : cA = cs 0 := Option.some.inj ((hK.2 4 _ rfl).2.symm.trans (w.1.2 0 _ rfl).2)
  subst e1
  rw [vW_push] at h1 h2
  exact kk q H1 ⟨w.1, dW.of_va h2, w.2.2.1, h1, h3⟩
theorem n_newl {z : Int} (n : Nat) (hz : z = (n : Int)) (hn : n < 1000) (X : Cx p s m args c cc own) (w : Wd D cs A ad T s C H locs) (hcells : cells + 1 ≤ R.cells) (hslots : slots + n ≤ R.slots) (hdg : decode cc pc = .ok (.newarray .long, 2))
    (kk : ∀ (q : Nat) (H1 : Heap), Wd D cs A (va_up ad T q) (T + 1) s (va_up C T (aL cs n (fun _ => 0))) H1 locs → W p l e R s m args below meth c H1 locs (cells + 1) (slots + n) Q (F0 m (pc + 2) ls (.ref q :: rest))) : W p l e R s m args below meth c H locs cells slots Q (F0 m pc ls (.int (iI z) :: rest)) := by
  subst hz
  refine va_newa (atype := .long) X.1 X.2.1 (X.2.2.2 _ k_ac_long) rfl w.1 w.2.2.2.1 (w.2.1.va C) w.2.2.2.2 w.2.2.1 (a0 := (n, .inr (.inl (fun _ => lI 0)))) (fun cA => rfl) (fun h => by rw [iI_0, iI_lt (by omega) (by omega)] at h; omega) (iI_clamp (by omega)) (by show n * 8 ≤ _; omega) hcells hslots hdg (fun q cA H1 hK h1 h2 h3 => ?_)
  have e1 : cA = cs 1 := Option.some.inj ((hK.2 4 _ rfl).2.symm.trans (w.1.2 1 _ rfl).2)
  subst e1
  rw [vW_push] at h1 h2
  exact kk q H1 ⟨w.1, dW.of_va h2, w.2.2.1, h1, h3⟩
theorem n_anew {z : Int} (n : Nat) {index : Nat} (hz : z = (n : Int)) (hn : n < 1000) (X : Cx p s m args c cc own) (ev : va_AO RPo s) (k1 : Cond.classLink own index RPo ∈ TB) (w : Wd D cs A ad T s C H locs) (hcells : cells + 1 ≤ R.cells) (hslots : slots + n ≤ R.slots) (hdg : decode cc pc = .ok (.anewarray index, 3))
    (kk : ∀ (q : Nat) (H1 : Heap), Wd D cs A (va_up ad T q) (T + 1) s (va_up C T (aQn cs n (fun _ => none))) H1 locs → W p l e R s m args below meth c H1 locs (cells + 1) (slots + n) Q (F0 m (pc + 3) ls (.ref q :: rest))) : W p l e R s m args below meth c H locs cells slots Q (F0 m pc ls (.int (iI z) :: rest)) := by
  subst hz
  refine va_newq (C := RPo) X.1 X.2.1 X.2.2.1 (X.2.2.2 _ k1) ev w.1 w.2.2.2.1 (w.2.1.va C) w.2.2.2.2 w.2.2.1 (fun h => by rw [iI_0, iI_lt (by omega) (by omega)] at h; omega) (iI_clamp (by omega)) (by omega) hcells hslots hdg (fun q cA H1 hK h1 h2 h3 => ?_)
  have e1 : cA = cs 2 := by
    obtain ⟨kA, comp, a1, a2, a3, a4⟩ := (hK.2 4 _ rfl).2
    obtain ⟨kB, comp2, b1, b2, b3, b4⟩ := (w.1.2 2 _ rfl).2
    exact Option.some.inj (a4.symm.trans b4)
  subst e1
  rw [vW_push] at h1 h2
  exact kk q H1 ⟨w.1, dW.of_va h2, w.2.2.1, h1, h3⟩
theorem n_get {Cn : String} {Tn : u_T} {N ci index i a : Nat} {fs : List Value} {v : Value} (X : Cx p s m args c cc own) (w : Wd D cs A ad T s C H locs) (ha : ad i = a) (hi : i < T) (hC : C i = .inr (ci, fs)) (hc : classes[ci]? = some (Cn, Tn, N)) (hin : ∀ w ∈ u_ws Cn Tn N, w ∈ TB) (k : Nat) (hk : k < N) (hlink : Cond.fieldLink own index (Tn k).1 (Tn k).2.1 (Tn k).2.2.1 ∈ TB) (hv : fs[k]? = some v) (hdg : decode cc pc = .ok (.getfield index, 3))
    (kk : W p l e R s m args below meth c H locs cells slots Q (F0 m (pc + 3) ls (v :: rest))) : W p l e R s m args below meth c H locs cells slots Q (F0 m pc ls (.ref a :: rest)) := by
  subst ha
  exact w_get X w hi hC hc hin k hk hlink hv hdg kk
theorem n_put {Cn : String} {Tn : u_T} {N ci index i a : Nat} {fs : List Value} {v : Value} (X : Cx p s m args c cc own) (w : Wd D cs A ad T s C H locs) (ha : ad i = a) (hi : i < T) (hC : C i = .inr (ci, fs)) (hc : classes[ci]? = some (Cn, Tn, N)) (hin : ∀ w ∈ u_ws Cn Tn N, w ∈ TB) (ty0 : Nat → FieldType) (hty : ∀ k, k < N → parseFieldDescriptor (Tn k).2.2.1 = some (ty0 k)) (hnm : ∀ a, a < N → ∀ b, b < N → a ≠ b → (Tn a).2.1 ≠ (Tn b).2.1) (k : Nat) (hk : k < N) (hlink : Cond.fieldLink own index (Tn k).1 (Tn k).2.1 (Tn k).2.2.1 ∈ TB) (hfin : (Tn k).2.2.2 = false) (hn : narrow (ty0 k) v = v) (hfit : fits (ty0 k) v = true) (hl : k < fs.length) (hdg : decode cc pc = .ok (.putfield index, 3))
    (kk : ∀ (H1 : Heap) (locs1 : List Loc), Wd D cs A ad T s (va_up C i (.inr (ci, fs.set k v))) H1 locs1 → W p l e R s m args below meth c H1 locs1 cells slots Q (F0 m (pc + 3) ls rest)) : W p l e R s m args below meth c H locs cells slots Q (F0 m pc ls (v :: .ref a :: rest)) := by
  subst ha
  exact w_put X w hi hC hc hin ty0 hty hnm k hk hlink hfin hn hfit hl hdg kk
theorem n_putF {Cn : String} {Tn : u_T} {N ci index i a : Nat} {fs : List Value} {v : Value} (X : Cx p s m args c cc own) (hin2 : meth.name = "<init>") (w : Wd D cs A ad T s C H locs) (ha : ad i = a) (hi : i < T) (hC : C i = .inr (ci, fs)) (hc : classes[ci]? = some (Cn, Tn, N)) (hin : ∀ w ∈ u_ws Cn Tn N, w ∈ TB) (ty0 : Nat → FieldType) (hty : ∀ k, k < N → parseFieldDescriptor (Tn k).2.2.1 = some (ty0 k)) (hnm : ∀ a, a < N → ∀ b, b < N → a ≠ b → (Tn a).2.1 ≠ (Tn b).2.1) (k : Nat) (hk : k < N) (hlink : Cond.fieldLink own index (Tn k).1 (Tn k).2.1 (Tn k).2.2.1 ∈ TB) (hfin : (Tn k).2.2.2 = true) (hdecl : (Tn k).1 = own) (hn : narrow (ty0 k) v = v) (hfit : fits (ty0 k) v = true) (hl : k < fs.length) (hdg : decode cc pc = .ok (.putfield index, 3))
    (kk : ∀ (H1 : Heap) (locs1 : List Loc), Wd D cs A ad T s (va_up C i (.inr (ci, fs.set k v))) H1 locs1 → W p l e R s m args below meth c H1 locs1 cells slots Q (F0 m (pc + 3) ls rest)) : W p l e R s m args below meth c H locs cells slots Q (F0 m pc ls (v :: .ref a :: rest)) := by
  subst ha
  exact va_putF X.1 X.2.1 X.2.2.2 hin ty0 hty hnm X.2.2.1 w.1 w.2.2.2.1 (w.2.1.va C) w.2.2.2.2 i (by rw [vW_get hi, hC]) hc k hk (X.2.2.2 _ hlink) (fun _ h => h) hfin hin2 hdecl (hty k hk) hn hfit hl hdg (fun H1 locs1 h1 _ h3 => kk H1 locs1 ⟨w.1, w.2.1, w.2.2.1, by rw [vW_set] at h1; exact h1, h3⟩)
theorem n_aas {z : Int} {n i v a b : Nat} {f : Nat → Option Nat} {vs : List Value} (X : Cx p s m args c cc own) (w : Wd D cs A ad T s C H locs) (ha : ad i = a) (hi : i < T) (hC : C i = aQn cs n f) (hb : ad v = b) (hv : v < T) (hCv : C v = .inr (0, vs)) (j : Nat) (hz : z = (j : Int)) (hj : j < n) (hn : n < 1000) (hdg : decode cc pc = .ok (.aastore, 1))
    (kk : ∀ (H1 : Heap) (locs1 : List Loc), Wd D cs A ad T s (va_up C i (aQn cs n (va_up f j (some b)))) H1 locs1 → W p l e R s m args below meth c H1 locs1 cells slots Q (F0 m (pc + 1) ls rest)) : W p l e R s m args below meth c H locs cells slots Q (F0 m pc ls (.ref b :: .int (iI z) :: .ref a :: rest)) := by
  subst hz
  subst ha
  subst hb
  refine va_astq X.1 X.2.1 w.1 w.2.2.2.1 (w.2.1.va _) w.2.2.2.2 i 2 v 0 (r := (RPo, FPo, 2)) (by rw [vW_get hi, hC]; rfl) rfl (by rw [vW_get hv, hCv]) rfl (iI_in hj (by omega)) hdg (fun H1 locs1 h1 _ h3 => kk H1 locs1 ⟨w.1, w.2.1, w.2.2.1, ?_, h3⟩)
  rw [vW_set, iI_clamp (by omega)] at h1
  exact h1
/-- contracts of constructors: the world grows to (ad', T', C') -/
abbrev NW : Type := (Nat → Nat) × Nat × (Nat → va_E)
def Cn (l : Launch) (y : MethodName) (ws : List Cond) (rm : Room) (D : va_G) (cs : Nat → ClassId) (A : Nat → Prop) (ad : Nat → Nat) (T : Nat) (av : List Value) (C : Nat → va_E) (post : (Nat → Nat) → Nat → (Nat → va_E) → Prop) (mc ms : Nat) : Prop :=
  Met l y ws rm (va_Pc av (PE (EV A) D cs A ad T C)) (va_Qv (fun u : NW => post u.1 u.2.1 u.2.2 ∧ dW A u.1 u.2.1) (fun u t => QW D cs u.1 u.2.1 u.2.2 t) A) mc ms A
theorem n_body {l : Launch} {y : MethodName} {bytes : ByteArray} {maxL : Nat} {ret : Option FieldType} {rm : Room} {av : List Value} {post : (Nat → Nat) → Nat → (Nat → va_E) → Prop} {mc ms : Nat} (hy : plainName y.cls = true) (hln : (lg_sl av).length ≤ maxL) (hnm : y.name = "<init>")
    (body : ∀ (p : Program) (e : Env) (s : State) (m : MethodId) (below : List Frame) (meth : Method) (c : Code), Cx p s m av.toArray c bytes y.cls → meth.sig.returnType = ret → meth.locks = false → c.maxLocals = maxL → meth.name = "<init>" → EV A s → Wd D cs A ad T s C s.heap [] → ∀ ls : Array Slot, lv_has ls maxL (lv_args 0 av) →
      W p l e rm s m av.toArray below meth c s.heap [] 0 0 (MQ below (va_Qv (fun u : NW => post u.1 u.2.1 u.2.2 ∧ dW A u.1 u.2.1) (fun u t => QW D cs u.1 u.2.1 u.2.2 t) A) av.toArray s mc ms A) (F0 m 0 ls [])) : Cn l y (Cond.code y bytes maxL ret :: TB) rm D cs A ad T av C post mc ms := by
  refine Met.ofW (cc := bytes) (maxL := maxL) (ret := ret) hy rfl ?_
  intro p e s m args below meth c s₁ B hml hv
  obtain ⟨rfl, ⟨hK, hd, hA, hP⟩, hEV⟩ := hv
  have hl := lv_entry av (n := maxL) hln
  rw [lg_entry_eq]
  exact body p e s m below meth c ⟨B.exec, B.bytes, findClass_of_methodNamed B.named, fun w hw => atoms_spec (ws := Cond.code y bytes maxL ret :: TB) B.pre w (List.mem_cons_of_mem _ hw)⟩ B.returns B.notSynchronized hml ((name_of_methodNamed B.named B.method).1.trans hnm) hEV ⟨hK, hd, hA, hP, va_S.rf⟩ _ hl
theorem n_vret {post : (Nat → Nat) → Nat → (Nat → va_E) → Prop} {mc ms : Nat} (X : Cx p s m args c cc own) (hr : meth.sig.returnType = none) (hlk : meth.locks = false) (w : Wd D cs A ad T s C H locs) (hp : post ad T C) (hdg : decode cc pc = .ok (.return_, 1)) (h1 : cells ≤ mc) (h2 : slots ≤ ms) : W p l e R s m args below meth c H locs cells slots (MQ below (va_Qv (fun u : NW => post u.1 u.2.1 u.2.2 ∧ dW A u.1 u.2.1) (fun u t => QW D cs u.1 u.2.1 u.2.2 t) A) args s mc ms A) (F0 m pc ls []) :=
  W.widen h1 h2 (W.vret X.1 X.2.1 hr (fun t ht hW => ⟨⟨(ad, T, C), rfl, ⟨hp, w.2.1⟩, va_K.moved hW.alike w.1, by rw [ht]; exact w.2.2.2.1⟩, w.2.2.2.2.F ht⟩) w.2.2.2.2.2.2 hdg hlk)
theorem n_obj {index a : Nat} (X : Cx p s m args c cc own) (hml : c.maxLocals = k) (hls : ls.size = k) (k1 : Cond.methodLink own index Lib.objectInit ∈ TB) (hdg : decode cc pc = .ok (.invokespecial index, 3)) (hf : 1 ≤ R.frames) (hlo : (rest.map fun v => v.category).sum + 12 ≤ R.locals)
    (kk : W p l e R s m args below meth c H locs cells slots Q (F0 m (pc + 3) ls rest)) : W p l e R s m args below meth c H locs cells slots Q (F0 m pc ls (.ref a :: rest)) :=
  W.objInit X.1 X.2.1 X.2.2.1 (X.2.2.2 _ k1) (X.2.2.2 _ k_im_Object_init) (X.2.2.2 _ k_co_Object_init) rfl (hls.trans hml.symm) rfl hdg hf (by show 2 * 0 + _ + _ ≤ _; omega) kk
theorem n_cI {y : MethodName} {bytes : ByteArray} {n maxL nL index mc ms b : Nat} {rm : Room} {As : List Value} {post : (Nat → Nat) → Nat → (Nat → va_E) → Prop}
    (X : Cx p s m args c cc own) (ev : EV A s) (w : Wd D cs A ad T s C H locs) (hml : c.maxLocals = nL) (hls : ls.size = nL) (hM : Cn l y (Cond.code y bytes maxL none :: TB) rm D cs A ad T (.ref b :: As) C post mc ms)
    (k1 : Cond.methodLink own index y ∈ TB) (k2 : Cond.instanceMethod y ∈ TB) (k4 : Cond.initialized y.cls ∈ TB) (k5 : Cond.code y bytes maxL none ∈ TB) (hy : y.name = "<init>")
    (hd : y.cls ≠ "java/lang/invoke/MethodHandle" ∧ y.cls ≠ "java/lang/invoke/VarHandle" ∧ (parseMethodDescriptor y.desc).map (fun d => d.parameters.length) = some n) (hn : As.length = n) (hR : rm.frames + 1 ≤ R.frames ∧ 8 + (maxL + 11) + rm.locals ≤ R.locals) (hrc : rm.cells = mc ∧ rm.slots = ms) (hcl : cells + mc ≤ R.cells ∧ slots + ms ≤ R.slots)
    (hst : st = As.reverse ++ .ref b :: rest) (hW : (rest.map fun v => v.category).sum ≤ 8) (hdg : decode cc pc = .ok (.invokespecial index, 3))
    (kk : ∀ (ad' : Nat → Nat) (T' : Nat) (C' : Nat → va_E) (H' : Heap) (locs' : List Loc), post ad' T' C' → Wd D cs A ad' T' s C' H' locs' → W p l e R s m args below meth c H' locs' (cells + mc) (slots + ms) Q (F0 m (pc + 3) ls rest)) : W p l e R s m args below meth c H locs cells slots Q (F0 m pc ls st) :=
  va_callv (va_runI (As := As) (rest := rest) ⟨X.1, X.2.1, hml, X.2.2.1, X.2.2.2⟩ hM (cwI n X.2.2.2 (tb_cons k5 tb_good) rfl hrc.1 hrc.2 (X.2.2.2 _ k4) (X.2.2.2 _ k1) (X.2.2.2 _ k2) hy hd hR) ⟨PE.blind, fun U hU hW => ⟨rfl, w.preE ev hU hW⟩⟩ rfl hn hls hst (lv_room hW) hdg hcl) w.2.2.2.2 (fun _ _ h => h) (fun _ h => h) (fun u t H1 locs1 ht hvm hp hB hz hk hS => kk u.1 u.2.1 u.2.2 H1 locs1 hp.1 ⟨w.1, hp.2, w.2.2.1, by rw [← ht]; exact hB.2, hS⟩)
end NWR
