/-! constructors: rows with named worlds; a fresh polynomial becomes a power of x -/
section NW3
variable {p : Program} {l : Launch} {e : Env} {R : Room} {s : State} {m : MethodId} {args : Array Value} {below : List Frame} {meth : Method} {c : Code} {H : Heap} {locs : List Loc} {cells slots : Nat} {Q : State → Prop}
variable {cc : ByteArray} {own : String} {pc : Nat} {ls : Array Slot} {rest st : List Value} {D : va_G} {cs : Nat → ClassId} {A : Nat → Prop} {ad : Nat → Nat} {T : Nat} {C : Nat → va_E} {px : String → (Nat → va_E) → Prop} {k : Nat} {XC : String → State → State → Prop}
theorem m_newa {z : Int} (n : Nat) (hz : z = (n : Int)) (hn : n < 1000) (X : Cx p s m args c cc own) (w : Wd D cs A ad T s C H locs) (hcells : cells + 1 ≤ R.cells) (hslots : slots + n ≤ R.slots) (hdg : decode cc pc = .ok (.newarray .int, 2))
    (kk : ∀ (q : Nat) (ad' : Nat → Nat) (C' : Nat → va_E) (H1 : Heap), ad' = va_up ad T q → C' = va_up C T (aI cs n (fun _ => 0)) → Wd D cs A ad' (T + 1) s C' H1 locs → W p l e R s m args below meth c H1 locs (cells + 1) (slots + n) Q (F0 m (pc + 2) ls (.ref q :: rest))) : W p l e R s m args below meth c H locs cells slots Q (F0 m pc ls (.int (iI z) :: rest)) :=
  n_newa n hz hn X w hcells hslots hdg (fun q H1 w1 => kk q _ _ H1 rfl rfl w1)
theorem m_newl {z : Int} (n : Nat) (hz : z = (n : Int)) (hn : n < 1000) (X : Cx p s m args c cc own) (w : Wd D cs A ad T s C H locs) (hcells : cells + 1 ≤ R.cells) (hslots : slots + n ≤ R.slots) (hdg : decode cc pc = .ok (.newarray .long, 2))
    (kk : ∀ (q : Nat) (ad' : Nat → Nat) (C' : Nat → va_E) (H1 : Heap), ad' = va_up ad T q → C' = va_up C T (aL cs n (fun _ => 0)) → Wd D cs A ad' (T + 1) s C' H1 locs → W p l e R s m args below meth c H1 locs (cells + 1) (slots + n) Q (F0 m (pc + 2) ls (.ref q :: rest))) : W p l e R s m args below meth c H locs cells slots Q (F0 m pc ls (.int (iI z) :: rest)) :=
  n_newl n hz hn X w hcells hslots hdg (fun q H1 w1 => kk q _ _ H1 rfl rfl w1)
theorem m_anew {z : Int} (n : Nat) {index : Nat} (hz : z = (n : Int)) (hn : n < 1000) (X : Cx p s m args c cc own) (ev : EV A s) (k1 : Cond.classLink own index RPo ∈ TB) (w : Wd D cs A ad T s C H locs) (hcells : cells + 1 ≤ R.cells) (hslots : slots + n ≤ R.slots) (hdg : decode cc pc = .ok (.anewarray index, 3))
    (kk : ∀ (q : Nat) (ad' : Nat → Nat) (C' : Nat → va_E) (H1 : Heap), ad' = va_up ad T q → C' = va_up C T (aQn cs n (fun _ => none)) → Wd D cs A ad' (T + 1) s C' H1 locs → W p l e R s m args below meth c H1 locs (cells + 1) (slots + n) Q (F0 m (pc + 3) ls (.ref q :: rest))) : W p l e R s m args below meth c H locs cells slots Q (F0 m pc ls (.int (iI z) :: rest)) :=
  n_anew n hz hn X ev.2.2.2.2.2.2.2.1 k1 w hcells hslots hdg (fun q H1 w1 => kk q _ _ H1 rfl rfl w1)
theorem m_new {Cn : String} {Tn : u_T} {N ci index : Nat} (X : Cx p s m args c cc own) (w : Wd D cs A ad T s C H locs) (hin : ∀ w ∈ u_ws Cn Tn N, w ∈ TB) (ty : Nat → FieldType) (hty : ∀ k, k < N → parseFieldDescriptor (Tn k).2.2.1 = some (ty k)) (k1 : Cond.classLink own index Cn ∈ TB) (k2 : Cond.instantiable Cn N ∈ TB) (k3 : Cond.initialized Cn ∈ TB) (hc : classes[ci]? = some (Cn, Tn, N)) {fs : List Value} (hfs : ∀ j, j < N → defaultValue (ty j) = vp_V fs j) (hcells : cells + 1 ≤ R.cells) (hslots : slots + N ≤ R.slots) (hdg : decode cc pc = .ok (.new index, 3))
    (kk : ∀ (q : Nat) (ad' : Nat → Nat) (C' : Nat → va_E) (H1 : Heap), ad' = va_up ad T q → C' = va_up C T (.inr (ci, fs)) → Wd D cs A ad' (T + 1) s C' H1 locs → W p l e R s m args below meth c H1 locs (cells + 1) (slots + N) Q (F0 m (pc + 3) ls (.ref q :: rest))) : W p l e R s m args below meth c H locs cells slots Q (F0 m pc ls rest) :=
  n_new X w hin ty hty k1 k2 k3 hc hfs hcells hslots hdg (fun q H1 w1 => kk q _ _ H1 rfl rfl w1)
theorem m_put {Cn : String} {Tn : u_T} {N ci index i a : Nat} {fs : List Value} {v : Value} (X : Cx p s m args c cc own) (w : Wd D cs A ad T s C H locs) (ha : ad i = a) (hi : i < T) (hC : C i = .inr (ci, fs)) (hc : classes[ci]? = some (Cn, Tn, N)) (hin : ∀ w ∈ u_ws Cn Tn N, w ∈ TB) (ty0 : Nat → FieldType) (hty : ∀ k, k < N → parseFieldDescriptor (Tn k).2.2.1 = some (ty0 k)) (hnm : ∀ a, a < N → ∀ b, b < N → a ≠ b → (Tn a).2.1 ≠ (Tn b).2.1) (k : Nat) (hk : k < N) (hlink : Cond.fieldLink own index (Tn k).1 (Tn k).2.1 (Tn k).2.2.1 ∈ TB) (hfin : (Tn k).2.2.2 = false) (hn : narrow (ty0 k) v = v) (hfit : fits (ty0 k) v = true) (hl : k < fs.length) (hdg : decode cc pc = .ok (.putfield index, 3))
    (kk : ∀ (C' : Nat → va_E) (H1 : Heap) (locs1 : List Loc), C' = va_up C i (.inr (ci, fs.set k v)) → Wd D cs A ad T s C' H1 locs1 → W p l e R s m args below meth c H1 locs1 cells slots Q (F0 m (pc + 3) ls rest)) : W p l e R s m args below meth c H locs cells slots Q (F0 m pc ls (v :: .ref a :: rest)) :=
  n_put X w ha hi hC hc hin ty0 hty hnm k hk hlink hfin hn hfit hl hdg (fun H1 l1 w1 => kk _ H1 l1 rfl w1)
theorem m_putF {Cn : String} {Tn : u_T} {N ci index i a : Nat} {fs : List Value} {v : Value} (X : Cx p s m args c cc own) (hin2 : meth.name = "<init>") (w : Wd D cs A ad T s C H locs) (ha : ad i = a) (hi : i < T) (hC : C i = .inr (ci, fs)) (hc : classes[ci]? = some (Cn, Tn, N)) (hin : ∀ w ∈ u_ws Cn Tn N, w ∈ TB) (ty0 : Nat → FieldType) (hty : ∀ k, k < N → parseFieldDescriptor (Tn k).2.2.1 = some (ty0 k)) (hnm : ∀ a, a < N → ∀ b, b < N → a ≠ b → (Tn a).2.1 ≠ (Tn b).2.1) (k : Nat) (hk : k < N) (hlink : Cond.fieldLink own index (Tn k).1 (Tn k).2.1 (Tn k).2.2.1 ∈ TB) (hfin : (Tn k).2.2.2 = true) (hdecl : (Tn k).1 = own) (hn : narrow (ty0 k) v = v) (hfit : fits (ty0 k) v = true) (hl : k < fs.length) (hdg : decode cc pc = .ok (.putfield index, 3))
    (kk : ∀ (C' : Nat → va_E) (H1 : Heap) (locs1 : List Loc), C' = va_up C i (.inr (ci, fs.set k v)) → Wd D cs A ad T s C' H1 locs1 → W p l e R s m args below meth c H1 locs1 cells slots Q (F0 m (pc + 3) ls rest)) : W p l e R s m args below meth c H locs cells slots Q (F0 m pc ls (v :: .ref a :: rest)) :=
  n_putF X hin2 w ha hi hC hc hin ty0 hty hnm k hk hlink hfin hdecl hn hfit hl hdg (fun H1 l1 w1 => kk _ H1 l1 rfl w1)
theorem m_poly25 {index ixI nL : Nat} (X : Cx p s m args c cc own) (ev : EV A s) (w : Wd D cs A ad T s C H locs) (hml : c.maxLocals = nL) (hls : ls.size = nL) (kc : Cond.classLink own index RPo ∈ TB) (km : Cond.methodLink own ixI y_Po_init ∈ TB) (hR : 2 ≤ R.frames ∧ 35 ≤ R.locals) (hcl : cells + 2 ≤ R.cells ∧ slots + 27 ≤ R.slots) (hW : (rest.map fun v => v.category).sum ≤ 6) (d1 : decode cc pc = .ok (.new index, 3)) (d2 : decode cc (pc + 3) = .ok (.dup, 1)) (d3 : decode cc (pc + 4) = .ok (.bipush 25, 2)) (d4 : decode cc (pc + 6) = .ok (.invokespecial ixI, 3))
    (kk : ∀ (q q2 : Nat) (ad' : Nat → Nat) (C' : Nat → va_E) (H1 : Heap) (locs1 : List Loc), ad' = va_up (va_up ad T q) (T + 1) q2 → C' = va_up (va_up C T (poE q2)) (T + 1) (aI cs 25 (fun _ => 0)) → Wd D cs A ad' (T + 2) s C' H1 locs1 → W p l e R s m args below meth c H1 locs1 (cells + 2) (slots + 27) Q (F0 m (pc + 9) ls (.ref q :: rest))) : W p l e R s m args below meth c H locs cells slots Q (F0 m pc ls rest) :=
  n_poly25 X ev w hml hls kc km hR hcl hW d1 d2 d3 d4 (fun q q2 H1 l1 w1 => kk q q2 _ _ H1 l1 rfl rfl w1)
theorem m_poly300 {index ixI nL : Nat} (X : Cx p s m args c cc own) (ev : EV A s) (w : Wd D cs A ad T s C H locs) (hml : c.maxLocals = nL) (hls : ls.size = nL) (kc : Cond.classLink own index RPo ∈ TB) (km : Cond.methodLink own ixI y_Po_init ∈ TB) (hR : 2 ≤ R.frames ∧ 35 ≤ R.locals) (hcl : cells + 2 ≤ R.cells ∧ slots + 302 ≤ R.slots) (hW : (rest.map fun v => v.category).sum ≤ 6) (d1 : decode cc pc = .ok (.new index, 3)) (d2 : decode cc (pc + 3) = .ok (.dup, 1)) (d3 : decode cc (pc + 4) = .ok (.sipush 300, 3)) (d4 : decode cc (pc + 7) = .ok (.invokespecial ixI, 3))
    (kk : ∀ (q q2 : Nat) (ad' : Nat → Nat) (C' : Nat → va_E) (H1 : Heap) (locs1 : List Loc), ad' = va_up (va_up ad T q) (T + 1) q2 → C' = va_up (va_up C T (poE q2)) (T + 1) (aI cs 300 (fun _ => 0)) → Wd D cs A ad' (T + 2) s C' H1 locs1 → W p l e R s m args below meth c H1 locs1 (cells + 2) (slots + 302) Q (F0 m (pc + 10) ls (.ref q :: rest))) : W p l e R s m args below meth c H locs cells slots Q (F0 m pc ls rest) :=
  n_poly300 X ev w hml hls kc km hR hcl hW d1 d2 d3 d4 (fun q q2 H1 l1 w1 => kk q q2 _ _ H1 l1 rfl rfl w1)
theorem g_getv {Cn : String} {Tn : u_T} {N ci index i a : Nat} {fs : List Value} (v : Value) (X : Cx p s m args c cc own) (w : Wd D cs A ad T s C H locs) (ha : ad i = a) (hi : i < T) (hC : C i = .inr (ci, fs)) (hc : classes[ci]? = some (Cn, Tn, N)) (hin : ∀ w ∈ u_ws Cn Tn N, w ∈ TB) (k : Nat) (hk : k < N) (hlink : Cond.fieldLink own index (Tn k).1 (Tn k).2.1 (Tn k).2.2.1 ∈ TB) (hv : fs[k]? = some v) (hdg : decode cc pc = .ok (.getfield index, 3))
    (kk : W p l e R s m args below meth c H locs cells slots Q (F0 m (pc + 3) ls (v :: rest))) : W p l e R s m args below meth c H locs cells slots Q (F0 m pc ls (.ref a :: rest)) := n_get X w ha hi hC hc hin k hk hlink hv hdg kk
theorem n_ist (X : Cx p s m args c cc own) (w : Wd D cs A ad T s C H locs) {i n a : Nat} {F : Nat → Int} (ha : ad i = a) (hi : i < T) (hC : C i = aI cs n F) {z v : Int} (j : Nat) (hz : z = (j : Int)) (hj : j < n) (hn : n < 2147483648) (hdg : decode cc pc = .ok (.iastore, 1))
    (kk : ∀ (H1 : Heap) (locs1 : List Loc), Wd D cs A ad T s (va_up C i (aI cs n (va_up F j v))) H1 locs1 → W p l e R s m args below meth c H1 locs1 cells slots Q (F0 m (pc + 1) ls rest)) : W p l e R s m args below meth c H locs cells slots Q (F0 m pc ls (.int (iI v) :: .int (iI z) :: .ref a :: rest)) := by
  subst ha
  exact w_ist X w hi hC j hz hj hn hdg kk
end NW3
theorem va_same {α : Type} (f : Nat → α) (k : Nat) {v : α} (h : f k = v) : va_up f k v = f := by
  funext j
  by_cases e : j = k
  · rw [e, va_up_self, h]
  · rw [va_up_ne _ _ e]
theorem c_Po_clear0 {l : Launch} {D : va_G} {cs : Nat → ClassId} {A : Nat → Prop} {ad : Nat → Nat} {T : Nat} {C : Nat → va_E} {i q : Nat} (hi : i < T) (hC : C i = poE q) : Cv l y_Po_clear ws_Po_clear { frames := 0, cells := 0, slots := 0, locals := 0 } D cs A ad T [.ref (ad i)] C (fun C' => C' = C) := by
  refine w_bodyV (by decide) (Nat.le_of_ble_eq_true rfl) ?_
  intro p e s m below meth c X hr hlk hml w ls hl
  have hl : lv_has ls 2 [(0, .ref (ad i))] := hl
  refine lv_iconst (v := iI (0)) X.1 X.2.1 d_Po_clear_0 (by decide) ?_
  refine lv_istore_n (lv' := [(1, .int (iI (0))), (0, .ref (ad i))]) X.1 X.2.1 d_Po_clear_1 rfl hl (by decide) rfl (fun ls hl => ?_)
  refine lv_iload_n X.1 X.2.1 d_Po_clear_2 rfl (lv_at hl 0 rfl) ?_
  refine lv_aload_n X.1 X.2.1 d_Po_clear_3 rfl (lv_at hl 1 rfl) ?_
  refine g_getv (i := i) (ci := 0) (fs := [.ref q, .int (iI (-1))]) (.int (iI (-1))) X w rfl hi hC rfl k_l_Po 1 (by decide) k_f_Po_13 rfl d_Po_clear_4 ?_
  refine i_gt (a := 0) (b := -1) (tgt := 23) X (by decide) (by decide) d_Po_clear_7 (by decide) (fun h_7 => ?_) (fun h_7 => ?_)
  · refine lv_aload_n X.1 X.2.1 d_Po_clear_23 rfl (lv_at hl 1 rfl) ?_
    refine lv_iconst (v := iI (-1)) X.1 X.2.1 d_Po_clear_24 (by decide) ?_
    refine n_put (i := i) (ci := 0) (fs := [.ref q, .int (iI (-1))]) X w rfl hi hC rfl k_l_Po tPo tyPo nPo 1 (by decide) k_f_Po_13 rfl rfl rfl (Nat.le_of_ble_eq_true rfl) d_Po_clear_25 (fun H locs w => ?_)
    exact w_vret X hr hlk w (va_same C i hC) d_Po_clear_28
  · exact absurd h_7 (by omega)
/-- the row at j, the object at i -/
def bpE (cs : Nat → ClassId) (C : Nat → va_E) (i j q x : Nat) : Nat → va_E := va_up (va_up C j (aI cs 25 (va_up (fun _ => 0) x 1))) i (.inr (0, [.ref q, .int (iI (x : Int))]))
theorem c_Po_bpx0 {l : Launch} {D : va_G} {cs : Nat → ClassId} {A : Nat → Prop} {ad : Nat → Nat} {T : Nat} {C : Nat → va_E} {i j q x : Nat} (hi : i < T) (hj : j < T) (hij : i ≠ j) (hx : x < 25) (hC : C i = poE q) (hq : ad j = q) (hCj : C j = aI cs 25 (fun _ => 0)) : Cv l y_Po_becomePowerOfX ws_Po_becomePowerOfX { frames := 1, cells := 0, slots := 0, locals := 21 } D cs A ad T [.ref (ad i), .int (iI (x : Int))] C (fun C' => C' = bpE cs C i j q x) := by
  refine w_bodyV (by decide) (Nat.le_of_ble_eq_true rfl) ?_
  intro p e s m below meth c X hr hlk hml w ls hl
  have hl : lv_has ls 2 [(0, .ref (ad i)), (1, .int (iI (x : Int)))] := hl
  refine lv_aload_n X.1 X.2.1 d_Po_becomePowerOfX_0 rfl (lv_at hl 0 rfl) ?_
  refine w_cVv (n := 0) (i := i) (ci := 0) (As := []) (rest := []) X w hml hl.1 (c_Po_clear0 hi hC) hi hC rfl k_m_Po_23 k_im_Po_clear k_se_Po_clear k_i_Po k_co_Po_clear (by decide +kernel) rfl ⟨Nat.le_of_ble_eq_true rfl, Nat.le_of_ble_eq_true rfl⟩ ⟨rfl, rfl⟩ ⟨Nat.zero_le _, Nat.zero_le _⟩ rfl (Nat.le_of_ble_eq_true rfl) d_Po_becomePowerOfX_1 (fun C' H locs hp w => ?_)
  have hp : C' = C := hp
  rw [hp] at w
  refine lv_aload_n X.1 X.2.1 d_Po_becomePowerOfX_4 rfl (lv_at hl 0 rfl) ?_
  refine g_getv (i := i) (ci := 0) (fs := [.ref q, .int (iI (-1))]) (.ref q) X w rfl hi hC rfl k_l_Po 0 (by decide) k_f_Po_7 rfl d_Po_becomePowerOfX_5 ?_
  refine lv_iload_n X.1 X.2.1 d_Po_becomePowerOfX_8 rfl (lv_at hl 1 rfl) ?_
  refine lv_iconst (v := iI (1)) X.1 X.2.1 d_Po_becomePowerOfX_9 (by decide) ?_
  refine n_ist (i := j) (n := 25) (F := fun _ => 0) (z := (x : Int)) (v := 1) X w hq hj hCj x rfl hx (by decide) d_Po_becomePowerOfX_10 (fun H locs w => ?_)
  refine lv_aload_n X.1 X.2.1 d_Po_becomePowerOfX_11 rfl (lv_at hl 0 rfl) ?_
  refine lv_iload_n X.1 X.2.1 d_Po_becomePowerOfX_12 rfl (lv_at hl 1 rfl) ?_
  refine n_put (i := i) (ci := 0) (fs := [.ref q, .int (iI (-1))]) X w rfl hi (by rw [va_up_ne _ _ hij]; exact hC) rfl k_l_Po tPo tyPo nPo 1 (by decide) k_f_Po_13 rfl rfl rfl (Nat.le_of_ble_eq_true rfl) d_Po_becomePowerOfX_13 (fun H locs w => ?_)
  exact w_vret X hr hlk w rfl d_Po_becomePowerOfX_16
/-- n polynomials in an array -/
def plV (cs : Nat → ClassId) (ad : Nat → Nat) (C : Nat → va_E) (arr base n N : Nat) : Prop := C arr = aQn cs N (fun k => if k < n then some (ad (base + 2 * k)) else none) ∧ ∀ k, k < n → C (base + 2 * k) = poE (ad (base + 2 * k + 1)) ∧ C (base + 2 * k + 1) = aI cs 25 (fun _ => 0)
theorem plV_0 {cs : Nat → ClassId} {ad : Nat → Nat} {C : Nat → va_E} {arr base N : Nat} (h : C arr = aQn cs N (fun _ => none)) : plV cs ad C arr base 0 N := ⟨by rw [h]; rfl, fun k hk => by omega⟩
theorem plV_s {cs : Nat → ClassId} {ad ad' : Nat → Nat} {C C' : Nat → va_E} {arr base n N q q2 T : Nat} (h : plV cs ad C arr base n N) (hT : T = base + 2 * n) (ha : arr < base) (e1 : ad' = va_up (va_up ad T q) (T + 1) q2) (e2 : C' = va_up (va_up (va_up C T (poE q2)) (T + 1) (aI cs 25 (fun _ => 0))) arr (aQn cs N (va_up (fun k => if k < n then some (ad (base + 2 * k)) else none) n (some q)))) : plV cs ad' C' arr base (n + 1) N := by
  subst hT
  have a1 : ∀ j, j < base + 2 * n → ad' j = ad j := fun j hj => by rw [e1, va_up_ne _ _ (by omega), va_up_ne _ _ (by omega)]
  have a2 : ad' (base + 2 * n) = q := by rw [e1, va_up_ne _ _ (by omega), va_up_self]
  have a3 : ad' (base + 2 * n + 1) = q2 := by rw [e1, va_up_self]
  refine ⟨?_, fun k hk => ?_⟩
  · rw [e2, va_up_self]
    congr 1
    funext k
    by_cases h1 : k = n
    · subst h1
      rw [va_up_self, if_pos (by omega), a2]
    · rw [va_up_ne _ _ h1]
      by_cases h2 : k < n
      · rw [if_pos h2, if_pos (by omega), a1 (base + 2 * k) (by omega)]
      · rw [if_neg h2, if_neg (by omega)]
  · have b1 : C' (base + 2 * k) = va_up C (base + 2 * n) (poE q2) (base + 2 * k) := by rw [e2, va_up_ne _ _ (by omega), va_up_ne _ _ (by omega)]
    have b2 : C' (base + 2 * k + 1) = va_up C (base + 2 * n + 1) (aI cs 25 (fun _ => 0)) (base + 2 * k + 1) := by
      rw [e2, va_up_ne _ _ (by omega)]
      by_cases h1 : k = n
      · subst h1; rw [va_up_self, va_up_self]
      · rw [va_up_ne _ _ (by omega), va_up_ne _ _ (by omega), va_up_ne _ _ (by omega)]
    rw [b1, b2]
    by_cases h1 : k = n
    · subst h1
      rw [va_up_self, va_up_self, a3]
      exact ⟨rfl, rfl⟩
    · rw [va_up_ne _ _ (show base + 2 * k ≠ base + 2 * n by omega), va_up_ne _ _ (show base + 2 * k + 1 ≠ base + 2 * n + 1 by omega), a1 (base + 2 * k + 1) (by omega)]
      exact h.2 k (by omega)
theorem plV_c {cs : Nat → ClassId} {ad ad' : Nat → Nat} {C C' : Nat → va_E} {arr base n N : Nat} (h : plV cs ad C arr base n N) (h1 : ∀ j, j < base + 2 * n → ad' j = ad j) (h2 : C' arr = C arr) (h3 : ∀ j, base ≤ j → j < base + 2 * n → C' j = C j) : plV cs ad' C' arr base n N := by
  refine ⟨h2.trans (h.1.trans ?_), fun k hk => ?_⟩
  · congr 1
    funext k
    by_cases e : k < n
    · rw [if_pos e, if_pos e, h1 _ (by omega)]
    · rw [if_neg e, if_neg e]
  · rw [h3 (base + 2 * k) (by omega) (by omega), h3 (base + 2 * k + 1) (by omega) (by omega), h1 (base + 2 * k + 1) (by omega)]
    exact h.2 k hk
