/-! constructors: polynomials -/
/-- a new polynomial whose row lies at q -/
def poE (q : Nat) : va_E := .inr (0, [.ref q, .int (iI (-1))])
theorem va_swap {C : Nat → va_E} {T : Nat} {x y z : va_E} : va_up (va_up (va_up C T x) (T + 1) y) T z = va_up (va_up C T z) (T + 1) y := by
  funext i
  by_cases h1 : i = T
  · subst h1
    rw [va_up_self, va_up_ne _ _ (by omega), va_up_self]
  · rw [va_up_ne _ _ h1]
    by_cases h2 : i = T + 1
    · subst h2
      rw [va_up_self, va_up_self]
    · rw [va_up_ne _ _ h2, va_up_ne _ _ h2, va_up_ne _ _ h1, va_up_ne _ _ h1]
def poP (cs : Nat → ClassId) (ad : Nat → Nat) (T : Nat) (C : Nat → va_E) (i n : Nat) (ad' : Nat → Nat) (T' : Nat) (C' : Nat → va_E) : Prop := ∃ q, ad' = va_up ad T q ∧ T' = T + 1 ∧ C' = va_up (va_up C T (aI cs n (fun _ => 0))) i (poE q)
theorem c_Po_init {l : Launch} {D : va_G} {cs : Nat → ClassId} {A : Nat → Prop} {ad : Nat → Nat} {T : Nat} {C : Nat → va_E} {i n a : Nat} (hi : i < T) (ha : ad i = a) (hC : C i = .inr (0, [.null, .int 0])) (hn : n < 1000) : Cn l y_Po_init ws_Po_init { frames := 1, cells := 1, slots := n, locals := 14 } D cs A ad T [.ref a, .int (iI (n : Int))] C (poP cs ad T C i n) 1 n := by
  refine n_body (by decide) (Nat.le_of_ble_eq_true rfl) rfl ?_
  intro p e s m below meth c X hr hlk hml hnm ev w ls hl
  have hl : lv_has ls 2 [(0, .ref a), (1, .int (iI (n : Int)))] := hl
  refine lv_aload_n X.1 X.2.1 d_Po_init_0 rfl (lv_at hl 0 rfl) ?_
  refine n_obj (k := 2) X hml hl.1 k_m_Po_1 d_Po_init_1 (by show 1 ≤ 1; omega) (by show 0 + 12 ≤ 14; omega) ?_
  refine lv_aload_n X.1 X.2.1 d_Po_init_4 rfl (lv_at hl 0 rfl) ?_
  refine lv_iload_n X.1 X.2.1 d_Po_init_5 rfl (lv_at hl 1 rfl) ?_
  refine n_newa n rfl hn X w (by show 0 + 1 ≤ 1; omega) (by show 0 + n ≤ n; omega) d_Po_init_6 (fun q H w => ?_)
  refine n_putF (i := i) (ci := 0) (fs := [.null, .int 0]) X hnm w (by rw [va_up_ne _ _ (by omega)]; exact ha) (by omega) (by rw [va_up_ne _ _ (by omega)]; exact hC) rfl k_l_Po tPo tyPo nPo 0 (by decide) k_f_Po_7 rfl rfl rfl rfl (Nat.le_of_ble_eq_true rfl) d_Po_init_8 (fun H locs w => ?_)
  refine lv_aload_n X.1 X.2.1 d_Po_init_11 rfl (lv_at hl 0 rfl) ?_
  refine lv_iconst (v := iI (-1)) X.1 X.2.1 d_Po_init_12 (by decide) ?_
  refine n_put (i := i) (ci := 0) (fs := [.ref q, .int 0]) X w (by rw [va_up_ne _ _ (by omega)]; exact ha) (by omega) (va_up_self _ _ _) rfl k_l_Po tPo tyPo nPo 1 (by decide) k_f_Po_13 rfl rfl rfl (Nat.le_of_ble_eq_true rfl) d_Po_init_13 (fun H locs w => ?_)
  exact n_vret (post := poP cs ad T C i n) (mc := 1) (ms := n) X hr hlk w ⟨q, rfl, rfl, va_uu _ _ _ _⟩ d_Po_init_16 (by omega) (by omega)
section NWP
variable {p : Program} {l : Launch} {e : Env} {R : Room} {s : State} {m : MethodId} {args : Array Value} {below : List Frame} {meth : Method} {c : Code} {H : Heap} {locs : List Loc} {cells slots : Nat} {Q : State → Prop}
variable {cc : ByteArray} {own : String} {pc : Nat} {ls : Array Slot} {rest st : List Value} {D : va_G} {cs : Nat → ClassId} {A : Nat → Prop} {ad : Nat → Nat} {T : Nat} {C : Nat → va_E} {px : String → (Nat → va_E) → Prop} {k : Nat} {XC : String → State → State → Prop}
theorem n_poly25 {index ixI nL : Nat} (X : Cx p s m args c cc own) (ev : EV A s) (w : Wd D cs A ad T s C H locs) (hml : c.maxLocals = nL) (hls : ls.size = nL) (kc : Cond.classLink own index RPo ∈ TB) (km : Cond.methodLink own ixI y_Po_init ∈ TB) (hR : 2 ≤ R.frames ∧ 35 ≤ R.locals) (hcl : cells + 2 ≤ R.cells ∧ slots + 27 ≤ R.slots) (hW : (rest.map fun v => v.category).sum ≤ 6) (d1 : decode cc pc = .ok (.new index, 3)) (d2 : decode cc (pc + 3) = .ok (.dup, 1)) (d3 : decode cc (pc + 4) = .ok (.bipush 25, 2)) (d4 : decode cc (pc + 6) = .ok (.invokespecial ixI, 3))
    (kk : ∀ (q q2 : Nat) (H1 : Heap) (locs1 : List Loc), Wd D cs A (va_up (va_up ad T q) (T + 1) q2) (T + 2) s (va_up (va_up C T (poE q2)) (T + 1) (aI cs 25 (fun _ => 0))) H1 locs1 → W p l e R s m args below meth c H1 locs1 (cells + 2) (slots + 27) Q (F0 m (pc + 9) ls (.ref q :: rest))) : W p l e R s m args below meth c H locs cells slots Q (F0 m pc ls rest) := by
  refine n_new (Cn := RPo) (Tn := FPo) (N := 2) (ci := 0) (fs := [.null, .int 0]) X w k_l_Po tPo tyPo kc k_n_Po k_i_Po rfl (by decide) (by omega) (by omega) d1 (fun q H w => ?_)
  refine lv_dup X.1 X.2.1 d2 rfl ?_
  refine lv_bipush (v := iI (25)) X.1 X.2.1 d3 (by decide) ?_
  refine n_cI (n := 1) (b := q) (As := [.int (iI (25))]) (rest := .ref q :: rest) X ev w hml hls (c_Po_init (n := 25) (i := T) (by omega) (va_up_self _ _ _) (va_up_self _ _ _) (by decide)) km k_im_Po_init k_i_Po k_co_Po_init rfl (by decide +kernel) rfl ⟨by show 1 + 1 ≤ _; omega, by show 8 + (2 + 11) + 14 ≤ _; omega⟩ ⟨rfl, rfl⟩ ⟨by omega, by omega⟩ rfl (by show 1 + (rest.map fun v => v.category).sum ≤ 8; omega) d4 (fun ad' T' C' H locs hp w => ?_)
  obtain ⟨q2, rfl, rfl, rfl⟩ := hp
  rw [va_swap] at w
  exact kk q q2 H locs w
theorem n_poly300 {index ixI nL : Nat} (X : Cx p s m args c cc own) (ev : EV A s) (w : Wd D cs A ad T s C H locs) (hml : c.maxLocals = nL) (hls : ls.size = nL) (kc : Cond.classLink own index RPo ∈ TB) (km : Cond.methodLink own ixI y_Po_init ∈ TB) (hR : 2 ≤ R.frames ∧ 35 ≤ R.locals) (hcl : cells + 2 ≤ R.cells ∧ slots + 302 ≤ R.slots) (hW : (rest.map fun v => v.category).sum ≤ 6) (d1 : decode cc pc = .ok (.new index, 3)) (d2 : decode cc (pc + 3) = .ok (.dup, 1)) (d3 : decode cc (pc + 4) = .ok (.sipush 300, 3)) (d4 : decode cc (pc + 7) = .ok (.invokespecial ixI, 3))
    (kk : ∀ (q q2 : Nat) (H1 : Heap) (locs1 : List Loc), Wd D cs A (va_up (va_up ad T q) (T + 1) q2) (T + 2) s (va_up (va_up C T (poE q2)) (T + 1) (aI cs 300 (fun _ => 0))) H1 locs1 → W p l e R s m args below meth c H1 locs1 (cells + 2) (slots + 302) Q (F0 m (pc + 10) ls (.ref q :: rest))) : W p l e R s m args below meth c H locs cells slots Q (F0 m pc ls rest) := by
  refine n_new (Cn := RPo) (Tn := FPo) (N := 2) (ci := 0) (fs := [.null, .int 0]) X w k_l_Po tPo tyPo kc k_n_Po k_i_Po rfl (by decide) (by omega) (by omega) d1 (fun q H w => ?_)
  refine lv_dup X.1 X.2.1 d2 rfl ?_
  refine lv_sipush (v := iI (300)) X.1 X.2.1 d3 (by decide) ?_
  refine n_cI (n := 1) (b := q) (As := [.int (iI (300))]) (rest := .ref q :: rest) X ev w hml hls (c_Po_init (n := 300) (i := T) (by omega) (va_up_self _ _ _) (va_up_self _ _ _) (by decide)) km k_im_Po_init k_i_Po k_co_Po_init rfl (by decide +kernel) rfl ⟨by show 1 + 1 ≤ _; omega, by show 8 + (2 + 11) + 14 ≤ _; omega⟩ ⟨rfl, rfl⟩ ⟨by omega, by omega⟩ rfl (by show 1 + (rest.map fun v => v.category).sum ≤ 8; omega) d4 (fun ad' T' C' H locs hp w => ?_)
  obtain ⟨q2, rfl, rfl, rfl⟩ := hp
  rw [va_swap] at w
  exact kk q q2 H locs w
end NWP
