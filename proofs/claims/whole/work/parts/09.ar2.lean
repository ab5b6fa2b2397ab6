section GL
variable {p : Program} {l : Launch} {e : Env} {R : Room} {s : State} {m : MethodId} {args : Array Value} {below : List Frame} {meth : Method} {c : Code} {H : Heap} {locs : List Loc} {cells slots : Nat} {Q : State → Prop} {D : va_G} {cs : Nat → ClassId} {A : Nat → Prop} {ad : Nat → Nat} {T : Nat}
variable {cc : ByteArray} {own : String} {pc : Nat} {ls : Array Slot} {rest st : List Value} {G : Nat → Nat → Int} {O : Nat → va_E}
theorem g_deg {k index : Nat} (X : Cx p s m args c cc own) (hT : 132 ≤ T) (w : Wd D cs A ad T s (mkV cs ad (rV G) O) H locs) (hk : k < 61) (hlink : Cond.fieldLink own index "FieldFactors$Polynomial" "degree" "I" ∈ TB) (hdg : decode cc pc = .ok (.getfield index, 3))
    (kk : W p l e R s m args below meth c H locs cells slots Q (F0 m (pc + 3) ls (.int (iI (dg 300 (G k))) :: rest))) : W p l e R s m args below meth c H locs cells slots Q (F0 m pc ls (.ref (ad (2 * k)) :: rest)) := t_deg X hT w hk hlink hdg kk
theorem g_ld {k : Nat} {z : Int} (X : Cx p s m args c cc own) (hT : 132 ≤ T) (w : Wd D cs A ad T s (mkV cs ad (rV G) O) H locs) (hk : k < 61) (j : Nat) (hz : z = (j : Int)) (hj : j < wd k) (hdg : decode cc pc = .ok (.iaload, 1))
    (kk : W p l e R s m args below meth c H locs cells slots Q (F0 m (pc + 1) ls (.int (iI (G k j)) :: rest))) : W p l e R s m args below meth c H locs cells slots Q (F0 m pc ls (.int (iI z) :: .ref (ad (2 * k + 1)) :: rest)) := t_ld X hT w hk j hz hj hdg kk
end GL
theorem va_uu {α : Type} (f : Nat → α) (k : Nat) (v u : α) : va_up (va_up f k v) k u = va_up f k u := by
  funext j
  unfold va_up
  split <;> rfl
theorem va_id {α : Type} (f : Nat → α) (k : Nat) : va_up f k (f k) = f := by
  funext j
  by_cases h : j = k
  · subst h; rw [va_up_self]
  · rw [va_up_ne _ _ h]
/-- F + f A B, modulo pr, by the first n coefficients of A -/
def addP (pr : Int) (F : Nat → Int) (f : Int) (A B : Nat → Int) : Nat → Nat → Int
  | 0 => F
  | n + 1 => addS pr (addP pr F f A B n) (f * A n) n B
theorem addP_ok {pr : Int} {N : Nat} {F A B : Nat → Int} {f : Int} (hp : 0 < pr) (hF : okp pr N F) : ∀ n : Nat, (∀ i x, i < n → N ≤ x + i → B x = 0) → okp pr N (addP pr F f A B n)
  | 0, _ => hF
  | n + 1, h => addS_ok hp (addP_ok hp hF n (fun i x hi => h i x (by omega))) (fun x hx => h n x (by omega) hx)
theorem addS_0 {pr : Int} {N t : Nat} {F B : Nat → Int} (hF : okp pr N F) : addS pr F 0 t B = F := by
  funext x
  unfold addS
  split
  · rfl
  · rw [Int.zero_mul, Int.add_zero, Int.emod_eq_of_lt (hF.1 x).1 (hF.1 x).2]
section AP
variable {p : Program} {l : Launch} {e : Env} {s : State} {m : MethodId} {args : Array Value} {below : List Frame} {meth : Method} {c : Code} {H : Heap} {locs : List Loc} {Q : State → Prop} {D : va_G} {cs : Nat → ClassId} {A : Nat → Prop} {ad : Nat → Nat} {T : Nat} {O : Nat → va_E} {pr : Int} {inv : Nat → Int}
variable {k q r : Nat} {f : Int} {G : Nat → Nat → Int}
theorem l_Ar_addProduct (X : Cx p s m args c b_Ar_addProduct RAr) (hml : c.maxLocals = 6) (hT : 132 ≤ T) (hO : arO cs ad pr inv O) (hk : k < 61) (hq : q < 61) (hr' : r < 61) (hqk : q ≠ k) (hrk : r ≠ k) (hF : okp pr (wd k) (G k)) (hA : ok (wd q) (G q)) (hB : ok (wd r) (G r)) (hf : 0 ≤ f ∧ f ≤ 13) (ht : dg 300 (G q) + dg 300 (G r) < wd k)
    (K : ∀ (H : Heap) (locs : List Loc) (ls : Array Slot), Wd D cs A ad T s (mkV cs ad (rV (va_up G k (addP pr (G k) f (G q) (G r) (dg 300 (G q) + 1).toNat))) O) H locs → W p l e { frames := 2, cells := 0, slots := 0, locals := 47 } s m args below meth c H locs 0 0 Q (F0 m 46 ls [])) :
    ∀ (n i : Nat) (G1 : Nat → Nat → Int) (H : Heap) (locs : List Loc) (ls : Array Slot), dg 300 (G q) + 2 ≤ i + n → (i : Int) ≤ dg 300 (G q) + 1 → Wd D cs A ad T s (mkV cs ad (rV G1) O) H locs → G1 = va_up G k (addP pr (G k) f (G q) (G r) i) → lv_has ls 6 [(0, .ref (ad (123))), (1, .ref (ad (2 * k))), (2, .int (iI (f))), (3, .ref (ad (2 * q))), (4, .ref (ad (2 * r))), (5, .int (iI (i)))] → W p l e { frames := 2, cells := 0, slots := 0, locals := 47 } s m args below meth c H locs 0 0 Q (F0 m 3 ls []) := by
  have hpr := hO.2.2.1
  have hw := wd_lt k
  have hw2 := wd_lt q
  have hd := hA.dlt 300
  intro n
  induction n with
  | zero => intro i G1 H locs ls h1 h2; omega
  | succ n ih =>
    intro i G1 H locs ls h1 h2 w eG hl
    have hGq : G1 q = G q := by rw [eG, va_up_ne _ _ hqk]
    have hdq : dg 300 (G1 q) = dg 300 (G q) := by rw [hGq]
    have hqi : G1 q i = G q i := by rw [hGq]
    have hGr : G1 r = G r := by rw [eG, va_up_ne _ _ hrk]
    have hGk : G1 k = addP pr (G k) f (G q) (G r) i := by rw [eG, va_up_self]
    have hok : okp pr (wd k) (addP pr (G k) f (G q) (G r) i) := addP_ok (by omega) hF i (fun j x hj hx => hB.above (wd_le r) (by omega))
    have hai := hA.1 i
    have hm : 0 ≤ f * G1 q i ∧ f * G1 q i ≤ 1000 := by
      rw [hGq]
      refine ⟨Int.mul_nonneg hf.1 hai.1, ?_⟩
      have := Int.mul_le_mul hf.2 (show G q i ≤ 13 by omega) hai.1 (by decide)
      omega
    refine lv_iload X.1 X.2.1 d_Ar_addProduct_3 (lv_at hl 5 rfl) ?_
    refine lv_aload_n X.1 X.2.1 d_Ar_addProduct_5 rfl (lv_at hl 3 rfl) ?_
    refine g_deg (k := q) X hT w (by omega) k_f_Ar_52 d_Ar_addProduct_6 ?_
    refine i_gt (a := i) (b := dg 300 (G1 q)) (tgt := 46) X (by omega) (by omega) d_Ar_addProduct_9 (by decide) (fun h_9 => ?_) (fun h_9 => ?_)
    · refine K H locs ls ?_
      rw [hGq] at h_9
      rw [show (dg 300 (G q) + 1).toNat = i by omega, ← eG]
      exact w
    · refine lv_aload_n X.1 X.2.1 d_Ar_addProduct_12 rfl (lv_at hl 3 rfl) ?_
      refine t_co (k := q) X hT w (by omega) k_f_Ar_55 d_Ar_addProduct_13 ?_
      refine lv_iload X.1 X.2.1 d_Ar_addProduct_16 (lv_at hl 5 rfl) ?_
      refine g_ld (k := q) (z := i) X hT w (by omega) (i) (by omega) (by omega) d_Ar_addProduct_18 ?_
      refine z_eq (a := G1 q i) (tgt := 40) X (by omega) d_Ar_addProduct_19 (by decide) (fun h_19 => ?_) (fun h_19 => ?_)
      · refine i_inc (k := 5) (x := i) (lv' := [(5, .int (iI (i + 1))), (0, .ref (ad (123))), (1, .ref (ad (2 * k))), (2, .int (iI (f))), (3, .ref (ad (2 * q))), (4, .ref (ad (2 * r)))]) X d_Ar_addProduct_40 hl rfl (by decide) rfl (fun ls hl => ?_)
        refine lv_goto (tgt := 3) X.1 X.2.1 d_Ar_addProduct_43 (by decide) ?_
        refine ih (i + 1) _ H locs ls (by omega) (by omega) w ?_ (lv_sub hl [1, 2, 3, 4, 5, 0] rfl)
        rw [eG]
        congr 1
        show _ = addS pr (addP pr (G k) f (G q) (G r) i) (f * G q i) i (G r)
        rw [show G q i = 0 by rw [← hGq]; exact h_19, Int.mul_zero, addS_0 hok]
      · refine lv_aload_n X.1 X.2.1 d_Ar_addProduct_22 rfl (lv_at hl 0 rfl) ?_
        refine lv_aload_n X.1 X.2.1 d_Ar_addProduct_23 rfl (lv_at hl 1 rfl) ?_
        refine lv_iload_n X.1 X.2.1 d_Ar_addProduct_24 rfl (lv_at hl 2 rfl) ?_
        refine lv_aload_n X.1 X.2.1 d_Ar_addProduct_25 rfl (lv_at hl 3 rfl) ?_
        refine t_co (k := q) X hT w (by omega) k_f_Ar_55 d_Ar_addProduct_26 ?_
        refine lv_iload X.1 X.2.1 d_Ar_addProduct_29 (lv_at hl 5 rfl) ?_
        refine g_ld (k := q) (z := i) X hT w (by omega) (i) (by omega) (by omega) d_Ar_addProduct_31 ?_
        refine i_mul (a := f) (b := G1 q i) X d_Ar_addProduct_32 ?_
        refine lv_iload X.1 X.2.1 d_Ar_addProduct_33 (lv_at hl 5 rfl) ?_
        refine lv_aload X.1 X.2.1 d_Ar_addProduct_35 (lv_at hl 4 rfl) ?_
        refine w_cVv (n := 4) (i := 123) (ci := 1) (As := [.ref (ad (2 * k)), .int (iI (f * (G1 q i))), .int (iI (i)), .ref (ad (2 * r))]) (rest := []) X w hml hl.1 (c_Ar_addShifted hT (G := G1) hO (k := k) (q := r) (t := i) (f := f * G1 q i) hk hr' hrk (by rw [hGk]; exact hok) (by rw [hGr]; exact hB) hm (by rw [hGr]; omega)) (by omega) (by rw [mkV_O (by decide)]; exact hO.1) rfl k_m_Ar_64 k_im_Ar_addShifted k_se_Ar_addShifted k_i_Ar k_co_Ar_addShifted (by decide +kernel) rfl ⟨Nat.le_of_ble_eq_true rfl, Nat.le_of_ble_eq_true rfl⟩ ⟨rfl, rfl⟩ ⟨Nat.zero_le _, Nat.zero_le _⟩ rfl (Nat.le_of_ble_eq_true rfl) d_Ar_addProduct_37 (fun C' H locs hp w => ?_)
        subst hp
        obtain ⟨Gw1, eGw1⟩ : ∃ gg : Nat → Nat → Int, gg = va_up G1 k (addS pr (G1 k) (f * G1 q i) i (G1 r)) := ⟨_, rfl⟩
        rw [← eGw1] at w
        refine i_inc (k := 5) (x := i) (lv' := [(5, .int (iI (i + 1))), (0, .ref (ad (123))), (1, .ref (ad (2 * k))), (2, .int (iI (f))), (3, .ref (ad (2 * q))), (4, .ref (ad (2 * r)))]) X d_Ar_addProduct_40 hl rfl (by decide) rfl (fun ls hl => ?_)
        refine lv_goto (tgt := 3) X.1 X.2.1 d_Ar_addProduct_43 (by decide) ?_
        refine ih (i + 1) _ H locs ls (by omega) (by omega) w ?_ (lv_sub hl [1, 2, 3, 4, 5, 0] rfl)
        rw [eGw1, hGk, hGq, hGr, eG, va_uu]
        rfl
end AP
theorem c_Ar_addProduct {l : Launch} {D : va_G} {cs : Nat → ClassId} {A : Nat → Prop} {ad : Nat → Nat} {T : Nat} (hT : 132 ≤ T) {G : Nat → Nat → Int} {O : Nat → va_E} {pr : Int} {inv : Nat → Int} (hO : arO cs ad pr inv O) {k q r : Nat} {f : Int} (hk : k < 61) (hq : q < 61) (hr' : r < 61) (hqk : q ≠ k) (hrk : r ≠ k) (hF : okp pr (wd k) (G k)) (hA : ok (wd q) (G q)) (hB : ok (wd r) (G r)) (hf : 0 ≤ f ∧ f ≤ 13) (ht : dg 300 (G q) + dg 300 (G r) < wd k) : Cv l y_Ar_addProduct ws_Ar_addProduct { frames := 2, cells := 0, slots := 0, locals := 47 } D cs A ad T [.ref (ad (123)), .ref (ad (2 * k)), .int (iI (f)), .ref (ad (2 * q)), .ref (ad (2 * r))] (mkV cs ad (rV G) O) (fun C' => C' = mkV cs ad (rV (va_up G k (addP pr (G k) f (G q) (G r) (dg 300 (G q) + 1).toNat))) O) := by
  refine w_bodyV (by decide) (Nat.le_of_ble_eq_true rfl) ?_
  intro p e s m below meth c X hr hlk hml w ls hl
  have hl : lv_has ls 6 [(0, .ref (ad (123))), (1, .ref (ad (2 * k))), (2, .int (iI (f))), (3, .ref (ad (2 * q))), (4, .ref (ad (2 * r)))] := hl
  have hd0 := dg_ge 300 (G q)
  refine lv_iconst (v := iI (0)) X.1 X.2.1 d_Ar_addProduct_0 (by decide) ?_
  refine lv_istore (lv' := [(5, .int (iI (0))), (0, .ref (ad (123))), (1, .ref (ad (2 * k))), (2, .int (iI (f))), (3, .ref (ad (2 * q))), (4, .ref (ad (2 * r)))]) X.1 X.2.1 d_Ar_addProduct_1 hl (by decide) rfl (fun ls hl => ?_)
  refine l_Ar_addProduct X hml hT hO hk hq hr' hqk hrk hF hA hB hf ht (fun H locs ls w => ?_) (dg 300 (G q) + 2).toNat 0 G _ _ _ (by omega) (by omega) w ?_ (lv_sub hl [1, 2, 3, 4, 5, 0] rfl)
  · exact w_vret X hr hlk w rfl d_Ar_addProduct_46
  · exact (va_id G k).symm
section SC
variable {p : Program} {l : Launch} {e : Env} {R : Room} {s : State} {m : MethodId} {args : Array Value} {below : List Frame} {meth : Method} {c : Code} {H : Heap} {locs : List Loc} {cells slots : Nat} {Q : State → Prop} {D : va_G} {cs : Nat → ClassId} {A : Nat → Prop} {ad : Nat → Nat} {T : Nat}
variable {k : Nat} {f : Int} {O : Nat → va_E} {pr : Int} {inv : Nat → Int}
theorem l_Ar_scale (X : Cx p s m args c b_Ar_scale RAr) (hT : 132 ≤ T) (hO : arO cs ad pr inv O) (hk : k < 61) {V0 : Nat → PV} {d : Int} {F : Nat → Int} (hF : ok (wd k) F) (hf : 0 ≤ f ∧ f ≤ 13) (hd : -1 ≤ d ∧ d < wd k)
    (K : ∀ (V : Nat → PV) (H : Heap) (locs : List Loc) (ls : Array Slot), Wd D cs A ad T s (mkV cs ad V O) H locs → (V k).1 = d → (∀ x : Nat, (V k).2 x = if (x : Int) ≤ d then F x * f % pr else F x) → (∀ j, j ≠ k → V j = V0 j) → W p l e R s m args below meth c H locs cells slots Q (F0 m 35 ls [])) :
    ∀ (n i : Nat) (V : Nat → PV) (H : Heap) (locs : List Loc) (ls : Array Slot), d + 2 ≤ i + n → (i : Int) ≤ d + 1 → Wd D cs A ad T s (mkV cs ad V O) H locs → (V k).1 = d → (∀ x : Nat, (V k).2 x = if x < i then F x * f % pr else F x) → (∀ j, j ≠ k → V j = V0 j) → lv_has ls 4 [(0, .ref (ad (123))), (1, .ref (ad (2 * k))), (2, .int (iI (f))), (3, .int (iI (i)))] → W p l e R s m args below meth c H locs cells slots Q (F0 m 2 ls []) := by
  have hw := wd_lt k
  have hpr := hO.2.2.1
  intro n
  induction n with
  | zero => intro i V H locs ls h1 h2; omega
  | succ n ih =>
    intro i V H locs ls h1 h2 w hV1 hV2 hV3 hl
    have hx := hV2 i
    rw [if_neg (by omega)] at hx
    have hx3 := hF.1 i
    have hm : 0 ≤ (V k).2 i * f ∧ (V k).2 i * f ≤ 1000 := by
      rw [hx]
      refine ⟨Int.mul_nonneg hx3.1 hf.1, ?_⟩
      have := Int.mul_le_mul (show F i ≤ 13 by omega) hf.2 hf.1 (by decide)
      omega
    refine lv_iload_n X.1 X.2.1 d_Ar_scale_2 rfl (lv_at hl 3 rfl) ?_
    refine lv_aload_n X.1 X.2.1 d_Ar_scale_3 rfl (lv_at hl 1 rfl) ?_
    refine t_deg (k := k) X hT w (by omega) k_f_Ar_52 d_Ar_scale_4 ?_
    refine i_gt (a := i) (b := (V k).1) (tgt := 35) X (by omega) (by omega) d_Ar_scale_7 (by decide) (fun h_7 => ?_) (fun h_7 => ?_)
    · exact K V H locs ls w hV1 (by intro x; rw [hV2 x]; split <;> split <;> first | rfl | (exfalso; omega)) hV3
    · refine lv_aload_n X.1 X.2.1 d_Ar_scale_10 rfl (lv_at hl 1 rfl) ?_
      refine t_co (k := k) X hT w (by omega) k_f_Ar_55 d_Ar_scale_11 ?_
      refine lv_iload_n X.1 X.2.1 d_Ar_scale_14 rfl (lv_at hl 3 rfl) ?_
      refine lv_aload_n X.1 X.2.1 d_Ar_scale_15 rfl (lv_at hl 1 rfl) ?_
      refine t_co (k := k) X hT w (by omega) k_f_Ar_55 d_Ar_scale_16 ?_
      refine lv_iload_n X.1 X.2.1 d_Ar_scale_19 rfl (lv_at hl 3 rfl) ?_
      refine t_ld (k := k) (z := i) X hT w (by omega) (i) (by omega) (by omega) d_Ar_scale_20 ?_
      refine lv_iload_n X.1 X.2.1 d_Ar_scale_21 rfl (lv_at hl 2 rfl) ?_
      refine i_mul (a := (V k).2 i) (b := f) X d_Ar_scale_22 ?_
      refine lv_aload_n X.1 X.2.1 d_Ar_scale_23 rfl (lv_at hl 0 rfl) ?_
      refine t_ar X hT w hO 0 (by decide) k_f_Ar_48 rfl d_Ar_scale_24 ?_
      refine i_rem (a := ((V k).2 i) * f) (b := pr) X (by omega) (by omega) d_Ar_scale_27 ?_
      refine t_st (k := k) (z := i) (v := (((V k).2 i) * f) % pr) X hT w (by omega) (i) (by omega) (by omega) d_Ar_scale_28 (fun H locs w => ?_)
      obtain ⟨V1, eV1⟩ : ∃ U : Nat → PV, U = va_up V k ((V k).1, va_up (V k).2 i ((((V k).2 i) * f) % pr)) := ⟨_, rfl⟩
      rw [← eV1] at w
      refine i_inc (k := 3) (x := i) (lv' := [(3, .int (iI (i + 1))), (0, .ref (ad (123))), (1, .ref (ad (2 * k))), (2, .int (iI (f)))]) X d_Ar_scale_29 hl rfl (by decide) rfl (fun ls hl => ?_)
      refine lv_goto (tgt := 2) X.1 X.2.1 d_Ar_scale_32 (by decide) ?_
      have hu : ∀ x : Nat, (V1 k).2 x = if x < i + 1 then F x * f % pr else F x := by
        intro x
        rw [eV1, va_up_self]
        show va_up (V k).2 i (((V k).2 i * f) % pr) x = _
        by_cases h9 : x = i
        · subst h9; rw [va_up_self, hx, if_pos (by omega)]
        · rw [va_up_ne _ _ h9, hV2 x]; split <;> split <;> first | rfl | (exfalso; omega)
      exact ih (i + 1) _ H locs ls (by omega) (by omega) w (by rw [eV1, va_up_self]; exact hV1) hu (by intro j hj; rw [eV1, va_up_ne _ _ hj]; exact hV3 j hj) (lv_sub hl [1, 2, 3, 0] rfl)
end SC
theorem c_Ar_scale {l : Launch} {D : va_G} {cs : Nat → ClassId} {A : Nat → Prop} {ad : Nat → Nat} {T : Nat} (hT : 132 ≤ T) {G : Nat → Nat → Int} {O : Nat → va_E} {pr : Int} {inv : Nat → Int} (hO : arO cs ad pr inv O) {k : Nat} {f : Int} (hk : k < 61) (hF : ok (wd k) (G k)) (hf : 0 ≤ f ∧ f ≤ 13) (hdg : dg 300 (fun x => G k x * f % pr) = dg 300 (G k)) : Cv l y_Ar_scale ws_Ar_scale { frames := 0, cells := 0, slots := 0, locals := 0 } D cs A ad T [.ref (ad (123)), .ref (ad (2 * k)), .int (iI (f))] (mkV cs ad (rV G) O) (fun C' => C' = mkV cs ad (rV (va_up G k (fun x => G k x * f % pr))) O) := by
  refine w_bodyV (by decide) (Nat.le_of_ble_eq_true rfl) ?_
  intro p e s m below meth c X hr hlk hml w ls hl
  have hl : lv_has ls 4 [(0, .ref (ad (123))), (1, .ref (ad (2 * k))), (2, .int (iI (f)))] := hl
  have hd := hF.dlt 300
  have hd0 := dg_ge 300 (G k)
  refine lv_iconst (v := iI (0)) X.1 X.2.1 d_Ar_scale_0 (by decide) ?_
  refine lv_istore_n (lv' := [(3, .int (iI (0))), (0, .ref (ad (123))), (1, .ref (ad (2 * k))), (2, .int (iI (f)))]) X.1 X.2.1 d_Ar_scale_1 rfl hl (by decide) rfl (fun ls hl => ?_)
  refine l_Ar_scale X hT hO hk (V0 := rV G) (d := dg 300 (G k)) (F := G k) hF hf ⟨hd0, hd⟩ (fun V H locs ls w hV1 hV2 hV3 => ?_) (dg 300 (G k) + 2).toNat 0 _ _ _ _ (by omega) (by omega) w rfl (fun x => by rw [if_neg (by omega)]; rfl) (fun _ _ => rfl) (lv_sub hl [1, 2, 3, 0] rfl)
  refine w_vret X hr hlk w ?_ d_Ar_scale_35
  rw [rV_of (G := G) (k := k) (V := V) (F := fun x => G k x * f % pr) (by rw [hV1, hdg]) ?_ hV3]
  funext x
  rw [hV2 x]
  split
  · rfl
  · rw [hF.above (wd_le k) (by omega)]; simp
