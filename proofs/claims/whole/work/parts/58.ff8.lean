abbrev xNSE : String := "java/util/NoSuchElementException"
abbrev xIAE : String := "java/lang/IllegalArgumentException"
abbrev xARE : String := "java/lang/ArithmeticException"
abbrev xISE : String := "java/lang/IllegalStateException"
def ffF (ad : Nat → Nat) : List Value := [.ref (ad 123), .ref (ad 125), .ref (ad 128), .ref (ad 131), .ref (ad (2 * 19)), .ref (ad (2 * 20))]
def ffO (cs : Nat → ClassId) (ad : Nat → Nat) (O : Nat → va_E) : Prop := O 122 = .inr (4, ffF ad) ∧ O 131 = aQ cs ad 16 (fun i => 21 + i)
section TFF
variable {p : Program} {l : Launch} {e : Env} {R : Room} {s : State} {m : MethodId} {args : Array Value} {below : List Frame} {meth : Method} {c : Code} {H : Heap} {locs : List Loc} {cells slots : Nat} {Q : State → Prop} {D : va_G} {cs : Nat → ClassId} {A : Nat → Prop} {ad : Nat → Nat} {T : Nat}
variable {cc : ByteArray} {own : String} {pc : Nat} {ls : Array Slot} {rest st : List Value} {V : Nat → PV} {O : Nat → va_E}
theorem t_ffo {index : Nat} (X : Cx p s m args c cc own) (hT : 132 ≤ T) (w : Wd D cs A ad T s (mkV cs ad V O) H locs) (hF : ffO cs ad O) (k : Nat) (hk : k < 6) (hlink : Cond.fieldLink own index (FFf k).1 (FFf k).2.1 (FFf k).2.2.1 ∈ TB) {v : Value} (hv : (ffF ad)[k]? = some v) (hdg : decode cc pc = .ok (.getfield index, 3))
    (kk : W p l e R s m args below meth c H locs cells slots Q (F0 m (pc + 3) ls (v :: rest))) : W p l e R s m args below meth c H locs cells slots Q (F0 m pc ls (.ref (ad 122) :: rest)) :=
  w_get X w (Nat.lt_of_lt_of_le (by decide) hT) (by rw [mkV_O (by decide)]; exact hF.1) (ci := 4) rfl k_l_Ff k hk hlink hv hdg kk
theorem t_rg {z : Int} (X : Cx p s m args c cc own) (hT : 132 ≤ T) (w : Wd D cs A ad T s (mkV cs ad V O) H locs) (hF : ffO cs ad O) (j : Nat) (hz : z = (j : Int)) (hj : j < 16) (hdg : decode cc pc = .ok (.aaload, 1))
    (kk : W p l e R s m args below meth c H locs cells slots Q (F0 m (pc + 1) ls (.ref (ad (2 * (21 + j))) :: rest))) : W p l e R s m args below meth c H locs cells slots Q (F0 m pc ls (.int (iI z) :: .ref (ad 131) :: rest)) := by
  subst hz
  refine va_aldq (C := RPo) X.1 X.2.1 w.1 w.2.2.2.1 131 2 (by rw [vW_get (Nat.lt_of_lt_of_le (by decide) hT), mkV_O (by decide), hF.2]; rfl) rfl (iI_in hj (by decide)) hdg ?_
  rw [iI_clamp (by omega)]
  exact kk
theorem t_sl {n : String} {t : Nat} {F : Nat → Int} {z : Int} (X : Cx p s m args c cc own) (hS : va_S A s.heap H locs) (hA : va_T .int t 6 (fun j => .int (iI (F j))) A s s.heap) (j : Nat) (hz : z = (j : Int)) (hj : j < 6) (hdg : decode cc pc = .ok (.iaload, 1))
    (kk : W p l e R s m args below meth c H locs cells slots Q (F0 m (pc + 1) ls (.int (iI (F j)) :: rest))) : W p l e R s m args below meth c H locs cells slots Q (F0 m pc ls (.int (iI z) :: .ref t :: rest)) := by
  subst hz
  exact va_ti X.1 X.2.1 hA hS (iI_in hj (by decide)) (by rw [iI_clamp (by omega)]) hdg kk
end TFF
theorem c_Ff_register {l : Launch} (hst : l.stackTraces = false) {D : va_G} {cs : Nat → ClassId} {A : Nat → Prop} {ad : Nat → Nat} {T : Nat} (hT : 132 ≤ T) {G : Nat → Nat → Int} {O : Nat → va_E} {pr : Int} {inv : Nat → Int} (hO : arO cs ad pr inv O) (hF : ffO cs ad O) {r : Int} (hr9 : rg r) : FXr l y_Ff_register ws_Ff_register { frames := 6, cells := 1, slots := 6, locals := 90 } D cs A ad T [.ref (ad (122)), .int (iI (r))] (mkV cs ad (rV G) O) (fun a C' => (0 ≤ r ∧ r ≤ 15) ∧ a = ad (2 * (21 + r.toNat)) ∧ C' = (mkV cs ad (rV G) O)) (fun E C' => C' = (mkV cs ad (rV G) O) ∧ E = xNSE ∧ outF r 0 15 = 1) 1 := by
  refine f_bodyr (by decide) (Nat.le_of_ble_eq_true rfl) ?_
  intro p e s m below meth c X hr hlk hml hnx ev w ls hl
  have hl : lv_has ls 2 [(0, .ref (ad (122))), (1, .int (iI (r)))] := hl
  refine lv_iload_n X.1 X.2.1 d_Ff_register_0 rfl (lv_at hl 1 rfl) ?_
  refine z_lt (a := r) (tgt := 10) X (by omega) d_Ff_register_1 (by decide) (fun h_1 => ?_) (fun h_1 => ?_)
  · exact x_thrNSE (is := 176) (text := "no such register") X hst ev (by decide) k_c_Ff_151 k_i_NoSuchElementException w (⟨rfl, rfl, outF_out (by omega)⟩) hml hl.1 hnx hlk d_Ff_register_10 d_Ff_register_13 d_Ff_register_14 d_Ff_register_16 d_Ff_register_19 (by decide) (by decide) (by decide) (by decide) (by decide) (by decide)
  · refine lv_iload_n X.1 X.2.1 d_Ff_register_4 rfl (lv_at hl 1 rfl) ?_
    refine lv_bipush (v := iI (16)) X.1 X.2.1 d_Ff_register_5 (by decide) ?_
    refine i_lt (a := r) (b := 16) (tgt := 20) X (by omega) (by omega) d_Ff_register_7 (by decide) (fun h_7 => ?_) (fun h_7 => ?_)
    · refine lv_aload_n X.1 X.2.1 d_Ff_register_20 rfl (lv_at hl 0 rfl) ?_
      refine t_ffo X hT w hF 3 (by decide) k_f_Ff_34 rfl d_Ff_register_21 ?_
      refine lv_iload_n X.1 X.2.1 d_Ff_register_24 rfl (lv_at hl 1 rfl) ?_
      refine t_rg (z := r) X hT w hF (r.toNat) (by omega) (by omega) d_Ff_register_25 ?_
      exact x_aret X hr hlk w ⟨⟨by omega, by omega⟩, rfl, rfl⟩ d_Ff_register_26 (by decide) (by decide)
    · exact x_thrNSE (is := 176) (text := "no such register") X hst ev (by decide) k_c_Ff_151 k_i_NoSuchElementException w (⟨rfl, rfl, outF_out (by omega)⟩) hml hl.1 hnx hlk d_Ff_register_10 d_Ff_register_13 d_Ff_register_14 d_Ff_register_16 d_Ff_register_19 (by decide) (by decide) (by decide) (by decide) (by decide) (by decide)
theorem c_Ff_needExponent {l : Launch} (hst : l.stackTraces = false) {D : va_G} {cs : Nat → ClassId} {A : Nat → Prop} {ad : Nat → Nat} {T : Nat} (hT : 132 ≤ T) {G : Nat → Nat → Int} {O : Nat → va_E} {i : Int} (hi : rg i) : FXv l y_Ff_needExponent ws_Ff_needExponent { frames := 6, cells := 1, slots := 6, locals := 90 } D cs A ad T [.int (iI (i))] (mkV cs ad (rV G) O) (fun C' => (0 ≤ i ∧ i ≤ 24) ∧ C' = (mkV cs ad (rV G) O)) (fun E C' => C' = (mkV cs ad (rV G) O) ∧ E = xIAE ∧ outF i 0 24 = 1) 1 := by
  refine f_bodyv (by decide) (Nat.le_of_ble_eq_true rfl) ?_
  intro p e s m below meth c X hr hlk hml hnx ev w ls hl
  have hl : lv_has ls 1 [(0, .int (iI (i)))] := hl
  refine lv_iload_n X.1 X.2.1 d_Ff_needExponent_0 rfl (lv_at hl 0 rfl) ?_
  refine z_lt (a := i) (tgt := 10) X (by omega) d_Ff_needExponent_1 (by decide) (fun h_1 => ?_) (fun h_1 => ?_)
  · exact x_thrIAE (is := 178) (text := "no such coefficient") X hst ev (by decide) k_c_Ff_52 k_i_IllegalArgumentException w (⟨rfl, rfl, outF_out (by omega)⟩) hml hl.1 hnx hlk d_Ff_needExponent_10 d_Ff_needExponent_13 d_Ff_needExponent_14 d_Ff_needExponent_16 d_Ff_needExponent_19 (by decide) (by decide) (by decide) (by decide) (by decide) (by decide)
  · refine lv_iload_n X.1 X.2.1 d_Ff_needExponent_4 rfl (lv_at hl 0 rfl) ?_
    refine lv_bipush (v := iI (24)) X.1 X.2.1 d_Ff_needExponent_5 (by decide) ?_
    refine i_le (a := i) (b := 24) (tgt := 20) X (by omega) (by omega) d_Ff_needExponent_7 (by decide) (fun h_7 => ?_) (fun h_7 => ?_)
    · exact x_vret X hr hlk w ⟨⟨by omega, by omega⟩, rfl⟩ d_Ff_needExponent_20 (by decide) (by decide)
    · exact x_thrIAE (is := 178) (text := "no such coefficient") X hst ev (by decide) k_c_Ff_52 k_i_IllegalArgumentException w (⟨rfl, rfl, outF_out (by omega)⟩) hml hl.1 hnx hlk d_Ff_needExponent_10 d_Ff_needExponent_13 d_Ff_needExponent_14 d_Ff_needExponent_16 d_Ff_needExponent_19 (by decide) (by decide) (by decide) (by decide) (by decide) (by decide)
theorem c_Ff_needDegree {l : Launch} (hst : l.stackTraces = false) {D : va_G} {cs : Nat → ClassId} {A : Nat → Prop} {ad : Nat → Nat} {T : Nat} (hT : 132 ≤ T) {G : Nat → Nat → Int} {O : Nat → va_E} {k : Nat} (hk : k < 61) : FXv l y_Ff_needDegree ws_Ff_needDegree { frames := 6, cells := 1, slots := 6, locals := 90 } D cs A ad T [.ref (ad (2 * k))] (mkV cs ad (rV G) O) (fun C' => 1 ≤ dg 300 (G k) ∧ C' = (mkV cs ad (rV G) O)) (fun E C' => C' = (mkV cs ad (rV G) O) ∧ E = xIAE ∧ dg 300 (G k) < 1) 1 := by
  refine f_bodyv (by decide) (Nat.le_of_ble_eq_true rfl) ?_
  intro p e s m below meth c X hr hlk hml hnx ev w ls hl
  have hl : lv_has ls 1 [(0, .ref (ad (2 * k)))] := hl
  have hd0 := dg_ge 300 (G k)
  have hd1 := dg_lt 300 (G k)
  refine lv_aload_n X.1 X.2.1 d_Ff_needDegree_0 rfl (lv_at hl 0 rfl) ?_
  refine g_deg (k := k) X hT w (by omega) k_f_Ff_95 d_Ff_needDegree_1 ?_
  refine z_gt (a := dg 300 (G k)) (tgt := 17) X (by omega) d_Ff_needDegree_4 (by decide) (fun h_4 => ?_) (fun h_4 => ?_)
  · exact x_vret X hr hlk w ⟨by omega, rfl⟩ d_Ff_needDegree_17 (by decide) (by decide)
  · exact x_thrIAE (is := 180) (text := "the modulus has no degree above 0") X hst ev (by decide) k_c_Ff_52 k_i_IllegalArgumentException w (⟨rfl, rfl, by omega⟩) hml hl.1 hnx hlk d_Ff_needDegree_7 d_Ff_needDegree_10 d_Ff_needDegree_11 d_Ff_needDegree_13 d_Ff_needDegree_16 (by decide) (by decide) (by decide) (by decide) (by decide) (by decide)
theorem c_Ff_needNotZero {l : Launch} (hst : l.stackTraces = false) {D : va_G} {cs : Nat → ClassId} {A : Nat → Prop} {ad : Nat → Nat} {T : Nat} (hT : 132 ≤ T) {G : Nat → Nat → Int} {O : Nat → va_E} {k : Nat} (hk : k < 61) : FXv l y_Ff_needNotZero ws_Ff_needNotZero { frames := 6, cells := 1, slots := 6, locals := 90 } D cs A ad T [.ref (ad (2 * k))] (mkV cs ad (rV G) O) (fun C' => 0 ≤ dg 300 (G k) ∧ C' = (mkV cs ad (rV G) O)) (fun E C' => C' = (mkV cs ad (rV G) O) ∧ E = xIAE ∧ dg 300 (G k) < 0) 1 := by
  refine f_bodyv (by decide) (Nat.le_of_ble_eq_true rfl) ?_
  intro p e s m below meth c X hr hlk hml hnx ev w ls hl
  have hl : lv_has ls 1 [(0, .ref (ad (2 * k)))] := hl
  have hd0 := dg_ge 300 (G k)
  have hd1 := dg_lt 300 (G k)
  refine lv_aload_n X.1 X.2.1 d_Ff_needNotZero_0 rfl (lv_at hl 0 rfl) ?_
  refine g_deg (k := k) X hT w (by omega) k_f_Ff_95 d_Ff_needNotZero_1 ?_
  refine z_ge (a := dg 300 (G k)) (tgt := 17) X (by omega) d_Ff_needNotZero_4 (by decide) (fun h_4 => ?_) (fun h_4 => ?_)
  · exact x_vret X hr hlk w ⟨by omega, rfl⟩ d_Ff_needNotZero_17 (by decide) (by decide)
  · exact x_thrIAE (is := 182) (text := "the polynomial is 0") X hst ev (by decide) k_c_Ff_52 k_i_IllegalArgumentException w (⟨rfl, rfl, by omega⟩) hml hl.1 hnx hlk d_Ff_needNotZero_7 d_Ff_needNotZero_10 d_Ff_needNotZero_11 d_Ff_needNotZero_13 d_Ff_needNotZero_16 (by decide) (by decide) (by decide) (by decide) (by decide) (by decide)
def fidx (q : Int) : Int := if q = 2 then 0 else if q = 3 then 1 else if q = 5 then 2 else if q = 7 then 3 else if q = 11 then 4 else if q = 13 then 5 else -1
theorem fidx_of {q : Int} {n : Nat} (hn : n < 6) (h : fieldsF n = q) : fidx q = n := by
  have : ∀ n : Fin 6, fidx (fieldsF n.val) = (n.val : Int) := by decide
  rw [← h]; exact this ⟨n, hn⟩
theorem fidx_no {q : Int} (h : ∀ n, n < 6 → fieldsF n ≠ q) : fidx q = -1 := by
  have h0 := h 0 (by omega)
  have h1 := h 1 (by omega)
  have h2 := h 2 (by omega)
  have h3 := h 3 (by omega)
  have h4 := h 4 (by omega)
  have h5 := h 5 (by omega)
  simp only [fieldsF] at h0 h1 h2 h3 h4 h5
  unfold fidx
  simp at h0 h1 h2 h3 h4 h5
  rw [if_neg (by omega), if_neg (by omega), if_neg (by omega), if_neg (by omega), if_neg (by omega), if_neg (by omega)]
theorem c_Ff_fieldIndex {l : Launch} (hst : l.stackTraces = false) {D : va_G} {cs : Nat → ClassId} {A : Nat → Prop} {ad : Nat → Nat} {T : Nat} (hT : 132 ≤ T) {G : Nat → Nat → Int} {O : Nat → va_E} {q : Int} (hq : rg q) : FXi l y_Ff_fieldIndex ws_Ff_fieldIndex { frames := 0, cells := 0, slots := 0, locals := 0 } D cs A ad T [.int (iI (q))] (mkV cs ad (rV G) O) (fun x C' => x = iI (fidx q) ∧ C' = (mkV cs ad (rV G) O)) (fun _ _ => False) 0 := by
  refine f_bodyi (by decide) (Nat.le_of_ble_eq_true rfl) ?_
  intro p e s m below meth c X hr hlk hml hnx ev w ls hl
  have hl : lv_has ls 2 [(0, .int (iI (q)))] := hl
  obtain ⟨tF, zF, aF⟩ := ev.2.2.2.2.2.1
  have loop : ∀ (n i : Nat) (ls : Array Slot), i + n = 6 → (∀ x, x < i → fieldsF x ≠ q) → lv_has ls 2 [(0, .int (iI (q))), (1, .int (iI (i)))] → W p l e { frames := 0, cells := 0, slots := 0, locals := 0 } s m [.int (iI (q))].toArray below meth c s.heap [] 0 0 (vx_MQ below (va_Qi (fun x C' => x = iI (fidx q) ∧ C' = mkV cs ad (rV G) O) (QW D cs ad T) A) (XP (fun _ _ => False) D cs A ad T) [.int (iI (q))].toArray s 0 (6 * 0) A) (F0 m 2 ls []) := by
    intro n
    induction n with
    | zero =>
      intro i ls h1 h2 hl
      refine lv_iload_n X.1 X.2.1 d_Ff_fieldIndex_2 rfl (lv_at hl 1 rfl) ?_
      refine va_gets X.1 X.2.1 zF w.2.2.2.2 X.2.2.1 (X.2.2.2 _ k_f_Ff_184) (fun _ h => h) d_Ff_fieldIndex_3 ?_
      refine va_tlen X.1 X.2.1 aF w.2.2.2.2 (v := iI 6) (by decide) d_Ff_fieldIndex_6 ?_
      refine i_ge (a := i) (b := 6) (tgt := 27) X (by omega) (by omega) d_Ff_fieldIndex_7 (by decide) (fun h_7 => ?_) (fun h_7 => ?_)
      · refine lv_iconst (v := iI (-1)) X.1 X.2.1 d_Ff_fieldIndex_27 (by decide) ?_
        exact x_iret X hr hlk w ⟨by rw [fidx_no (fun x hx => h2 x (by omega))], rfl⟩ d_Ff_fieldIndex_28 (by decide) (by decide)
      · exact absurd h_7 (by omega)
    | succ n ih =>
      intro i ls h1 h2 hl
      have hfr : rg (fieldsF i) := by unfold fieldsF; repeat' (first | omega | split)
      refine lv_iload_n X.1 X.2.1 d_Ff_fieldIndex_2 rfl (lv_at hl 1 rfl) ?_
      refine va_gets X.1 X.2.1 zF w.2.2.2.2 X.2.2.1 (X.2.2.2 _ k_f_Ff_184) (fun _ h => h) d_Ff_fieldIndex_3 ?_
      refine va_tlen X.1 X.2.1 aF w.2.2.2.2 (v := iI 6) (by decide) d_Ff_fieldIndex_6 ?_
      refine i_ge (a := i) (b := 6) (tgt := 27) X (by omega) (by omega) d_Ff_fieldIndex_7 (by decide) (fun h_7 => ?_) (fun h_7 => ?_)
      · exact absurd h_7 (by omega)
      · refine va_gets X.1 X.2.1 zF w.2.2.2.2 X.2.2.1 (X.2.2.2 _ k_f_Ff_184) (fun _ h => h) d_Ff_fieldIndex_10 ?_
        refine lv_iload_n X.1 X.2.1 d_Ff_fieldIndex_13 rfl (lv_at hl 1 rfl) ?_
        refine t_sl (n := "") (F := fieldsF) (z := i) X w.2.2.2.2 aF (i) (by omega) (by omega) d_Ff_fieldIndex_14 ?_
        refine lv_iload_n X.1 X.2.1 d_Ff_fieldIndex_15 rfl (lv_at hl 0 rfl) ?_
        refine i_ne (a := fieldsF i) (b := q) (tgt := 21) X (by omega) (by omega) d_Ff_fieldIndex_16 (by decide) (fun h_16 => ?_) (fun h_16 => ?_)
        · refine i_inc (k := 1) (x := i) (lv' := [(1, .int (iI (i + 1))), (0, .int (iI (q)))]) X d_Ff_fieldIndex_21 hl rfl (by decide) rfl (fun ls hl => ?_)
          refine lv_goto (tgt := 2) X.1 X.2.1 d_Ff_fieldIndex_24 (by decide) ?_
          refine ih (i + 1) ls (by omega) (fun x hx => ?_) (lv_sub hl [1, 0] rfl)
          by_cases e9 : x = i
          · rw [e9]; exact h_16
          · exact h2 x (by omega)
        · refine lv_iload_n X.1 X.2.1 d_Ff_fieldIndex_19 rfl (lv_at hl 1 rfl) ?_
          exact x_iret X hr hlk w ⟨by rw [fidx_of (by omega) h_16], rfl⟩ d_Ff_fieldIndex_20 (by decide) (by decide)
  refine lv_iconst (v := iI (0)) X.1 X.2.1 d_Ff_fieldIndex_0 (by decide) ?_
  refine lv_istore_n (lv' := [(1, .int (iI (0))), (0, .int (iI (q)))]) X.1 X.2.1 d_Ff_fieldIndex_1 rfl hl (by decide) rfl (fun ls hl => ?_)
  exact loop 6 0 ls (by omega) (fun x hx => by omega) (lv_sub hl [1, 0] rfl)
theorem fidx_lim {q : Int} : (fidx q < 0 ↔ limF q < 0) ∧ (0 ≤ fidx q → cutF (fidx q).toNat = limF q ∧ fidx q < 6) := by
  unfold fidx limF cutF
  by_cases e1 : q = 2
  · rw [if_pos e1, if_pos e1]; exact ⟨by omega, fun _ => by decide⟩
  · rw [if_neg e1, if_neg e1]
    by_cases e2 : q = 3
    · rw [if_pos e2, if_pos e2]; exact ⟨by omega, fun _ => by decide⟩
    · rw [if_neg e2, if_neg e2]
      by_cases e3 : q = 5
      · rw [if_pos e3, if_pos e3]; exact ⟨by omega, fun _ => by decide⟩
      · rw [if_neg e3, if_neg e3]
        by_cases e4 : q = 7
        · rw [if_pos e4, if_pos e4]; exact ⟨by omega, fun _ => by decide⟩
        · rw [if_neg e4, if_neg e4]
          by_cases e5 : q = 11
          · rw [if_pos e5, if_pos e5]; exact ⟨by omega, fun _ => by decide⟩
          · rw [if_neg e5, if_neg e5]
            by_cases e6 : q = 13
            · rw [if_pos e6, if_pos e6]; exact ⟨by omega, fun _ => by decide⟩
            · rw [if_neg e6, if_neg e6]; exact ⟨by omega, fun h => by omega⟩
theorem fidx_rg (q : Int) : -1 ≤ fidx q ∧ fidx q ≤ 5 := by unfold fidx; repeat' (first | omega | split)
theorem c_Ff_highestCutDegree {l : Launch} (hst : l.stackTraces = false) {D : va_G} {cs : Nat → ClassId} {A : Nat → Prop} {ad : Nat → Nat} {T : Nat} (hT : 132 ≤ T) {G : Nat → Nat → Int} {O : Nat → va_E} {pr : Int} {inv : Nat → Int} (hO : arO cs ad pr inv O) (hF : ffO cs ad O) (hl0 : 0 ≤ limF pr) : FXi l y_Ff_highestCutDegree ws_Ff_highestCutDegree { frames := 1, cells := 0, slots := 0, locals := 21 } D cs A ad T [.ref (ad (122))] (mkV cs ad (rV G) O) (fun x C' => x = iI (limF pr) ∧ C' = (mkV cs ad (rV G) O)) (fun _ _ => False) 0 := by
  refine f_bodyi (by decide) (Nat.le_of_ble_eq_true rfl) ?_
  intro p e s m below meth c X hr hlk hml hnx ev w ls hl
  have hl : lv_has ls 2 [(0, .ref (ad (122)))] := hl
  obtain ⟨tC, zC, aC⟩ := ev.2.2.2.2.2.2.1
  have hfl := fidx_lim (q := pr)
  have hfr := fidx_rg pr
  have hpr := hO.2.2.1
  refine lv_aload_n X.1 X.2.1 d_Ff_highestCutDegree_0 rfl (lv_at hl 0 rfl) ?_
  refine t_ffo X hT w hF 0 (by decide) k_f_Ff_12 rfl d_Ff_highestCutDegree_1 ?_
  refine t_ar X hT w hO 0 (by decide) k_f_Ff_59 rfl d_Ff_highestCutDegree_4 ?_
  refine x_cSi (n := 1) (k1 := 0) (As := [.int (iI (pr))]) (rest := []) X ev hnx hlk w hml hl.1 (c_Ff_fieldIndex hst hT (G := G) (O := O) (q := pr) (by omega)) (fun _ _ h => h.elim) k_m_Ff_48 k_st_Ff_fieldIndex k_i_Ff k_co_Ff_fieldIndex (by decide +kernel) rfl ⟨Nat.le_of_ble_eq_true rfl, Nat.le_of_ble_eq_true rfl⟩ ⟨rfl, rfl⟩ ⟨by decide, by decide⟩ (by decide) (by decide) rfl (Nat.le_of_ble_eq_true rfl) d_Ff_highestCutDegree_7 (fun r' C' H locs hp w => ?_)
  obtain ⟨rfl, rfl⟩ := hp
  refine lv_istore_n (lv' := [(1, .int (iI (fidx pr))), (0, .ref (ad (122)))]) X.1 X.2.1 d_Ff_highestCutDegree_10 rfl hl (by decide) rfl (fun ls hl => ?_)
  refine lv_iload_n X.1 X.2.1 d_Ff_highestCutDegree_11 rfl (lv_at hl 0 rfl) ?_
  refine z_ge (a := fidx pr) (tgt := 19) X (by omega) d_Ff_highestCutDegree_12 (by decide) (fun h_12 => ?_) (fun h_12 => ?_)
  · refine va_gets X.1 X.2.1 zC w.2.2.2.2 X.2.2.1 (X.2.2.2 _ k_f_Ff_187) (fun _ h => h) d_Ff_highestCutDegree_19 ?_
    refine lv_iload_n X.1 X.2.1 d_Ff_highestCutDegree_22 rfl (lv_at hl 0 rfl) ?_
    refine t_sl (n := "") (F := cutF) (z := fidx pr) X w.2.2.2.2 aC ((fidx pr).toNat) (by omega) (by omega) d_Ff_highestCutDegree_23 ?_
    exact x_iret X hr hlk w ⟨by rw [(hfl.2 (by omega)).1], rfl⟩ d_Ff_highestCutDegree_24 (by decide) (by decide)
  · exact absurd h_12 (by omega)
