section CUI
variable {p : Program} {l : Launch} {e : Env} {s : State} {m : MethodId} {args : Array Value} {below : List Frame} {meth : Method} {c : Code} {Q : State → Prop} {D : va_G} {cs : Nat → ClassId} {A : Nat → Prop} {adL : Nat → Nat} {CL : Nat → va_E} {a r f18 f19 : Nat}
/-- before the i-th turn -/
def cuV (cs : Nat → ClassId) (adL : Nat → Nat) (CL : Nat → va_E) (i : Nat) (ad : Nat → Nat) (C : Nat → va_E) : Prop := (∀ j, j < 20 → ad j = adL j) ∧ (∀ j, j < 18 → C j = CL j) ∧ C 19 = CL 19 ∧ plV cs ad C 18 20 i 24
theorem l_Cu_init_28 (X : Cx p s m args c b_Cu_init RCu) (ev : EV A s) (hml : c.maxLocals = 3) (hA : adL 17 = a) (h18 : adL 18 = f18) (hO : CL 17 = .inr (2, [.ref f18, .ref f19, .int 0, .ref r, .null, .null, .null, .null, .null, .null, .null, .null, .null]))
    (K : ∀ (ad : Nat → Nat) (C : Nat → va_E) (H : Heap) (locs : List Loc) (ls : Array Slot), Wd D cs A ad 68 s C H locs → cuV cs adL CL 24 ad C → lv_has ls 3 [(0, .ref a), (1, .ref r)] → W p l e { frames := 2, cells := 68, slots := 939, locals := 42 } s m args below meth c H locs 50 696 Q (F0 m 55 ls [])) :
    ∀ (n i : Nat) (ad : Nat → Nat) (C : Nat → va_E) (H : Heap) (locs : List Loc) (ls : Array Slot), i + n = 24 → Wd D cs A ad (20 + 2 * i) s C H locs → cuV cs adL CL i ad C → lv_has ls 3 [(2, .int (iI (i : Int))), (0, .ref a), (1, .ref r)] → W p l e { frames := 2, cells := 68, slots := 939, locals := 42 } s m args below meth c H locs (2 + 2 * i) (48 + 27 * i) Q (F0 m 28 ls []) := by
  intro n
  induction n with
  | zero =>
    intro i ad C H locs ls hi w hv hl
    have hi : i = 24 := by omega
    subst hi
    refine lv_iload_n X.1 X.2.1 d_Cu_init_28 rfl (lv_at hl 0 rfl) ?_
    refine lv_bipush (v := iI (24)) X.1 X.2.1 d_Cu_init_29 (by decide) ?_
    refine i_ge (a := ((24 : Nat) : Int)) (b := 24) (tgt := 55) X (by decide) (by decide) d_Cu_init_31 (by decide) (fun h_31 => ?_) (fun h_31 => ?_)
    · exact K ad C H locs ls w hv (lv_sub hl [1, 2] rfl)
    · exact absurd h_31 (by omega)
  | succ n ih =>
    intro i ad C H locs ls hi w hv hl
    have hC17 : C 17 = .inr (2, [.ref f18, .ref f19, .int 0, .ref r, .null, .null, .null, .null, .null, .null, .null, .null, .null]) := (hv.2.1 17 (by omega)).trans hO
    refine lv_iload_n X.1 X.2.1 d_Cu_init_28 rfl (lv_at hl 0 rfl) ?_
    refine lv_bipush (v := iI (24)) X.1 X.2.1 d_Cu_init_29 (by decide) ?_
    refine i_ge (a := (i : Int)) (b := 24) (tgt := 55) X (by omega) (by decide) d_Cu_init_31 (by decide) (fun h_31 => ?_) (fun h_31 => ?_)
    · exact absurd h_31 (by omega)
    · refine lv_aload_n X.1 X.2.1 d_Cu_init_34 rfl (lv_at hl 1 rfl) ?_
      refine g_getv (i := 17) (ci := 2) (fs := [.ref f18, .ref f19, .int 0, .ref r, .null, .null, .null, .null, .null, .null, .null, .null, .null]) (.ref f18) X w ((hv.1 17 (by omega)).trans hA) (by omega) hC17 rfl k_l_Cu 0 (by decide) k_f_Cu_17 rfl d_Cu_init_35 ?_
      refine lv_iload_n X.1 X.2.1 d_Cu_init_38 rfl (lv_at hl 0 rfl) ?_
      refine m_poly25 X ev w hml hl.1 k_c_Cu_15 k_m_Cu_25 ⟨Nat.le_of_ble_eq_true rfl, Nat.le_of_ble_eq_true rfl⟩ ⟨by show 2 + 2 * i + 2 ≤ 68; omega, by show 48 + 27 * i + 27 ≤ 939; omega⟩ (Nat.le_of_ble_eq_true rfl) d_Cu_init_39 d_Cu_init_42 d_Cu_init_43 d_Cu_init_45 (fun q q2 ad1 C1 H locs ea eC w => ?_)
      have hn18 : C1 18 = aQn cs 24 (fun k => if k < i then some (ad (20 + 2 * k)) else none) := by rw [eC, va_up_ne _ _ (by omega), va_up_ne _ _ (by omega)]; exact hv.2.2.2.1
      have ha18 : ad1 18 = f18 := by rw [ea, va_up_ne _ _ (by omega), va_up_ne _ _ (by omega)]; exact (hv.1 18 (by omega)).trans h18
      refine n_aas (i := 18) (v := 20 + 2 * i) (n := 24) (a := f18) (b := q) (vs := [.ref q2, .int (iI (-1))]) X w ha18 (by omega) hn18 (by rw [ea, va_up_ne _ _ (by omega), va_up_self]) (by omega) (by rw [eC, va_up_ne _ _ (by omega), va_up_self]; rfl) i rfl (by omega) (by decide) d_Cu_init_48 (fun H locs w => ?_)
      refine i_inc (k := 0) (x := (i : Int)) (lv' := [(2, .int (iI ((i : Int) + 1))), (0, .ref a), (1, .ref r)]) X d_Cu_init_49 hl rfl (by decide) rfl (fun ls hl => ?_)
      refine lv_goto (tgt := 28) X.1 X.2.1 d_Cu_init_52 (by decide) ?_
      rw [show 20 + 2 * i + 2 = 20 + 2 * (i + 1) by omega] at w
      rw [show 2 + 2 * i + 2 = 2 + 2 * (i + 1) by omega, show 48 + 27 * i + 27 = 48 + 27 * (i + 1) by omega]
      refine ih (i + 1) ad1 _ H locs ls (by omega) w ⟨fun j hj => ?_, fun j hj => ?_, ?_, ?_⟩ hl
      · rw [ea, va_up_ne _ _ (by omega), va_up_ne _ _ (by omega)]; exact hv.1 j hj
      · rw [va_up_ne _ _ (by omega), eC, va_up_ne _ _ (by omega), va_up_ne _ _ (by omega)]; exact hv.2.1 j hj
      · rw [va_up_ne _ _ (by omega), eC, va_up_ne _ _ (by omega), va_up_ne _ _ (by omega)]; exact hv.2.2.1
      · exact plV_s hv.2.2.2 rfl (by decide) ea (by rw [eC])
end CUI
/-- the cutter as new: its object at 17 -/
def cuP (cs : Nat → ClassId) (ad : Nat → Nat) (C : Nat → va_E) (r : Nat) (ad' : Nat → Nat) (T' : Nat) (C' : Nat → va_E) : Prop := T' = 86 ∧ (∀ i, i < 18 → ad' i = ad i) ∧ (∀ i, i < 17 → C' i = C i) ∧ C' 17 = .inr (2, [.ref (ad' 18), .ref (ad' 19), .int (iI 0), .ref r, .ref (ad' 68), .ref (ad' 70), .ref (ad' 72), .ref (ad' 74), .ref (ad' 76), .ref (ad' 78), .ref (ad' 80), .ref (ad' 82), .ref (ad' 84)]) ∧ C' 19 = aI cs 24 (fun _ => 0) ∧ plV cs ad' C' 18 20 24 24 ∧ (C' 68 = poE (ad' 69) ∧ C' 69 = aI cs 25 (fun _ => 0)) ∧ (C' 70 = poE (ad' 71) ∧ C' 71 = aI cs 25 (fun _ => 0)) ∧ (C' 72 = poE (ad' 73) ∧ C' 73 = aI cs 25 (fun _ => 0)) ∧ (C' 74 = poE (ad' 75) ∧ C' 75 = aI cs 25 (fun _ => 0)) ∧ (C' 76 = poE (ad' 77) ∧ C' 77 = aI cs 25 (fun _ => 0)) ∧ (C' 78 = poE (ad' 79) ∧ C' 79 = aI cs 25 (fun _ => 0)) ∧ (C' 80 = poE (ad' 81) ∧ C' 81 = aI cs 25 (fun _ => 0)) ∧ C' 82 = .inr (0, [.ref (ad' 83), .int (iI 0)]) ∧ C' 83 = aI cs 25 (va_up (fun _ => 0) 0 1) ∧ C' 84 = .inr (0, [.ref (ad' 85), .int (iI 1)]) ∧ C' 85 = aI cs 25 (va_up (fun _ => 0) 1 1)
theorem c_Cu_init {l : Launch} {D : va_G} {cs : Nat → ClassId} {A : Nat → Prop} {ad : Nat → Nat} {C : Nat → va_E} {a r : Nat} (ha : ad 17 = a) (hC : C 17 = .inr (2, [.null, .null, .int 0, .null, .null, .null, .null, .null, .null, .null, .null, .null, .null])) : Cn l y_Cu_init ws_Cu_init { frames := 2, cells := 68, slots := 939, locals := 42 } D cs A ad 18 [.ref a, .ref r] C (cuP cs ad C r) 68 939 := by
  refine n_body (by decide) (Nat.le_of_ble_eq_true rfl) rfl ?_
  intro p e s m below meth c X hr hlk hml hnm ev w ls hl
  have hl : lv_has ls 3 [(0, .ref a), (1, .ref r)] := hl
  have hA : ad 17 = a := ha
  have hO : C 17 = .inr (2, [.null, .null, .int 0, .null, .null, .null, .null, .null, .null, .null, .null, .null, .null]) := hC
  have hF : ∀ i, i < 17 → C i = C i := fun _ _ => rfl
  have hG : ∀ i, i < 18 → ad i = ad i := fun _ _ => rfl
  refine lv_aload_n X.1 X.2.1 d_Cu_init_0 rfl (lv_at hl 0 rfl) ?_
  refine n_obj (k := 3) X hml hl.1 k_m_Cu_3 d_Cu_init_1 (Nat.le_of_ble_eq_true rfl) (Nat.le_of_ble_eq_true rfl) ?_
  refine lv_aload_n X.1 X.2.1 d_Cu_init_4 rfl (lv_at hl 0 rfl) ?_
  refine lv_aload_n X.1 X.2.1 d_Cu_init_5 rfl (lv_at hl 1 rfl) ?_
  refine m_putF (i := 17) (ci := 2) (fs := [.null, .null, .int 0, .null, .null, .null, .null, .null, .null, .null, .null, .null, .null]) X hnm w hA (by decide) hO rfl k_l_Cu tCu tyCu nCu 3 (by decide) k_f_Cu_9 rfl rfl rfl rfl (Nat.le_of_ble_eq_true rfl) d_Cu_init_6 (fun C1 H locs eC1 w => ?_)
  have hO : C1 17 = .inr (2, [.null, .null, .int 0, .ref r, .null, .null, .null, .null, .null, .null, .null, .null, .null]) := by rw [eC1]; exact va_up_self _ _ _
  have hF : ∀ i, i < 17 → C1 i = C i := fun i hi => (congrFun eC1 i).trans ((va_up_ne _ _ (by omega)).trans (hF i hi))
  refine lv_aload_n X.1 X.2.1 d_Cu_init_9 rfl (lv_at hl 0 rfl) ?_
  refine lv_bipush (v := iI (24)) X.1 X.2.1 d_Cu_init_10 (by decide) ?_
  refine m_anew 24 rfl (by decide) X ev k_c_Cu_15 w (Nat.le_of_ble_eq_true rfl) (Nat.le_of_ble_eq_true rfl) d_Cu_init_12 (fun q1 ad2 C2 H ead2 eC2 w => ?_)
  have hA : ad2 17 = a := by rw [ead2]; rw [va_up_ne _ _ (by omega)]; exact hA
  have hO : C2 17 = .inr (2, [.null, .null, .int 0, .ref r, .null, .null, .null, .null, .null, .null, .null, .null, .null]) := by rw [eC2, va_up_ne _ _ (by omega)]; exact hO
  have hF : ∀ i, i < 17 → C2 i = C i := fun i hi => (congrFun eC2 i).trans ((va_up_ne _ _ (by omega)).trans (hF i hi))
  have hG : ∀ i, i < 18 → ad2 i = ad i := fun i hi => (congrFun ead2 i).trans ((va_up_ne _ _ (by omega)).trans (hG i hi))
  have w : Wd D cs A ad2 19 s C2 H _ := w
  refine m_putF (i := 17) (ci := 2) (fs := [.null, .null, .int 0, .ref r, .null, .null, .null, .null, .null, .null, .null, .null, .null]) X hnm w hA (by decide) hO rfl k_l_Cu tCu tyCu nCu 0 (by decide) k_f_Cu_17 rfl rfl rfl rfl (Nat.le_of_ble_eq_true rfl) d_Cu_init_15 (fun C3 H locs eC3 w => ?_)
  have hO : C3 17 = .inr (2, [.ref q1, .null, .int 0, .ref r, .null, .null, .null, .null, .null, .null, .null, .null, .null]) := by rw [eC3]; exact va_up_self _ _ _
  have hF : ∀ i, i < 17 → C3 i = C i := fun i hi => (congrFun eC3 i).trans ((va_up_ne _ _ (by omega)).trans (hF i hi))
  refine lv_aload_n X.1 X.2.1 d_Cu_init_18 rfl (lv_at hl 0 rfl) ?_
  refine lv_bipush (v := iI (24)) X.1 X.2.1 d_Cu_init_19 (by decide) ?_
  refine m_newa 24 rfl (by decide) X w (Nat.le_of_ble_eq_true rfl) (Nat.le_of_ble_eq_true rfl) d_Cu_init_21 (fun q2 ad4 C4 H ead4 eC4 w => ?_)
  have hA : ad4 17 = a := by rw [ead4]; rw [va_up_ne _ _ (by omega)]; exact hA
  have hO : C4 17 = .inr (2, [.ref q1, .null, .int 0, .ref r, .null, .null, .null, .null, .null, .null, .null, .null, .null]) := by rw [eC4, va_up_ne _ _ (by omega)]; exact hO
  have hF : ∀ i, i < 17 → C4 i = C i := fun i hi => (congrFun eC4 i).trans ((va_up_ne _ _ (by omega)).trans (hF i hi))
  have hG : ∀ i, i < 18 → ad4 i = ad i := fun i hi => (congrFun ead4 i).trans ((va_up_ne _ _ (by omega)).trans (hG i hi))
  have w : Wd D cs A ad4 20 s C4 H _ := w
  refine m_putF (i := 17) (ci := 2) (fs := [.ref q1, .null, .int 0, .ref r, .null, .null, .null, .null, .null, .null, .null, .null, .null]) X hnm w hA (by decide) hO rfl k_l_Cu tCu tyCu nCu 1 (by decide) k_f_Cu_21 rfl rfl rfl rfl (Nat.le_of_ble_eq_true rfl) d_Cu_init_23 (fun C5 H locs eC5 w => ?_)
  have hO : C5 17 = .inr (2, [.ref q1, .ref q2, .int 0, .ref r, .null, .null, .null, .null, .null, .null, .null, .null, .null]) := by rw [eC5]; exact va_up_self _ _ _
  have hF : ∀ i, i < 17 → C5 i = C i := fun i hi => (congrFun eC5 i).trans ((va_up_ne _ _ (by omega)).trans (hF i hi))
  refine lv_iconst (v := iI (0)) X.1 X.2.1 d_Cu_init_26 (by decide) ?_
  refine lv_istore_n (lv' := [(2, .int (iI (0))), (0, .ref a), (1, .ref r)]) X.1 X.2.1 d_Cu_init_27 rfl hl (by decide) rfl (fun ls hl => ?_)
  have h18 : ad4 18 = q1 := by
    clear hA hO hF hG w hl
    subst ead4 ead2
    rfl
  have h19 : ad4 19 = q2 := by
    clear hA hO hF hG w hl
    subst ead4 ead2
    rfl
  have hc18 : C5 18 = aQn cs 24 (fun _ => none) := by
    clear hA hO hF hG w hl h18 h19
    subst eC5 eC4 ead4 eC3 eC2 ead2 eC1
    rfl
  have hc19 : C5 19 = aI cs 24 (fun _ => 0) := by
    clear hA hO hF hG w hl h18 h19 hc18
    subst eC5 eC4 ead4 eC3 eC2 ead2 eC1
    rfl
  refine l_Cu_init_28 (adL := ad4) (CL := C5) X ev hml hA h18 hO (fun adM CM H locs ls w hv hl => ?_) 24 0 ad4 C5 _ _ ls rfl w ⟨fun _ _ => rfl, fun _ _ => rfl, rfl, plV_0 hc18⟩ hl
  have hG : ∀ i, i < 18 → adM i = ad i := fun i hi => (hv.1 i (by omega)).trans (hG i hi)
  have hF : ∀ i, i < 17 → CM i = C i := fun i hi => (hv.2.1 i (by omega)).trans (hF i hi)
  have hO : CM 17 = .inr (2, [.ref q1, .ref q2, .int 0, .ref r, .null, .null, .null, .null, .null, .null, .null, .null, .null]) := (hv.2.1 17 (by omega)).trans hO
  have hA : adM 17 = a := (hv.1 17 (by omega)).trans hA
  have h18 : adM 18 = q1 := (hv.1 18 (by omega)).trans h18
  have h19 : adM 19 = q2 := (hv.1 19 (by omega)).trans h19
  have hc19 : CM 19 = aI cs 24 (fun _ => 0) := hv.2.2.1.trans hc19
  have hp := hv.2.2.2
  have hM : ∀ j, j < 68 → j ≠ 17 → CM j = CM j := fun _ _ _ => rfl
  have hN : ∀ j, j < 68 → adM j = adM j := fun _ _ => rfl
  refine lv_aload_n X.1 X.2.1 d_Cu_init_55 rfl (lv_at hl 0 rfl) ?_
  refine lv_iconst (v := iI (0)) X.1 X.2.1 d_Cu_init_56 (by decide) ?_
  refine m_put (i := 17) (ci := 2) (fs := [.ref q1, .ref q2, .int 0, .ref r, .null, .null, .null, .null, .null, .null, .null, .null, .null]) X w hA (by decide) hO rfl k_l_Cu tCu tyCu nCu 2 (by decide) k_f_Cu_28 rfl rfl rfl (Nat.le_of_ble_eq_true rfl) d_Cu_init_57 (fun C6 H locs eC6 w => ?_)
  have hO : C6 17 = .inr (2, [.ref q1, .ref q2, .int (iI (0)), .ref r, .null, .null, .null, .null, .null, .null, .null, .null, .null]) := by rw [eC6]; exact va_up_self _ _ _
  have hF : ∀ i, i < 17 → C6 i = C i := fun i hi => (congrFun eC6 i).trans ((va_up_ne _ _ (by omega)).trans (hF i hi))
  have hM : ∀ j, j < 68 → j ≠ 17 → C6 j = CM j := fun j hj hn => (congrFun eC6 j).trans ((va_up_ne _ _ (by omega)).trans (hM j hj hn))
  refine lv_aload_n X.1 X.2.1 d_Cu_init_60 rfl (lv_at hl 0 rfl) ?_
  refine m_poly25 X ev w hml hl.1 k_c_Cu_15 k_m_Cu_25 ⟨(Nat.le_of_ble_eq_true rfl), (Nat.le_of_ble_eq_true rfl)⟩ ⟨(Nat.le_of_ble_eq_true rfl), (Nat.le_of_ble_eq_true rfl)⟩ (Nat.le_of_ble_eq_true rfl) d_Cu_init_61 d_Cu_init_64 d_Cu_init_65 d_Cu_init_67 (fun q3 q4 ad7 C7 H locs ead7 eC7 w => ?_)
  have hA : ad7 17 = a := by rw [ead7]; rw [va_up_ne _ _ (by omega), va_up_ne _ _ (by omega)]; exact hA
  have hO : C7 17 = .inr (2, [.ref q1, .ref q2, .int (iI (0)), .ref r, .null, .null, .null, .null, .null, .null, .null, .null, .null]) := by rw [eC7, va_up_ne _ _ (by omega), va_up_ne _ _ (by omega)]; exact hO
  have hF : ∀ i, i < 17 → C7 i = C i := fun i hi => (congrFun eC7 i).trans ((va_up_ne _ _ (by omega)).trans ((va_up_ne _ _ (by omega)).trans (hF i hi)))
  have hG : ∀ i, i < 18 → ad7 i = ad i := fun i hi => (congrFun ead7 i).trans ((va_up_ne _ _ (by omega)).trans ((va_up_ne _ _ (by omega)).trans (hG i hi)))
  have hM : ∀ j, j < 68 → j ≠ 17 → C7 j = CM j := fun j hj hn => (congrFun eC7 j).trans ((va_up_ne _ _ (by omega)).trans ((va_up_ne _ _ (by omega)).trans (hM j hj hn)))
  have hN : ∀ j, j < 68 → ad7 j = adM j := fun j hj => (congrFun ead7 j).trans ((va_up_ne _ _ (by omega)).trans ((va_up_ne _ _ (by omega)).trans (hN j hj)))
  have w : Wd D cs A ad7 70 s C7 H _ := w
  refine m_putF (i := 17) (ci := 2) (fs := [.ref q1, .ref q2, .int (iI (0)), .ref r, .null, .null, .null, .null, .null, .null, .null, .null, .null]) X hnm w hA (by decide) hO rfl k_l_Cu tCu tyCu nCu 4 (by decide) k_f_Cu_32 rfl rfl rfl rfl (Nat.le_of_ble_eq_true rfl) d_Cu_init_70 (fun C8 H locs eC8 w => ?_)
  have hO : C8 17 = .inr (2, [.ref q1, .ref q2, .int (iI (0)), .ref r, .ref q3, .null, .null, .null, .null, .null, .null, .null, .null]) := by rw [eC8]; exact va_up_self _ _ _
  have hF : ∀ i, i < 17 → C8 i = C i := fun i hi => (congrFun eC8 i).trans ((va_up_ne _ _ (by omega)).trans (hF i hi))
  have hM : ∀ j, j < 68 → j ≠ 17 → C8 j = CM j := fun j hj hn => (congrFun eC8 j).trans ((va_up_ne _ _ (by omega)).trans (hM j hj hn))
  refine lv_aload_n X.1 X.2.1 d_Cu_init_73 rfl (lv_at hl 0 rfl) ?_
  refine m_poly25 X ev w hml hl.1 k_c_Cu_15 k_m_Cu_25 ⟨(Nat.le_of_ble_eq_true rfl), (Nat.le_of_ble_eq_true rfl)⟩ ⟨(Nat.le_of_ble_eq_true rfl), (Nat.le_of_ble_eq_true rfl)⟩ (Nat.le_of_ble_eq_true rfl) d_Cu_init_74 d_Cu_init_77 d_Cu_init_78 d_Cu_init_80 (fun q5 q6 ad9 C9 H locs ead9 eC9 w => ?_)
  have hA : ad9 17 = a := by rw [ead9]; rw [va_up_ne _ _ (by omega), va_up_ne _ _ (by omega)]; exact hA
  have hO : C9 17 = .inr (2, [.ref q1, .ref q2, .int (iI (0)), .ref r, .ref q3, .null, .null, .null, .null, .null, .null, .null, .null]) := by rw [eC9, va_up_ne _ _ (by omega), va_up_ne _ _ (by omega)]; exact hO
  have hF : ∀ i, i < 17 → C9 i = C i := fun i hi => (congrFun eC9 i).trans ((va_up_ne _ _ (by omega)).trans ((va_up_ne _ _ (by omega)).trans (hF i hi)))
  have hG : ∀ i, i < 18 → ad9 i = ad i := fun i hi => (congrFun ead9 i).trans ((va_up_ne _ _ (by omega)).trans ((va_up_ne _ _ (by omega)).trans (hG i hi)))
  have hM : ∀ j, j < 68 → j ≠ 17 → C9 j = CM j := fun j hj hn => (congrFun eC9 j).trans ((va_up_ne _ _ (by omega)).trans ((va_up_ne _ _ (by omega)).trans (hM j hj hn)))
  have hN : ∀ j, j < 68 → ad9 j = adM j := fun j hj => (congrFun ead9 j).trans ((va_up_ne _ _ (by omega)).trans ((va_up_ne _ _ (by omega)).trans (hN j hj)))
  have w : Wd D cs A ad9 72 s C9 H _ := w
  refine m_putF (i := 17) (ci := 2) (fs := [.ref q1, .ref q2, .int (iI (0)), .ref r, .ref q3, .null, .null, .null, .null, .null, .null, .null, .null]) X hnm w hA (by decide) hO rfl k_l_Cu tCu tyCu nCu 5 (by decide) k_f_Cu_36 rfl rfl rfl rfl (Nat.le_of_ble_eq_true rfl) d_Cu_init_83 (fun C10 H locs eC10 w => ?_)
  have hO : C10 17 = .inr (2, [.ref q1, .ref q2, .int (iI (0)), .ref r, .ref q3, .ref q5, .null, .null, .null, .null, .null, .null, .null]) := by rw [eC10]; exact va_up_self _ _ _
  have hF : ∀ i, i < 17 → C10 i = C i := fun i hi => (congrFun eC10 i).trans ((va_up_ne _ _ (by omega)).trans (hF i hi))
  have hM : ∀ j, j < 68 → j ≠ 17 → C10 j = CM j := fun j hj hn => (congrFun eC10 j).trans ((va_up_ne _ _ (by omega)).trans (hM j hj hn))
  refine lv_aload_n X.1 X.2.1 d_Cu_init_86 rfl (lv_at hl 0 rfl) ?_
  refine m_poly25 X ev w hml hl.1 k_c_Cu_15 k_m_Cu_25 ⟨(Nat.le_of_ble_eq_true rfl), (Nat.le_of_ble_eq_true rfl)⟩ ⟨(Nat.le_of_ble_eq_true rfl), (Nat.le_of_ble_eq_true rfl)⟩ (Nat.le_of_ble_eq_true rfl) d_Cu_init_87 d_Cu_init_90 d_Cu_init_91 d_Cu_init_93 (fun q7 q8 ad11 C11 H locs ead11 eC11 w => ?_)
  have hA : ad11 17 = a := by rw [ead11]; rw [va_up_ne _ _ (by omega), va_up_ne _ _ (by omega)]; exact hA
  have hO : C11 17 = .inr (2, [.ref q1, .ref q2, .int (iI (0)), .ref r, .ref q3, .ref q5, .null, .null, .null, .null, .null, .null, .null]) := by rw [eC11, va_up_ne _ _ (by omega), va_up_ne _ _ (by omega)]; exact hO
  have hF : ∀ i, i < 17 → C11 i = C i := fun i hi => (congrFun eC11 i).trans ((va_up_ne _ _ (by omega)).trans ((va_up_ne _ _ (by omega)).trans (hF i hi)))
  have hG : ∀ i, i < 18 → ad11 i = ad i := fun i hi => (congrFun ead11 i).trans ((va_up_ne _ _ (by omega)).trans ((va_up_ne _ _ (by omega)).trans (hG i hi)))
  have hM : ∀ j, j < 68 → j ≠ 17 → C11 j = CM j := fun j hj hn => (congrFun eC11 j).trans ((va_up_ne _ _ (by omega)).trans ((va_up_ne _ _ (by omega)).trans (hM j hj hn)))
  have hN : ∀ j, j < 68 → ad11 j = adM j := fun j hj => (congrFun ead11 j).trans ((va_up_ne _ _ (by omega)).trans ((va_up_ne _ _ (by omega)).trans (hN j hj)))
  have w : Wd D cs A ad11 74 s C11 H _ := w
  refine m_putF (i := 17) (ci := 2) (fs := [.ref q1, .ref q2, .int (iI (0)), .ref r, .ref q3, .ref q5, .null, .null, .null, .null, .null, .null, .null]) X hnm w hA (by decide) hO rfl k_l_Cu tCu tyCu nCu 6 (by decide) k_f_Cu_39 rfl rfl rfl rfl (Nat.le_of_ble_eq_true rfl) d_Cu_init_96 (fun C12 H locs eC12 w => ?_)
  have hO : C12 17 = .inr (2, [.ref q1, .ref q2, .int (iI (0)), .ref r, .ref q3, .ref q5, .ref q7, .null, .null, .null, .null, .null, .null]) := by rw [eC12]; exact va_up_self _ _ _
  have hF : ∀ i, i < 17 → C12 i = C i := fun i hi => (congrFun eC12 i).trans ((va_up_ne _ _ (by omega)).trans (hF i hi))
  have hM : ∀ j, j < 68 → j ≠ 17 → C12 j = CM j := fun j hj hn => (congrFun eC12 j).trans ((va_up_ne _ _ (by omega)).trans (hM j hj hn))
  refine lv_aload_n X.1 X.2.1 d_Cu_init_99 rfl (lv_at hl 0 rfl) ?_
  refine m_poly25 X ev w hml hl.1 k_c_Cu_15 k_m_Cu_25 ⟨(Nat.le_of_ble_eq_true rfl), (Nat.le_of_ble_eq_true rfl)⟩ ⟨(Nat.le_of_ble_eq_true rfl), (Nat.le_of_ble_eq_true rfl)⟩ (Nat.le_of_ble_eq_true rfl) d_Cu_init_100 d_Cu_init_103 d_Cu_init_104 d_Cu_init_106 (fun q9 q10 ad13 C13 H locs ead13 eC13 w => ?_)
  have hA : ad13 17 = a := by rw [ead13]; rw [va_up_ne _ _ (by omega), va_up_ne _ _ (by omega)]; exact hA
  have hO : C13 17 = .inr (2, [.ref q1, .ref q2, .int (iI (0)), .ref r, .ref q3, .ref q5, .ref q7, .null, .null, .null, .null, .null, .null]) := by rw [eC13, va_up_ne _ _ (by omega), va_up_ne _ _ (by omega)]; exact hO
  have hF : ∀ i, i < 17 → C13 i = C i := fun i hi => (congrFun eC13 i).trans ((va_up_ne _ _ (by omega)).trans ((va_up_ne _ _ (by omega)).trans (hF i hi)))
  have hG : ∀ i, i < 18 → ad13 i = ad i := fun i hi => (congrFun ead13 i).trans ((va_up_ne _ _ (by omega)).trans ((va_up_ne _ _ (by omega)).trans (hG i hi)))
  have hM : ∀ j, j < 68 → j ≠ 17 → C13 j = CM j := fun j hj hn => (congrFun eC13 j).trans ((va_up_ne _ _ (by omega)).trans ((va_up_ne _ _ (by omega)).trans (hM j hj hn)))
  have hN : ∀ j, j < 68 → ad13 j = adM j := fun j hj => (congrFun ead13 j).trans ((va_up_ne _ _ (by omega)).trans ((va_up_ne _ _ (by omega)).trans (hN j hj)))
  have w : Wd D cs A ad13 76 s C13 H _ := w
  refine m_putF (i := 17) (ci := 2) (fs := [.ref q1, .ref q2, .int (iI (0)), .ref r, .ref q3, .ref q5, .ref q7, .null, .null, .null, .null, .null, .null]) X hnm w hA (by decide) hO rfl k_l_Cu tCu tyCu nCu 7 (by decide) k_f_Cu_42 rfl rfl rfl rfl (Nat.le_of_ble_eq_true rfl) d_Cu_init_109 (fun C14 H locs eC14 w => ?_)
  have hO : C14 17 = .inr (2, [.ref q1, .ref q2, .int (iI (0)), .ref r, .ref q3, .ref q5, .ref q7, .ref q9, .null, .null, .null, .null, .null]) := by rw [eC14]; exact va_up_self _ _ _
  have hF : ∀ i, i < 17 → C14 i = C i := fun i hi => (congrFun eC14 i).trans ((va_up_ne _ _ (by omega)).trans (hF i hi))
  have hM : ∀ j, j < 68 → j ≠ 17 → C14 j = CM j := fun j hj hn => (congrFun eC14 j).trans ((va_up_ne _ _ (by omega)).trans (hM j hj hn))
  refine lv_aload_n X.1 X.2.1 d_Cu_init_112 rfl (lv_at hl 0 rfl) ?_
  refine m_poly25 X ev w hml hl.1 k_c_Cu_15 k_m_Cu_25 ⟨(Nat.le_of_ble_eq_true rfl), (Nat.le_of_ble_eq_true rfl)⟩ ⟨(Nat.le_of_ble_eq_true rfl), (Nat.le_of_ble_eq_true rfl)⟩ (Nat.le_of_ble_eq_true rfl) d_Cu_init_113 d_Cu_init_116 d_Cu_init_117 d_Cu_init_119 (fun q11 q12 ad15 C15 H locs ead15 eC15 w => ?_)
  have hA : ad15 17 = a := by rw [ead15]; rw [va_up_ne _ _ (by omega), va_up_ne _ _ (by omega)]; exact hA
  have hO : C15 17 = .inr (2, [.ref q1, .ref q2, .int (iI (0)), .ref r, .ref q3, .ref q5, .ref q7, .ref q9, .null, .null, .null, .null, .null]) := by rw [eC15, va_up_ne _ _ (by omega), va_up_ne _ _ (by omega)]; exact hO
  have hF : ∀ i, i < 17 → C15 i = C i := fun i hi => (congrFun eC15 i).trans ((va_up_ne _ _ (by omega)).trans ((va_up_ne _ _ (by omega)).trans (hF i hi)))
  have hG : ∀ i, i < 18 → ad15 i = ad i := fun i hi => (congrFun ead15 i).trans ((va_up_ne _ _ (by omega)).trans ((va_up_ne _ _ (by omega)).trans (hG i hi)))
  have hM : ∀ j, j < 68 → j ≠ 17 → C15 j = CM j := fun j hj hn => (congrFun eC15 j).trans ((va_up_ne _ _ (by omega)).trans ((va_up_ne _ _ (by omega)).trans (hM j hj hn)))
  have hN : ∀ j, j < 68 → ad15 j = adM j := fun j hj => (congrFun ead15 j).trans ((va_up_ne _ _ (by omega)).trans ((va_up_ne _ _ (by omega)).trans (hN j hj)))
  have w : Wd D cs A ad15 78 s C15 H _ := w
  refine m_putF (i := 17) (ci := 2) (fs := [.ref q1, .ref q2, .int (iI (0)), .ref r, .ref q3, .ref q5, .ref q7, .ref q9, .null, .null, .null, .null, .null]) X hnm w hA (by decide) hO rfl k_l_Cu tCu tyCu nCu 8 (by decide) k_f_Cu_45 rfl rfl rfl rfl (Nat.le_of_ble_eq_true rfl) d_Cu_init_122 (fun C16 H locs eC16 w => ?_)
  have hO : C16 17 = .inr (2, [.ref q1, .ref q2, .int (iI (0)), .ref r, .ref q3, .ref q5, .ref q7, .ref q9, .ref q11, .null, .null, .null, .null]) := by rw [eC16]; exact va_up_self _ _ _
  have hF : ∀ i, i < 17 → C16 i = C i := fun i hi => (congrFun eC16 i).trans ((va_up_ne _ _ (by omega)).trans (hF i hi))
  have hM : ∀ j, j < 68 → j ≠ 17 → C16 j = CM j := fun j hj hn => (congrFun eC16 j).trans ((va_up_ne _ _ (by omega)).trans (hM j hj hn))
  refine lv_aload_n X.1 X.2.1 d_Cu_init_125 rfl (lv_at hl 0 rfl) ?_
  refine m_poly25 X ev w hml hl.1 k_c_Cu_15 k_m_Cu_25 ⟨(Nat.le_of_ble_eq_true rfl), (Nat.le_of_ble_eq_true rfl)⟩ ⟨(Nat.le_of_ble_eq_true rfl), (Nat.le_of_ble_eq_true rfl)⟩ (Nat.le_of_ble_eq_true rfl) d_Cu_init_126 d_Cu_init_129 d_Cu_init_130 d_Cu_init_132 (fun q13 q14 ad17 C17 H locs ead17 eC17 w => ?_)
  have hA : ad17 17 = a := by rw [ead17]; rw [va_up_ne _ _ (by omega), va_up_ne _ _ (by omega)]; exact hA
  have hO : C17 17 = .inr (2, [.ref q1, .ref q2, .int (iI (0)), .ref r, .ref q3, .ref q5, .ref q7, .ref q9, .ref q11, .null, .null, .null, .null]) := by rw [eC17, va_up_ne _ _ (by omega), va_up_ne _ _ (by omega)]; exact hO
  have hF : ∀ i, i < 17 → C17 i = C i := fun i hi => (congrFun eC17 i).trans ((va_up_ne _ _ (by omega)).trans ((va_up_ne _ _ (by omega)).trans (hF i hi)))
  have hG : ∀ i, i < 18 → ad17 i = ad i := fun i hi => (congrFun ead17 i).trans ((va_up_ne _ _ (by omega)).trans ((va_up_ne _ _ (by omega)).trans (hG i hi)))
  have hM : ∀ j, j < 68 → j ≠ 17 → C17 j = CM j := fun j hj hn => (congrFun eC17 j).trans ((va_up_ne _ _ (by omega)).trans ((va_up_ne _ _ (by omega)).trans (hM j hj hn)))
  have hN : ∀ j, j < 68 → ad17 j = adM j := fun j hj => (congrFun ead17 j).trans ((va_up_ne _ _ (by omega)).trans ((va_up_ne _ _ (by omega)).trans (hN j hj)))
  have w : Wd D cs A ad17 80 s C17 H _ := w
  refine m_putF (i := 17) (ci := 2) (fs := [.ref q1, .ref q2, .int (iI (0)), .ref r, .ref q3, .ref q5, .ref q7, .ref q9, .ref q11, .null, .null, .null, .null]) X hnm w hA (by decide) hO rfl k_l_Cu tCu tyCu nCu 9 (by decide) k_f_Cu_48 rfl rfl rfl rfl (Nat.le_of_ble_eq_true rfl) d_Cu_init_135 (fun C18 H locs eC18 w => ?_)
  have hO : C18 17 = .inr (2, [.ref q1, .ref q2, .int (iI (0)), .ref r, .ref q3, .ref q5, .ref q7, .ref q9, .ref q11, .ref q13, .null, .null, .null]) := by rw [eC18]; exact va_up_self _ _ _
  have hF : ∀ i, i < 17 → C18 i = C i := fun i hi => (congrFun eC18 i).trans ((va_up_ne _ _ (by omega)).trans (hF i hi))
  have hM : ∀ j, j < 68 → j ≠ 17 → C18 j = CM j := fun j hj hn => (congrFun eC18 j).trans ((va_up_ne _ _ (by omega)).trans (hM j hj hn))
  refine lv_aload_n X.1 X.2.1 d_Cu_init_138 rfl (lv_at hl 0 rfl) ?_
  refine m_poly25 X ev w hml hl.1 k_c_Cu_15 k_m_Cu_25 ⟨(Nat.le_of_ble_eq_true rfl), (Nat.le_of_ble_eq_true rfl)⟩ ⟨(Nat.le_of_ble_eq_true rfl), (Nat.le_of_ble_eq_true rfl)⟩ (Nat.le_of_ble_eq_true rfl) d_Cu_init_139 d_Cu_init_142 d_Cu_init_143 d_Cu_init_145 (fun q15 q16 ad19 C19 H locs ead19 eC19 w => ?_)
  have hA : ad19 17 = a := by rw [ead19]; rw [va_up_ne _ _ (by omega), va_up_ne _ _ (by omega)]; exact hA
  have hO : C19 17 = .inr (2, [.ref q1, .ref q2, .int (iI (0)), .ref r, .ref q3, .ref q5, .ref q7, .ref q9, .ref q11, .ref q13, .null, .null, .null]) := by rw [eC19, va_up_ne _ _ (by omega), va_up_ne _ _ (by omega)]; exact hO
  have hF : ∀ i, i < 17 → C19 i = C i := fun i hi => (congrFun eC19 i).trans ((va_up_ne _ _ (by omega)).trans ((va_up_ne _ _ (by omega)).trans (hF i hi)))
  have hG : ∀ i, i < 18 → ad19 i = ad i := fun i hi => (congrFun ead19 i).trans ((va_up_ne _ _ (by omega)).trans ((va_up_ne _ _ (by omega)).trans (hG i hi)))
  have hM : ∀ j, j < 68 → j ≠ 17 → C19 j = CM j := fun j hj hn => (congrFun eC19 j).trans ((va_up_ne _ _ (by omega)).trans ((va_up_ne _ _ (by omega)).trans (hM j hj hn)))
  have hN : ∀ j, j < 68 → ad19 j = adM j := fun j hj => (congrFun ead19 j).trans ((va_up_ne _ _ (by omega)).trans ((va_up_ne _ _ (by omega)).trans (hN j hj)))
  have w : Wd D cs A ad19 82 s C19 H _ := w
  refine m_putF (i := 17) (ci := 2) (fs := [.ref q1, .ref q2, .int (iI (0)), .ref r, .ref q3, .ref q5, .ref q7, .ref q9, .ref q11, .ref q13, .null, .null, .null]) X hnm w hA (by decide) hO rfl k_l_Cu tCu tyCu nCu 10 (by decide) k_f_Cu_51 rfl rfl rfl rfl (Nat.le_of_ble_eq_true rfl) d_Cu_init_148 (fun C20 H locs eC20 w => ?_)
  have hO : C20 17 = .inr (2, [.ref q1, .ref q2, .int (iI (0)), .ref r, .ref q3, .ref q5, .ref q7, .ref q9, .ref q11, .ref q13, .ref q15, .null, .null]) := by rw [eC20]; exact va_up_self _ _ _
  have hF : ∀ i, i < 17 → C20 i = C i := fun i hi => (congrFun eC20 i).trans ((va_up_ne _ _ (by omega)).trans (hF i hi))
  have hM : ∀ j, j < 68 → j ≠ 17 → C20 j = CM j := fun j hj hn => (congrFun eC20 j).trans ((va_up_ne _ _ (by omega)).trans (hM j hj hn))
  refine lv_aload_n X.1 X.2.1 d_Cu_init_151 rfl (lv_at hl 0 rfl) ?_
  refine m_poly25 X ev w hml hl.1 k_c_Cu_15 k_m_Cu_25 ⟨(Nat.le_of_ble_eq_true rfl), (Nat.le_of_ble_eq_true rfl)⟩ ⟨(Nat.le_of_ble_eq_true rfl), (Nat.le_of_ble_eq_true rfl)⟩ (Nat.le_of_ble_eq_true rfl) d_Cu_init_152 d_Cu_init_155 d_Cu_init_156 d_Cu_init_158 (fun q17 q18 ad21 C21 H locs ead21 eC21 w => ?_)
  have hA : ad21 17 = a := by rw [ead21]; rw [va_up_ne _ _ (by omega), va_up_ne _ _ (by omega)]; exact hA
  have hO : C21 17 = .inr (2, [.ref q1, .ref q2, .int (iI (0)), .ref r, .ref q3, .ref q5, .ref q7, .ref q9, .ref q11, .ref q13, .ref q15, .null, .null]) := by rw [eC21, va_up_ne _ _ (by omega), va_up_ne _ _ (by omega)]; exact hO
  have hF : ∀ i, i < 17 → C21 i = C i := fun i hi => (congrFun eC21 i).trans ((va_up_ne _ _ (by omega)).trans ((va_up_ne _ _ (by omega)).trans (hF i hi)))
  have hG : ∀ i, i < 18 → ad21 i = ad i := fun i hi => (congrFun ead21 i).trans ((va_up_ne _ _ (by omega)).trans ((va_up_ne _ _ (by omega)).trans (hG i hi)))
  have hM : ∀ j, j < 68 → j ≠ 17 → C21 j = CM j := fun j hj hn => (congrFun eC21 j).trans ((va_up_ne _ _ (by omega)).trans ((va_up_ne _ _ (by omega)).trans (hM j hj hn)))
  have hN : ∀ j, j < 68 → ad21 j = adM j := fun j hj => (congrFun ead21 j).trans ((va_up_ne _ _ (by omega)).trans ((va_up_ne _ _ (by omega)).trans (hN j hj)))
  have w : Wd D cs A ad21 84 s C21 H _ := w
  refine m_putF (i := 17) (ci := 2) (fs := [.ref q1, .ref q2, .int (iI (0)), .ref r, .ref q3, .ref q5, .ref q7, .ref q9, .ref q11, .ref q13, .ref q15, .null, .null]) X hnm w hA (by decide) hO rfl k_l_Cu tCu tyCu nCu 11 (by decide) k_f_Cu_54 rfl rfl rfl rfl (Nat.le_of_ble_eq_true rfl) d_Cu_init_161 (fun C22 H locs eC22 w => ?_)
  have hO : C22 17 = .inr (2, [.ref q1, .ref q2, .int (iI (0)), .ref r, .ref q3, .ref q5, .ref q7, .ref q9, .ref q11, .ref q13, .ref q15, .ref q17, .null]) := by rw [eC22]; exact va_up_self _ _ _
  have hF : ∀ i, i < 17 → C22 i = C i := fun i hi => (congrFun eC22 i).trans ((va_up_ne _ _ (by omega)).trans (hF i hi))
  have hM : ∀ j, j < 68 → j ≠ 17 → C22 j = CM j := fun j hj hn => (congrFun eC22 j).trans ((va_up_ne _ _ (by omega)).trans (hM j hj hn))
  refine lv_aload_n X.1 X.2.1 d_Cu_init_164 rfl (lv_at hl 0 rfl) ?_
  refine g_getv (i := 17) (ci := 2) (fs := [.ref q1, .ref q2, .int (iI (0)), .ref r, .ref q3, .ref q5, .ref q7, .ref q9, .ref q11, .ref q13, .ref q15, .ref q17, .null]) (.ref q17) X w hA (by decide) hO rfl k_l_Cu 11 (by decide) k_f_Cu_54 rfl d_Cu_init_165 ?_
  refine lv_iconst (v := iI (0)) X.1 X.2.1 d_Cu_init_168 (by decide) ?_
  have hq : ad21 82 = q17 := by rw [ead21, va_up_ne _ _ (by omega), va_up_self]
  have hq2 : ad21 83 = q18 := by rw [ead21, va_up_self]
  refine W.eq (g2 := F0 m 169 ls [.int (iI (0)), .ref (ad21 82)]) (by rw [hq]) ?_
  refine w_cVv (n := 1) (i := 82) (ci := 0) (As := [.int (iI (0))]) (rest := []) X w hml hl.1 (c_Po_bpx0 (i := 82) (j := 83) (x := 0) (q := q18) (by decide) (by decide) (by decide) (by decide) (by rw [eC22, va_up_ne _ _ (by omega), eC21, va_up_ne _ _ (by omega), va_up_self]) hq2 (by rw [eC22, va_up_ne _ _ (by omega), eC21, va_up_self])) (by decide) (by rw [eC22, va_up_ne _ _ (by omega), eC21, va_up_ne _ _ (by omega), va_up_self]; rfl) rfl k_m_Cu_57 k_im_Po_becomePowerOfX k_se_Po_becomePowerOfX k_i_Po k_co_Po_becomePowerOfX (by decide +kernel) rfl ⟨(Nat.le_of_ble_eq_true rfl), (Nat.le_of_ble_eq_true rfl)⟩ ⟨rfl, rfl⟩ ⟨(Nat.le_of_ble_eq_true rfl), (Nat.le_of_ble_eq_true rfl)⟩ rfl (Nat.le_of_ble_eq_true rfl) d_Cu_init_169 (fun C23 H locs eC23 w => ?_)
  have eC23 : C23 = bpE cs C22 82 83 q18 0 := eC23
  have hO : C23 17 = .inr (2, [.ref q1, .ref q2, .int (iI (0)), .ref r, .ref q3, .ref q5, .ref q7, .ref q9, .ref q11, .ref q13, .ref q15, .ref q17, .null]) := by rw [eC23]; unfold bpE; rw [va_up_ne _ _ (by omega), va_up_ne _ _ (by omega)]; exact hO
  have hF : ∀ i, i < 17 → C23 i = C i := fun i hi => by rw [eC23]; unfold bpE; rw [va_up_ne _ _ (by omega), va_up_ne _ _ (by omega)]; exact hF i hi
  have hM : ∀ j, j < 68 → j ≠ 17 → C23 j = CM j := fun j hj hn => by rw [eC23]; unfold bpE; rw [va_up_ne _ _ (by omega), va_up_ne _ _ (by omega)]; exact hM j hj hn
  refine lv_aload_n X.1 X.2.1 d_Cu_init_172 rfl (lv_at hl 0 rfl) ?_
  refine m_poly25 X ev w hml hl.1 k_c_Cu_15 k_m_Cu_25 ⟨(Nat.le_of_ble_eq_true rfl), (Nat.le_of_ble_eq_true rfl)⟩ ⟨(Nat.le_of_ble_eq_true rfl), (Nat.le_of_ble_eq_true rfl)⟩ (Nat.le_of_ble_eq_true rfl) d_Cu_init_173 d_Cu_init_176 d_Cu_init_177 d_Cu_init_179 (fun q19 q20 ad24 C24 H locs ead24 eC24 w => ?_)
  have hA : ad24 17 = a := by rw [ead24]; rw [va_up_ne _ _ (by omega), va_up_ne _ _ (by omega)]; exact hA
  have hO : C24 17 = .inr (2, [.ref q1, .ref q2, .int (iI (0)), .ref r, .ref q3, .ref q5, .ref q7, .ref q9, .ref q11, .ref q13, .ref q15, .ref q17, .null]) := by rw [eC24, va_up_ne _ _ (by omega), va_up_ne _ _ (by omega)]; exact hO
  have hF : ∀ i, i < 17 → C24 i = C i := fun i hi => (congrFun eC24 i).trans ((va_up_ne _ _ (by omega)).trans ((va_up_ne _ _ (by omega)).trans (hF i hi)))
  have hG : ∀ i, i < 18 → ad24 i = ad i := fun i hi => (congrFun ead24 i).trans ((va_up_ne _ _ (by omega)).trans ((va_up_ne _ _ (by omega)).trans (hG i hi)))
  have hM : ∀ j, j < 68 → j ≠ 17 → C24 j = CM j := fun j hj hn => (congrFun eC24 j).trans ((va_up_ne _ _ (by omega)).trans ((va_up_ne _ _ (by omega)).trans (hM j hj hn)))
  have hN : ∀ j, j < 68 → ad24 j = adM j := fun j hj => (congrFun ead24 j).trans ((va_up_ne _ _ (by omega)).trans ((va_up_ne _ _ (by omega)).trans (hN j hj)))
  have w : Wd D cs A ad24 86 s C24 H _ := w
  refine m_putF (i := 17) (ci := 2) (fs := [.ref q1, .ref q2, .int (iI (0)), .ref r, .ref q3, .ref q5, .ref q7, .ref q9, .ref q11, .ref q13, .ref q15, .ref q17, .null]) X hnm w hA (by decide) hO rfl k_l_Cu tCu tyCu nCu 12 (by decide) k_f_Cu_60 rfl rfl rfl rfl (Nat.le_of_ble_eq_true rfl) d_Cu_init_182 (fun C25 H locs eC25 w => ?_)
  have hO : C25 17 = .inr (2, [.ref q1, .ref q2, .int (iI (0)), .ref r, .ref q3, .ref q5, .ref q7, .ref q9, .ref q11, .ref q13, .ref q15, .ref q17, .ref q19]) := by rw [eC25]; exact va_up_self _ _ _
  have hF : ∀ i, i < 17 → C25 i = C i := fun i hi => (congrFun eC25 i).trans ((va_up_ne _ _ (by omega)).trans (hF i hi))
  have hM : ∀ j, j < 68 → j ≠ 17 → C25 j = CM j := fun j hj hn => (congrFun eC25 j).trans ((va_up_ne _ _ (by omega)).trans (hM j hj hn))
  refine lv_aload_n X.1 X.2.1 d_Cu_init_185 rfl (lv_at hl 0 rfl) ?_
  refine g_getv (i := 17) (ci := 2) (fs := [.ref q1, .ref q2, .int (iI (0)), .ref r, .ref q3, .ref q5, .ref q7, .ref q9, .ref q11, .ref q13, .ref q15, .ref q17, .ref q19]) (.ref q19) X w hA (by decide) hO rfl k_l_Cu 12 (by decide) k_f_Cu_60 rfl d_Cu_init_186 ?_
  refine lv_iconst (v := iI (1)) X.1 X.2.1 d_Cu_init_189 (by decide) ?_
  have hq : ad24 84 = q19 := by rw [ead24, va_up_ne _ _ (by omega), va_up_self]
  have hq2 : ad24 85 = q20 := by rw [ead24, va_up_self]
  refine W.eq (g2 := F0 m 190 ls [.int (iI (1)), .ref (ad24 84)]) (by rw [hq]) ?_
  refine w_cVv (n := 1) (i := 84) (ci := 0) (As := [.int (iI (1))]) (rest := []) X w hml hl.1 (c_Po_bpx0 (i := 84) (j := 85) (x := 1) (q := q20) (by decide) (by decide) (by decide) (by decide) (by rw [eC25, va_up_ne _ _ (by omega), eC24, va_up_ne _ _ (by omega), va_up_self]) hq2 (by rw [eC25, va_up_ne _ _ (by omega), eC24, va_up_self])) (by decide) (by rw [eC25, va_up_ne _ _ (by omega), eC24, va_up_ne _ _ (by omega), va_up_self]; rfl) rfl k_m_Cu_57 k_im_Po_becomePowerOfX k_se_Po_becomePowerOfX k_i_Po k_co_Po_becomePowerOfX (by decide +kernel) rfl ⟨(Nat.le_of_ble_eq_true rfl), (Nat.le_of_ble_eq_true rfl)⟩ ⟨rfl, rfl⟩ ⟨(Nat.le_of_ble_eq_true rfl), (Nat.le_of_ble_eq_true rfl)⟩ rfl (Nat.le_of_ble_eq_true rfl) d_Cu_init_190 (fun C26 H locs eC26 w => ?_)
  have eC26 : C26 = bpE cs C25 84 85 q20 1 := eC26
  have hO : C26 17 = .inr (2, [.ref q1, .ref q2, .int (iI (0)), .ref r, .ref q3, .ref q5, .ref q7, .ref q9, .ref q11, .ref q13, .ref q15, .ref q17, .ref q19]) := by rw [eC26]; unfold bpE; rw [va_up_ne _ _ (by omega), va_up_ne _ _ (by omega)]; exact hO
  have hF : ∀ i, i < 17 → C26 i = C i := fun i hi => by rw [eC26]; unfold bpE; rw [va_up_ne _ _ (by omega), va_up_ne _ _ (by omega)]; exact hF i hi
  have hM : ∀ j, j < 68 → j ≠ 17 → C26 j = CM j := fun j hj hn => by rw [eC26]; unfold bpE; rw [va_up_ne _ _ (by omega), va_up_ne _ _ (by omega)]; exact hM j hj hn
  refine n_vret (post := cuP cs ad C r) (mc := 68) (ms := 939) X hr hlk w ?_ d_Cu_init_193 (Nat.le_of_ble_eq_true rfl) (Nat.le_of_ble_eq_true rfl)
  have hp2 := plV_c hp (fun j hj => hN j (by omega)) (hM 18 (by omega) (by omega)) (fun j j1 j2 => hM j (by omega) (by omega))
  have hc2 := (hM 19 (by omega) (by omega)).trans hc19
  have h182 := (hN 18 (by omega)).trans h18
  have h192 := (hN 19 (by omega)).trans h19
  refine ⟨rfl, hG, hF, ?_, hc2, hp2, ?_⟩
  · rw [h182, h192]
    clear hA hF hG w hq hq2 hl hp2 hc2 h182 h192 hM hN
    rw [hO]
    clear hO
    subst eC26 eC25 eC24 ead24 eC23 eC22 eC21 ead21 eC20 eC19 ead19 eC18 eC17 ead17 eC16 eC15 ead15 eC14 eC13 ead13 eC12 eC11 ead11 eC10 eC9 ead9 eC8 eC7 ead7 eC6
    rfl
  · clear hA hO hF hG w hq hq2 hl hp2 hc2 h182 h192 hM hN
    subst eC26 eC25 eC24 ead24 eC23 eC22 eC21 ead21 eC20 eC19 ead19 eC18 eC17 ead17 eC16 eC15 ead15 eC14 eC13 ead13 eC12 eC11 ead11 eC10 eC9 ead9 eC8 eC7 ead7 eC6
    exact ⟨⟨rfl, rfl⟩, ⟨rfl, rfl⟩, ⟨rfl, rfl⟩, ⟨rfl, rfl⟩, ⟨rfl, rfl⟩, ⟨rfl, rfl⟩, ⟨rfl, rfl⟩, rfl, rfl, rfl, rfl⟩
