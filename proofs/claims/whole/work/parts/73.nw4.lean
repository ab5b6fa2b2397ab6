/-- the order search as new: its object at 86 -/
def osP (cs : Nat → ClassId) (ad : Nat → Nat) (C : Nat → va_E) (r : Nat) (ad' : Nat → Nat) (T' : Nat) (C' : Nat → va_E) : Prop := T' = 95 ∧ (∀ i, i < 87 → ad' i = ad i) ∧ (∀ i, i < 86 → C' i = C i) ∧ C' 86 = .inr (3, [.ref r, .ref (ad' 87), .ref (ad' 88), .ref (ad' 89), .ref (ad' 91), .ref (ad' 93)]) ∧ C' 87 = aL cs 500 (fun _ => 0) ∧ C' 88 = aL cs 500 (fun _ => 0) ∧ (C' 89 = poE (ad' 90) ∧ C' 90 = aI cs 25 (fun _ => 0)) ∧ (C' 91 = poE (ad' 92) ∧ C' 92 = aI cs 25 (fun _ => 0)) ∧ C' 93 = .inr (0, [.ref (ad' 94), .int (iI 1)]) ∧ C' 94 = aI cs 25 (va_up (fun _ => 0) 1 1)
theorem c_Os_init {l : Launch} {D : va_G} {cs : Nat → ClassId} {A : Nat → Prop} {ad : Nat → Nat} {C : Nat → va_E} {a r : Nat} (ha : ad 86 = a) (hC : C 86 = .inr (3, [.null, .null, .null, .null, .null, .null])) : Cn l y_Os_init ws_Os_init { frames := 2, cells := 8, slots := 1081, locals := 42 } D cs A ad 87 [.ref a, .ref r] C (osP cs ad C r) 8 1081 := by
  refine n_body (by decide) (Nat.le_of_ble_eq_true rfl) rfl ?_
  intro p e s m below meth c X hr hlk hml hnm ev w ls hl
  have hl : lv_has ls 2 [(0, .ref a), (1, .ref r)] := hl
  have hA : ad 86 = a := ha
  have hO : C 86 = .inr (3, [.null, .null, .null, .null, .null, .null]) := hC
  have hF : ∀ i, i < 86 → C i = C i := fun _ _ => rfl
  have hG : ∀ i, i < 87 → ad i = ad i := fun _ _ => rfl
  refine lv_aload_n X.1 X.2.1 d_Os_init_0 rfl (lv_at hl 0 rfl) ?_
  refine n_obj (k := 2) X hml hl.1 k_m_Os_3 d_Os_init_1 (Nat.le_of_ble_eq_true rfl) (Nat.le_of_ble_eq_true rfl) ?_
  refine lv_aload_n X.1 X.2.1 d_Os_init_4 rfl (lv_at hl 0 rfl) ?_
  refine lv_aload_n X.1 X.2.1 d_Os_init_5 rfl (lv_at hl 1 rfl) ?_
  refine m_putF (i := 86) (ci := 3) (fs := [.null, .null, .null, .null, .null, .null]) X hnm w hA (by decide) hO rfl k_l_Os tOs tyOs nOs 0 (by decide) k_f_Os_9 rfl rfl rfl rfl (Nat.le_of_ble_eq_true rfl) d_Os_init_6 (fun C1 H locs eC1 w => ?_)
  have hO : C1 86 = .inr (3, [.ref r, .null, .null, .null, .null, .null]) := by rw [eC1]; exact va_up_self _ _ _
  have hF : ∀ i, i < 86 → C1 i = C i := fun i hi => (congrFun eC1 i).trans ((va_up_ne _ _ (by omega)).trans (hF i hi))
  refine lv_aload_n X.1 X.2.1 d_Os_init_9 rfl (lv_at hl 0 rfl) ?_
  refine lv_sipush (v := iI (500)) X.1 X.2.1 d_Os_init_10 (by decide) ?_
  refine m_newl 500 rfl (by decide) X w (Nat.le_of_ble_eq_true rfl) (Nat.le_of_ble_eq_true rfl) d_Os_init_13 (fun q1 ad2 C2 H ead2 eC2 w => ?_)
  have hA : ad2 86 = a := by rw [ead2]; rw [va_up_ne _ _ (by omega)]; exact hA
  have hO : C2 86 = .inr (3, [.ref r, .null, .null, .null, .null, .null]) := by rw [eC2, va_up_ne _ _ (by omega)]; exact hO
  have hF : ∀ i, i < 86 → C2 i = C i := fun i hi => (congrFun eC2 i).trans ((va_up_ne _ _ (by omega)).trans (hF i hi))
  have hG : ∀ i, i < 87 → ad2 i = ad i := fun i hi => (congrFun ead2 i).trans ((va_up_ne _ _ (by omega)).trans (hG i hi))
  have w : Wd D cs A ad2 88 s C2 H _ := w
  refine m_putF (i := 86) (ci := 3) (fs := [.ref r, .null, .null, .null, .null, .null]) X hnm w hA (by decide) hO rfl k_l_Os tOs tyOs nOs 1 (by decide) k_f_Os_15 rfl rfl rfl rfl (Nat.le_of_ble_eq_true rfl) d_Os_init_15 (fun C3 H locs eC3 w => ?_)
  have hO : C3 86 = .inr (3, [.ref r, .ref q1, .null, .null, .null, .null]) := by rw [eC3]; exact va_up_self _ _ _
  have hF : ∀ i, i < 86 → C3 i = C i := fun i hi => (congrFun eC3 i).trans ((va_up_ne _ _ (by omega)).trans (hF i hi))
  refine lv_aload_n X.1 X.2.1 d_Os_init_18 rfl (lv_at hl 0 rfl) ?_
  refine lv_sipush (v := iI (500)) X.1 X.2.1 d_Os_init_19 (by decide) ?_
  refine m_newl 500 rfl (by decide) X w (Nat.le_of_ble_eq_true rfl) (Nat.le_of_ble_eq_true rfl) d_Os_init_22 (fun q2 ad4 C4 H ead4 eC4 w => ?_)
  have hA : ad4 86 = a := by rw [ead4]; rw [va_up_ne _ _ (by omega)]; exact hA
  have hO : C4 86 = .inr (3, [.ref r, .ref q1, .null, .null, .null, .null]) := by rw [eC4, va_up_ne _ _ (by omega)]; exact hO
  have hF : ∀ i, i < 86 → C4 i = C i := fun i hi => (congrFun eC4 i).trans ((va_up_ne _ _ (by omega)).trans (hF i hi))
  have hG : ∀ i, i < 87 → ad4 i = ad i := fun i hi => (congrFun ead4 i).trans ((va_up_ne _ _ (by omega)).trans (hG i hi))
  have w : Wd D cs A ad4 89 s C4 H _ := w
  refine m_putF (i := 86) (ci := 3) (fs := [.ref r, .ref q1, .null, .null, .null, .null]) X hnm w hA (by decide) hO rfl k_l_Os tOs tyOs nOs 2 (by decide) k_f_Os_19 rfl rfl rfl rfl (Nat.le_of_ble_eq_true rfl) d_Os_init_24 (fun C5 H locs eC5 w => ?_)
  have hO : C5 86 = .inr (3, [.ref r, .ref q1, .ref q2, .null, .null, .null]) := by rw [eC5]; exact va_up_self _ _ _
  have hF : ∀ i, i < 86 → C5 i = C i := fun i hi => (congrFun eC5 i).trans ((va_up_ne _ _ (by omega)).trans (hF i hi))
  refine lv_aload_n X.1 X.2.1 d_Os_init_27 rfl (lv_at hl 0 rfl) ?_
  refine m_poly25 X ev w hml hl.1 k_c_Os_22 k_m_Os_24 ⟨(Nat.le_of_ble_eq_true rfl), (Nat.le_of_ble_eq_true rfl)⟩ ⟨(Nat.le_of_ble_eq_true rfl), (Nat.le_of_ble_eq_true rfl)⟩ (Nat.le_of_ble_eq_true rfl) d_Os_init_28 d_Os_init_31 d_Os_init_32 d_Os_init_34 (fun q3 q4 ad6 C6 H locs ead6 eC6 w => ?_)
  have hA : ad6 86 = a := by rw [ead6]; rw [va_up_ne _ _ (by omega), va_up_ne _ _ (by omega)]; exact hA
  have hO : C6 86 = .inr (3, [.ref r, .ref q1, .ref q2, .null, .null, .null]) := by rw [eC6, va_up_ne _ _ (by omega), va_up_ne _ _ (by omega)]; exact hO
  have hF : ∀ i, i < 86 → C6 i = C i := fun i hi => (congrFun eC6 i).trans ((va_up_ne _ _ (by omega)).trans ((va_up_ne _ _ (by omega)).trans (hF i hi)))
  have hG : ∀ i, i < 87 → ad6 i = ad i := fun i hi => (congrFun ead6 i).trans ((va_up_ne _ _ (by omega)).trans ((va_up_ne _ _ (by omega)).trans (hG i hi)))
  have w : Wd D cs A ad6 91 s C6 H _ := w
  refine m_putF (i := 86) (ci := 3) (fs := [.ref r, .ref q1, .ref q2, .null, .null, .null]) X hnm w hA (by decide) hO rfl k_l_Os tOs tyOs nOs 3 (by decide) k_f_Os_27 rfl rfl rfl rfl (Nat.le_of_ble_eq_true rfl) d_Os_init_37 (fun C7 H locs eC7 w => ?_)
  have hO : C7 86 = .inr (3, [.ref r, .ref q1, .ref q2, .ref q3, .null, .null]) := by rw [eC7]; exact va_up_self _ _ _
  have hF : ∀ i, i < 86 → C7 i = C i := fun i hi => (congrFun eC7 i).trans ((va_up_ne _ _ (by omega)).trans (hF i hi))
  refine lv_aload_n X.1 X.2.1 d_Os_init_40 rfl (lv_at hl 0 rfl) ?_
  refine m_poly25 X ev w hml hl.1 k_c_Os_22 k_m_Os_24 ⟨(Nat.le_of_ble_eq_true rfl), (Nat.le_of_ble_eq_true rfl)⟩ ⟨(Nat.le_of_ble_eq_true rfl), (Nat.le_of_ble_eq_true rfl)⟩ (Nat.le_of_ble_eq_true rfl) d_Os_init_41 d_Os_init_44 d_Os_init_45 d_Os_init_47 (fun q5 q6 ad8 C8 H locs ead8 eC8 w => ?_)
  have hA : ad8 86 = a := by rw [ead8]; rw [va_up_ne _ _ (by omega), va_up_ne _ _ (by omega)]; exact hA
  have hO : C8 86 = .inr (3, [.ref r, .ref q1, .ref q2, .ref q3, .null, .null]) := by rw [eC8, va_up_ne _ _ (by omega), va_up_ne _ _ (by omega)]; exact hO
  have hF : ∀ i, i < 86 → C8 i = C i := fun i hi => (congrFun eC8 i).trans ((va_up_ne _ _ (by omega)).trans ((va_up_ne _ _ (by omega)).trans (hF i hi)))
  have hG : ∀ i, i < 87 → ad8 i = ad i := fun i hi => (congrFun ead8 i).trans ((va_up_ne _ _ (by omega)).trans ((va_up_ne _ _ (by omega)).trans (hG i hi)))
  have w : Wd D cs A ad8 93 s C8 H _ := w
  refine m_putF (i := 86) (ci := 3) (fs := [.ref r, .ref q1, .ref q2, .ref q3, .null, .null]) X hnm w hA (by decide) hO rfl k_l_Os tOs tyOs nOs 4 (by decide) k_f_Os_31 rfl rfl rfl rfl (Nat.le_of_ble_eq_true rfl) d_Os_init_50 (fun C9 H locs eC9 w => ?_)
  have hO : C9 86 = .inr (3, [.ref r, .ref q1, .ref q2, .ref q3, .ref q5, .null]) := by rw [eC9]; exact va_up_self _ _ _
  have hF : ∀ i, i < 86 → C9 i = C i := fun i hi => (congrFun eC9 i).trans ((va_up_ne _ _ (by omega)).trans (hF i hi))
  refine lv_aload_n X.1 X.2.1 d_Os_init_53 rfl (lv_at hl 0 rfl) ?_
  refine m_poly25 X ev w hml hl.1 k_c_Os_22 k_m_Os_24 ⟨(Nat.le_of_ble_eq_true rfl), (Nat.le_of_ble_eq_true rfl)⟩ ⟨(Nat.le_of_ble_eq_true rfl), (Nat.le_of_ble_eq_true rfl)⟩ (Nat.le_of_ble_eq_true rfl) d_Os_init_54 d_Os_init_57 d_Os_init_58 d_Os_init_60 (fun q7 q8 ad10 C10 H locs ead10 eC10 w => ?_)
  have hA : ad10 86 = a := by rw [ead10]; rw [va_up_ne _ _ (by omega), va_up_ne _ _ (by omega)]; exact hA
  have hO : C10 86 = .inr (3, [.ref r, .ref q1, .ref q2, .ref q3, .ref q5, .null]) := by rw [eC10, va_up_ne _ _ (by omega), va_up_ne _ _ (by omega)]; exact hO
  have hF : ∀ i, i < 86 → C10 i = C i := fun i hi => (congrFun eC10 i).trans ((va_up_ne _ _ (by omega)).trans ((va_up_ne _ _ (by omega)).trans (hF i hi)))
  have hG : ∀ i, i < 87 → ad10 i = ad i := fun i hi => (congrFun ead10 i).trans ((va_up_ne _ _ (by omega)).trans ((va_up_ne _ _ (by omega)).trans (hG i hi)))
  have w : Wd D cs A ad10 95 s C10 H _ := w
  refine m_putF (i := 86) (ci := 3) (fs := [.ref r, .ref q1, .ref q2, .ref q3, .ref q5, .null]) X hnm w hA (by decide) hO rfl k_l_Os tOs tyOs nOs 5 (by decide) k_f_Os_34 rfl rfl rfl rfl (Nat.le_of_ble_eq_true rfl) d_Os_init_63 (fun C11 H locs eC11 w => ?_)
  have hO : C11 86 = .inr (3, [.ref r, .ref q1, .ref q2, .ref q3, .ref q5, .ref q7]) := by rw [eC11]; exact va_up_self _ _ _
  have hF : ∀ i, i < 86 → C11 i = C i := fun i hi => (congrFun eC11 i).trans ((va_up_ne _ _ (by omega)).trans (hF i hi))
  refine lv_aload_n X.1 X.2.1 d_Os_init_66 rfl (lv_at hl 0 rfl) ?_
  refine g_getv (i := 86) (ci := 3) (fs := [.ref r, .ref q1, .ref q2, .ref q3, .ref q5, .ref q7]) (.ref q7) X w hA (by decide) hO rfl k_l_Os 5 (by decide) k_f_Os_34 rfl d_Os_init_67 ?_
  refine lv_iconst (v := iI (1)) X.1 X.2.1 d_Os_init_70 (by decide) ?_
  have hq : ad10 93 = q7 := by rw [ead10, va_up_ne _ _ (by omega), va_up_self]
  have hq2 : ad10 94 = q8 := by rw [ead10, va_up_self]
  refine W.eq (g2 := F0 m 71 ls [.int (iI (1)), .ref (ad10 93)]) (by rw [hq]) ?_
  refine w_cVv (n := 1) (i := 93) (ci := 0) (As := [.int (iI (1))]) (rest := []) X w hml hl.1 (c_Po_bpx0 (i := 93) (j := 94) (x := 1) (q := q8) (by decide) (by decide) (by decide) (by decide) (by rw [eC11, va_up_ne _ _ (by omega), eC10, va_up_ne _ _ (by omega), va_up_self]) hq2 (by rw [eC11, va_up_ne _ _ (by omega), eC10, va_up_self])) (by decide) (by rw [eC11, va_up_ne _ _ (by omega), eC10, va_up_ne _ _ (by omega), va_up_self]; rfl) rfl k_m_Os_37 k_im_Po_becomePowerOfX k_se_Po_becomePowerOfX k_i_Po k_co_Po_becomePowerOfX (by decide +kernel) rfl ⟨(Nat.le_of_ble_eq_true rfl), (Nat.le_of_ble_eq_true rfl)⟩ ⟨rfl, rfl⟩ ⟨(Nat.le_of_ble_eq_true rfl), (Nat.le_of_ble_eq_true rfl)⟩ rfl (Nat.le_of_ble_eq_true rfl) d_Os_init_71 (fun C12 H locs eC12 w => ?_)
  have eC12 : C12 = bpE cs C11 93 94 q8 1 := eC12
  have hO : C12 86 = .inr (3, [.ref r, .ref q1, .ref q2, .ref q3, .ref q5, .ref q7]) := by rw [eC12]; unfold bpE; rw [va_up_ne _ _ (by omega), va_up_ne _ _ (by omega)]; exact hO
  have hF : ∀ i, i < 86 → C12 i = C i := fun i hi => by rw [eC12]; unfold bpE; rw [va_up_ne _ _ (by omega), va_up_ne _ _ (by omega)]; exact hF i hi
  refine n_vret (post := osP cs ad C r) (mc := 8) (ms := 1081) X hr hlk w ?_ d_Os_init_74 (Nat.le_of_ble_eq_true rfl) (Nat.le_of_ble_eq_true rfl)
  refine ⟨rfl, hG, hF, ?_⟩
  clear hA hO hF hG w hq hq2 hl
  subst eC12 eC11 eC10 ead10 eC9 eC8 ead8 eC7 eC6 ead6 eC5 eC4 ead4 eC3 eC2 ead2 eC1
  exact ⟨rfl, rfl, rfl, ⟨rfl, rfl⟩, ⟨rfl, rfl⟩, rfl, rfl⟩
/-- the arithmetic as new: its object at 1 -/
def arP (cs : Nat → ClassId) (ad : Nat → Nat) (C : Nat → va_E) (ad' : Nat → Nat) (T' : Nat) (C' : Nat → va_E) : Prop := T' = 17 ∧ (∀ i, i < 2 → ad' i = ad i) ∧ (∀ i, i < 1 → C' i = C i) ∧ C' 1 = .inr (1, [.int (iI 2), .ref (ad' 3), .ref (ad' 2), .ref (ad' 5), .ref (ad' 7), .ref (ad' 9), .ref (ad' 11), .ref (ad' 13), .ref (ad' 15)]) ∧ (∃ inv, invP 2 inv ∧ C' 2 = aI cs 13 inv) ∧ (C' 3 = poE (ad' 4) ∧ C' 4 = aI cs 300 (fun _ => 0)) ∧ (C' 5 = poE (ad' 6) ∧ C' 6 = aI cs 300 (fun _ => 0)) ∧ (C' 7 = poE (ad' 8) ∧ C' 8 = aI cs 25 (fun _ => 0)) ∧ (C' 9 = poE (ad' 10) ∧ C' 10 = aI cs 25 (fun _ => 0)) ∧ (C' 11 = poE (ad' 12) ∧ C' 12 = aI cs 25 (fun _ => 0)) ∧ (C' 13 = poE (ad' 14) ∧ C' 14 = aI cs 25 (fun _ => 0)) ∧ (C' 15 = poE (ad' 16) ∧ C' 16 = aI cs 25 (fun _ => 0))
theorem c_Ar_init {l : Launch} {D : va_G} {cs : Nat → ClassId} {A : Nat → Prop} {ad : Nat → Nat} {C : Nat → va_E} {a : Nat} (ha : ad 1 = a) (hC : C 1 = .inr (1, [.int 0, .null, .null, .null, .null, .null, .null, .null, .null])) : Cn l y_Ar_init ws_Ar_init { frames := 2, cells := 15, slots := 752, locals := 35 } D cs A ad 2 [.ref a] C (arP cs ad C) 15 752 := by
  refine n_body (by decide) (Nat.le_of_ble_eq_true rfl) rfl ?_
  intro p e s m below meth c X hr hlk hml hnm ev w ls hl
  have hl : lv_has ls 1 [(0, .ref a)] := hl
  have hA : ad 1 = a := ha
  have hO : C 1 = .inr (1, [.int 0, .null, .null, .null, .null, .null, .null, .null, .null]) := hC
  have hF : ∀ i, i < 1 → C i = C i := fun _ _ => rfl
  have hG : ∀ i, i < 2 → ad i = ad i := fun _ _ => rfl
  refine lv_aload_n X.1 X.2.1 d_Ar_init_0 rfl (lv_at hl 0 rfl) ?_
  refine n_obj (k := 1) X hml hl.1 k_m_Ar_3 d_Ar_init_1 (Nat.le_of_ble_eq_true rfl) (Nat.le_of_ble_eq_true rfl) ?_
  refine lv_aload_n X.1 X.2.1 d_Ar_init_4 rfl (lv_at hl 0 rfl) ?_
  refine lv_bipush (v := iI (13)) X.1 X.2.1 d_Ar_init_5 (by decide) ?_
  refine m_newa 13 rfl (by decide) X w (Nat.le_of_ble_eq_true rfl) (Nat.le_of_ble_eq_true rfl) d_Ar_init_7 (fun q1 ad1 C1 H ead1 eC1 w => ?_)
  have hA : ad1 1 = a := by rw [ead1]; rw [va_up_ne _ _ (by omega)]; exact hA
  have hO : C1 1 = .inr (1, [.int 0, .null, .null, .null, .null, .null, .null, .null, .null]) := by rw [eC1, va_up_ne _ _ (by omega)]; exact hO
  have hF : ∀ i, i < 1 → C1 i = C i := fun i hi => (congrFun eC1 i).trans ((va_up_ne _ _ (by omega)).trans (hF i hi))
  have hG : ∀ i, i < 2 → ad1 i = ad i := fun i hi => (congrFun ead1 i).trans ((va_up_ne _ _ (by omega)).trans (hG i hi))
  have w : Wd D cs A ad1 3 s C1 H _ := w
  refine m_putF (i := 1) (ci := 1) (fs := [.int 0, .null, .null, .null, .null, .null, .null, .null, .null]) X hnm w hA (by decide) hO rfl k_l_Ar tAr tyAr nAr 2 (by decide) k_f_Ar_9 rfl rfl rfl rfl (Nat.le_of_ble_eq_true rfl) d_Ar_init_9 (fun C2 H locs eC2 w => ?_)
  have hO : C2 1 = .inr (1, [.int 0, .null, .ref q1, .null, .null, .null, .null, .null, .null]) := by rw [eC2]; exact va_up_self _ _ _
  have hF : ∀ i, i < 1 → C2 i = C i := fun i hi => (congrFun eC2 i).trans ((va_up_ne _ _ (by omega)).trans (hF i hi))
  refine lv_aload_n X.1 X.2.1 d_Ar_init_12 rfl (lv_at hl 0 rfl) ?_
  refine m_poly300 X ev w hml hl.1 k_c_Ar_15 k_m_Ar_17 ⟨(Nat.le_of_ble_eq_true rfl), (Nat.le_of_ble_eq_true rfl)⟩ ⟨(Nat.le_of_ble_eq_true rfl), (Nat.le_of_ble_eq_true rfl)⟩ (Nat.le_of_ble_eq_true rfl) d_Ar_init_13 d_Ar_init_16 d_Ar_init_17 d_Ar_init_20 (fun q2 q3 ad3 C3 H locs ead3 eC3 w => ?_)
  have hA : ad3 1 = a := by rw [ead3]; rw [va_up_ne _ _ (by omega), va_up_ne _ _ (by omega)]; exact hA
  have hO : C3 1 = .inr (1, [.int 0, .null, .ref q1, .null, .null, .null, .null, .null, .null]) := by rw [eC3, va_up_ne _ _ (by omega), va_up_ne _ _ (by omega)]; exact hO
  have hF : ∀ i, i < 1 → C3 i = C i := fun i hi => (congrFun eC3 i).trans ((va_up_ne _ _ (by omega)).trans ((va_up_ne _ _ (by omega)).trans (hF i hi)))
  have hG : ∀ i, i < 2 → ad3 i = ad i := fun i hi => (congrFun ead3 i).trans ((va_up_ne _ _ (by omega)).trans ((va_up_ne _ _ (by omega)).trans (hG i hi)))
  have w : Wd D cs A ad3 5 s C3 H _ := w
  refine m_putF (i := 1) (ci := 1) (fs := [.int 0, .null, .ref q1, .null, .null, .null, .null, .null, .null]) X hnm w hA (by decide) hO rfl k_l_Ar tAr tyAr nAr 1 (by decide) k_f_Ar_20 rfl rfl rfl rfl (Nat.le_of_ble_eq_true rfl) d_Ar_init_23 (fun C4 H locs eC4 w => ?_)
  have hO : C4 1 = .inr (1, [.int 0, .ref q2, .ref q1, .null, .null, .null, .null, .null, .null]) := by rw [eC4]; exact va_up_self _ _ _
  have hF : ∀ i, i < 1 → C4 i = C i := fun i hi => (congrFun eC4 i).trans ((va_up_ne _ _ (by omega)).trans (hF i hi))
  refine lv_aload_n X.1 X.2.1 d_Ar_init_26 rfl (lv_at hl 0 rfl) ?_
  refine m_poly300 X ev w hml hl.1 k_c_Ar_15 k_m_Ar_17 ⟨(Nat.le_of_ble_eq_true rfl), (Nat.le_of_ble_eq_true rfl)⟩ ⟨(Nat.le_of_ble_eq_true rfl), (Nat.le_of_ble_eq_true rfl)⟩ (Nat.le_of_ble_eq_true rfl) d_Ar_init_27 d_Ar_init_30 d_Ar_init_31 d_Ar_init_34 (fun q4 q5 ad5 C5 H locs ead5 eC5 w => ?_)
  have hA : ad5 1 = a := by rw [ead5]; rw [va_up_ne _ _ (by omega), va_up_ne _ _ (by omega)]; exact hA
  have hO : C5 1 = .inr (1, [.int 0, .ref q2, .ref q1, .null, .null, .null, .null, .null, .null]) := by rw [eC5, va_up_ne _ _ (by omega), va_up_ne _ _ (by omega)]; exact hO
  have hF : ∀ i, i < 1 → C5 i = C i := fun i hi => (congrFun eC5 i).trans ((va_up_ne _ _ (by omega)).trans ((va_up_ne _ _ (by omega)).trans (hF i hi)))
  have hG : ∀ i, i < 2 → ad5 i = ad i := fun i hi => (congrFun ead5 i).trans ((va_up_ne _ _ (by omega)).trans ((va_up_ne _ _ (by omega)).trans (hG i hi)))
  have w : Wd D cs A ad5 7 s C5 H _ := w
  refine m_putF (i := 1) (ci := 1) (fs := [.int 0, .ref q2, .ref q1, .null, .null, .null, .null, .null, .null]) X hnm w hA (by decide) hO rfl k_l_Ar tAr tyAr nAr 3 (by decide) k_f_Ar_24 rfl rfl rfl rfl (Nat.le_of_ble_eq_true rfl) d_Ar_init_37 (fun C6 H locs eC6 w => ?_)
  have hO : C6 1 = .inr (1, [.int 0, .ref q2, .ref q1, .ref q4, .null, .null, .null, .null, .null]) := by rw [eC6]; exact va_up_self _ _ _
  have hF : ∀ i, i < 1 → C6 i = C i := fun i hi => (congrFun eC6 i).trans ((va_up_ne _ _ (by omega)).trans (hF i hi))
  refine lv_aload_n X.1 X.2.1 d_Ar_init_40 rfl (lv_at hl 0 rfl) ?_
  refine m_poly25 X ev w hml hl.1 k_c_Ar_15 k_m_Ar_17 ⟨(Nat.le_of_ble_eq_true rfl), (Nat.le_of_ble_eq_true rfl)⟩ ⟨(Nat.le_of_ble_eq_true rfl), (Nat.le_of_ble_eq_true rfl)⟩ (Nat.le_of_ble_eq_true rfl) d_Ar_init_41 d_Ar_init_44 d_Ar_init_45 d_Ar_init_47 (fun q6 q7 ad7 C7 H locs ead7 eC7 w => ?_)
  have hA : ad7 1 = a := by rw [ead7]; rw [va_up_ne _ _ (by omega), va_up_ne _ _ (by omega)]; exact hA
  have hO : C7 1 = .inr (1, [.int 0, .ref q2, .ref q1, .ref q4, .null, .null, .null, .null, .null]) := by rw [eC7, va_up_ne _ _ (by omega), va_up_ne _ _ (by omega)]; exact hO
  have hF : ∀ i, i < 1 → C7 i = C i := fun i hi => (congrFun eC7 i).trans ((va_up_ne _ _ (by omega)).trans ((va_up_ne _ _ (by omega)).trans (hF i hi)))
  have hG : ∀ i, i < 2 → ad7 i = ad i := fun i hi => (congrFun ead7 i).trans ((va_up_ne _ _ (by omega)).trans ((va_up_ne _ _ (by omega)).trans (hG i hi)))
  have w : Wd D cs A ad7 9 s C7 H _ := w
  refine m_putF (i := 1) (ci := 1) (fs := [.int 0, .ref q2, .ref q1, .ref q4, .null, .null, .null, .null, .null]) X hnm w hA (by decide) hO rfl k_l_Ar tAr tyAr nAr 4 (by decide) k_f_Ar_27 rfl rfl rfl rfl (Nat.le_of_ble_eq_true rfl) d_Ar_init_50 (fun C8 H locs eC8 w => ?_)
  have hO : C8 1 = .inr (1, [.int 0, .ref q2, .ref q1, .ref q4, .ref q6, .null, .null, .null, .null]) := by rw [eC8]; exact va_up_self _ _ _
  have hF : ∀ i, i < 1 → C8 i = C i := fun i hi => (congrFun eC8 i).trans ((va_up_ne _ _ (by omega)).trans (hF i hi))
  refine lv_aload_n X.1 X.2.1 d_Ar_init_53 rfl (lv_at hl 0 rfl) ?_
  refine m_poly25 X ev w hml hl.1 k_c_Ar_15 k_m_Ar_17 ⟨(Nat.le_of_ble_eq_true rfl), (Nat.le_of_ble_eq_true rfl)⟩ ⟨(Nat.le_of_ble_eq_true rfl), (Nat.le_of_ble_eq_true rfl)⟩ (Nat.le_of_ble_eq_true rfl) d_Ar_init_54 d_Ar_init_57 d_Ar_init_58 d_Ar_init_60 (fun q8 q9 ad9 C9 H locs ead9 eC9 w => ?_)
  have hA : ad9 1 = a := by rw [ead9]; rw [va_up_ne _ _ (by omega), va_up_ne _ _ (by omega)]; exact hA
  have hO : C9 1 = .inr (1, [.int 0, .ref q2, .ref q1, .ref q4, .ref q6, .null, .null, .null, .null]) := by rw [eC9, va_up_ne _ _ (by omega), va_up_ne _ _ (by omega)]; exact hO
  have hF : ∀ i, i < 1 → C9 i = C i := fun i hi => (congrFun eC9 i).trans ((va_up_ne _ _ (by omega)).trans ((va_up_ne _ _ (by omega)).trans (hF i hi)))
  have hG : ∀ i, i < 2 → ad9 i = ad i := fun i hi => (congrFun ead9 i).trans ((va_up_ne _ _ (by omega)).trans ((va_up_ne _ _ (by omega)).trans (hG i hi)))
  have w : Wd D cs A ad9 11 s C9 H _ := w
  refine m_putF (i := 1) (ci := 1) (fs := [.int 0, .ref q2, .ref q1, .ref q4, .ref q6, .null, .null, .null, .null]) X hnm w hA (by decide) hO rfl k_l_Ar tAr tyAr nAr 5 (by decide) k_f_Ar_30 rfl rfl rfl rfl (Nat.le_of_ble_eq_true rfl) d_Ar_init_63 (fun C10 H locs eC10 w => ?_)
  have hO : C10 1 = .inr (1, [.int 0, .ref q2, .ref q1, .ref q4, .ref q6, .ref q8, .null, .null, .null]) := by rw [eC10]; exact va_up_self _ _ _
  have hF : ∀ i, i < 1 → C10 i = C i := fun i hi => (congrFun eC10 i).trans ((va_up_ne _ _ (by omega)).trans (hF i hi))
  refine lv_aload_n X.1 X.2.1 d_Ar_init_66 rfl (lv_at hl 0 rfl) ?_
  refine m_poly25 X ev w hml hl.1 k_c_Ar_15 k_m_Ar_17 ⟨(Nat.le_of_ble_eq_true rfl), (Nat.le_of_ble_eq_true rfl)⟩ ⟨(Nat.le_of_ble_eq_true rfl), (Nat.le_of_ble_eq_true rfl)⟩ (Nat.le_of_ble_eq_true rfl) d_Ar_init_67 d_Ar_init_70 d_Ar_init_71 d_Ar_init_73 (fun q10 q11 ad11 C11 H locs ead11 eC11 w => ?_)
  have hA : ad11 1 = a := by rw [ead11]; rw [va_up_ne _ _ (by omega), va_up_ne _ _ (by omega)]; exact hA
  have hO : C11 1 = .inr (1, [.int 0, .ref q2, .ref q1, .ref q4, .ref q6, .ref q8, .null, .null, .null]) := by rw [eC11, va_up_ne _ _ (by omega), va_up_ne _ _ (by omega)]; exact hO
  have hF : ∀ i, i < 1 → C11 i = C i := fun i hi => (congrFun eC11 i).trans ((va_up_ne _ _ (by omega)).trans ((va_up_ne _ _ (by omega)).trans (hF i hi)))
  have hG : ∀ i, i < 2 → ad11 i = ad i := fun i hi => (congrFun ead11 i).trans ((va_up_ne _ _ (by omega)).trans ((va_up_ne _ _ (by omega)).trans (hG i hi)))
  have w : Wd D cs A ad11 13 s C11 H _ := w
  refine m_putF (i := 1) (ci := 1) (fs := [.int 0, .ref q2, .ref q1, .ref q4, .ref q6, .ref q8, .null, .null, .null]) X hnm w hA (by decide) hO rfl k_l_Ar tAr tyAr nAr 6 (by decide) k_f_Ar_33 rfl rfl rfl rfl (Nat.le_of_ble_eq_true rfl) d_Ar_init_76 (fun C12 H locs eC12 w => ?_)
  have hO : C12 1 = .inr (1, [.int 0, .ref q2, .ref q1, .ref q4, .ref q6, .ref q8, .ref q10, .null, .null]) := by rw [eC12]; exact va_up_self _ _ _
  have hF : ∀ i, i < 1 → C12 i = C i := fun i hi => (congrFun eC12 i).trans ((va_up_ne _ _ (by omega)).trans (hF i hi))
  refine lv_aload_n X.1 X.2.1 d_Ar_init_79 rfl (lv_at hl 0 rfl) ?_
  refine m_poly25 X ev w hml hl.1 k_c_Ar_15 k_m_Ar_17 ⟨(Nat.le_of_ble_eq_true rfl), (Nat.le_of_ble_eq_true rfl)⟩ ⟨(Nat.le_of_ble_eq_true rfl), (Nat.le_of_ble_eq_true rfl)⟩ (Nat.le_of_ble_eq_true rfl) d_Ar_init_80 d_Ar_init_83 d_Ar_init_84 d_Ar_init_86 (fun q12 q13 ad13 C13 H locs ead13 eC13 w => ?_)
  have hA : ad13 1 = a := by rw [ead13]; rw [va_up_ne _ _ (by omega), va_up_ne _ _ (by omega)]; exact hA
  have hO : C13 1 = .inr (1, [.int 0, .ref q2, .ref q1, .ref q4, .ref q6, .ref q8, .ref q10, .null, .null]) := by rw [eC13, va_up_ne _ _ (by omega), va_up_ne _ _ (by omega)]; exact hO
  have hF : ∀ i, i < 1 → C13 i = C i := fun i hi => (congrFun eC13 i).trans ((va_up_ne _ _ (by omega)).trans ((va_up_ne _ _ (by omega)).trans (hF i hi)))
  have hG : ∀ i, i < 2 → ad13 i = ad i := fun i hi => (congrFun ead13 i).trans ((va_up_ne _ _ (by omega)).trans ((va_up_ne _ _ (by omega)).trans (hG i hi)))
  have w : Wd D cs A ad13 15 s C13 H _ := w
  refine m_putF (i := 1) (ci := 1) (fs := [.int 0, .ref q2, .ref q1, .ref q4, .ref q6, .ref q8, .ref q10, .null, .null]) X hnm w hA (by decide) hO rfl k_l_Ar tAr tyAr nAr 7 (by decide) k_f_Ar_36 rfl rfl rfl rfl (Nat.le_of_ble_eq_true rfl) d_Ar_init_89 (fun C14 H locs eC14 w => ?_)
  have hO : C14 1 = .inr (1, [.int 0, .ref q2, .ref q1, .ref q4, .ref q6, .ref q8, .ref q10, .ref q12, .null]) := by rw [eC14]; exact va_up_self _ _ _
  have hF : ∀ i, i < 1 → C14 i = C i := fun i hi => (congrFun eC14 i).trans ((va_up_ne _ _ (by omega)).trans (hF i hi))
  refine lv_aload_n X.1 X.2.1 d_Ar_init_92 rfl (lv_at hl 0 rfl) ?_
  refine m_poly25 X ev w hml hl.1 k_c_Ar_15 k_m_Ar_17 ⟨(Nat.le_of_ble_eq_true rfl), (Nat.le_of_ble_eq_true rfl)⟩ ⟨(Nat.le_of_ble_eq_true rfl), (Nat.le_of_ble_eq_true rfl)⟩ (Nat.le_of_ble_eq_true rfl) d_Ar_init_93 d_Ar_init_96 d_Ar_init_97 d_Ar_init_99 (fun q14 q15 ad15 C15 H locs ead15 eC15 w => ?_)
  have hA : ad15 1 = a := by rw [ead15]; rw [va_up_ne _ _ (by omega), va_up_ne _ _ (by omega)]; exact hA
  have hO : C15 1 = .inr (1, [.int 0, .ref q2, .ref q1, .ref q4, .ref q6, .ref q8, .ref q10, .ref q12, .null]) := by rw [eC15, va_up_ne _ _ (by omega), va_up_ne _ _ (by omega)]; exact hO
  have hF : ∀ i, i < 1 → C15 i = C i := fun i hi => (congrFun eC15 i).trans ((va_up_ne _ _ (by omega)).trans ((va_up_ne _ _ (by omega)).trans (hF i hi)))
  have hG : ∀ i, i < 2 → ad15 i = ad i := fun i hi => (congrFun ead15 i).trans ((va_up_ne _ _ (by omega)).trans ((va_up_ne _ _ (by omega)).trans (hG i hi)))
  have w : Wd D cs A ad15 17 s C15 H _ := w
  refine m_putF (i := 1) (ci := 1) (fs := [.int 0, .ref q2, .ref q1, .ref q4, .ref q6, .ref q8, .ref q10, .ref q12, .null]) X hnm w hA (by decide) hO rfl k_l_Ar tAr tyAr nAr 8 (by decide) k_f_Ar_39 rfl rfl rfl rfl (Nat.le_of_ble_eq_true rfl) d_Ar_init_102 (fun C16 H locs eC16 w => ?_)
  have hO : C16 1 = .inr (1, [.int 0, .ref q2, .ref q1, .ref q4, .ref q6, .ref q8, .ref q10, .ref q12, .ref q14]) := by rw [eC16]; exact va_up_self _ _ _
  have hF : ∀ i, i < 1 → C16 i = C i := fun i hi => (congrFun eC16 i).trans ((va_up_ne _ _ (by omega)).trans (hF i hi))
  refine lv_aload_n X.1 X.2.1 d_Ar_init_105 rfl (lv_at hl 0 rfl) ?_
  obtain ⟨tF, zF, aF⟩ := ev.2.2.2.2.2.1
  refine va_getsN X.1 X.2.1 zF w.2.2.2.2 X.2.2.1 (va_Nw.use rfl ev.2.2.2.2.2.2.2.2.1) (fun _ h => h) d_Ar_init_106 ?_
  refine lv_iconst (v := iI (0)) X.1 X.2.1 d_Ar_init_109 (by decide) ?_
  refine t_sl (n := "FIELDS") (F := fieldsF) X w.2.2.2.2 aF 0 rfl (by decide) d_Ar_init_110 ?_
  have hq : ad15 2 = q1 := by
    clear hA hO hF hG w hl
    subst ead15 ead13 ead11 ead9 ead7 ead5 ead3 ead1
    rfl
  have hI2 : C16 2 = aI cs 13 (fun _ => 0) := by
    clear hA hO hF hG w hl
    subst eC16 eC15 ead15 eC14 eC13 ead13 eC12 eC11 ead11 eC10 eC9 ead9 eC8 eC7 ead7 eC6 eC5 ead5 eC4 eC3 ead3 eC2 eC1 ead1
    rfl
  refine W.eq (g2 := F0 m 111 ls [.int (iI (2)), .ref (ad15 1)]) (by rw [hA]; rfl) ?_
  refine w_cVv (n := 1) (i := 1) (ci := 1) (As := [.int (iI (2))]) (rest := []) X w hml hl.1 (c_Ar_become (i := 1) (j := 2) (q := 2) (by decide) (by decide) (by decide) hO hI2 (by rw [hq]; rfl) rfl (hasInv_of (by decide))) (by decide) hO rfl k_m_Ar_45 k_im_Ar_become k_se_Ar_become k_i_Ar k_co_Ar_become (by decide +kernel) rfl ⟨(Nat.le_of_ble_eq_true rfl), (Nat.le_of_ble_eq_true rfl)⟩ ⟨rfl, rfl⟩ ⟨(Nat.le_of_ble_eq_true rfl), (Nat.le_of_ble_eq_true rfl)⟩ rfl (Nat.le_of_ble_eq_true rfl) d_Ar_init_111 (fun C' H locs hp w => ?_)
  obtain ⟨Fi, hi1, hi2⟩ := hp
  refine n_vret (post := arP cs ad C) (mc := 15) (ms := 752) X hr hlk w ?_ d_Ar_init_114 (Nat.le_of_ble_eq_true rfl) (Nat.le_of_ble_eq_true rfl)
  refine ⟨rfl, hG, fun i hi => by rw [hi2]; unfold arG; rw [va_up_ne _ _ (by omega), va_up_ne _ _ (by omega)]; exact hF i hi, ?_⟩
  clear hA hO hF hG w hq hI2 hl
  subst hi2
  subst eC16 eC15 ead15 eC14 eC13 ead13 eC12 eC11 ead11 eC10 eC9 ead9 eC8 eC7 ead7 eC6 eC5 ead5 eC4 eC3 ead3 eC2 eC1 ead1
  exact ⟨rfl, ⟨Fi, hi1, rfl⟩, ⟨rfl, rfl⟩, ⟨rfl, rfl⟩, ⟨rfl, rfl⟩, ⟨rfl, rfl⟩, ⟨rfl, rfl⟩, ⟨rfl, rfl⟩, ⟨rfl, rfl⟩⟩
