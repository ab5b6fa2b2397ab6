theorem clP.same {cs : Nat → ClassId} {ad : Nat → Nat} {pr : Int} {inv : Nat → Int} {K : KS} {ph : Nat → Nat} {lo hi : Nat → Int} {G : Nat → Nat → Int} {O : Nat → va_E} (h : clI cs ad pr inv K ph lo hi G O) {G' : Nat → Nat → Int} (hW : WF G') (hG : ∀ j, j < 61 → (j = 14 ∨ j = 15 ∨ j = 18 ∨ 21 ≤ j) → G' j = G j) : clP cs ad pr inv K (fun r => G (21 + r)) O (mkV cs ad (rV G') O) :=
  ⟨G', O, ph, lo, hi, rfl, h.frame hW (fun r hr => by rw [hG _ (by omega) (by omega)]; exact h.2.2.2.2.2.1 r hr) (fun j hj h => hG j hj (by omega)), fun r hr => hG _ (by omega) (by omega), fun _ _ => rfl⟩
theorem clP.put {cs : Nat → ClassId} {ad : Nat → Nat} {pr : Int} {inv : Nat → Int} {K : KS} {ph : Nat → Nat} {lo hi : Nat → Int} {G : Nat → Nat → Int} {O : Nat → va_E} (h : clI cs ad pr inv K ph lo hi G O) {G' : Nat → Nat → Int} {t : Nat} (ht : t < 16) {Z : Nat → Int} (hZ : okp pr 25 Z) (hW : WF G') (hG : ∀ j, j < 61 → (j = 14 ∨ j = 15 ∨ j = 18 ∨ 21 ≤ j) → j ≠ 21 + t → G' j = G j) (hT : G' (21 + t) = Z) : clP cs ad pr inv K (va_up (fun r => G (21 + r)) t Z) O (mkV cs ad (rV G') O) := by
  refine ⟨G', O, ph, lo, hi, rfl, h.frame hW (fun r hr => ?_) (fun j hj h => hG j hj (by omega) (by omega)), fun r hr => ?_, fun _ _ => rfl⟩
  · by_cases e : r = t
    · rw [e, hT]; exact hZ
    · rw [hG _ (by omega) (by omega) (by omega)]; exact h.2.2.2.2.2.1 r hr
  · by_cases e : r = t
    · rw [e, hT, va_up_self]
    · rw [hG _ (by omega) (by omega) (by omega), va_up_ne _ _ e]
theorem c_Ff_piece {l : Launch} (hst : l.stackTraces = false) {D : va_G} {cs : Nat → ClassId} {A : Nat → Prop} {ad : Nat → Nat} {T : Nat} (hT : 132 ≤ T) {G : Nat → Nat → Int} {O : Nat → va_E} {pr : Int} {inv : Nat → Int} {K : KS} {ph : Nat → Nat} {lo hi : Nat → Int} (hcl : clI cs ad pr inv K ph lo hi G O) {t i : Int} (ht9 : rg t) (hi9 : rg i) : FXi l y_Ff_piece ws_Ff_piece { frames := 7, cells := 2, slots := 12, locals := 111 } D cs A ad T [.ref (ad (122)), .int (iI (t)), .int (iI (i))] (mkV cs ad (rV G) O) (fun x C' => (0 ≤ t ∧ t ≤ 15) ∧ (0 ≤ i ∧ i < ((K.1 : Nat) : Int)) ∧ x = iI (K.2.2 i.toNat) ∧ clP cs ad pr inv K (va_up (fun r => G (21 + r)) t.toNat (K.2.1 i.toNat)) O C') (fun E C' => C' = (mkV cs ad (rV G) O) ∧ E = xNSE ∧ (outF t 0 15 = 1 ∨ ((0 ≤ t ∧ t ≤ 15) ∧ (i < 0 ∨ ((K.1 : Nat) : Int) ≤ i)))) 2 := by
  refine f_bodyi (by decide) (Nat.le_of_ble_eq_true rfl) ?_
  intro p e s m below meth c X hr hlk hml hnx ev w ls hl
  have hl : lv_has ls 4 [(0, .ref (ad (122))), (1, .int (iI (t))), (2, .int (iI (i)))] := hl
  obtain ⟨hO, hF, hKc, hS, hW, hRg, h14, h15, h18⟩ := id hcl
  have hU := hKc.1
  have hI : invP pr inv := hO.2.2
  have hpr := hI.1
  have hKn := hU.2.2.2.1
  refine lv_aload_n X.1 X.2.1 d_Ff_piece_0 rfl (lv_at hl 0 rfl) ?_
  refine lv_iload_n X.1 X.2.1 d_Ff_piece_1 rfl (lv_at hl 1 rfl) ?_
  refine x_cVr (n := 1) (i := 122) (ci := 4) (k1 := 1) (As := [.int (iI (t))]) (rest := []) X ev hnx hlk w hml hl.1 (c_Ff_register hst hT hO hF (r := t) (by omega)) (fun E C' h => ⟨h.1, h.2.1, Or.inl h.2.2⟩) (by omega) (by rw [mkV_O (by decide)]; exact hF.1) rfl k_m_Ff_72 k_im_Ff_register k_se_Ff_register k_i_Ff k_co_Ff_register (by decide +kernel) rfl ⟨Nat.le_of_ble_eq_true rfl, Nat.le_of_ble_eq_true rfl⟩ ⟨rfl, rfl⟩ ⟨by decide, by decide⟩ (by decide) (by decide) rfl (Nat.le_of_ble_eq_true rfl) d_Ff_piece_2 (fun r' C' H locs hp w => ?_)
  obtain ⟨k0, rfl, rfl⟩ := hp
  refine lv_astore_n (lv' := [(3, .ref (ad (2 * ((21 + t.toNat))))), (0, .ref (ad (122))), (1, .int (iI (t))), (2, .int (iI (i)))]) X.1 X.2.1 d_Ff_piece_5 rfl hl (by decide) rfl (fun ls hl => ?_)
  refine lv_iload_n X.1 X.2.1 d_Ff_piece_6 rfl (lv_at hl 3 rfl) ?_
  refine z_lt (a := i) (tgt := 21) X (by omega) d_Ff_piece_7 (by decide) (fun h_7 => ?_) (fun h_7 => ?_)
  · exact x_thrNSE (is := 153) (text := "no such factor") X hst ev (by decide) k_c_Ff_151 k_i_NoSuchElementException w (⟨rfl, rfl, Or.inr ⟨k0, by omega⟩⟩) hml hl.1 hnx hlk d_Ff_piece_21 d_Ff_piece_24 d_Ff_piece_25 d_Ff_piece_27 d_Ff_piece_30 (by decide) (by decide) (by decide) (by decide) (by decide) (by decide)
  · refine lv_iload_n X.1 X.2.1 d_Ff_piece_10 rfl (lv_at hl 3 rfl) ?_
    refine lv_aload_n X.1 X.2.1 d_Ff_piece_11 rfl (lv_at hl 1 rfl) ?_
    refine t_ffo X hT w hF 1 (by decide) k_f_Ff_21 rfl d_Ff_piece_12 ?_
    refine t_cu X hT w hU 2 (by decide) k_f_Ff_148 rfl d_Ff_piece_15 ?_
    refine i_lt (a := i) (b := ((K.1 : Nat) : Int)) (tgt := 31) X (by omega) (by omega) d_Ff_piece_18 (by decide) (fun h_18 => ?_) (fun h_18 => ?_)
    · refine lv_aload_n X.1 X.2.1 d_Ff_piece_31 rfl (lv_at hl 0 rfl) ?_
      refine lv_aload_n X.1 X.2.1 d_Ff_piece_32 rfl (lv_at hl 1 rfl) ?_
      refine t_ffo X hT w hF 1 (by decide) k_f_Ff_21 rfl d_Ff_piece_33 ?_
      refine t_cu X hT w hU 0 (by decide) k_f_Ff_156 rfl d_Ff_piece_36 ?_
      refine lv_iload_n X.1 X.2.1 d_Ff_piece_39 rfl (lv_at hl 3 rfl) ?_
      refine t_fa (z := i) X hT w hU (i.toNat) (by omega) (by omega) d_Ff_piece_40 ?_
      have hpi := hU.2.2.2.2.1 i.toNat (by omega)
      have eph : G (ph i.toNat) = K.2.1 i.toNat := hKc.2.1 i.toNat (by omega)
      have hz : okp pr 25 (K.2.1 i.toNat) := hKc.2.2 i.toNat (by omega)
      refine w_cVv (n := 1) (i := 2 * ((21 + t.toNat))) (ci := 0) (As := [.ref (ad (2 * ((ph i.toNat))))]) (rest := []) X w hml hl.1 (c_Po_copyFrom hT (G := G) (k := 21 + t.toNat) (q := ph i.toNat) (by omega) (by omega) (by omega) (hW _ (by omega)) (hW _ (by omega)) (by rw [wd_2 (by omega), eph]; exact hz.ok hpr.2)) (by omega) (mkV_o (by omega)) rfl k_m_Ff_159 k_im_Po_copyFrom k_se_Po_copyFrom k_i_Po k_co_Po_copyFrom (by decide +kernel) rfl ⟨Nat.le_of_ble_eq_true rfl, Nat.le_of_ble_eq_true rfl⟩ ⟨rfl, rfl⟩ ⟨by decide, by decide⟩ rfl (Nat.le_of_ble_eq_true rfl) d_Ff_piece_41 (fun C' H locs hp w => ?_)
      subst hp
      obtain ⟨Gw1, eGw1⟩ : ∃ gg : Nat → Nat → Int, gg = va_up G (21 + t.toNat) (G (ph i.toNat)) := ⟨_, rfl⟩
      rw [← eGw1] at w
      rw [eph] at eGw1
      refine lv_aload_n X.1 X.2.1 d_Ff_piece_44 rfl (lv_at hl 1 rfl) ?_
      refine t_ffo X hT w hF 1 (by decide) k_f_Ff_21 rfl d_Ff_piece_45 ?_
      refine t_cu X hT w hU 1 (by decide) k_f_Ff_162 rfl d_Ff_piece_48 ?_
      refine lv_iload_n X.1 X.2.1 d_Ff_piece_51 rfl (lv_at hl 3 rfl) ?_
      refine t_tm (z := i) X hT w hU (i.toNat) (by omega) (by omega) d_Ff_piece_52 ?_
      exact x_iret X hr hlk w ⟨k0, ⟨by omega, by omega⟩, rfl, clP.put hcl (by omega) hz (by rw [eGw1]; exact hW.up (by rw [wd_2 (by omega)]; exact hz.ok hpr.2)) (fun j hj h h2 => by rw [eGw1, va_up_ne _ _ h2]) (by rw [eGw1, va_up_self])⟩ d_Ff_piece_53 (by decide) (by decide)
    · exact x_thrNSE (is := 153) (text := "no such factor") X hst ev (by decide) k_c_Ff_151 k_i_NoSuchElementException w (⟨rfl, rfl, Or.inr ⟨k0, by omega⟩⟩) hml hl.1 hnx hlk d_Ff_piece_21 d_Ff_piece_24 d_Ff_piece_25 d_Ff_piece_27 d_Ff_piece_30 (by decide) (by decide) (by decide) (by decide) (by decide) (by decide)
theorem c_Ff_irreducible {l : Launch} (hst : l.stackTraces = false) {D : va_G} {cs : Nat → ClassId} {A : Nat → Prop} {ad : Nat → Nat} {T : Nat} (hT : 132 ≤ T) {G : Nat → Nat → Int} {O : Nat → va_E} {pr : Int} {inv : Nat → Int} {K : KS} {ph : Nat → Nat} {lo hi : Nat → Int} (hcl : clI cs ad pr inv K ph lo hi G O) {a : Int} (ha9 : rg a) : FXi l y_Ff_irreducible ws_Ff_irreducible { frames := 7, cells := 1, slots := 6, locals := 143 } D cs A ad T [.ref (ad (122)), .int (iI (a))] (mkV cs ad (rV G) O) (fun x C' => (0 ≤ a ∧ a ≤ 15) ∧ x = bI (irrC pr inv (G (21 + a.toNat)) xP) ∧ clP cs ad pr inv K (fun r => G (21 + r)) O C') (fun E C' => C' = (mkV cs ad (rV G) O) ∧ E = xNSE ∧ outF a 0 15 = 1) 1 := by
  refine f_bodyi (by decide) (Nat.le_of_ble_eq_true rfl) ?_
  intro p e s m below meth c X hr hlk hml hnx ev w ls hl
  have hl : lv_has ls 2 [(0, .ref (ad (122))), (1, .int (iI (a)))] := hl
  obtain ⟨hO, hF, hKc, hS, hW, hRg, h14, h15, h18⟩ := id hcl
  have hU := hKc.1
  have hI : invP pr inv := hO.2.2
  have hpr := hI.1
  refine lv_aload_n X.1 X.2.1 d_Ff_irreducible_0 rfl (lv_at hl 0 rfl) ?_
  refine t_ffo X hT w hF 1 (by decide) k_f_Ff_21 rfl d_Ff_irreducible_1 ?_
  refine lv_aload_n X.1 X.2.1 d_Ff_irreducible_4 rfl (lv_at hl 0 rfl) ?_
  refine lv_iload_n X.1 X.2.1 d_Ff_irreducible_5 rfl (lv_at hl 1 rfl) ?_
  refine x_cVr (n := 1) (i := 122) (ci := 4) (k1 := 1) (As := [.int (iI (a))]) (rest := [.ref (ad (125))]) X ev hnx hlk w hml hl.1 (c_Ff_register hst hT hO hF (r := a) (by omega)) (fun E C' h => h) (by omega) (by rw [mkV_O (by decide)]; exact hF.1) rfl k_m_Ff_72 k_im_Ff_register k_se_Ff_register k_i_Ff k_co_Ff_register (by decide +kernel) rfl ⟨Nat.le_of_ble_eq_true rfl, Nat.le_of_ble_eq_true rfl⟩ ⟨rfl, rfl⟩ ⟨by decide, by decide⟩ (by decide) (by decide) rfl (Nat.le_of_ble_eq_true rfl) d_Ff_irreducible_6 (fun r' C' H locs hp w => ?_)
  obtain ⟨k0, rfl, rfl⟩ := hp
  refine w_cVi (n := 1) (i := 125) (ci := 2) (As := [.ref (ad (2 * ((21 + a.toNat))))]) (rest := []) X w hml hl.1 (c_Cu_cannotBeCut hT (G := G) hO hU (k := 21 + a.toNat) (by omega) hW (hRg _ (by omega)) (by rw [h15]; exact xP_ok25 (by omega)) (by rw [h15, xP_dg]; omega)) (by omega) (by rw [mkV_O (by decide)]; exact hU.1) rfl k_m_Ff_165 k_im_Cu_cannotBeCut k_se_Cu_cannotBeCut k_i_Cu k_co_Cu_cannotBeCut (by decide +kernel) rfl ⟨Nat.le_of_ble_eq_true rfl, Nat.le_of_ble_eq_true rfl⟩ ⟨rfl, rfl⟩ ⟨by decide, by decide⟩ rfl (Nat.le_of_ble_eq_true rfl) d_Ff_irreducible_9 (fun r' C' H locs hp w => ?_)
  obtain ⟨G6, rfl, q1, q2, rfl⟩ := hp
  rw [h15]
  refine x_zret X hr (by cases irrC pr inv (G (21 + a.toNat)) xP <;> rfl) hlk w ⟨k0, rfl, clP.same hcl q1 (fun j hj h => q2 j (by omega) (by omega) (by omega) (by omega) (by omega) (by omega) (by omega))⟩ d_Ff_irreducible_12 (by decide) (by decide)
theorem c_Ff_order {l : Launch} (hst : l.stackTraces = false) {D : va_G} {cs : Nat → ClassId} {A : Nat → Prop} {ad : Nat → Nat} {T : Nat} (hT : 132 ≤ T) {G : Nat → Nat → Int} {O : Nat → va_E} {pr : Int} {inv : Nat → Int} {K : KS} {ph : Nat → Nat} {lo hi : Nat → Int} (hcl : clI cs ad pr inv K ph lo hi G O) {a : Int} (ha9 : rg a) : FXi l y_Ff_order ws_Ff_order { frames := 7, cells := 2, slots := 12, locals := 142 } D cs A ad T [.ref (ad (122)), .int (iI (a))] (mkV cs ad (rV G) O) (fun x C' => (0 ≤ a ∧ a ≤ 15) ∧ 1 ≤ dg 300 (G (21 + a.toNat)) ∧ x = iI (ordC pr inv xP (G (21 + a.toNat))) ∧ clP cs ad pr inv K (fun r => G (21 + r)) O C') (fun E C' => C' = (mkV cs ad (rV G) O) ∧ ((E = xNSE ∧ outF a 0 15 = 1) ∨ (E = xIAE ∧ (0 ≤ a ∧ a ≤ 15) ∧ dg 300 (G (21 + a.toNat)) < 1))) 2 := by
  refine f_bodyi (by decide) (Nat.le_of_ble_eq_true rfl) ?_
  intro p e s m below meth c X hr hlk hml hnx ev w ls hl
  have hl : lv_has ls 3 [(0, .ref (ad (122))), (1, .int (iI (a)))] := hl
  obtain ⟨hO, hF, hKc, hS, hW, hRg, h14, h15, h18⟩ := id hcl
  have hU := hKc.1
  have hI : invP pr inv := hO.2.2
  have hpr := hI.1
  refine lv_aload_n X.1 X.2.1 d_Ff_order_0 rfl (lv_at hl 0 rfl) ?_
  refine lv_iload_n X.1 X.2.1 d_Ff_order_1 rfl (lv_at hl 1 rfl) ?_
  refine x_cVr (n := 1) (i := 122) (ci := 4) (k1 := 1) (As := [.int (iI (a))]) (rest := []) X ev hnx hlk w hml hl.1 (c_Ff_register hst hT hO hF (r := a) (by omega)) (fun E C' h => ⟨h.1, Or.inl ⟨h.2.1, h.2.2⟩⟩) (by omega) (by rw [mkV_O (by decide)]; exact hF.1) rfl k_m_Ff_72 k_im_Ff_register k_se_Ff_register k_i_Ff k_co_Ff_register (by decide +kernel) rfl ⟨Nat.le_of_ble_eq_true rfl, Nat.le_of_ble_eq_true rfl⟩ ⟨rfl, rfl⟩ ⟨by decide, by decide⟩ (by decide) (by decide) rfl (Nat.le_of_ble_eq_true rfl) d_Ff_order_2 (fun r' C' H locs hp w => ?_)
  obtain ⟨k0, rfl, rfl⟩ := hp
  refine lv_astore_n (lv' := [(2, .ref (ad (2 * ((21 + a.toNat))))), (0, .ref (ad (122))), (1, .int (iI (a)))]) X.1 X.2.1 d_Ff_order_5 rfl hl (by decide) rfl (fun ls hl => ?_)
  refine lv_aload_n X.1 X.2.1 d_Ff_order_6 rfl (lv_at hl 0 rfl) ?_
  refine x_cSv (n := 1) (k1 := 1) (As := [.ref (ad (2 * ((21 + a.toNat))))]) (rest := []) X ev hnx hlk w hml hl.1 (c_Ff_needDegree hst hT (k := 21 + a.toNat) (by omega)) (fun E C' h => ⟨h.1, Or.inr ⟨h.2.1, k0, h.2.2⟩⟩) k_m_Ff_115 k_st_Ff_needDegree k_i_Ff k_co_Ff_needDegree (by decide +kernel) rfl ⟨Nat.le_of_ble_eq_true rfl, Nat.le_of_ble_eq_true rfl⟩ ⟨rfl, rfl⟩ ⟨by decide, by decide⟩ (by decide) (by decide) rfl (Nat.le_of_ble_eq_true rfl) d_Ff_order_7 (fun C' H locs hp w => ?_)
  obtain ⟨k1, rfl⟩ := hp
  refine lv_aload_n X.1 X.2.1 d_Ff_order_10 rfl (lv_at hl 1 rfl) ?_
  refine t_ffo X hT w hF 2 (by decide) k_f_Ff_28 rfl d_Ff_order_11 ?_
  refine lv_aload_n X.1 X.2.1 d_Ff_order_14 rfl (lv_at hl 0 rfl) ?_
  refine w_cVi (n := 1) (i := 128) (ci := 3) (As := [.ref (ad (2 * ((21 + a.toNat))))]) (rest := []) X w hml hl.1 (c_Os_search hT (G := G) hO hS (d := 21 + a.toNat) (by omega) hW (by rw [h18]; exact xP_ok25 (by omega)) (hRg _ (by omega)) (by omega)) (by omega) (by rw [mkV_O (by decide)]; exact hS.1) rfl k_m_Ff_169 k_im_Os_search k_se_Os_search k_i_Os k_co_Os_search (by decide +kernel) rfl ⟨Nat.le_of_ble_eq_true rfl, Nat.le_of_ble_eq_true rfl⟩ ⟨rfl, rfl⟩ ⟨by decide, by decide⟩ rfl (Nat.le_of_ble_eq_true rfl) d_Ff_order_15 (fun r' C' H locs hp w => ?_)
  obtain ⟨G6, O6, lo6, hi6, rfl, q1, q2, q3, q4, rfl⟩ := hp
  rw [h18]
  refine x_iret X hr hlk w ⟨k0, k1, rfl, G6, O6, ph, lo6, hi6, rfl, ⟨?_, ?_, ?_, q4, q1, ?_, ?_, ?_, ?_⟩, fun r hr => q2 _ (by omega) (by omega) (by omega) (by omega), fun i hi => q3 i (by omega) (by omega)⟩ d_Ff_order_18 (by decide) (by decide)
  · exact ⟨by rw [q3 123 (by decide) (by decide)]; exact hO.1, by rw [q3 124 (by decide) (by decide)]; exact hO.2.1, hO.2.2⟩
  · exact ⟨by rw [q3 122 (by decide) (by decide)]; exact hF.1, by rw [q3 131 (by decide) (by decide)]; exact hF.2⟩
  · refine ⟨⟨by rw [q3 125 (by decide) (by decide)]; exact hU.1, by rw [q3 126 (by decide) (by decide)]; exact hU.2.1, by rw [q3 127 (by decide) (by decide)]; exact hU.2.2.1, hU.2.2.2⟩, fun i hi => ?_, hKc.2.2⟩
    have hp := hU.2.2.2.2.1 i hi
    rw [q2 _ (by omega) (by omega) (by omega) (by omega)]
    exact hKc.2.1 i hi
  · intro r hr; rw [q2 _ (by omega) (by omega) (by omega) (by omega)]; exact hRg r hr
  · rw [q2 14 (by decide) (by decide) (by decide) (by decide)]; exact h14
  · rw [q2 15 (by decide) (by decide) (by decide) (by decide)]; exact h15
  · rw [q2 18 (by decide) (by decide) (by decide) (by decide)]; exact h18
theorem c_Ff_linear {l : Launch} (hst : l.stackTraces = false) {D : va_G} {cs : Nat → ClassId} {A : Nat → Prop} {ad : Nat → Nat} {T : Nat} (hT : 132 ≤ T) {G : Nat → Nat → Int} {O : Nat → va_E} {pr : Int} {inv : Nat → Int} {K : KS} {ph : Nat → Nat} {lo hi : Nat → Int} (hcl : clI cs ad pr inv K ph lo hi G O) {t a : Int} (ht9 : rg t) (ha9 : rg a) : FXi l y_Ff_linear ws_Ff_linear { frames := 7, cells := 3, slots := 18, locals := 121 } D cs A ad T [.ref (ad (122)), .int (iI (t)), .int (iI (a))] (mkV cs ad (rV G) O) (fun x C' => (0 ≤ t ∧ t ≤ 15) ∧ (0 ≤ a ∧ a ≤ 15) ∧ 0 ≤ dg 300 (G (21 + a.toNat)) ∧ x = iI (dg 300 (linL pr inv 0 pr.toNat (oneP, G (21 + a.toNat))).1) ∧ okp pr 25 (linL pr inv 0 pr.toNat (oneP, G (21 + a.toNat))).1 ∧ clP cs ad pr inv K (va_up (fun r => G (21 + r)) t.toNat (linL pr inv 0 pr.toNat (oneP, G (21 + a.toNat))).1) O C') (fun E C' => C' = (mkV cs ad (rV G) O) ∧ ((E = xNSE ∧ (outF t 0 15 = 1 ∨ outF a 0 15 = 1)) ∨ (E = xIAE ∧ (0 ≤ t ∧ t ≤ 15) ∧ (0 ≤ a ∧ a ≤ 15) ∧ dg 300 (G (21 + a.toNat)) < 0))) 3 := by
  refine f_bodyi (by decide) (Nat.le_of_ble_eq_true rfl) ?_
  intro p e s m below meth c X hr hlk hml hnx ev w ls hl
  have hl : lv_has ls 5 [(0, .ref (ad (122))), (1, .int (iI (t))), (2, .int (iI (a)))] := hl
  obtain ⟨hO, hF, hKc, hS, hW, hRg, h14, h15, h18⟩ := id hcl
  have hU := hKc.1
  have hI : invP pr inv := hO.2.2
  have hpr := hI.1
  refine lv_aload_n X.1 X.2.1 d_Ff_linear_0 rfl (lv_at hl 0 rfl) ?_
  refine lv_iload_n X.1 X.2.1 d_Ff_linear_1 rfl (lv_at hl 1 rfl) ?_
  refine x_cVr (n := 1) (i := 122) (ci := 4) (k1 := 1) (As := [.int (iI (t))]) (rest := []) X ev hnx hlk w hml hl.1 (c_Ff_register hst hT hO hF (r := t) (by omega)) (fun E C' h => ⟨h.1, Or.inl ⟨h.2.1, Or.inl h.2.2⟩⟩) (by omega) (by rw [mkV_O (by decide)]; exact hF.1) rfl k_m_Ff_72 k_im_Ff_register k_se_Ff_register k_i_Ff k_co_Ff_register (by decide +kernel) rfl ⟨Nat.le_of_ble_eq_true rfl, Nat.le_of_ble_eq_true rfl⟩ ⟨rfl, rfl⟩ ⟨by decide, by decide⟩ (by decide) (by decide) rfl (Nat.le_of_ble_eq_true rfl) d_Ff_linear_2 (fun r' C' H locs hp w => ?_)
  obtain ⟨k0, rfl, rfl⟩ := hp
  refine lv_astore_n (lv' := [(3, .ref (ad (2 * ((21 + t.toNat))))), (0, .ref (ad (122))), (1, .int (iI (t))), (2, .int (iI (a)))]) X.1 X.2.1 d_Ff_linear_5 rfl hl (by decide) rfl (fun ls hl => ?_)
  refine lv_aload_n X.1 X.2.1 d_Ff_linear_6 rfl (lv_at hl 1 rfl) ?_
  refine lv_iload_n X.1 X.2.1 d_Ff_linear_7 rfl (lv_at hl 3 rfl) ?_
  refine x_cVr (n := 1) (i := 122) (ci := 4) (k1 := 1) (As := [.int (iI (a))]) (rest := []) X ev hnx hlk w hml hl.1 (c_Ff_register hst hT hO hF (r := a) (by omega)) (fun E C' h => ⟨h.1, Or.inl ⟨h.2.1, Or.inr h.2.2⟩⟩) (by omega) (by rw [mkV_O (by decide)]; exact hF.1) rfl k_m_Ff_72 k_im_Ff_register k_se_Ff_register k_i_Ff k_co_Ff_register (by decide +kernel) rfl ⟨Nat.le_of_ble_eq_true rfl, Nat.le_of_ble_eq_true rfl⟩ ⟨rfl, rfl⟩ ⟨by decide, by decide⟩ (by decide) (by decide) rfl (Nat.le_of_ble_eq_true rfl) d_Ff_linear_8 (fun r' C' H locs hp w => ?_)
  obtain ⟨k0a, rfl, rfl⟩ := hp
  refine lv_astore (lv' := [(4, .ref (ad (2 * ((21 + a.toNat))))), (3, .ref (ad (2 * ((21 + t.toNat))))), (0, .ref (ad (122))), (1, .int (iI (t))), (2, .int (iI (a)))]) X.1 X.2.1 d_Ff_linear_11 hl (by decide) rfl (fun ls hl => ?_)
  refine lv_aload X.1 X.2.1 d_Ff_linear_13 (lv_at hl 0 rfl) ?_
  refine x_cSv (n := 1) (k1 := 1) (As := [.ref (ad (2 * ((21 + a.toNat))))]) (rest := []) X ev hnx hlk w hml hl.1 (c_Ff_needNotZero hst hT (k := 21 + a.toNat) (by omega)) (fun E C' h => ⟨h.1, Or.inr ⟨h.2.1, k0, k0a, h.2.2⟩⟩) k_m_Ff_136 k_st_Ff_needNotZero k_i_Ff k_co_Ff_needNotZero (by decide +kernel) rfl ⟨Nat.le_of_ble_eq_true rfl, Nat.le_of_ble_eq_true rfl⟩ ⟨rfl, rfl⟩ ⟨by decide, by decide⟩ (by decide) (by decide) rfl (Nat.le_of_ble_eq_true rfl) d_Ff_linear_15 (fun C' H locs hp w => ?_)
  obtain ⟨k1, rfl⟩ := hp
  refine lv_aload_n X.1 X.2.1 d_Ff_linear_18 rfl (lv_at hl 2 rfl) ?_
  refine t_ffo X hT w hF 5 (by decide) k_f_Ff_45 rfl d_Ff_linear_19 ?_
  refine lv_aload X.1 X.2.1 d_Ff_linear_22 (lv_at hl 0 rfl) ?_
  refine w_cVv (n := 1) (i := 2 * 20) (ci := 0) (As := [.ref (ad (2 * ((21 + a.toNat))))]) (rest := []) X w hml hl.1 (c_Po_copyFrom hT (G := G) (k := 20) (q := 21 + a.toNat) (by omega) (by omega) (by omega) (hW _ (by omega)) (hW _ (by omega)) (by rw [wd_2 (by omega)]; have := hW (21 + a.toNat) (by omega); rw [wd_2 (by omega)] at this; exact this)) (by omega) (mkV_o (by omega)) rfl k_m_Ff_159 k_im_Po_copyFrom k_se_Po_copyFrom k_i_Po k_co_Po_copyFrom (by decide +kernel) rfl ⟨Nat.le_of_ble_eq_true rfl, Nat.le_of_ble_eq_true rfl⟩ ⟨rfl, rfl⟩ ⟨by decide, by decide⟩ rfl (Nat.le_of_ble_eq_true rfl) d_Ff_linear_24 (fun C' H locs hp w => ?_)
  subst hp
  obtain ⟨Gw1, eGw1⟩ : ∃ gg : Nat → Nat → Int, gg = va_up G 20 (G (21 + a.toNat)) := ⟨_, rfl⟩
  rw [← eGw1] at w
  have e20 : Gw1 20 = G (21 + a.toNat) := by rw [eGw1, va_up_self]
  have hW1 : WF Gw1 := by rw [eGw1]; exact hW.up (by rw [wd_2 (by omega)]; exact (hRg _ (by omega)).ok hpr.2)
  have e15 : Gw1 15 = xP := by rw [eGw1, va_up_ne _ _ (by decide), h15]
  refine lv_aload_n X.1 X.2.1 d_Ff_linear_27 rfl (lv_at hl 2 rfl) ?_
  refine t_ffo X hT w hF 1 (by decide) k_f_Ff_21 rfl d_Ff_linear_28 ?_
  refine lv_aload_n X.1 X.2.1 d_Ff_linear_31 rfl (lv_at hl 2 rfl) ?_
  refine t_ffo X hT w hF 4 (by decide) k_f_Ff_41 rfl d_Ff_linear_32 ?_
  refine lv_aload_n X.1 X.2.1 d_Ff_linear_35 rfl (lv_at hl 2 rfl) ?_
  refine t_ffo X hT w hF 5 (by decide) k_f_Ff_45 rfl d_Ff_linear_36 ?_
  refine w_cVv (n := 2) (i := 125) (ci := 2) (As := [.ref (ad (2 * 19)), .ref (ad (2 * 20))]) (rest := []) X w hml hl.1 (c_Cu_collectLinear hT (G := Gw1) hO hU (t := 19) (q := 20) (by omega) (by omega) (by omega) hW1 e15 (by rw [e20]; exact hRg _ (by omega)) (by rw [e20]; exact k1)) (by omega) (by rw [mkV_O (by decide)]; exact hU.1) rfl k_m_Ff_172 k_im_Cu_collectLinear k_se_Cu_collectLinear k_i_Cu k_co_Cu_collectLinear (by decide +kernel) rfl ⟨Nat.le_of_ble_eq_true rfl, Nat.le_of_ble_eq_true rfl⟩ ⟨rfl, rfl⟩ ⟨by decide, by decide⟩ rfl (Nat.le_of_ble_eq_true rfl) d_Ff_linear_39 (fun C' H locs hp w => ?_)
  obtain ⟨G6, rfl, q1, q2, q3, q4⟩ := hp
  rw [e20] at q2
  rw [q2] at q3
  refine lv_aload_n X.1 X.2.1 d_Ff_linear_42 rfl (lv_at hl 2 rfl) ?_
  refine lv_aload_n X.1 X.2.1 d_Ff_linear_43 rfl (lv_at hl 1 rfl) ?_
  refine w_cVi (n := 1) (i := 122) (ci := 4) (As := [.ref (ad (2 * ((21 + t.toNat))))]) (rest := []) X w hml hl.1 (c_Ff_store hT (G := G6) hO hF (k := (21 + t.toNat)) (by omega) q1) (by omega) (by rw [mkV_O (by decide)]; exact hF.1) rfl k_m_Ff_109 k_im_Ff_store k_se_Ff_store k_i_Ff k_co_Ff_store (by decide +kernel) rfl ⟨Nat.le_of_ble_eq_true rfl, Nat.le_of_ble_eq_true rfl⟩ ⟨rfl, rfl⟩ ⟨by decide, by decide⟩ rfl (Nat.le_of_ble_eq_true rfl) d_Ff_linear_44 (fun r' C' H locs hp w => ?_)
  obtain ⟨rfl, rfl⟩ := hp
  refine x_iret X hr hlk w ⟨k0, k0a, k1, by rw [q2], q3, clP.put hcl (by omega) q3 (q1.up (by rw [wd_2 (by omega), q2]; exact q3.ok hpr.2)) (fun j hj h h2 => by rw [va_up_ne _ _ h2, q4 j (by omega) (by omega) (by omega) (by omega) (by omega) (by omega), eGw1, va_up_ne _ _ (by omega)]) (by rw [va_up_self, q2])⟩ d_Ff_linear_47 (by decide) (by decide)
theorem c_Ff_power {l : Launch} (hst : l.stackTraces = false) {D : va_G} {cs : Nat → ClassId} {A : Nat → Prop} {ad : Nat → Nat} {T : Nat} (hT : 132 ≤ T) {G : Nat → Nat → Int} {O : Nat → va_E} {pr : Int} {inv : Nat → Int} {K : KS} {ph : Nat → Nat} {lo hi : Nat → Int} (hcl : clI cs ad pr inv K ph lo hi G O) {t a n d : Int} (ht9 : rg t) (ha9 : rg a) (hn9 : rg n) (hd9 : rg d) : FXi l y_Ff_power ws_Ff_power { frames := 7, cells := 4, slots := 24, locals := 123 } D cs A ad T [.ref (ad (122)), .int (iI (t)), .int (iI (a)), .int (iI (n)), .int (iI (d))] (mkV cs ad (rV G) O) (fun x C' => ((0 ≤ t ∧ t ≤ 15) ∧ (0 ≤ a ∧ a ≤ 15) ∧ (0 ≤ d ∧ d ≤ 15)) ∧ (0 ≤ n ∧ 1 ≤ dg 300 (G (21 + d.toNat))) ∧ x = iI (dg 300 (powP pr inv (G (21 + a.toNat)) n.toNat (G (21 + d.toNat)))) ∧ okp pr 25 (powP pr inv (G (21 + a.toNat)) n.toNat (G (21 + d.toNat))) ∧ clP cs ad pr inv K (va_up (fun r => G (21 + r)) t.toNat (powP pr inv (G (21 + a.toNat)) n.toNat (G (21 + d.toNat)))) O C') (fun E C' => C' = (mkV cs ad (rV G) O) ∧ ((E = xNSE ∧ (outF t 0 15 = 1 ∨ outF a 0 15 = 1 ∨ outF d 0 15 = 1)) ∨ (E = xIAE ∧ ((0 ≤ t ∧ t ≤ 15) ∧ (0 ≤ a ∧ a ≤ 15) ∧ (0 ≤ d ∧ d ≤ 15)) ∧ (n < 0 ∨ dg 300 (G (21 + d.toNat)) < 1)))) 4 := by
  refine f_bodyi (by decide) (Nat.le_of_ble_eq_true rfl) ?_
  intro p e s m below meth c X hr hlk hml hnx ev w ls hl
  have hl : lv_has ls 8 [(0, .ref (ad (122))), (1, .int (iI (t))), (2, .int (iI (a))), (3, .int (iI (n))), (4, .int (iI (d)))] := hl
  obtain ⟨hO, hF, hKc, hS, hW, hRg, h14, h15, h18⟩ := id hcl
  have hU := hKc.1
  have hI : invP pr inv := hO.2.2
  have hpr := hI.1
  refine lv_aload_n X.1 X.2.1 d_Ff_power_0 rfl (lv_at hl 0 rfl) ?_
  refine lv_iload_n X.1 X.2.1 d_Ff_power_1 rfl (lv_at hl 1 rfl) ?_
  refine x_cVr (n := 1) (i := 122) (ci := 4) (k1 := 1) (As := [.int (iI (t))]) (rest := []) X ev hnx hlk w hml hl.1 (c_Ff_register hst hT hO hF (r := t) (by omega)) (fun E C' h => ⟨h.1, Or.inl ⟨h.2.1, Or.inl h.2.2⟩⟩) (by omega) (by rw [mkV_O (by decide)]; exact hF.1) rfl k_m_Ff_72 k_im_Ff_register k_se_Ff_register k_i_Ff k_co_Ff_register (by decide +kernel) rfl ⟨Nat.le_of_ble_eq_true rfl, Nat.le_of_ble_eq_true rfl⟩ ⟨rfl, rfl⟩ ⟨by decide, by decide⟩ (by decide) (by decide) rfl (Nat.le_of_ble_eq_true rfl) d_Ff_power_2 (fun r' C' H locs hp w => ?_)
  obtain ⟨k0, rfl, rfl⟩ := hp
  refine lv_astore (lv' := [(5, .ref (ad (2 * ((21 + t.toNat))))), (0, .ref (ad (122))), (1, .int (iI (t))), (2, .int (iI (a))), (3, .int (iI (n))), (4, .int (iI (d)))]) X.1 X.2.1 d_Ff_power_5 hl (by decide) rfl (fun ls hl => ?_)
  refine lv_aload_n X.1 X.2.1 d_Ff_power_7 rfl (lv_at hl 1 rfl) ?_
  refine lv_iload_n X.1 X.2.1 d_Ff_power_8 rfl (lv_at hl 3 rfl) ?_
  refine x_cVr (n := 1) (i := 122) (ci := 4) (k1 := 1) (As := [.int (iI (a))]) (rest := []) X ev hnx hlk w hml hl.1 (c_Ff_register hst hT hO hF (r := a) (by omega)) (fun E C' h => ⟨h.1, Or.inl ⟨h.2.1, Or.inr (Or.inl h.2.2)⟩⟩) (by omega) (by rw [mkV_O (by decide)]; exact hF.1) rfl k_m_Ff_72 k_im_Ff_register k_se_Ff_register k_i_Ff k_co_Ff_register (by decide +kernel) rfl ⟨Nat.le_of_ble_eq_true rfl, Nat.le_of_ble_eq_true rfl⟩ ⟨rfl, rfl⟩ ⟨by decide, by decide⟩ (by decide) (by decide) rfl (Nat.le_of_ble_eq_true rfl) d_Ff_power_9 (fun r' C' H locs hp w => ?_)
  obtain ⟨k0a, rfl, rfl⟩ := hp
  refine lv_astore (lv' := [(6, .ref (ad (2 * ((21 + a.toNat))))), (5, .ref (ad (2 * ((21 + t.toNat))))), (0, .ref (ad (122))), (1, .int (iI (t))), (2, .int (iI (a))), (3, .int (iI (n))), (4, .int (iI (d)))]) X.1 X.2.1 d_Ff_power_12 hl (by decide) rfl (fun ls hl => ?_)
  refine lv_aload_n X.1 X.2.1 d_Ff_power_14 rfl (lv_at hl 2 rfl) ?_
  refine lv_iload X.1 X.2.1 d_Ff_power_15 (lv_at hl 6 rfl) ?_
  refine x_cVr (n := 1) (i := 122) (ci := 4) (k1 := 1) (As := [.int (iI (d))]) (rest := []) X ev hnx hlk w hml hl.1 (c_Ff_register hst hT hO hF (r := d) (by omega)) (fun E C' h => ⟨h.1, Or.inl ⟨h.2.1, Or.inr (Or.inr h.2.2)⟩⟩) (by omega) (by rw [mkV_O (by decide)]; exact hF.1) rfl k_m_Ff_72 k_im_Ff_register k_se_Ff_register k_i_Ff k_co_Ff_register (by decide +kernel) rfl ⟨Nat.le_of_ble_eq_true rfl, Nat.le_of_ble_eq_true rfl⟩ ⟨rfl, rfl⟩ ⟨by decide, by decide⟩ (by decide) (by decide) rfl (Nat.le_of_ble_eq_true rfl) d_Ff_power_17 (fun r' C' H locs hp w => ?_)
  obtain ⟨k0d, rfl, rfl⟩ := hp
  refine lv_astore (lv' := [(7, .ref (ad (2 * ((21 + d.toNat))))), (6, .ref (ad (2 * ((21 + a.toNat))))), (5, .ref (ad (2 * ((21 + t.toNat))))), (0, .ref (ad (122))), (1, .int (iI (t))), (2, .int (iI (a))), (3, .int (iI (n))), (4, .int (iI (d)))]) X.1 X.2.1 d_Ff_power_20 hl (by decide) rfl (fun ls hl => ?_)
  refine lv_iload_n X.1 X.2.1 d_Ff_power_22 rfl (lv_at hl 6 rfl) ?_
  refine z_ge (a := n) (tgt := 36) X (by omega) d_Ff_power_23 (by decide) (fun h_23 => ?_) (fun h_23 => ?_)
  · refine lv_aload X.1 X.2.1 d_Ff_power_36 (lv_at hl 0 rfl) ?_
    refine x_cSv (n := 1) (k1 := 1) (As := [.ref (ad (2 * ((21 + d.toNat))))]) (rest := []) X ev hnx hlk w hml hl.1 (c_Ff_needDegree hst hT (k := 21 + d.toNat) (by omega)) (fun E C' h => ⟨h.1, Or.inr ⟨h.2.1, ⟨k0, k0a, k0d⟩, Or.inr h.2.2⟩⟩) k_m_Ff_115 k_st_Ff_needDegree k_i_Ff k_co_Ff_needDegree (by decide +kernel) rfl ⟨Nat.le_of_ble_eq_true rfl, Nat.le_of_ble_eq_true rfl⟩ ⟨rfl, rfl⟩ ⟨by decide, by decide⟩ (by decide) (by decide) rfl (Nat.le_of_ble_eq_true rfl) d_Ff_power_38 (fun C' H locs hp w => ?_)
    obtain ⟨k1, rfl⟩ := hp
    refine lv_aload_n X.1 X.2.1 d_Ff_power_41 rfl (lv_at hl 3 rfl) ?_
    refine t_ffo X hT w hF 0 (by decide) k_f_Ff_12 rfl d_Ff_power_42 ?_
    refine lv_aload_n X.1 X.2.1 d_Ff_power_45 rfl (lv_at hl 3 rfl) ?_
    refine t_ffo X hT w hF 4 (by decide) k_f_Ff_41 rfl d_Ff_power_46 ?_
    refine lv_aload X.1 X.2.1 d_Ff_power_49 (lv_at hl 1 rfl) ?_
    refine lv_iload_n X.1 X.2.1 d_Ff_power_51 rfl (lv_at hl 6 rfl) ?_
    refine lv_aload X.1 X.2.1 d_Ff_power_52 (lv_at hl 0 rfl) ?_
    have hcr := c_Ar_raise (l := l) (D := D) (A := A) hT (G := G) hO (t := 19) (a := 21 + a.toNat) (d := 21 + d.toNat) (n := n.toNat) (by omega) (by omega) (by omega) (by omega) (by omega) hW (hRg _ (by omega)) (hRg _ (by omega)) (by omega)
    rw [show ((n.toNat : Nat) : Int) = n by omega] at hcr
    refine w_cVv (n := 4) (i := 123) (ci := 1) (As := [.ref (ad (2 * 19)), .ref (ad (2 * ((21 + a.toNat)))), .int (iI (n)), .ref (ad (2 * ((21 + d.toNat))))]) (rest := []) X w hml hl.1 (hcr) (by omega) (by rw [mkV_O (by decide)]; exact hO.1) rfl k_m_Ff_119 k_im_Ar_raise k_se_Ar_raise k_i_Ar k_co_Ar_raise (by decide +kernel) rfl ⟨Nat.le_of_ble_eq_true rfl, Nat.le_of_ble_eq_true rfl⟩ ⟨rfl, rfl⟩ ⟨by decide, by decide⟩ rfl (Nat.le_of_ble_eq_true rfl) d_Ff_power_54 (fun C' H locs hp w => ?_)
    obtain ⟨G6, rfl, q1, q2, q3, q4⟩ := hp
    rw [q2] at q3
    refine lv_aload_n X.1 X.2.1 d_Ff_power_57 rfl (lv_at hl 3 rfl) ?_
    refine lv_aload X.1 X.2.1 d_Ff_power_58 (lv_at hl 2 rfl) ?_
    refine w_cVi (n := 1) (i := 122) (ci := 4) (As := [.ref (ad (2 * ((21 + t.toNat))))]) (rest := []) X w hml hl.1 (c_Ff_store hT (G := G6) hO hF (k := (21 + t.toNat)) (by omega) q1) (by omega) (by rw [mkV_O (by decide)]; exact hF.1) rfl k_m_Ff_109 k_im_Ff_store k_se_Ff_store k_i_Ff k_co_Ff_store (by decide +kernel) rfl ⟨Nat.le_of_ble_eq_true rfl, Nat.le_of_ble_eq_true rfl⟩ ⟨rfl, rfl⟩ ⟨by decide, by decide⟩ rfl (Nat.le_of_ble_eq_true rfl) d_Ff_power_60 (fun r' C' H locs hp w => ?_)
    obtain ⟨rfl, rfl⟩ := hp
    refine x_iret X hr hlk w ⟨⟨k0, k0a, k0d⟩, ⟨by omega, k1⟩, by rw [q2], q3, clP.put hcl (by omega) q3 (q1.up (by rw [wd_2 (by omega), q2]; exact q3.ok hpr.2)) (fun j hj h h2 => by rw [va_up_ne _ _ h2, q4 j (by omega) (by omega) (by omega) (by omega)]) (by rw [va_up_self, q2])⟩ d_Ff_power_63 (by decide) (by decide)
  · exact x_thrIAE (is := 113) (text := "the exponent is below 0") X hst ev (by decide) k_c_Ff_52 k_i_IllegalArgumentException w (⟨rfl, Or.inr ⟨rfl, ⟨k0, k0a, k0d⟩, Or.inl (by omega)⟩⟩) hml hl.1 hnx hlk d_Ff_power_26 d_Ff_power_29 d_Ff_power_30 d_Ff_power_32 d_Ff_power_35 (by decide) (by decide) (by decide) (by decide) (by decide) (by decide)
theorem c_Ff_inverse {l : Launch} (hst : l.stackTraces = false) {D : va_G} {cs : Nat → ClassId} {A : Nat → Prop} {ad : Nat → Nat} {T : Nat} (hT : 132 ≤ T) {G : Nat → Nat → Int} {O : Nat → va_E} {pr : Int} {inv : Nat → Int} {K : KS} {ph : Nat → Nat} {lo hi : Nat → Int} (hcl : clI cs ad pr inv K ph lo hi G O) {t a d : Int} (ht9 : rg t) (ha9 : rg a) (hd9 : rg d) : FXi l y_Ff_inverse ws_Ff_inverse { frames := 7, cells := 5, slots := 30, locals := 111 } D cs A ad T [.ref (ad (122)), .int (iI (t)), .int (iI (a)), .int (iI (d))] (mkV cs ad (rV G) O) (fun x C' => ((0 ≤ t ∧ t ≤ 15) ∧ (0 ≤ a ∧ a ≤ 15) ∧ (0 ≤ d ∧ d ≤ 15)) ∧ 1 ≤ dg 300 (G (21 + d.toNat)) ∧ 0 ≤ dg 300 (invZ pr inv (G (21 + a.toNat)) (G (21 + d.toNat))).1 ∧ x = iI (dg 300 (fun x => (invZ pr inv (G (21 + a.toNat)) (G (21 + d.toNat))).2 x * inv ((invZ pr inv (G (21 + a.toNat)) (G (21 + d.toNat))).1 (dg 300 (invZ pr inv (G (21 + a.toNat)) (G (21 + d.toNat))).1).toNat).toNat % pr)) ∧ okp pr 25 (fun x => (invZ pr inv (G (21 + a.toNat)) (G (21 + d.toNat))).2 x * inv ((invZ pr inv (G (21 + a.toNat)) (G (21 + d.toNat))).1 (dg 300 (invZ pr inv (G (21 + a.toNat)) (G (21 + d.toNat))).1).toNat).toNat % pr) ∧ clP cs ad pr inv K (va_up (fun r => G (21 + r)) t.toNat (fun x => (invZ pr inv (G (21 + a.toNat)) (G (21 + d.toNat))).2 x * inv ((invZ pr inv (G (21 + a.toNat)) (G (21 + d.toNat))).1 (dg 300 (invZ pr inv (G (21 + a.toNat)) (G (21 + d.toNat))).1).toNat).toNat % pr)) O C') (fun E C' => (C' = (mkV cs ad (rV G) O) ∧ ((E = xNSE ∧ (outF t 0 15 = 1 ∨ outF a 0 15 = 1 ∨ outF d 0 15 = 1)) ∨ (E = xIAE ∧ ((0 ≤ t ∧ t ≤ 15) ∧ (0 ≤ a ∧ a ≤ 15) ∧ (0 ≤ d ∧ d ≤ 15)) ∧ dg 300 (G (21 + d.toNat)) < 1))) ∨ (E = xISE ∧ ((0 ≤ t ∧ t ≤ 15) ∧ (0 ≤ a ∧ a ≤ 15) ∧ (0 ≤ d ∧ d ≤ 15)) ∧ 1 ≤ dg 300 (G (21 + d.toNat)) ∧ dg 300 (invZ pr inv (G (21 + a.toNat)) (G (21 + d.toNat))).1 < 0 ∧ clP cs ad pr inv K (fun r => G (21 + r)) O C')) 5 := by
  refine f_bodyi (by decide) (Nat.le_of_ble_eq_true rfl) ?_
  intro p e s m below meth c X hr hlk hml hnx ev w ls hl
  have hl : lv_has ls 7 [(0, .ref (ad (122))), (1, .int (iI (t))), (2, .int (iI (a))), (3, .int (iI (d)))] := hl
  obtain ⟨hO, hF, hKc, hS, hW, hRg, h14, h15, h18⟩ := id hcl
  have hU := hKc.1
  have hI : invP pr inv := hO.2.2
  have hpr := hI.1
  refine lv_aload_n X.1 X.2.1 d_Ff_inverse_0 rfl (lv_at hl 0 rfl) ?_
  refine lv_iload_n X.1 X.2.1 d_Ff_inverse_1 rfl (lv_at hl 1 rfl) ?_
  refine x_cVr (n := 1) (i := 122) (ci := 4) (k1 := 1) (As := [.int (iI (t))]) (rest := []) X ev hnx hlk w hml hl.1 (c_Ff_register hst hT hO hF (r := t) (by omega)) (fun E C' h => Or.inl ⟨h.1, Or.inl ⟨h.2.1, Or.inl h.2.2⟩⟩) (by omega) (by rw [mkV_O (by decide)]; exact hF.1) rfl k_m_Ff_72 k_im_Ff_register k_se_Ff_register k_i_Ff k_co_Ff_register (by decide +kernel) rfl ⟨Nat.le_of_ble_eq_true rfl, Nat.le_of_ble_eq_true rfl⟩ ⟨rfl, rfl⟩ ⟨by decide, by decide⟩ (by decide) (by decide) rfl (Nat.le_of_ble_eq_true rfl) d_Ff_inverse_2 (fun r' C' H locs hp w => ?_)
  obtain ⟨k0, rfl, rfl⟩ := hp
  refine lv_astore (lv' := [(4, .ref (ad (2 * ((21 + t.toNat))))), (0, .ref (ad (122))), (1, .int (iI (t))), (2, .int (iI (a))), (3, .int (iI (d)))]) X.1 X.2.1 d_Ff_inverse_5 hl (by decide) rfl (fun ls hl => ?_)
  refine lv_aload_n X.1 X.2.1 d_Ff_inverse_7 rfl (lv_at hl 1 rfl) ?_
  refine lv_iload_n X.1 X.2.1 d_Ff_inverse_8 rfl (lv_at hl 3 rfl) ?_
  refine x_cVr (n := 1) (i := 122) (ci := 4) (k1 := 1) (As := [.int (iI (a))]) (rest := []) X ev hnx hlk w hml hl.1 (c_Ff_register hst hT hO hF (r := a) (by omega)) (fun E C' h => Or.inl ⟨h.1, Or.inl ⟨h.2.1, Or.inr (Or.inl h.2.2)⟩⟩) (by omega) (by rw [mkV_O (by decide)]; exact hF.1) rfl k_m_Ff_72 k_im_Ff_register k_se_Ff_register k_i_Ff k_co_Ff_register (by decide +kernel) rfl ⟨Nat.le_of_ble_eq_true rfl, Nat.le_of_ble_eq_true rfl⟩ ⟨rfl, rfl⟩ ⟨by decide, by decide⟩ (by decide) (by decide) rfl (Nat.le_of_ble_eq_true rfl) d_Ff_inverse_9 (fun r' C' H locs hp w => ?_)
  obtain ⟨k0a, rfl, rfl⟩ := hp
  refine lv_astore (lv' := [(5, .ref (ad (2 * ((21 + a.toNat))))), (4, .ref (ad (2 * ((21 + t.toNat))))), (0, .ref (ad (122))), (1, .int (iI (t))), (2, .int (iI (a))), (3, .int (iI (d)))]) X.1 X.2.1 d_Ff_inverse_12 hl (by decide) rfl (fun ls hl => ?_)
  refine lv_aload_n X.1 X.2.1 d_Ff_inverse_14 rfl (lv_at hl 2 rfl) ?_
  refine lv_iload_n X.1 X.2.1 d_Ff_inverse_15 rfl (lv_at hl 5 rfl) ?_
  refine x_cVr (n := 1) (i := 122) (ci := 4) (k1 := 1) (As := [.int (iI (d))]) (rest := []) X ev hnx hlk w hml hl.1 (c_Ff_register hst hT hO hF (r := d) (by omega)) (fun E C' h => Or.inl ⟨h.1, Or.inl ⟨h.2.1, Or.inr (Or.inr h.2.2)⟩⟩) (by omega) (by rw [mkV_O (by decide)]; exact hF.1) rfl k_m_Ff_72 k_im_Ff_register k_se_Ff_register k_i_Ff k_co_Ff_register (by decide +kernel) rfl ⟨Nat.le_of_ble_eq_true rfl, Nat.le_of_ble_eq_true rfl⟩ ⟨rfl, rfl⟩ ⟨by decide, by decide⟩ (by decide) (by decide) rfl (Nat.le_of_ble_eq_true rfl) d_Ff_inverse_16 (fun r' C' H locs hp w => ?_)
  obtain ⟨k0d, rfl, rfl⟩ := hp
  refine lv_astore (lv' := [(6, .ref (ad (2 * ((21 + d.toNat))))), (5, .ref (ad (2 * ((21 + a.toNat))))), (4, .ref (ad (2 * ((21 + t.toNat))))), (0, .ref (ad (122))), (1, .int (iI (t))), (2, .int (iI (a))), (3, .int (iI (d)))]) X.1 X.2.1 d_Ff_inverse_19 hl (by decide) rfl (fun ls hl => ?_)
  refine lv_aload X.1 X.2.1 d_Ff_inverse_21 (lv_at hl 0 rfl) ?_
  refine x_cSv (n := 1) (k1 := 1) (As := [.ref (ad (2 * ((21 + d.toNat))))]) (rest := []) X ev hnx hlk w hml hl.1 (c_Ff_needDegree hst hT (k := 21 + d.toNat) (by omega)) (fun E C' h => Or.inl ⟨h.1, Or.inr ⟨h.2.1, ⟨k0, k0a, k0d⟩, h.2.2⟩⟩) k_m_Ff_115 k_st_Ff_needDegree k_i_Ff k_co_Ff_needDegree (by decide +kernel) rfl ⟨Nat.le_of_ble_eq_true rfl, Nat.le_of_ble_eq_true rfl⟩ ⟨rfl, rfl⟩ ⟨by decide, by decide⟩ (by decide) (by decide) rfl (Nat.le_of_ble_eq_true rfl) d_Ff_inverse_23 (fun C' H locs hp w => ?_)
  obtain ⟨k1, rfl⟩ := hp
  refine lv_aload_n X.1 X.2.1 d_Ff_inverse_26 rfl (lv_at hl 3 rfl) ?_
  refine t_ffo X hT w hF 0 (by decide) k_f_Ff_12 rfl d_Ff_inverse_27 ?_
  refine lv_aload_n X.1 X.2.1 d_Ff_inverse_30 rfl (lv_at hl 3 rfl) ?_
  refine t_ffo X hT w hF 4 (by decide) k_f_Ff_41 rfl d_Ff_inverse_31 ?_
  refine lv_aload X.1 X.2.1 d_Ff_inverse_34 (lv_at hl 1 rfl) ?_
  refine lv_aload X.1 X.2.1 d_Ff_inverse_36 (lv_at hl 0 rfl) ?_
  refine w_cVi (n := 3) (i := 123) (ci := 1) (As := [.ref (ad (2 * 19)), .ref (ad (2 * ((21 + a.toNat)))), .ref (ad (2 * ((21 + d.toNat))))]) (rest := []) X w hml hl.1 (c_Ar_invert hT (G := G) hO (t := 19) (a := 21 + a.toNat) (d := 21 + d.toNat) (by omega) (by omega) (by omega) hW (hRg _ (by omega)) (hRg _ (by omega)) k1) (by omega) (by rw [mkV_O (by decide)]; exact hO.1) rfl k_m_Ff_123 k_im_Ar_invert k_se_Ar_invert k_i_Ar k_co_Ar_invert (by decide +kernel) rfl ⟨Nat.le_of_ble_eq_true rfl, Nat.le_of_ble_eq_true rfl⟩ ⟨rfl, rfl⟩ ⟨by decide, by decide⟩ rfl (Nat.le_of_ble_eq_true rfl) d_Ff_inverse_38 (fun r' C' H locs hp w => ?_)
  obtain ⟨G6, rfl, q1, q4, q5⟩ := hp
  rcases q5 with ⟨q6, rfl, q7⟩ | ⟨q6, rfl, q3, q2⟩
  · refine z_ne (a := 0) (tgt := 54) X (by omega) d_Ff_inverse_41 (by decide) (fun h_41 => ?_) (fun h_41 => ?_)
    · exact absurd h_41 (by omega)
    · exact x_thrISE (is := 129) (text := "there is no inverse") X hst ev (by decide) k_c_Ff_127 k_i_IllegalStateException w (Or.inr ⟨rfl, ⟨k0, k0a, k0d⟩, k1, q6, clP.same hcl q1 (fun j hj h => q4 j (by omega) (by omega) (by omega) (by omega) (by omega) (by omega) (by omega))⟩) hml hl.1 hnx hlk d_Ff_inverse_44 d_Ff_inverse_47 d_Ff_inverse_48 d_Ff_inverse_50 d_Ff_inverse_53 (by decide) (by decide) (by decide) (by decide) (by decide) (by decide)
  · rw [q2] at q3
    refine z_ne (a := 1) (tgt := 54) X (by omega) d_Ff_inverse_41 (by decide) (fun h_41 => ?_) (fun h_41 => ?_)
    · refine lv_aload_n X.1 X.2.1 d_Ff_inverse_54 rfl (lv_at hl 3 rfl) ?_
      refine lv_aload X.1 X.2.1 d_Ff_inverse_55 (lv_at hl 2 rfl) ?_
      refine w_cVi (n := 1) (i := 122) (ci := 4) (As := [.ref (ad (2 * ((21 + t.toNat))))]) (rest := []) X w hml hl.1 (c_Ff_store hT (G := G6) hO hF (k := (21 + t.toNat)) (by omega) q1) (by omega) (by rw [mkV_O (by decide)]; exact hF.1) rfl k_m_Ff_109 k_im_Ff_store k_se_Ff_store k_i_Ff k_co_Ff_store (by decide +kernel) rfl ⟨Nat.le_of_ble_eq_true rfl, Nat.le_of_ble_eq_true rfl⟩ ⟨rfl, rfl⟩ ⟨by decide, by decide⟩ rfl (Nat.le_of_ble_eq_true rfl) d_Ff_inverse_57 (fun r' C' H locs hp w => ?_)
      obtain ⟨rfl, rfl⟩ := hp
      refine x_iret X hr hlk w ⟨⟨k0, k0a, k0d⟩, k1, q6, by rw [q2], q3, clP.put hcl (by omega) q3 (q1.up (by rw [wd_2 (by omega), q2]; exact q3.ok hpr.2)) (fun j hj h h2 => by rw [va_up_ne _ _ h2, q4 j (by omega) (by omega) (by omega) (by omega) (by omega) (by omega) (by omega)]) (by rw [va_up_self, q2])⟩ d_Ff_inverse_60 (by decide) (by decide)
    · exact absurd h_41 (by omega)
