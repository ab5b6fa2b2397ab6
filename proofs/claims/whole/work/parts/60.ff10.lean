/-- the object in order: its numbers, the cut factors, the order's codes, rows, registers, constants -/
def clI (cs : Nat → ClassId) (ad : Nat → Nat) (pr : Int) (inv : Nat → Int) (K : KS) (ph : Nat → Nat) (lo hi : Nat → Int) (G : Nat → Nat → Int) (O : Nat → va_E) : Prop := arO cs ad pr inv O ∧ ffO cs ad O ∧ cuS pr cs ad G O K ph ∧ osO cs ad lo hi O ∧ WF G ∧ (∀ r, r < 16 → okp pr 25 (G (21 + r))) ∧ G 14 = oneP ∧ G 15 = xP ∧ G 18 = xP
/-- a world with such an object: its registers are Rg, the cells from 132 on are those of O -/
def clP (cs : Nat → ClassId) (ad : Nat → Nat) (pr : Int) (inv : Nat → Int) (K : KS) (Rg : Nat → Nat → Int) (O : Nat → va_E) (C' : Nat → va_E) : Prop := ∃ G' O' ph' lo' hi', C' = mkV cs ad (rV G') O' ∧ clI cs ad pr inv K ph' lo' hi' G' O' ∧ (∀ r, r < 16 → G' (21 + r) = Rg r) ∧ ∀ i, 132 ≤ i → O' i = O i
theorem clI.frame {cs : Nat → ClassId} {ad : Nat → Nat} {pr : Int} {inv : Nat → Int} {K : KS} {ph : Nat → Nat} {lo hi : Nat → Int} {G G' : Nat → Nat → Int} {O : Nat → va_E} (h : clI cs ad pr inv K ph lo hi G O) (hW : WF G') (hR : ∀ r, r < 16 → okp pr 25 (G' (21 + r))) (hG : ∀ j, j < 61 → (j = 14 ∨ j = 15 ∨ j = 18 ∨ 37 ≤ j) → G' j = G j) : clI cs ad pr inv K ph lo hi G' O := by
  obtain ⟨h1, h2, h3, h4, h5, h6, h7, h8, h9⟩ := h
  refine ⟨h1, h2, ⟨h3.1, fun i hi => ?_, h3.2.2⟩, h4, hW, hR, by rw [hG 14 (by omega) (by omega)]; exact h7, by rw [hG 15 (by omega) (by omega)]; exact h8, by rw [hG 18 (by omega) (by omega)]; exact h9⟩
  have hp := h3.1.2.2.2.2.1 i hi
  rw [hG _ hp.2 (by omega)]
  exact h3.2.1 i hi
theorem xP_ok25 {pr : Int} (h : 2 ≤ pr) : okp pr 25 xP := by
  refine ⟨fun x => ?_, fun x hx => ?_⟩
  · unfold xP; split <;> omega
  · unfold xP; rw [if_neg (by omega)]
theorem xP_dg : dg 300 xP = 1 := dg_eq (by omega) (by omega) (fun x hx => by unfold xP; rw [if_pos (by omega)]; decide) (fun x hx _ => by unfold xP; rw [if_neg (by omega)])
theorem c_Ff_get {l : Launch} (hst : l.stackTraces = false) {D : va_G} {cs : Nat → ClassId} {A : Nat → Prop} {ad : Nat → Nat} {T : Nat} (hT : 132 ≤ T) {G : Nat → Nat → Int} {O : Nat → va_E} {pr : Int} {inv : Nat → Int} {K : KS} {ph : Nat → Nat} {lo hi : Nat → Int} (hcl : clI cs ad pr inv K ph lo hi G O) {r i : Int} (hr9 : rg r) (hi9 : rg i) : FXi l y_Ff_get ws_Ff_get { frames := 7, cells := 2, slots := 12, locals := 111 } D cs A ad T [.ref (ad (122)), .int (iI (r)), .int (iI (i))] (mkV cs ad (rV G) O) (fun x C' => (0 ≤ r ∧ r ≤ 15) ∧ (0 ≤ i ∧ i ≤ 24) ∧ x = iI (G (21 + r.toNat) i.toNat) ∧ C' = (mkV cs ad (rV G) O)) (fun E C' => C' = (mkV cs ad (rV G) O) ∧ ((E = xNSE ∧ outF r 0 15 = 1) ∨ (E = xIAE ∧ (0 ≤ r ∧ r ≤ 15) ∧ outF i 0 24 = 1))) 2 := by
  refine f_bodyi (by decide) (Nat.le_of_ble_eq_true rfl) ?_
  intro p e s m below meth c X hr hlk hml hnx ev w ls hl
  have hl : lv_has ls 4 [(0, .ref (ad (122))), (1, .int (iI (r))), (2, .int (iI (i)))] := hl
  obtain ⟨hO, hF, hKc, hS, hW, hRg, h14, h15, h18⟩ := id hcl
  have hU := hKc.1
  have hI : invP pr inv := hO.2.2
  have hpr := hI.1
  refine lv_aload_n X.1 X.2.1 d_Ff_get_0 rfl (lv_at hl 0 rfl) ?_
  refine lv_iload_n X.1 X.2.1 d_Ff_get_1 rfl (lv_at hl 1 rfl) ?_
  refine x_cVr (n := 1) (i := 122) (ci := 4) (k1 := 1) (As := [.int (iI (r))]) (rest := []) X ev hnx hlk w hml hl.1 (c_Ff_register hst hT hO hF (r := r) (by omega)) (fun E C' h => ⟨h.1, Or.inl ⟨h.2.1, h.2.2⟩⟩) (by omega) (by rw [mkV_O (by decide)]; exact hF.1) rfl k_m_Ff_72 k_im_Ff_register k_se_Ff_register k_i_Ff k_co_Ff_register (by decide +kernel) rfl ⟨Nat.le_of_ble_eq_true rfl, Nat.le_of_ble_eq_true rfl⟩ ⟨rfl, rfl⟩ ⟨by decide, by decide⟩ (by decide) (by decide) rfl (Nat.le_of_ble_eq_true rfl) d_Ff_get_2 (fun r' C' H locs hp w => ?_)
  obtain ⟨k0, rfl, rfl⟩ := hp
  refine lv_astore_n (lv' := [(3, .ref (ad (2 * ((21 + r.toNat))))), (0, .ref (ad (122))), (1, .int (iI (r))), (2, .int (iI (i)))]) X.1 X.2.1 d_Ff_get_5 rfl hl (by decide) rfl (fun ls hl => ?_)
  refine lv_iload_n X.1 X.2.1 d_Ff_get_6 rfl (lv_at hl 3 rfl) ?_
  refine x_cSv (n := 1) (k1 := 1) (As := [.int (iI (i))]) (rest := []) X ev hnx hlk w hml hl.1 (c_Ff_needExponent hst hT (i := i) (by omega)) (fun E C' h => ⟨h.1, Or.inr ⟨h.2.1, k0, h.2.2⟩⟩) k_m_Ff_76 k_st_Ff_needExponent k_i_Ff k_co_Ff_needExponent (by decide +kernel) rfl ⟨Nat.le_of_ble_eq_true rfl, Nat.le_of_ble_eq_true rfl⟩ ⟨rfl, rfl⟩ ⟨by decide, by decide⟩ (by decide) (by decide) rfl (Nat.le_of_ble_eq_true rfl) d_Ff_get_7 (fun C' H locs hp w => ?_)
  obtain ⟨k1, rfl⟩ := hp
  refine lv_aload_n X.1 X.2.1 d_Ff_get_10 rfl (lv_at hl 0 rfl) ?_
  refine t_co (k := (21 + r.toNat)) X hT w (by omega) k_f_Ff_79 d_Ff_get_11 ?_
  refine lv_iload_n X.1 X.2.1 d_Ff_get_14 rfl (lv_at hl 3 rfl) ?_
  refine g_ld (k := (21 + r.toNat)) (z := i) X hT w (by omega) (i.toNat) (by omega) (by rw [wd_2 (by omega)]; omega) d_Ff_get_15 ?_
  exact x_iret X hr hlk w ⟨k0, k1, rfl, rfl⟩ d_Ff_get_16 (by decide) (by decide)
theorem c_Ff_set {l : Launch} (hst : l.stackTraces = false) {D : va_G} {cs : Nat → ClassId} {A : Nat → Prop} {ad : Nat → Nat} {T : Nat} (hT : 132 ≤ T) {G : Nat → Nat → Int} {O : Nat → va_E} {pr : Int} {inv : Nat → Int} {K : KS} {ph : Nat → Nat} {lo hi : Nat → Int} (hcl : clI cs ad pr inv K ph lo hi G O) {r i v : Int} (hr9 : rg r) (hi9 : rg i) (hv9 : rg v) : FXi l y_Ff_set ws_Ff_set { frames := 7, cells := 2, slots := 12, locals := 111 } D cs A ad T [.ref (ad (122)), .int (iI (r)), .int (iI (i)), .int (iI (v))] (mkV cs ad (rV G) O) (fun x C' => (0 ≤ r ∧ r ≤ 15) ∧ (0 ≤ i ∧ i ≤ 24) ∧ x = iI (G (21 + r.toNat) i.toNat) ∧ clP cs ad pr inv K (va_up (fun r => G (21 + r)) r.toNat (va_up (G (21 + r.toNat)) i.toNat (v % pr))) O C') (fun E C' => C' = (mkV cs ad (rV G) O) ∧ ((E = xNSE ∧ outF r 0 15 = 1) ∨ (E = xIAE ∧ (0 ≤ r ∧ r ≤ 15) ∧ outF i 0 24 = 1))) 2 := by
  refine f_bodyi (by decide) (Nat.le_of_ble_eq_true rfl) ?_
  intro p e s m below meth c X hr hlk hml hnx ev w ls hl
  have hl : lv_has ls 6 [(0, .ref (ad (122))), (1, .int (iI (r))), (2, .int (iI (i))), (3, .int (iI (v)))] := hl
  obtain ⟨hO, hF, hKc, hS, hW, hRg, h14, h15, h18⟩ := id hcl
  have hU := hKc.1
  have hI : invP pr inv := hO.2.2
  have hpr := hI.1
  refine lv_aload_n X.1 X.2.1 d_Ff_set_0 rfl (lv_at hl 0 rfl) ?_
  refine lv_iload_n X.1 X.2.1 d_Ff_set_1 rfl (lv_at hl 1 rfl) ?_
  refine x_cVr (n := 1) (i := 122) (ci := 4) (k1 := 1) (As := [.int (iI (r))]) (rest := []) X ev hnx hlk w hml hl.1 (c_Ff_register hst hT hO hF (r := r) (by omega)) (fun E C' h => ⟨h.1, Or.inl ⟨h.2.1, h.2.2⟩⟩) (by omega) (by rw [mkV_O (by decide)]; exact hF.1) rfl k_m_Ff_72 k_im_Ff_register k_se_Ff_register k_i_Ff k_co_Ff_register (by decide +kernel) rfl ⟨Nat.le_of_ble_eq_true rfl, Nat.le_of_ble_eq_true rfl⟩ ⟨rfl, rfl⟩ ⟨by decide, by decide⟩ (by decide) (by decide) rfl (Nat.le_of_ble_eq_true rfl) d_Ff_set_2 (fun r' C' H locs hp w => ?_)
  obtain ⟨k0, rfl, rfl⟩ := hp
  refine lv_astore (lv' := [(4, .ref (ad (2 * ((21 + r.toNat))))), (0, .ref (ad (122))), (1, .int (iI (r))), (2, .int (iI (i))), (3, .int (iI (v)))]) X.1 X.2.1 d_Ff_set_5 hl (by decide) rfl (fun ls hl => ?_)
  refine lv_iload_n X.1 X.2.1 d_Ff_set_7 rfl (lv_at hl 3 rfl) ?_
  refine x_cSv (n := 1) (k1 := 1) (As := [.int (iI (i))]) (rest := []) X ev hnx hlk w hml hl.1 (c_Ff_needExponent hst hT (i := i) (by omega)) (fun E C' h => ⟨h.1, Or.inr ⟨h.2.1, k0, h.2.2⟩⟩) k_m_Ff_76 k_st_Ff_needExponent k_i_Ff k_co_Ff_needExponent (by decide +kernel) rfl ⟨Nat.le_of_ble_eq_true rfl, Nat.le_of_ble_eq_true rfl⟩ ⟨rfl, rfl⟩ ⟨by decide, by decide⟩ (by decide) (by decide) rfl (Nat.le_of_ble_eq_true rfl) d_Ff_set_8 (fun C' H locs hp w => ?_)
  obtain ⟨k1, rfl⟩ := hp
  refine lv_aload X.1 X.2.1 d_Ff_set_11 (lv_at hl 0 rfl) ?_
  refine t_co (k := (21 + r.toNat)) X hT w (by omega) k_f_Ff_79 d_Ff_set_13 ?_
  refine lv_iload_n X.1 X.2.1 d_Ff_set_16 rfl (lv_at hl 3 rfl) ?_
  refine g_ld (k := (21 + r.toNat)) (z := i) X hT w (by omega) (i.toNat) (by omega) (by rw [wd_2 (by omega)]; omega) d_Ff_set_17 ?_
  refine lv_istore (lv' := [(5, .int (iI (G ((21 + r.toNat)) i.toNat))), (4, .ref (ad (2 * ((21 + r.toNat))))), (0, .ref (ad (122))), (1, .int (iI (r))), (2, .int (iI (i))), (3, .int (iI (v)))]) X.1 X.2.1 d_Ff_set_18 hl (by decide) rfl (fun ls hl => ?_)
  refine lv_aload X.1 X.2.1 d_Ff_set_20 (lv_at hl 1 rfl) ?_
  refine lv_iload_n X.1 X.2.1 d_Ff_set_22 rfl (lv_at hl 4 rfl) ?_
  refine lv_iload_n X.1 X.2.1 d_Ff_set_23 rfl (lv_at hl 5 rfl) ?_
  refine lv_aload_n X.1 X.2.1 d_Ff_set_24 rfl (lv_at hl 2 rfl) ?_
  refine t_ffo X hT w hF 0 (by decide) k_f_Ff_12 rfl d_Ff_set_25 ?_
  refine t_ar X hT w hO 0 (by decide) k_f_Ff_59 rfl d_Ff_set_28 ?_
  refine w_cSiM (n := 2) (As := [.int (iI (v)), .int (iI (pr))]) (rest := [.int (iI (i)), .ref (ad (2 * ((21 + r.toNat))))]) X w hml hl.1 (c_Math_floorMod (v := v) (q := pr) (by omega) (by omega)) k_m_Ff_83 k_st_Math_floorMod k_i_Math k_co_Math_floorMod (by decide +kernel) rfl ⟨Nat.le_of_ble_eq_true rfl, Nat.le_of_ble_eq_true rfl⟩ ⟨rfl, rfl⟩ ⟨by decide, by decide⟩ rfl (Nat.le_of_ble_eq_true rfl) d_Ff_set_31 (fun r' C' H locs hp w => ?_)
  obtain ⟨rfl, rfl⟩ := hp
  have hvr : 0 ≤ v % pr ∧ v % pr < pr := ⟨Int.emod_nonneg _ (by omega), Int.emod_lt_of_pos _ (by omega)⟩
  have hcp := c_Po_put (l := l) (D := D) (cs := cs) (A := A) (ad := ad) hT (G := G) (O := O) (k := 21 + r.toNat) (i := i.toNat) (v := v % pr) (by omega) (by rw [wd_2 (by omega)]; omega) (by omega) (hW _ (by omega))
  rw [show ((i.toNat : Nat) : Int) = i by omega] at hcp
  refine w_cVv (n := 2) (i := 2 * ((21 + r.toNat))) (ci := 0) (As := [.int (iI (i)), .int (iI (v % pr))]) (rest := []) X w hml hl.1 (hcp) (by omega) (mkV_o (by omega)) rfl k_m_Ff_89 k_im_Po_put k_se_Po_put k_i_Po k_co_Po_put (by decide +kernel) rfl ⟨Nat.le_of_ble_eq_true rfl, Nat.le_of_ble_eq_true rfl⟩ ⟨rfl, rfl⟩ ⟨by decide, by decide⟩ rfl (Nat.le_of_ble_eq_true rfl) d_Ff_set_34 (fun C' H locs hp w => ?_)
  subst hp
  obtain ⟨Gw1, eGw1⟩ : ∃ gg : Nat → Nat → Int, gg = va_up G (21 + r.toNat) (va_up (G (21 + r.toNat)) i.toNat (v % pr)) := ⟨_, rfl⟩
  rw [← eGw1] at w
  refine lv_iload X.1 X.2.1 d_Ff_set_37 (lv_at hl 0 rfl) ?_
  have hz : okp pr 25 (va_up (G (21 + r.toNat)) i.toNat (v % pr)) := up_okp (hRg _ (by omega)) (by omega) hvr
  refine x_iret X hr hlk w ⟨k0, k1, rfl, Gw1, O, ph, lo, hi, rfl, ?_, fun q hq => ?_, fun _ _ => rfl⟩ d_Ff_set_39 (by decide) (by decide)
  · refine hcl.frame (by rw [eGw1]; exact hW.up (by rw [wd_2 (by omega)]; exact hz.ok hpr.2)) (fun q hq => ?_) (fun j hj h => by rw [eGw1, va_up_ne _ _ (by omega)])
    rw [eGw1]
    by_cases e9 : q = r.toNat
    · rw [e9, va_up_self]; exact hz
    · rw [va_up_ne _ _ (by omega)]; exact hRg q hq
  · rw [eGw1]
    by_cases e9 : q = r.toNat
    · rw [e9, va_up_self, va_up_self]
    · rw [va_up_ne _ _ (by omega), va_up_ne _ _ e9]
theorem c_Ff_value {l : Launch} (hst : l.stackTraces = false) {D : va_G} {cs : Nat → ClassId} {A : Nat → Prop} {ad : Nat → Nat} {T : Nat} (hT : 132 ≤ T) {G : Nat → Nat → Int} {O : Nat → va_E} {pr : Int} {inv : Nat → Int} {K : KS} {ph : Nat → Nat} {lo hi : Nat → Int} (hcl : clI cs ad pr inv K ph lo hi G O) {a v : Int} (ha9 : rg a) (hv9 : rg v) : FXi l y_Ff_value ws_Ff_value { frames := 7, cells := 1, slots := 6, locals := 111 } D cs A ad T [.ref (ad (122)), .int (iI (a)), .int (iI (v))] (mkV cs ad (rV G) O) (fun x C' => (0 ≤ a ∧ a ≤ 15) ∧ x = iI (hor pr (G (21 + a.toNat)) (v % pr) (dg 300 (G (21 + a.toNat)) + 1).toNat 0) ∧ C' = (mkV cs ad (rV G) O)) (fun E C' => C' = (mkV cs ad (rV G) O) ∧ E = xNSE ∧ outF a 0 15 = 1) 1 := by
  refine f_bodyi (by decide) (Nat.le_of_ble_eq_true rfl) ?_
  intro p e s m below meth c X hr hlk hml hnx ev w ls hl
  have hl : lv_has ls 3 [(0, .ref (ad (122))), (1, .int (iI (a))), (2, .int (iI (v)))] := hl
  obtain ⟨hO, hF, hKc, hS, hW, hRg, h14, h15, h18⟩ := id hcl
  have hU := hKc.1
  have hI : invP pr inv := hO.2.2
  have hpr := hI.1
  refine lv_aload_n X.1 X.2.1 d_Ff_value_0 rfl (lv_at hl 0 rfl) ?_
  refine t_ffo X hT w hF 0 (by decide) k_f_Ff_12 rfl d_Ff_value_1 ?_
  refine lv_aload_n X.1 X.2.1 d_Ff_value_4 rfl (lv_at hl 0 rfl) ?_
  refine lv_iload_n X.1 X.2.1 d_Ff_value_5 rfl (lv_at hl 1 rfl) ?_
  refine x_cVr (n := 1) (i := 122) (ci := 4) (k1 := 1) (As := [.int (iI (a))]) (rest := [.ref (ad (123))]) X ev hnx hlk w hml hl.1 (c_Ff_register hst hT hO hF (r := a) (by omega)) (fun E C' h => h) (by omega) (by rw [mkV_O (by decide)]; exact hF.1) rfl k_m_Ff_72 k_im_Ff_register k_se_Ff_register k_i_Ff k_co_Ff_register (by decide +kernel) rfl ⟨Nat.le_of_ble_eq_true rfl, Nat.le_of_ble_eq_true rfl⟩ ⟨rfl, rfl⟩ ⟨by decide, by decide⟩ (by decide) (by decide) rfl (Nat.le_of_ble_eq_true rfl) d_Ff_value_6 (fun r' C' H locs hp w => ?_)
  obtain ⟨k0, rfl, rfl⟩ := hp
  refine lv_iload_n X.1 X.2.1 d_Ff_value_9 rfl (lv_at hl 2 rfl) ?_
  refine lv_aload_n X.1 X.2.1 d_Ff_value_10 rfl (lv_at hl 0 rfl) ?_
  refine t_ffo X hT w hF 0 (by decide) k_f_Ff_12 rfl d_Ff_value_11 ?_
  refine t_ar X hT w hO 0 (by decide) k_f_Ff_59 rfl d_Ff_value_14 ?_
  refine w_cSiM (n := 2) (As := [.int (iI (v)), .int (iI (pr))]) (rest := [.ref (ad (2 * ((21 + a.toNat)))), .ref (ad (123))]) X w hml hl.1 (c_Math_floorMod (v := v) (q := pr) (by omega) (by omega)) k_m_Ff_83 k_st_Math_floorMod k_i_Math k_co_Math_floorMod (by decide +kernel) rfl ⟨Nat.le_of_ble_eq_true rfl, Nat.le_of_ble_eq_true rfl⟩ ⟨rfl, rfl⟩ ⟨by decide, by decide⟩ rfl (Nat.le_of_ble_eq_true rfl) d_Ff_value_17 (fun r' C' H locs hp w => ?_)
  obtain ⟨rfl, rfl⟩ := hp
  refine w_cVi (n := 2) (i := 123) (ci := 1) (As := [.ref (ad (2 * ((21 + a.toNat)))), .int (iI (v % pr))]) (rest := []) X w hml hl.1 (c_Ar_evaluate hT (G := G) hO (k := 21 + a.toNat) (v := v % pr) (by omega) (hW _ (by omega)) ⟨Int.emod_nonneg _ (by omega), Int.emod_lt_of_pos _ (by omega)⟩) (by omega) (by rw [mkV_O (by decide)]; exact hO.1) rfl k_m_Ff_132 k_im_Ar_evaluate k_se_Ar_evaluate k_i_Ar k_co_Ar_evaluate (by decide +kernel) rfl ⟨Nat.le_of_ble_eq_true rfl, Nat.le_of_ble_eq_true rfl⟩ ⟨rfl, rfl⟩ ⟨by decide, by decide⟩ rfl (Nat.le_of_ble_eq_true rfl) d_Ff_value_20 (fun r' C' H locs hp w => ?_)
  obtain ⟨rfl, rfl⟩ := hp
  exact x_iret X hr hlk w ⟨k0, rfl, rfl⟩ d_Ff_value_23 (by decide) (by decide)
section ZEX
variable {p : Program} {l : Launch} {e : Env} {s : State} {m : MethodId} {args : Array Value} {below : List Frame} {meth : Method} {c : Code} {H : Heap} {locs : List Loc} {Q : State → Prop} {D : va_G} {cs : Nat → ClassId} {A : Nat → Prop} {ad : Nat → Nat} {T : Nat} {O : Nat → va_E} {pr : Int} {inv : Nat → Int}
variable {G : Nat → Nat → Int} {k0 kk : Nat}
theorem l_Ff_zeros {post : Int32 → (Nat → va_E) → Prop} {px : String → (Nat → va_E) → Prop} (X : Cx p s m args c b_Ff_zeros RFf) (hr : meth.sig.returnType = some .int) (hlk : meth.locks = false) (hml : c.maxLocals = 5) (hT : 132 ≤ T) (hO : arO cs ad pr inv O) (hF : ffO cs ad O) (hkk : kk < 61) (hok : ok (wd kk) (G kk)) {Z : Int} (hp : post (iI Z) (mkV cs ad (rV G) O)) :
    ∀ (k v : Nat) (n : Int) (H : Heap) (locs : List Loc) (ls : Array Slot), Wd D cs A ad T s (mkV cs ad (rV G) O) H locs → (v : Int) + k = pr → 0 ≤ n ∧ n ≤ v → zerL pr (G kk) (dg 300 (G kk) + 1).toNat v k n = Z → lv_has ls 5 [(0, .ref (ad (122))), (2, .ref (ad (2 * kk))), (3, .int (iI (n))), (4, .int (iI (v)))] → W p l e { frames := 7, cells := 1, slots := 6, locals := 111 } s m args below meth c H locs (0 + 1) (0 + 6 * 1) (vx_MQ below (va_Qi post (QW D cs ad T) A) (XP px D cs A ad T) args s 1 (6 * 1) A) (F0 m 11 ls []) := by
  have hpr := hO.2.2.1
  intro k
  induction k with
  | zero =>
    intro v n H locs ls w h1 h2 hz hl
    have hz : n = Z := hz
    subst hz
    refine lv_iload X.1 X.2.1 d_Ff_zeros_11 (lv_at hl 3 rfl) ?_
    refine lv_aload_n X.1 X.2.1 d_Ff_zeros_13 rfl (lv_at hl 0 rfl) ?_
    refine t_ffo X hT w hF 0 (by decide) k_f_Ff_12 rfl d_Ff_zeros_14 ?_
    refine t_ar X hT w hO 0 (by decide) k_f_Ff_59 rfl d_Ff_zeros_17 ?_
    refine i_ge (a := v) (b := pr) (tgt := 45) X (by omega) (by omega) d_Ff_zeros_20 (by decide) (fun h_20 => ?_) (fun h_20 => ?_)
    · refine lv_iload_n X.1 X.2.1 d_Ff_zeros_45 rfl (lv_at hl 2 rfl) ?_
      exact x_iret X hr hlk w hp d_Ff_zeros_46 (by decide) (by decide)
    · exact absurd h_20 (by omega)
  | succ k ih =>
    intro v n H locs ls w h1 h2 hz hl
    have hh := hor_rg (show 0 < pr by omega) (G kk) v (dg 300 (G kk) + 1).toNat 0 (by omega)
    have hz : zerL pr (G kk) (dg 300 (G kk) + 1).toNat (v + 1) k (if hor pr (G kk) v (dg 300 (G kk) + 1).toNat 0 = 0 then n + 1 else n) = Z := hz
    refine lv_iload X.1 X.2.1 d_Ff_zeros_11 (lv_at hl 3 rfl) ?_
    refine lv_aload_n X.1 X.2.1 d_Ff_zeros_13 rfl (lv_at hl 0 rfl) ?_
    refine t_ffo X hT w hF 0 (by decide) k_f_Ff_12 rfl d_Ff_zeros_14 ?_
    refine t_ar X hT w hO 0 (by decide) k_f_Ff_59 rfl d_Ff_zeros_17 ?_
    refine i_ge (a := v) (b := pr) (tgt := 45) X (by omega) (by omega) d_Ff_zeros_20 (by decide) (fun h_20 => ?_) (fun h_20 => ?_)
    · exact absurd h_20 (by omega)
    · refine lv_aload_n X.1 X.2.1 d_Ff_zeros_23 rfl (lv_at hl 0 rfl) ?_
      refine t_ffo X hT w hF 0 (by decide) k_f_Ff_12 rfl d_Ff_zeros_24 ?_
      refine lv_aload_n X.1 X.2.1 d_Ff_zeros_27 rfl (lv_at hl 1 rfl) ?_
      refine lv_iload X.1 X.2.1 d_Ff_zeros_28 (lv_at hl 3 rfl) ?_
      refine w_cVi (n := 2) (i := 123) (ci := 1) (As := [.ref (ad (2 * kk)), .int (iI (v))]) (rest := []) X w hml hl.1 (c_Ar_evaluate hT (G := G) hO (k := kk) (v := v) hkk hok (by omega)) (by omega) (by rw [mkV_O (by decide)]; exact hO.1) rfl k_m_Ff_132 k_im_Ar_evaluate k_se_Ar_evaluate k_i_Ar k_co_Ar_evaluate (by decide +kernel) rfl ⟨Nat.le_of_ble_eq_true rfl, Nat.le_of_ble_eq_true rfl⟩ ⟨rfl, rfl⟩ ⟨by decide, by decide⟩ rfl (Nat.le_of_ble_eq_true rfl) d_Ff_zeros_30 (fun r' C' H locs hp1 w => ?_)
      obtain ⟨rfl, rfl⟩ := hp1
      refine z_ne (a := hor pr (G kk) v (dg 300 (G kk) + 1).toNat 0) (tgt := 39) X (by omega) d_Ff_zeros_33 (by decide) (fun h_33 => ?_) (fun h_33 => ?_)
      · refine i_inc (k := 3) (x := v) (lv' := [(4, .int (iI (v + 1))), (0, .ref (ad (122))), (2, .ref (ad (2 * kk))), (3, .int (iI (n)))]) X d_Ff_zeros_39 hl rfl (by decide) rfl (fun ls hl => ?_)
        refine lv_goto (tgt := 11) X.1 X.2.1 d_Ff_zeros_42 (by decide) ?_
        rw [if_neg (by omega)] at hz
        exact ih (v + 1) n H locs ls w (by omega) (by omega) hz (lv_sub hl [1, 2, 3, 0] rfl)
      · refine i_inc (k := 2) (x := n) (lv' := [(3, .int (iI (n + 1))), (0, .ref (ad (122))), (2, .ref (ad (2 * kk))), (4, .int (iI (v)))]) X d_Ff_zeros_36 hl rfl (by decide) rfl (fun ls hl => ?_)
        refine i_inc (k := 3) (x := v) (lv' := [(4, .int (iI (v + 1))), (3, .int (iI (n + 1))), (0, .ref (ad (122))), (2, .ref (ad (2 * kk)))]) X d_Ff_zeros_39 hl rfl (by decide) rfl (fun ls hl => ?_)
        refine lv_goto (tgt := 11) X.1 X.2.1 d_Ff_zeros_42 (by decide) ?_
        rw [if_pos (by omega)] at hz
        exact ih (v + 1) (n + 1) H locs ls w (by omega) (by omega) hz (lv_sub hl [2, 3, 1, 0] rfl)
end ZEX
theorem c_Ff_zeros {l : Launch} (hst : l.stackTraces = false) {D : va_G} {cs : Nat → ClassId} {A : Nat → Prop} {ad : Nat → Nat} {T : Nat} (hT : 132 ≤ T) {G : Nat → Nat → Int} {O : Nat → va_E} {pr : Int} {inv : Nat → Int} {K : KS} {ph : Nat → Nat} {lo hi : Nat → Int} (hcl : clI cs ad pr inv K ph lo hi G O) {a : Int} (ha9 : rg a) : FXi l y_Ff_zeros ws_Ff_zeros { frames := 7, cells := 1, slots := 6, locals := 111 } D cs A ad T [.ref (ad (122)), .int (iI (a))] (mkV cs ad (rV G) O) (fun x C' => (0 ≤ a ∧ a ≤ 15) ∧ x = iI (zerL pr (G (21 + a.toNat)) (dg 300 (G (21 + a.toNat)) + 1).toNat 0 pr.toNat 0) ∧ C' = (mkV cs ad (rV G) O)) (fun E C' => C' = (mkV cs ad (rV G) O) ∧ E = xNSE ∧ outF a 0 15 = 1) 1 := by
  refine f_bodyi (by decide) (Nat.le_of_ble_eq_true rfl) ?_
  intro p e s m below meth c X hr hlk hml hnx ev w ls hl
  have hl : lv_has ls 5 [(0, .ref (ad (122))), (1, .int (iI (a)))] := hl
  obtain ⟨hO, hF, hKc, hS, hW, hRg, h14, h15, h18⟩ := id hcl
  have hU := hKc.1
  have hI : invP pr inv := hO.2.2
  have hpr := hI.1
  refine lv_aload_n X.1 X.2.1 d_Ff_zeros_0 rfl (lv_at hl 0 rfl) ?_
  refine lv_iload_n X.1 X.2.1 d_Ff_zeros_1 rfl (lv_at hl 1 rfl) ?_
  refine x_cVr (n := 1) (i := 122) (ci := 4) (k1 := 1) (As := [.int (iI (a))]) (rest := []) X ev hnx hlk w hml hl.1 (c_Ff_register hst hT hO hF (r := a) (by omega)) (fun E C' h => h) (by omega) (by rw [mkV_O (by decide)]; exact hF.1) rfl k_m_Ff_72 k_im_Ff_register k_se_Ff_register k_i_Ff k_co_Ff_register (by decide +kernel) rfl ⟨Nat.le_of_ble_eq_true rfl, Nat.le_of_ble_eq_true rfl⟩ ⟨rfl, rfl⟩ ⟨by decide, by decide⟩ (by decide) (by decide) rfl (Nat.le_of_ble_eq_true rfl) d_Ff_zeros_2 (fun r' C' H locs hp w => ?_)
  obtain ⟨k0, rfl, rfl⟩ := hp
  refine lv_astore_n (lv' := [(2, .ref (ad (2 * ((21 + a.toNat))))), (0, .ref (ad (122))), (1, .int (iI (a)))]) X.1 X.2.1 d_Ff_zeros_5 rfl hl (by decide) rfl (fun ls hl => ?_)
  refine lv_iconst (v := iI (0)) X.1 X.2.1 d_Ff_zeros_6 (by decide) ?_
  refine lv_istore_n (lv' := [(3, .int (iI (0))), (2, .ref (ad (2 * ((21 + a.toNat))))), (0, .ref (ad (122))), (1, .int (iI (a)))]) X.1 X.2.1 d_Ff_zeros_7 rfl hl (by decide) rfl (fun ls hl => ?_)
  refine lv_iconst (v := iI (0)) X.1 X.2.1 d_Ff_zeros_8 (by decide) ?_
  refine lv_istore (lv' := [(4, .int (iI (0))), (3, .int (iI (0))), (2, .ref (ad (2 * ((21 + a.toNat))))), (0, .ref (ad (122))), (1, .int (iI (a)))]) X.1 X.2.1 d_Ff_zeros_9 hl (by decide) rfl (fun ls hl => ?_)
  exact l_Ff_zeros (kk := 21 + a.toNat) X hr hlk hml hT hO hF (by omega) (hW _ (by omega)) ⟨k0, rfl, rfl⟩ pr.toNat 0 0 _ _ ls w (by omega) (by omega) rfl (lv_sub hl [3, 2, 1, 0] rfl)
theorem c_Ff_count {l : Launch} {D : va_G} {cs : Nat → ClassId} {A : Nat → Prop} {ad : Nat → Nat} {T : Nat} (hT : 132 ≤ T) {G : Nat → Nat → Int} {O : Nat → va_E} {pr : Int} {inv : Nat → Int} {K : KS} {ph : Nat → Nat} {lo hi : Nat → Int} (hcl : clI cs ad pr inv K ph lo hi G O) {x : Int} (hx : rg x) : Ci l y_Ff_count ws_Ff_count { frames := 0, cells := 0, slots := 0, locals := 0 } D cs A ad T [.ref (ad (122)), .int (iI (x))] (mkV cs ad (rV G) O) (fun r C' => r = iI (if x = 0 then pr else if x = 1 then ((K.1 : Nat) : Int) else -1) ∧ C' = (mkV cs ad (rV G) O)) := by
  refine w_bodyI (by decide) (Nat.le_of_ble_eq_true rfl) ?_
  intro p e s m below meth c X hr hlk hml w ls hl
  have hl : lv_has ls 2 [(0, .ref (ad (122))), (1, .int (iI (x)))] := hl
  obtain ⟨hO, hF, hKc, hS, hW, hRg, h14, h15, h18⟩ := id hcl
  have hU := hKc.1
  have hI : invP pr inv := hO.2.2
  have hpr := hI.1
  refine lv_iload_n X.1 X.2.1 d_Ff_count_0 rfl (lv_at hl 1 rfl) ?_
  refine z_ne (a := x) (tgt := 12) X (by omega) d_Ff_count_1 (by decide) (fun h_1 => ?_) (fun h_1 => ?_)
  · refine lv_iload_n X.1 X.2.1 d_Ff_count_12 rfl (lv_at hl 1 rfl) ?_
    refine lv_iconst (v := iI (1)) X.1 X.2.1 d_Ff_count_13 (by decide) ?_
    refine i_ne (a := x) (b := 1) (tgt := 27) X (by omega) (by omega) d_Ff_count_14 (by decide) (fun h_14 => ?_) (fun h_14 => ?_)
    · refine lv_iconst (v := iI (-1)) X.1 X.2.1 d_Ff_count_27 (by decide) ?_
      exact w_iret X hr hlk w ⟨by rw [if_neg (by omega), if_neg (by omega)], rfl⟩ d_Ff_count_28
    · refine lv_aload_n X.1 X.2.1 d_Ff_count_17 rfl (lv_at hl 0 rfl) ?_
      refine t_ffo X hT w hF 1 (by decide) k_f_Ff_21 rfl d_Ff_count_18 ?_
      refine t_cu X hT w hU 2 (by decide) k_f_Ff_148 rfl d_Ff_count_21 ?_
      refine lv_goto (tgt := 28) X.1 X.2.1 d_Ff_count_24 (by decide) ?_
      exact w_iret X hr hlk w ⟨by rw [if_neg (by omega), if_pos (by omega)], rfl⟩ d_Ff_count_28
  · refine lv_aload_n X.1 X.2.1 d_Ff_count_4 rfl (lv_at hl 0 rfl) ?_
    refine t_ffo X hT w hF 0 (by decide) k_f_Ff_12 rfl d_Ff_count_5 ?_
    refine t_ar X hT w hO 0 (by decide) k_f_Ff_59 rfl d_Ff_count_8 ?_
    exact w_iret X hr hlk w ⟨by rw [if_pos (by omega)], rfl⟩ d_Ff_count_11
