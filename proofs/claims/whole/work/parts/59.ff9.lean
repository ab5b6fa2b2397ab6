theorem c_Ff_store {l : Launch} {D : va_G} {cs : Nat → ClassId} {A : Nat → Prop} {ad : Nat → Nat} {T : Nat} (hT : 132 ≤ T) {G : Nat → Nat → Int} {O : Nat → va_E} {pr : Int} {inv : Nat → Int} (hO : arO cs ad pr inv O) (hF : ffO cs ad O) {k : Nat} (hk : 21 ≤ k ∧ k < 61) (hW : WF G) : Ci l y_Ff_store ws_Ff_store { frames := 1, cells := 0, slots := 0, locals := 22 } D cs A ad T [.ref (ad (122)), .ref (ad (2 * k))] (mkV cs ad (rV G) O) (fun r C' => r = iI (dg 300 (G 19)) ∧ C' = mkV cs ad (rV (va_up G k (G 19))) O) := by
  refine w_bodyI (by decide) (Nat.le_of_ble_eq_true rfl) ?_
  intro p e s m below meth c X hr hlk hml w ls hl
  have hl : lv_has ls 2 [(0, .ref (ad (122))), (1, .ref (ad (2 * k)))] := hl
  refine lv_aload_n X.1 X.2.1 d_Ff_store_0 rfl (lv_at hl 1 rfl) ?_
  refine lv_aload_n X.1 X.2.1 d_Ff_store_1 rfl (lv_at hl 0 rfl) ?_
  refine t_ffo X hT w hF 4 (by decide) k_f_Ff_41 rfl d_Ff_store_2 ?_
  refine w_cVv (n := 1) (i := 2 * k) (ci := 0) (As := [.ref (ad (2 * 19))]) (rest := []) X w hml hl.1 (c_Po_copyFrom hT (G := G) (k := k) (q := 19) (by omega) (by omega) (by omega) (hW _ (by omega)) (hW _ (by omega)) (by rw [wd_2 (by omega)]; have := hW 19 (by omega); rw [wd_2 (by omega)] at this; exact this)) (by omega) (mkV_o (by omega)) rfl k_m_Ff_159 k_im_Po_copyFrom k_se_Po_copyFrom k_i_Po k_co_Po_copyFrom (by decide +kernel) rfl ⟨Nat.le_of_ble_eq_true rfl, Nat.le_of_ble_eq_true rfl⟩ ⟨rfl, rfl⟩ ⟨by decide, by decide⟩ rfl (Nat.le_of_ble_eq_true rfl) d_Ff_store_5 (fun C' H locs hp w => ?_)
  subst hp
  obtain ⟨Gw1, eGw1⟩ : ∃ gg : Nat → Nat → Int, gg = va_up G k (G 19) := ⟨_, rfl⟩
  rw [← eGw1] at w
  refine lv_aload_n X.1 X.2.1 d_Ff_store_8 rfl (lv_at hl 0 rfl) ?_
  refine t_ffo X hT w hF 4 (by decide) k_f_Ff_41 rfl d_Ff_store_9 ?_
  refine g_deg (k := 19) X hT w (by omega) k_f_Ff_95 d_Ff_store_12 ?_
  have e9 : Gw1 19 = G 19 := by rw [eGw1, va_up_ne _ _ (by omega)]
  exact w_iret X hr hlk w ⟨by rw [e9], by rw [eGw1]⟩ d_Ff_store_15
theorem jnR_0 {pr : Int} {inv : Nat → Int} {F G : Nat → Int} : addS pr F 1 0 G = jnR pr inv 0 F G := by
  unfold jnR addS
  rw [if_pos rfl]
  funext x
  rw [if_neg (by omega), Int.one_mul, Nat.sub_zero]
theorem jnR_1 {pr : Int} {inv : Nat → Int} {F G : Nat → Int} : addS pr F (pr - 1) 0 G = jnR pr inv 1 F G := by
  unfold jnR addS
  rw [if_neg (by decide), if_pos rfl]
  funext x
  rw [if_neg (by omega), Nat.sub_zero, show F x + (pr - 1) * G x = F x - G x + pr * G x by grind, Int.add_mul_emod_self_left]
theorem c_Ff_combine {l : Launch} {D : va_G} {cs : Nat → ClassId} {A : Nat → Prop} {ad : Nat → Nat} {T : Nat} (hT : 132 ≤ T) {G : Nat → Nat → Int} {O : Nat → va_E} {pr : Int} {inv : Nat → Int} (hO : arO cs ad pr inv O) (hF : ffO cs ad O) {op : Int} {a b : Nat} (hop : 0 ≤ op ∧ op ≤ 7) (ha : 21 ≤ a ∧ a < 37) (hb : 21 ≤ b ∧ b < 37) (hW : WF G) (hA : okp pr 25 (G a)) (hB : okp pr 25 (G b)) (h3 : op = 3 ∨ op = 4 → 0 ≤ dg 300 (G b)) (h2 : op = 2 → dg 300 (G a) + dg 300 (G b) ≤ 24) : Cv l y_Ff_combine ws_Ff_combine { frames := 4, cells := 0, slots := 0, locals := 100 } D cs A ad T [.ref (ad (122)), .int (iI (op)), .ref (ad (2 * a)), .ref (ad (2 * b))] (mkV cs ad (rV G) O) (fun C' => ∃ G', C' = mkV cs ad (rV G') O ∧ WF G' ∧ G' 19 = (jnR pr inv op (G a) (G b)) ∧ ∀ j, 4 ≤ j → j ≠ 19 → j ≠ 20 → G' j = G j) := by
  refine w_bodyV (by decide) (Nat.le_of_ble_eq_true rfl) ?_
  intro p e s m below meth c X hr hlk hml w ls hl
  have hl : lv_has ls 4 [(0, .ref (ad (122))), (1, .int (iI (op))), (2, .ref (ad (2 * a))), (3, .ref (ad (2 * b)))] := hl
  have hI : invP pr inv := hO.2.2
  have hpr := hI.1
  have hda := (hA.ok hpr.2).dlt 300
  have hdb := (hB.ok hpr.2).dlt 300
  have hda0 := dg_ge 300 (G a)
  have hdb0 := dg_ge 300 (G b)
  have wd9 : wd 19 = 25 := wd_2 (by omega)
  have wd20 : wd 20 = 25 := wd_2 (by omega)
  have wda : wd a = 25 := wd_2 (by omega)
  have wdb : wd b = 25 := wd_2 (by omega)
  have hokA : ok 25 (G a) := hA.ok hpr.2
  have hokB : ok 25 (G b) := hB.ok hpr.2
  refine lv_iload_n X.1 X.2.1 d_Ff_combine_0 rfl (lv_at hl 1 rfl) ?_
  by_cases hsw : op < 0 ∨ 6 < op
  · refine lv_tableOut (tgt := 221) X.1 X.2.1 d_Ff_combine_1 (by rw [iI_toInt (by omega)]; exact hsw) (by decide) ?_
    refine lv_aload_n X.1 X.2.1 d_Ff_combine_221 rfl (lv_at hl 0 rfl) ?_
    refine t_ffo X hT w hF 0 (by decide) k_f_Ff_12 rfl d_Ff_combine_222 ?_
    refine lv_aload_n X.1 X.2.1 d_Ff_combine_225 rfl (lv_at hl 0 rfl) ?_
    refine t_ffo X hT w hF 4 (by decide) k_f_Ff_41 rfl d_Ff_combine_226 ?_
    refine lv_aload_n X.1 X.2.1 d_Ff_combine_229 rfl (lv_at hl 2 rfl) ?_
    refine w_cVv (n := 2) (i := 123) (ci := 1) (As := [.ref (ad (2 * 19)), .ref (ad (2 * a))]) (rest := []) X w hml hl.1 (c_Ar_derive hT (G := G) hO (k := 19) (q := a) (by omega) (by omega) (by omega) (hW _ (by omega)) (by rw [wda]; exact hokA) (by rw [wd9]; omega)) (by omega) (by rw [mkV_O (by decide)]; exact hO.1) rfl k_m_Ff_211 k_im_Ar_derive k_se_Ar_derive k_i_Ar k_co_Ar_derive (by decide +kernel) rfl ⟨Nat.le_of_ble_eq_true rfl, Nat.le_of_ble_eq_true rfl⟩ ⟨rfl, rfl⟩ ⟨Nat.zero_le _, Nat.zero_le _⟩ rfl (Nat.le_of_ble_eq_true rfl) d_Ff_combine_230 (fun C' H locs hp w => ?_)
    subst hp
    obtain ⟨Gw1, eGw1⟩ : ∃ gg : Nat → Nat → Int, gg = va_up G 19 (der pr (G a)) := ⟨_, rfl⟩
    rw [← eGw1] at w
    have hz8 : okp pr 25 (jnR pr inv op (G a) (G b)) := jnR_ok hI hA hB (fun h => by omega) (by omega)
    have hz9 : Gw1 19 = (jnR pr inv op (G a) (G b)) := by rw [eGw1, va_up_self]; unfold jnR; rw [if_neg (by omega), if_neg (by omega), if_neg (by omega), if_neg (by omega), if_neg (by omega), if_neg (by omega), if_neg (by omega)]
    have hz9e := hz9
    rw [eGw1, va_up_self] at hz9e
    have hz9e := hz9e.symm
    exact w_vret X hr hlk w ⟨Gw1, rfl, by rw [eGw1]; refine hW.up ?_; rw [← hz9e, wd9]; exact hz8.ok hpr.2, hz9, fun j j1 j2 j3 => by rw [eGw1, va_up_ne _ _ j2]⟩ d_Ff_combine_233
  · have hsw2 : op = 0 ∨ op = 1 ∨ op = 2 ∨ op = 3 ∨ op = 4 ∨ op = 5 ∨ op = 6 := by omega
    rcases hsw2 with hsw2 | hsw2 | hsw2 | hsw2 | hsw2 | hsw2 | hsw2
    · refine W.eq (g2 := F0 m 1 ls [.int (iI (0))]) (by rw [hsw2]) ?_
      refine lv_tableIn (tgt := 44) X.1 X.2.1 d_Ff_combine_1 (by decide) (by decide) rfl (by decide) ?_
      refine lv_aload_n X.1 X.2.1 d_Ff_combine_44 rfl (lv_at hl 0 rfl) ?_
      refine t_ffo X hT w hF 4 (by decide) k_f_Ff_41 rfl d_Ff_combine_45 ?_
      refine lv_aload_n X.1 X.2.1 d_Ff_combine_48 rfl (lv_at hl 2 rfl) ?_
      refine w_cVv (n := 1) (i := 2 * 19) (ci := 0) (As := [.ref (ad (2 * a))]) (rest := []) X w hml hl.1 (c_Po_copyFrom hT (G := G) (k := 19) (q := a) (by omega) (by omega) (by omega) (hW _ (by omega)) (hW _ (by omega)) (by rw [wd_2 (by omega)]; have := hW a (by omega); rw [wd_2 (by omega)] at this; exact this)) (by omega) (mkV_o (by omega)) rfl k_m_Ff_159 k_im_Po_copyFrom k_se_Po_copyFrom k_i_Po k_co_Po_copyFrom (by decide +kernel) rfl ⟨Nat.le_of_ble_eq_true rfl, Nat.le_of_ble_eq_true rfl⟩ ⟨rfl, rfl⟩ ⟨by decide, by decide⟩ rfl (Nat.le_of_ble_eq_true rfl) d_Ff_combine_49 (fun C' H locs hp w => ?_)
      subst hp
      obtain ⟨Gw1, eGw1⟩ : ∃ gg : Nat → Nat → Int, gg = va_up G 19 (G a) := ⟨_, rfl⟩
      rw [← eGw1] at w
      have eb : Gw1 b = G b := by rw [eGw1, va_up_ne _ _ (by omega)]
      have e19 : Gw1 19 = G a := by rw [eGw1, va_up_self]
      have hW1 : WF Gw1 := by rw [eGw1]; exact hW.up (by rw [wd_2 (by omega)]; exact hokA)
      refine lv_aload_n X.1 X.2.1 d_Ff_combine_52 rfl (lv_at hl 0 rfl) ?_
      refine t_ffo X hT w hF 0 (by decide) k_f_Ff_12 rfl d_Ff_combine_53 ?_
      refine lv_aload_n X.1 X.2.1 d_Ff_combine_56 rfl (lv_at hl 0 rfl) ?_
      refine t_ffo X hT w hF 4 (by decide) k_f_Ff_41 rfl d_Ff_combine_57 ?_
      refine lv_iconst (v := iI (1)) X.1 X.2.1 d_Ff_combine_60 (by decide) ?_
      refine lv_iconst (v := iI (0)) X.1 X.2.1 d_Ff_combine_61 (by decide) ?_
      refine lv_aload_n X.1 X.2.1 d_Ff_combine_62 rfl (lv_at hl 3 rfl) ?_
      refine w_cVv (n := 4) (i := 123) (ci := 1) (As := [.ref (ad (2 * 19)), .int (iI (1)), .int (iI (0)), .ref (ad (2 * b))]) (rest := []) X w hml hl.1 (c_Ar_addShifted hT (G := Gw1) hO (k := 19) (q := b) (t := 0) (f := 1) (by omega) (by omega) (by omega) (by rw [e19, wd9]; exact hA) (by rw [eb, wdb]; exact hokB) (by omega) (by rw [eb, wd9]; omega)) (by omega) (by rw [mkV_O (by decide)]; exact hO.1) rfl k_m_Ff_190 k_im_Ar_addShifted k_se_Ar_addShifted k_i_Ar k_co_Ar_addShifted (by decide +kernel) rfl ⟨Nat.le_of_ble_eq_true rfl, Nat.le_of_ble_eq_true rfl⟩ ⟨rfl, rfl⟩ ⟨Nat.zero_le _, Nat.zero_le _⟩ rfl (Nat.le_of_ble_eq_true rfl) d_Ff_combine_63 (fun C' H locs hp w => ?_)
      subst hp
      obtain ⟨Gw2, eGw2⟩ : ∃ gg : Nat → Nat → Int, gg = va_up Gw1 19 (addS pr (Gw1 19) (1) 0 (Gw1 b)) := ⟨_, rfl⟩
      rw [← eGw2] at w
      refine lv_goto (tgt := 233) X.1 X.2.1 d_Ff_combine_66 (by decide) ?_
      have hz8 : okp pr 25 (jnR pr inv op (G a) (G b)) := jnR_ok hI hA hB (fun h => by omega) (by omega)
      have hz9 : Gw2 19 = (jnR pr inv op (G a) (G b)) := by rw [eGw2, va_up_self, e19, eb, hsw2]; exact jnR_0
      have hz9e := hz9
      rw [eGw2, va_up_self] at hz9e
      have hz9e := hz9e.symm
      exact w_vret X hr hlk w ⟨Gw2, rfl, by rw [eGw2]; refine hW1.up ?_; rw [← hz9e, wd9]; exact hz8.ok hpr.2, hz9, fun j j1 j2 j3 => by rw [eGw2, va_up_ne _ _ j2, eGw1, va_up_ne _ _ j2]⟩ d_Ff_combine_233
    · refine W.eq (g2 := F0 m 1 ls [.int (iI (1))]) (by rw [hsw2]) ?_
      refine lv_tableIn (tgt := 69) X.1 X.2.1 d_Ff_combine_1 (by decide) (by decide) rfl (by decide) ?_
      refine lv_aload_n X.1 X.2.1 d_Ff_combine_69 rfl (lv_at hl 0 rfl) ?_
      refine t_ffo X hT w hF 4 (by decide) k_f_Ff_41 rfl d_Ff_combine_70 ?_
      refine lv_aload_n X.1 X.2.1 d_Ff_combine_73 rfl (lv_at hl 2 rfl) ?_
      refine w_cVv (n := 1) (i := 2 * 19) (ci := 0) (As := [.ref (ad (2 * a))]) (rest := []) X w hml hl.1 (c_Po_copyFrom hT (G := G) (k := 19) (q := a) (by omega) (by omega) (by omega) (hW _ (by omega)) (hW _ (by omega)) (by rw [wd_2 (by omega)]; have := hW a (by omega); rw [wd_2 (by omega)] at this; exact this)) (by omega) (mkV_o (by omega)) rfl k_m_Ff_159 k_im_Po_copyFrom k_se_Po_copyFrom k_i_Po k_co_Po_copyFrom (by decide +kernel) rfl ⟨Nat.le_of_ble_eq_true rfl, Nat.le_of_ble_eq_true rfl⟩ ⟨rfl, rfl⟩ ⟨by decide, by decide⟩ rfl (Nat.le_of_ble_eq_true rfl) d_Ff_combine_74 (fun C' H locs hp w => ?_)
      subst hp
      obtain ⟨Gw1, eGw1⟩ : ∃ gg : Nat → Nat → Int, gg = va_up G 19 (G a) := ⟨_, rfl⟩
      rw [← eGw1] at w
      have eb : Gw1 b = G b := by rw [eGw1, va_up_ne _ _ (by omega)]
      have e19 : Gw1 19 = G a := by rw [eGw1, va_up_self]
      have hW1 : WF Gw1 := by rw [eGw1]; exact hW.up (by rw [wd_2 (by omega)]; exact hokA)
      refine lv_aload_n X.1 X.2.1 d_Ff_combine_77 rfl (lv_at hl 0 rfl) ?_
      refine t_ffo X hT w hF 0 (by decide) k_f_Ff_12 rfl d_Ff_combine_78 ?_
      refine lv_aload_n X.1 X.2.1 d_Ff_combine_81 rfl (lv_at hl 0 rfl) ?_
      refine t_ffo X hT w hF 4 (by decide) k_f_Ff_41 rfl d_Ff_combine_82 ?_
      refine lv_aload_n X.1 X.2.1 d_Ff_combine_85 rfl (lv_at hl 0 rfl) ?_
      refine t_ffo X hT w hF 0 (by decide) k_f_Ff_12 rfl d_Ff_combine_86 ?_
      refine t_ar X hT w hO 0 (by decide) k_f_Ff_59 rfl d_Ff_combine_89 ?_
      refine lv_iconst (v := iI (1)) X.1 X.2.1 d_Ff_combine_92 (by decide) ?_
      refine i_sub (a := pr) (b := 1) X d_Ff_combine_93 ?_
      refine lv_iconst (v := iI (0)) X.1 X.2.1 d_Ff_combine_94 (by decide) ?_
      refine lv_aload_n X.1 X.2.1 d_Ff_combine_95 rfl (lv_at hl 3 rfl) ?_
      refine w_cVv (n := 4) (i := 123) (ci := 1) (As := [.ref (ad (2 * 19)), .int (iI (pr - 1)), .int (iI (0)), .ref (ad (2 * b))]) (rest := []) X w hml hl.1 (c_Ar_addShifted hT (G := Gw1) hO (k := 19) (q := b) (t := 0) (f := pr - 1) (by omega) (by omega) (by omega) (by rw [e19, wd9]; exact hA) (by rw [eb, wdb]; exact hokB) (by omega) (by rw [eb, wd9]; omega)) (by omega) (by rw [mkV_O (by decide)]; exact hO.1) rfl k_m_Ff_190 k_im_Ar_addShifted k_se_Ar_addShifted k_i_Ar k_co_Ar_addShifted (by decide +kernel) rfl ⟨Nat.le_of_ble_eq_true rfl, Nat.le_of_ble_eq_true rfl⟩ ⟨rfl, rfl⟩ ⟨Nat.zero_le _, Nat.zero_le _⟩ rfl (Nat.le_of_ble_eq_true rfl) d_Ff_combine_96 (fun C' H locs hp w => ?_)
      subst hp
      obtain ⟨Gw2, eGw2⟩ : ∃ gg : Nat → Nat → Int, gg = va_up Gw1 19 (addS pr (Gw1 19) (pr - 1) 0 (Gw1 b)) := ⟨_, rfl⟩
      rw [← eGw2] at w
      refine lv_goto (tgt := 233) X.1 X.2.1 d_Ff_combine_99 (by decide) ?_
      have hz8 : okp pr 25 (jnR pr inv op (G a) (G b)) := jnR_ok hI hA hB (fun h => by omega) (by omega)
      have hz9 : Gw2 19 = (jnR pr inv op (G a) (G b)) := by rw [eGw2, va_up_self, e19, eb, hsw2]; exact jnR_1
      have hz9e := hz9
      rw [eGw2, va_up_self] at hz9e
      have hz9e := hz9e.symm
      exact w_vret X hr hlk w ⟨Gw2, rfl, by rw [eGw2]; refine hW1.up ?_; rw [← hz9e, wd9]; exact hz8.ok hpr.2, hz9, fun j j1 j2 j3 => by rw [eGw2, va_up_ne _ _ j2, eGw1, va_up_ne _ _ j2]⟩ d_Ff_combine_233
    · refine W.eq (g2 := F0 m 1 ls [.int (iI (2))]) (by rw [hsw2]) ?_
      refine lv_tableIn (tgt := 102) X.1 X.2.1 d_Ff_combine_1 (by decide) (by decide) rfl (by decide) ?_
      refine lv_aload_n X.1 X.2.1 d_Ff_combine_102 rfl (lv_at hl 0 rfl) ?_
      refine t_ffo X hT w hF 4 (by decide) k_f_Ff_41 rfl d_Ff_combine_103 ?_
      refine w_cVv (n := 0) (i := 2 * 19) (ci := 0) (As := []) (rest := []) X w hml hl.1 (c_Po_clear hT (G := G) (k := 19) (by omega) (hW _ (by omega))) (by omega) (mkV_o (by omega)) rfl k_m_Ff_66 k_im_Po_clear k_se_Po_clear k_i_Po k_co_Po_clear (by decide +kernel) rfl ⟨Nat.le_of_ble_eq_true rfl, Nat.le_of_ble_eq_true rfl⟩ ⟨rfl, rfl⟩ ⟨Nat.zero_le _, Nat.zero_le _⟩ rfl (Nat.le_of_ble_eq_true rfl) d_Ff_combine_106 (fun C' H locs hp w => ?_)
      subst hp
      obtain ⟨Gw1, eGw1⟩ : ∃ gg : Nat → Nat → Int, gg = va_up G 19 (fun _ => 0) := ⟨_, rfl⟩
      rw [← eGw1] at w
      have ea : Gw1 a = G a := by rw [eGw1, va_up_ne _ _ (by omega)]
      have eb : Gw1 b = G b := by rw [eGw1, va_up_ne _ _ (by omega)]
      have e19 : Gw1 19 = fun _ => 0 := by rw [eGw1, va_up_self]
      have hW1 : WF Gw1 := by rw [eGw1]; exact hW.up (ok_0 _)
      refine lv_aload_n X.1 X.2.1 d_Ff_combine_109 rfl (lv_at hl 0 rfl) ?_
      refine t_ffo X hT w hF 0 (by decide) k_f_Ff_12 rfl d_Ff_combine_110 ?_
      refine lv_aload_n X.1 X.2.1 d_Ff_combine_113 rfl (lv_at hl 0 rfl) ?_
      refine t_ffo X hT w hF 4 (by decide) k_f_Ff_41 rfl d_Ff_combine_114 ?_
      refine lv_iconst (v := iI (1)) X.1 X.2.1 d_Ff_combine_117 (by decide) ?_
      refine lv_aload_n X.1 X.2.1 d_Ff_combine_118 rfl (lv_at hl 2 rfl) ?_
      refine lv_aload_n X.1 X.2.1 d_Ff_combine_119 rfl (lv_at hl 3 rfl) ?_
      refine w_cVv (n := 4) (i := 123) (ci := 1) (As := [.ref (ad (2 * 19)), .int (iI (1)), .ref (ad (2 * a)), .ref (ad (2 * b))]) (rest := []) X w hml hl.1 (c_Ar_addProduct hT (G := Gw1) hO (k := 19) (q := a) (r := b) (f := 1) (by omega) (by omega) (by omega) (by omega) (by omega) (by rw [e19]; exact okp_0 _ (by omega)) (by rw [ea, wda]; exact hokA) (by rw [eb, wdb]; exact hokB) (by omega) (by rw [ea, eb, wd9]; omega)) (by omega) (by rw [mkV_O (by decide)]; exact hO.1) rfl k_m_Ff_194 k_im_Ar_addProduct k_se_Ar_addProduct k_i_Ar k_co_Ar_addProduct (by decide +kernel) rfl ⟨Nat.le_of_ble_eq_true rfl, Nat.le_of_ble_eq_true rfl⟩ ⟨rfl, rfl⟩ ⟨Nat.zero_le _, Nat.zero_le _⟩ rfl (Nat.le_of_ble_eq_true rfl) d_Ff_combine_120 (fun C' H locs hp w => ?_)
      subst hp
      obtain ⟨Gw2, eGw2⟩ : ∃ gg : Nat → Nat → Int, gg = va_up Gw1 19 (addP pr (Gw1 19) 1 (Gw1 a) (Gw1 b) (dg 300 (Gw1 a) + 1).toNat) := ⟨_, rfl⟩
      rw [← eGw2] at w
      refine lv_goto (tgt := 233) X.1 X.2.1 d_Ff_combine_123 (by decide) ?_
      have hz8 : okp pr 25 (jnR pr inv op (G a) (G b)) := by
        have h9 : (jnR pr inv op (G a) (G b)) = prd pr (G a) (G b) := by unfold jnR; rw [if_neg (by omega), if_neg (by omega), if_pos (by omega)]
        rw [h9]; exact prd_ok (by omega) hpr.2 hA hB (by omega) (by have := h2 (by omega); omega)
      have hz9 : Gw2 19 = (jnR pr inv op (G a) (G b)) := by rw [eGw2, va_up_self, e19, ea, eb]; unfold jnR; rw [if_neg (by omega), if_neg (by omega), if_pos (by omega)]; rfl
      have hz9e := hz9
      rw [eGw2, va_up_self] at hz9e
      have hz9e := hz9e.symm
      exact w_vret X hr hlk w ⟨Gw2, rfl, by rw [eGw2]; refine hW1.up ?_; rw [← hz9e, wd9]; exact hz8.ok hpr.2, hz9, fun j j1 j2 j3 => by rw [eGw2, va_up_ne _ _ j2, eGw1, va_up_ne _ _ j2]⟩ d_Ff_combine_233
    · refine W.eq (g2 := F0 m 1 ls [.int (iI (3))]) (by rw [hsw2]) ?_
      refine lv_tableIn (tgt := 126) X.1 X.2.1 d_Ff_combine_1 (by decide) (by decide) rfl (by decide) ?_
      refine lv_aload_n X.1 X.2.1 d_Ff_combine_126 rfl (lv_at hl 0 rfl) ?_
      refine t_ffo X hT w hF 5 (by decide) k_f_Ff_45 rfl d_Ff_combine_127 ?_
      refine lv_aload_n X.1 X.2.1 d_Ff_combine_130 rfl (lv_at hl 2 rfl) ?_
      refine w_cVv (n := 1) (i := 2 * 20) (ci := 0) (As := [.ref (ad (2 * a))]) (rest := []) X w hml hl.1 (c_Po_copyFrom hT (G := G) (k := 20) (q := a) (by omega) (by omega) (by omega) (hW _ (by omega)) (hW _ (by omega)) (by rw [wd_2 (by omega)]; have := hW a (by omega); rw [wd_2 (by omega)] at this; exact this)) (by omega) (mkV_o (by omega)) rfl k_m_Ff_159 k_im_Po_copyFrom k_se_Po_copyFrom k_i_Po k_co_Po_copyFrom (by decide +kernel) rfl ⟨Nat.le_of_ble_eq_true rfl, Nat.le_of_ble_eq_true rfl⟩ ⟨rfl, rfl⟩ ⟨by decide, by decide⟩ rfl (Nat.le_of_ble_eq_true rfl) d_Ff_combine_131 (fun C' H locs hp w => ?_)
      subst hp
      obtain ⟨Gw1, eGw1⟩ : ∃ gg : Nat → Nat → Int, gg = va_up G 20 (G a) := ⟨_, rfl⟩
      rw [← eGw1] at w
      have eb : Gw1 b = G b := by rw [eGw1, va_up_ne _ _ (by omega)]
      have e19 : Gw1 20 = G a := by rw [eGw1, va_up_self]
      have hW1 : WF Gw1 := by rw [eGw1]; exact hW.up (by rw [wd_2 (by omega)]; exact hokA)
      refine lv_aload_n X.1 X.2.1 d_Ff_combine_134 rfl (lv_at hl 0 rfl) ?_
      refine t_ffo X hT w hF 0 (by decide) k_f_Ff_12 rfl d_Ff_combine_135 ?_
      refine lv_aload_n X.1 X.2.1 d_Ff_combine_138 rfl (lv_at hl 0 rfl) ?_
      refine t_ffo X hT w hF 5 (by decide) k_f_Ff_45 rfl d_Ff_combine_139 ?_
      refine lv_aload_n X.1 X.2.1 d_Ff_combine_142 rfl (lv_at hl 3 rfl) ?_
      refine lv_aload_n X.1 X.2.1 d_Ff_combine_143 rfl (lv_at hl 0 rfl) ?_
      refine t_ffo X hT w hF 4 (by decide) k_f_Ff_41 rfl d_Ff_combine_144 ?_
      refine w_cVv (n := 3) (i := 123) (ci := 1) (As := [.ref (ad (2 * 20)), .ref (ad (2 * b)), .ref (ad (2 * 19))]) (rest := []) X w hml hl.1 (c_Ar_divide hT (G := Gw1) hO (k := 20) (q := b) (t := 19) (by omega) (by omega) (by omega) (by omega) (by omega) (by omega) (by rw [e19, wd_2 (by omega)]; exact hA) (by rw [eb, wdb]; exact hB) (hW1 _ (by omega)) (by rw [e19, eb]; have := wd_ge 19; omega)) (by omega) (by rw [mkV_O (by decide)]; exact hO.1) rfl k_m_Ff_198 k_im_Ar_divide k_se_Ar_divide k_i_Ar k_co_Ar_divide (by decide +kernel) rfl ⟨Nat.le_of_ble_eq_true rfl, Nat.le_of_ble_eq_true rfl⟩ ⟨rfl, rfl⟩ ⟨Nat.zero_le _, Nat.zero_le _⟩ rfl (Nat.le_of_ble_eq_true rfl) d_Ff_combine_147 (fun C' H locs hp w => ?_)
      subst hp
      obtain ⟨Gw2, eGw2⟩ : ∃ gg : Nat → Nat → Int, gg = va_up (va_up Gw1 19 (dvm pr inv (Gw1 20) (Gw1 b)).2) 20 (dvm pr inv (Gw1 20) (Gw1 b)).1 := ⟨_, rfl⟩
      rw [← eGw2] at w
      rw [e19, eb] at eGw2
      have hq9 := dvm_ok (inv := inv) (M := 25) (by omega) hA hB (by omega) (by omega) hpr.2 (by omega)
      refine lv_goto (tgt := 233) X.1 X.2.1 d_Ff_combine_150 (by decide) ?_
      have hz8 : okp pr 25 (jnR pr inv op (G a) (G b)) := jnR_ok hI hA hB (fun h => by omega) (by omega)
      have hz9 : Gw2 19 = (jnR pr inv op (G a) (G b)) := by rw [eGw2, va_up_ne _ _ (by decide), va_up_self]; unfold jnR; rw [if_neg (by omega), if_neg (by omega), if_neg (by omega), if_pos (by omega)]
      exact w_vret X hr hlk w ⟨Gw2, rfl, by rw [eGw2]; exact (hW1.up (by rw [wd9]; exact hq9.2.ok hpr.2)).up (by rw [wd20]; exact hq9.1.ok hpr.2), hz9, fun j j1 j2 j3 => by rw [eGw2, va_up_ne _ _ j3, va_up_ne _ _ j2, eGw1, va_up_ne _ _ j3]⟩ d_Ff_combine_233
    · refine W.eq (g2 := F0 m 1 ls [.int (iI (4))]) (by rw [hsw2]) ?_
      refine lv_tableIn (tgt := 153) X.1 X.2.1 d_Ff_combine_1 (by decide) (by decide) rfl (by decide) ?_
      refine lv_aload_n X.1 X.2.1 d_Ff_combine_153 rfl (lv_at hl 0 rfl) ?_
      refine t_ffo X hT w hF 4 (by decide) k_f_Ff_41 rfl d_Ff_combine_154 ?_
      refine lv_aload_n X.1 X.2.1 d_Ff_combine_157 rfl (lv_at hl 2 rfl) ?_
      refine w_cVv (n := 1) (i := 2 * 19) (ci := 0) (As := [.ref (ad (2 * a))]) (rest := []) X w hml hl.1 (c_Po_copyFrom hT (G := G) (k := 19) (q := a) (by omega) (by omega) (by omega) (hW _ (by omega)) (hW _ (by omega)) (by rw [wd_2 (by omega)]; have := hW a (by omega); rw [wd_2 (by omega)] at this; exact this)) (by omega) (mkV_o (by omega)) rfl k_m_Ff_159 k_im_Po_copyFrom k_se_Po_copyFrom k_i_Po k_co_Po_copyFrom (by decide +kernel) rfl ⟨Nat.le_of_ble_eq_true rfl, Nat.le_of_ble_eq_true rfl⟩ ⟨rfl, rfl⟩ ⟨by decide, by decide⟩ rfl (Nat.le_of_ble_eq_true rfl) d_Ff_combine_158 (fun C' H locs hp w => ?_)
      subst hp
      obtain ⟨Gw1, eGw1⟩ : ∃ gg : Nat → Nat → Int, gg = va_up G 19 (G a) := ⟨_, rfl⟩
      rw [← eGw1] at w
      have eb : Gw1 b = G b := by rw [eGw1, va_up_ne _ _ (by omega)]
      have e19 : Gw1 19 = G a := by rw [eGw1, va_up_self]
      have hW1 : WF Gw1 := by rw [eGw1]; exact hW.up (by rw [wd_2 (by omega)]; exact hokA)
      refine lv_aload_n X.1 X.2.1 d_Ff_combine_161 rfl (lv_at hl 0 rfl) ?_
      refine t_ffo X hT w hF 0 (by decide) k_f_Ff_12 rfl d_Ff_combine_162 ?_
      refine lv_aload_n X.1 X.2.1 d_Ff_combine_165 rfl (lv_at hl 0 rfl) ?_
      refine t_ffo X hT w hF 4 (by decide) k_f_Ff_41 rfl d_Ff_combine_166 ?_
      refine lv_aload_n X.1 X.2.1 d_Ff_combine_169 rfl (lv_at hl 3 rfl) ?_
      refine lv_aload_n X.1 X.2.1 d_Ff_combine_170 rfl (lv_at hl 0 rfl) ?_
      refine t_ffo X hT w hF 0 (by decide) k_f_Ff_12 rfl d_Ff_combine_171 ?_
      refine t_ar X hT w hO 1 (by decide) k_f_Ff_202 rfl d_Ff_combine_174 ?_
      refine w_cVv (n := 3) (i := 123) (ci := 1) (As := [.ref (ad (2 * 19)), .ref (ad (2 * b)), .ref (ad (2 * 0))]) (rest := []) X w hml hl.1 (c_Ar_divide hT (G := Gw1) hO (k := 19) (q := b) (t := 0) (by omega) (by omega) (by omega) (by omega) (by omega) (by omega) (by rw [e19, wd_2 (by omega)]; exact hA) (by rw [eb, wdb]; exact hB) (hW1 _ (by omega)) (by rw [e19, eb]; have := wd_ge 0; omega)) (by omega) (by rw [mkV_O (by decide)]; exact hO.1) rfl k_m_Ff_198 k_im_Ar_divide k_se_Ar_divide k_i_Ar k_co_Ar_divide (by decide +kernel) rfl ⟨Nat.le_of_ble_eq_true rfl, Nat.le_of_ble_eq_true rfl⟩ ⟨rfl, rfl⟩ ⟨Nat.zero_le _, Nat.zero_le _⟩ rfl (Nat.le_of_ble_eq_true rfl) d_Ff_combine_177 (fun C' H locs hp w => ?_)
      subst hp
      obtain ⟨Gw2, eGw2⟩ : ∃ gg : Nat → Nat → Int, gg = va_up (va_up Gw1 0 (dvm pr inv (Gw1 19) (Gw1 b)).2) 19 (dvm pr inv (Gw1 19) (Gw1 b)).1 := ⟨_, rfl⟩
      rw [← eGw2] at w
      rw [e19, eb] at eGw2
      have hq9 := dvm_ok (inv := inv) (M := 25) (by omega) hA hB (by omega) (by omega) hpr.2 (by omega)
      refine lv_goto (tgt := 233) X.1 X.2.1 d_Ff_combine_180 (by decide) ?_
      have hz8 : okp pr 25 (jnR pr inv op (G a) (G b)) := jnR_ok hI hA hB (fun h => by omega) (by omega)
      have hz9 : Gw2 19 = (jnR pr inv op (G a) (G b)) := by rw [eGw2, va_up_self]; unfold jnR; rw [if_neg (by omega), if_neg (by omega), if_neg (by omega), if_neg (by omega), if_pos (by omega)]
      exact w_vret X hr hlk w ⟨Gw2, rfl, by rw [eGw2]; exact (hW1.up ((hq9.2.mono (wd_ge 0)).ok hpr.2)).up (by rw [wd9]; exact hq9.1.ok hpr.2), hz9, fun j j1 j2 j3 => by rw [eGw2, va_up_ne _ _ j2, va_up_ne _ _ (by omega), eGw1, va_up_ne _ _ j2]⟩ d_Ff_combine_233
    · refine W.eq (g2 := F0 m 1 ls [.int (iI (5))]) (by rw [hsw2]) ?_
      refine lv_tableIn (tgt := 183) X.1 X.2.1 d_Ff_combine_1 (by decide) (by decide) rfl (by decide) ?_
      refine lv_aload_n X.1 X.2.1 d_Ff_combine_183 rfl (lv_at hl 0 rfl) ?_
      refine t_ffo X hT w hF 0 (by decide) k_f_Ff_12 rfl d_Ff_combine_184 ?_
      refine lv_aload_n X.1 X.2.1 d_Ff_combine_187 rfl (lv_at hl 0 rfl) ?_
      refine t_ffo X hT w hF 4 (by decide) k_f_Ff_41 rfl d_Ff_combine_188 ?_
      refine lv_aload_n X.1 X.2.1 d_Ff_combine_191 rfl (lv_at hl 2 rfl) ?_
      refine lv_aload_n X.1 X.2.1 d_Ff_combine_192 rfl (lv_at hl 3 rfl) ?_
      refine w_cVv (n := 3) (i := 123) (ci := 1) (As := [.ref (ad (2 * 19)), .ref (ad (2 * a)), .ref (ad (2 * b))]) (rest := []) X w hml hl.1 (c_Ar_findCommonDivisor hT (G := G) hO (t := 19) (a := a) (b := b) (by omega) (by omega) (by omega) hW hA hB) (by omega) (by rw [mkV_O (by decide)]; exact hO.1) rfl k_m_Ff_205 k_im_Ar_findCommonDivisor k_se_Ar_findCommonDivisor k_i_Ar k_co_Ar_findCommonDivisor (by decide +kernel) rfl ⟨Nat.le_of_ble_eq_true rfl, Nat.le_of_ble_eq_true rfl⟩ ⟨rfl, rfl⟩ ⟨Nat.zero_le _, Nat.zero_le _⟩ rfl (Nat.le_of_ble_eq_true rfl) d_Ff_combine_193 (fun C' H locs hp w => ?_)
      obtain ⟨G6, rfl, q1, q2, q3, q4⟩ := hp
      refine lv_goto (tgt := 233) X.1 X.2.1 d_Ff_combine_196 (by decide) ?_
      have hz8 : okp pr 25 (jnR pr inv op (G a) (G b)) := jnR_ok hI hA hB (fun h => by omega) (by omega)
      have hz9 : G6 19 = (jnR pr inv op (G a) (G b)) := by rw [q2]; unfold jnR; rw [if_neg (by omega), if_neg (by omega), if_neg (by omega), if_neg (by omega), if_neg (by omega), if_pos (by omega)]
      exact w_vret X hr hlk w ⟨G6, rfl, by exact q1, hz9, fun j j1 j2 j3 => by exact q4 j (by omega) (by omega) (by omega) j2⟩ d_Ff_combine_233
    · refine W.eq (g2 := F0 m 1 ls [.int (iI (6))]) (by rw [hsw2]) ?_
      refine lv_tableIn (tgt := 199) X.1 X.2.1 d_Ff_combine_1 (by decide) (by decide) rfl (by decide) ?_
      refine lv_aload_n X.1 X.2.1 d_Ff_combine_199 rfl (lv_at hl 0 rfl) ?_
      refine t_ffo X hT w hF 4 (by decide) k_f_Ff_41 rfl d_Ff_combine_200 ?_
      refine lv_aload_n X.1 X.2.1 d_Ff_combine_203 rfl (lv_at hl 2 rfl) ?_
      refine w_cVv (n := 1) (i := 2 * 19) (ci := 0) (As := [.ref (ad (2 * a))]) (rest := []) X w hml hl.1 (c_Po_copyFrom hT (G := G) (k := 19) (q := a) (by omega) (by omega) (by omega) (hW _ (by omega)) (hW _ (by omega)) (by rw [wd_2 (by omega)]; have := hW a (by omega); rw [wd_2 (by omega)] at this; exact this)) (by omega) (mkV_o (by omega)) rfl k_m_Ff_159 k_im_Po_copyFrom k_se_Po_copyFrom k_i_Po k_co_Po_copyFrom (by decide +kernel) rfl ⟨Nat.le_of_ble_eq_true rfl, Nat.le_of_ble_eq_true rfl⟩ ⟨rfl, rfl⟩ ⟨by decide, by decide⟩ rfl (Nat.le_of_ble_eq_true rfl) d_Ff_combine_204 (fun C' H locs hp w => ?_)
      subst hp
      obtain ⟨Gw1, eGw1⟩ : ∃ gg : Nat → Nat → Int, gg = va_up G 19 (G a) := ⟨_, rfl⟩
      rw [← eGw1] at w
      have eb : Gw1 b = G b := by rw [eGw1, va_up_ne _ _ (by omega)]
      have e19 : Gw1 19 = G a := by rw [eGw1, va_up_self]
      have hW1 : WF Gw1 := by rw [eGw1]; exact hW.up (by rw [wd_2 (by omega)]; exact hokA)
      refine lv_aload_n X.1 X.2.1 d_Ff_combine_207 rfl (lv_at hl 0 rfl) ?_
      refine t_ffo X hT w hF 0 (by decide) k_f_Ff_12 rfl d_Ff_combine_208 ?_
      refine lv_aload_n X.1 X.2.1 d_Ff_combine_211 rfl (lv_at hl 0 rfl) ?_
      refine t_ffo X hT w hF 4 (by decide) k_f_Ff_41 rfl d_Ff_combine_212 ?_
      refine w_cVv (n := 1) (i := 123) (ci := 1) (As := [.ref (ad (2 * 19))]) (rest := []) X w hml hl.1 (c_Ar_makeMonic hT (G := Gw1) hO (k := 19) (by omega) (by rw [e19, wd9]; exact hA)) (by omega) (by rw [mkV_O (by decide)]; exact hO.1) rfl k_m_Ff_208 k_im_Ar_makeMonic k_se_Ar_makeMonic k_i_Ar k_co_Ar_makeMonic (by decide +kernel) rfl ⟨Nat.le_of_ble_eq_true rfl, Nat.le_of_ble_eq_true rfl⟩ ⟨rfl, rfl⟩ ⟨Nat.zero_le _, Nat.zero_le _⟩ rfl (Nat.le_of_ble_eq_true rfl) d_Ff_combine_215 (fun C' H locs hp w => ?_)
      subst hp
      obtain ⟨Gw2, eGw2⟩ : ∃ gg : Nat → Nat → Int, gg = va_up Gw1 19 (mon pr inv (Gw1 19)) := ⟨_, rfl⟩
      rw [← eGw2] at w
      refine lv_goto (tgt := 233) X.1 X.2.1 d_Ff_combine_218 (by decide) ?_
      have hz8 : okp pr 25 (jnR pr inv op (G a) (G b)) := jnR_ok hI hA hB (fun h => by omega) (by omega)
      have hz9 : Gw2 19 = (jnR pr inv op (G a) (G b)) := by rw [eGw2, va_up_self, e19]; unfold jnR; rw [if_neg (by omega), if_neg (by omega), if_neg (by omega), if_neg (by omega), if_neg (by omega), if_neg (by omega), if_pos (by omega)]
      have hz9e := hz9
      rw [eGw2, va_up_self] at hz9e
      have hz9e := hz9e.symm
      exact w_vret X hr hlk w ⟨Gw2, rfl, by rw [eGw2]; refine hW1.up ?_; rw [← hz9e, wd9]; exact hz8.ok hpr.2, hz9, fun j j1 j2 j3 => by rw [eGw2, va_up_ne _ _ j2, eGw1, va_up_ne _ _ j2]⟩ d_Ff_combine_233
