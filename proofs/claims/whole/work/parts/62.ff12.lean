theorem c_Ff_join {l : Launch} (hst : l.stackTraces = false) {D : va_G} {cs : Nat → ClassId} {A : Nat → Prop} {ad : Nat → Nat} {T : Nat} (hT : 132 ≤ T) {G : Nat → Nat → Int} {O : Nat → va_E} {pr : Int} {inv : Nat → Int} {K : KS} {ph : Nat → Nat} {lo hi : Nat → Int} (hcl : clI cs ad pr inv K ph lo hi G O) {t op a b : Int} (ht9 : rg t) (hop9 : rg op) (ha9 : rg a) (hb9 : rg b) : FXi l y_Ff_join ws_Ff_join { frames := 7, cells := 4, slots := 24, locals := 123 } D cs A ad T [.ref (ad (122)), .int (iI (t)), .int (iI (op)), .int (iI (a)), .int (iI (b))] (mkV cs ad (rV G) O) (fun x C' => ((0 ≤ t ∧ t ≤ 15) ∧ (0 ≤ a ∧ a ≤ 15) ∧ (0 ≤ b ∧ b ≤ 15)) ∧ (0 ≤ op ∧ op ≤ 7) ∧ ((op = 3 ∨ op = 4) → 0 ≤ dg 300 (G (21 + b.toNat))) ∧ (op = 2 → dg 300 (G (21 + a.toNat)) + dg 300 (G (21 + b.toNat)) ≤ 24) ∧ x = iI (dg 300 (jnR pr inv op (G (21 + a.toNat)) (G (21 + b.toNat)))) ∧ okp pr 25 (jnR pr inv op (G (21 + a.toNat)) (G (21 + b.toNat))) ∧ clP cs ad pr inv K (va_up (fun r => G (21 + r)) t.toNat (jnR pr inv op (G (21 + a.toNat)) (G (21 + b.toNat)))) O C') (fun E C' => C' = (mkV cs ad (rV G) O) ∧ ((E = xNSE ∧ (outF t 0 15 = 1 ∨ outF a 0 15 = 1 ∨ outF b 0 15 = 1)) ∨ (E = xIAE ∧ ((0 ≤ t ∧ t ≤ 15) ∧ (0 ≤ a ∧ a ≤ 15) ∧ (0 ≤ b ∧ b ≤ 15)) ∧ (op < 0 ∨ 7 < op ∨ ((op = 3 ∨ op = 4) ∧ dg 300 (G (21 + b.toNat)) < 0))) ∨ (E = xARE ∧ ((0 ≤ t ∧ t ≤ 15) ∧ (0 ≤ a ∧ a ≤ 15) ∧ (0 ≤ b ∧ b ≤ 15)) ∧ op = 2 ∧ 24 < dg 300 (G (21 + a.toNat)) + dg 300 (G (21 + b.toNat))))) 4 := by
  refine f_bodyi (by decide) (Nat.le_of_ble_eq_true rfl) ?_
  intro p e s m below meth c X hr hlk hml hnx ev w ls hl
  have hl : lv_has ls 8 [(0, .ref (ad (122))), (1, .int (iI (t))), (2, .int (iI (op))), (3, .int (iI (a))), (4, .int (iI (b)))] := hl
  obtain ⟨hO, hF, hKc, hS, hW, hRg, h14, h15, h18⟩ := id hcl
  have hU := hKc.1
  have hI : invP pr inv := hO.2.2
  have hpr := hI.1
  refine lv_aload_n X.1 X.2.1 d_Ff_join_0 rfl (lv_at hl 0 rfl) ?_
  refine lv_iload_n X.1 X.2.1 d_Ff_join_1 rfl (lv_at hl 1 rfl) ?_
  refine x_cVr (n := 1) (i := 122) (ci := 4) (k1 := 1) (As := [.int (iI (t))]) (rest := []) X ev hnx hlk w hml hl.1 (c_Ff_register hst hT hO hF (r := t) (by omega)) (fun E C' h => ⟨h.1, Or.inl ⟨h.2.1, Or.inl h.2.2⟩⟩) (by omega) (by rw [mkV_O (by decide)]; exact hF.1) rfl k_m_Ff_72 k_im_Ff_register k_se_Ff_register k_i_Ff k_co_Ff_register (by decide +kernel) rfl ⟨Nat.le_of_ble_eq_true rfl, Nat.le_of_ble_eq_true rfl⟩ ⟨rfl, rfl⟩ ⟨by decide, by decide⟩ (by decide) (by decide) rfl (Nat.le_of_ble_eq_true rfl) d_Ff_join_2 (fun r' C' H locs hp w => ?_)
  obtain ⟨k0, rfl, rfl⟩ := hp
  refine lv_astore (lv' := [(5, .ref (ad (2 * ((21 + t.toNat))))), (0, .ref (ad (122))), (1, .int (iI (t))), (2, .int (iI (op))), (3, .int (iI (a))), (4, .int (iI (b)))]) X.1 X.2.1 d_Ff_join_5 hl (by decide) rfl (fun ls hl => ?_)
  refine lv_aload_n X.1 X.2.1 d_Ff_join_7 rfl (lv_at hl 1 rfl) ?_
  refine lv_iload_n X.1 X.2.1 d_Ff_join_8 rfl (lv_at hl 4 rfl) ?_
  refine x_cVr (n := 1) (i := 122) (ci := 4) (k1 := 1) (As := [.int (iI (a))]) (rest := []) X ev hnx hlk w hml hl.1 (c_Ff_register hst hT hO hF (r := a) (by omega)) (fun E C' h => ⟨h.1, Or.inl ⟨h.2.1, Or.inr (Or.inl h.2.2)⟩⟩) (by omega) (by rw [mkV_O (by decide)]; exact hF.1) rfl k_m_Ff_72 k_im_Ff_register k_se_Ff_register k_i_Ff k_co_Ff_register (by decide +kernel) rfl ⟨Nat.le_of_ble_eq_true rfl, Nat.le_of_ble_eq_true rfl⟩ ⟨rfl, rfl⟩ ⟨by decide, by decide⟩ (by decide) (by decide) rfl (Nat.le_of_ble_eq_true rfl) d_Ff_join_9 (fun r' C' H locs hp w => ?_)
  obtain ⟨k0a, rfl, rfl⟩ := hp
  refine lv_astore (lv' := [(6, .ref (ad (2 * ((21 + a.toNat))))), (5, .ref (ad (2 * ((21 + t.toNat))))), (0, .ref (ad (122))), (1, .int (iI (t))), (2, .int (iI (op))), (3, .int (iI (a))), (4, .int (iI (b)))]) X.1 X.2.1 d_Ff_join_12 hl (by decide) rfl (fun ls hl => ?_)
  refine lv_aload_n X.1 X.2.1 d_Ff_join_14 rfl (lv_at hl 2 rfl) ?_
  refine lv_iload X.1 X.2.1 d_Ff_join_15 (lv_at hl 6 rfl) ?_
  refine x_cVr (n := 1) (i := 122) (ci := 4) (k1 := 1) (As := [.int (iI (b))]) (rest := []) X ev hnx hlk w hml hl.1 (c_Ff_register hst hT hO hF (r := b) (by omega)) (fun E C' h => ⟨h.1, Or.inl ⟨h.2.1, Or.inr (Or.inr h.2.2)⟩⟩) (by omega) (by rw [mkV_O (by decide)]; exact hF.1) rfl k_m_Ff_72 k_im_Ff_register k_se_Ff_register k_i_Ff k_co_Ff_register (by decide +kernel) rfl ⟨Nat.le_of_ble_eq_true rfl, Nat.le_of_ble_eq_true rfl⟩ ⟨rfl, rfl⟩ ⟨by decide, by decide⟩ (by decide) (by decide) rfl (Nat.le_of_ble_eq_true rfl) d_Ff_join_17 (fun r' C' H locs hp w => ?_)
  obtain ⟨k0b, rfl, rfl⟩ := hp
  have hA9 := hRg a.toNat (by omega)
  have hB9 := hRg b.toNat (by omega)
  have da1 := (hA9.ok hpr.2).dlt 300
  have db1 := (hB9.ok hpr.2).dlt 300
  have da0 := dg_ge 300 (G (21 + a.toNat))
  have db0 := dg_ge 300 (G (21 + b.toNat))
  refine lv_astore (lv' := [(7, .ref (ad (2 * ((21 + b.toNat))))), (6, .ref (ad (2 * ((21 + a.toNat))))), (5, .ref (ad (2 * ((21 + t.toNat))))), (0, .ref (ad (122))), (1, .int (iI (t))), (2, .int (iI (op))), (3, .int (iI (a))), (4, .int (iI (b)))]) X.1 X.2.1 d_Ff_join_20 hl (by decide) rfl (fun ls hl => ?_)
  refine lv_iload_n X.1 X.2.1 d_Ff_join_22 rfl (lv_at hl 5 rfl) ?_
  refine z_lt (a := op) (tgt := 32) X (by omega) d_Ff_join_23 (by decide) (fun h_23 => ?_) (fun h_23 => ?_)
  · exact x_thrIAE (is := 93) (text := "no such operation") X hst ev (by decide) k_c_Ff_52 k_i_IllegalArgumentException w (⟨rfl, Or.inr (Or.inl ⟨rfl, ⟨k0, k0a, k0b⟩, by omega⟩)⟩) hml hl.1 hnx hlk d_Ff_join_32 d_Ff_join_35 d_Ff_join_36 d_Ff_join_38 d_Ff_join_41 (by decide) (by decide) (by decide) (by decide) (by decide) (by decide)
  · refine lv_iload_n X.1 X.2.1 d_Ff_join_26 rfl (lv_at hl 5 rfl) ?_
    refine lv_bipush (v := iI (7)) X.1 X.2.1 d_Ff_join_27 (by decide) ?_
    refine i_le (a := op) (b := 7) (tgt := 42) X (by omega) (by omega) d_Ff_join_29 (by decide) (fun h_29 => ?_) (fun h_29 => ?_)
    · refine lv_iload_n X.1 X.2.1 d_Ff_join_42 rfl (lv_at hl 5 rfl) ?_
      refine lv_iconst (v := iI (3)) X.1 X.2.1 d_Ff_join_43 (by decide) ?_
      refine i_eq (a := op) (b := 3) (tgt := 52) X (by omega) (by omega) d_Ff_join_44 (by decide) (fun h_44 => ?_) (fun h_44 => ?_)
      · refine lv_aload X.1 X.2.1 d_Ff_join_52 (lv_at hl 0 rfl) ?_
        refine g_deg (k := (21 + b.toNat)) X hT w (by omega) k_f_Ff_95 d_Ff_join_54 ?_
        refine z_ge (a := dg 300 (G ((21 + b.toNat)))) (tgt := 70) X (by omega) d_Ff_join_57 (by decide) (fun h_57 => ?_) (fun h_57 => ?_)
        · refine lv_iload_n X.1 X.2.1 d_Ff_join_70 rfl (lv_at hl 5 rfl) ?_
          refine lv_iconst (v := iI (2)) X.1 X.2.1 d_Ff_join_71 (by decide) ?_
          refine i_ne (a := op) (b := 2) (tgt := 101) X (by omega) (by omega) d_Ff_join_72 (by decide) (fun h_72 => ?_) (fun h_72 => ?_)
          · refine lv_aload_n X.1 X.2.1 d_Ff_join_101 rfl (lv_at hl 3 rfl) ?_
            refine lv_iload_n X.1 X.2.1 d_Ff_join_102 rfl (lv_at hl 5 rfl) ?_
            refine lv_aload X.1 X.2.1 d_Ff_join_103 (lv_at hl 1 rfl) ?_
            refine lv_aload X.1 X.2.1 d_Ff_join_105 (lv_at hl 0 rfl) ?_
            refine w_cVv (n := 3) (i := 122) (ci := 4) (As := [.int (iI (op)), .ref (ad (2 * ((21 + a.toNat)))), .ref (ad (2 * ((21 + b.toNat))))]) (rest := []) X w hml hl.1 (c_Ff_combine hT (G := G) hO hF (op := op) (a := 21 + a.toNat) (b := 21 + b.toNat) (by omega) (by omega) (by omega) hW hA9 hB9 (by omega) (by omega)) (by omega) (by rw [mkV_O (by decide)]; exact hF.1) rfl k_m_Ff_105 k_im_Ff_combine k_se_Ff_combine k_i_Ff k_co_Ff_combine (by decide +kernel) rfl ⟨Nat.le_of_ble_eq_true rfl, Nat.le_of_ble_eq_true rfl⟩ ⟨rfl, rfl⟩ ⟨by decide, by decide⟩ rfl (Nat.le_of_ble_eq_true rfl) d_Ff_join_107 (fun C' H locs hp w => ?_)
            obtain ⟨G6, rfl, q1, q2, q4⟩ := hp
            have q3 : okp pr 25 (jnR pr inv op (G (21 + a.toNat)) (G (21 + b.toNat))) := jnR_ok hI hA9 hB9 (fun h => by have := ((prd_ok (N := 25) (show 0 < pr by omega) hpr.2 hA9 hB9 (by omega) (by omega)).ok hpr.2).dlt 300; omega) (by omega)
            refine lv_aload_n X.1 X.2.1 d_Ff_join_110 rfl (lv_at hl 3 rfl) ?_
            refine lv_aload X.1 X.2.1 d_Ff_join_111 (lv_at hl 2 rfl) ?_
            refine w_cVi (n := 1) (i := 122) (ci := 4) (As := [.ref (ad (2 * ((21 + t.toNat))))]) (rest := []) X w hml hl.1 (c_Ff_store hT (G := G6) hO hF (k := (21 + t.toNat)) (by omega) q1) (by omega) (by rw [mkV_O (by decide)]; exact hF.1) rfl k_m_Ff_109 k_im_Ff_store k_se_Ff_store k_i_Ff k_co_Ff_store (by decide +kernel) rfl ⟨Nat.le_of_ble_eq_true rfl, Nat.le_of_ble_eq_true rfl⟩ ⟨rfl, rfl⟩ ⟨by decide, by decide⟩ rfl (Nat.le_of_ble_eq_true rfl) d_Ff_join_113 (fun r' C' H locs hp w => ?_)
            obtain ⟨rfl, rfl⟩ := hp
            refine x_iret X hr hlk w ⟨⟨k0, k0a, k0b⟩, by omega, by omega, by omega, by rw [q2], q3, clP.put hcl (by omega) q3 (q1.up (by rw [wd_2 (by omega), q2]; exact q3.ok hpr.2)) (fun j hj h h2 => by rw [va_up_ne _ _ h2, q4 j (by omega) (by omega) (by omega)]) (by rw [va_up_self, q2])⟩ d_Ff_join_116 (by decide) (by decide)
          · refine lv_aload X.1 X.2.1 d_Ff_join_75 (lv_at hl 1 rfl) ?_
            refine g_deg (k := (21 + a.toNat)) X hT w (by omega) k_f_Ff_95 d_Ff_join_77 ?_
            refine lv_aload X.1 X.2.1 d_Ff_join_80 (lv_at hl 0 rfl) ?_
            refine g_deg (k := (21 + b.toNat)) X hT w (by omega) k_f_Ff_95 d_Ff_join_82 ?_
            refine i_add (a := dg 300 (G ((21 + a.toNat)))) (b := dg 300 (G ((21 + b.toNat)))) X d_Ff_join_85 ?_
            refine lv_bipush (v := iI (24)) X.1 X.2.1 d_Ff_join_86 (by decide) ?_
            refine i_le (a := (dg 300 (G ((21 + a.toNat)))) + (dg 300 (G ((21 + b.toNat))))) (b := 24) (tgt := 101) X (by omega) (by omega) d_Ff_join_88 (by decide) (fun h_88 => ?_) (fun h_88 => ?_)
            · refine lv_aload_n X.1 X.2.1 d_Ff_join_101 rfl (lv_at hl 3 rfl) ?_
              refine lv_iload_n X.1 X.2.1 d_Ff_join_102 rfl (lv_at hl 5 rfl) ?_
              refine lv_aload X.1 X.2.1 d_Ff_join_103 (lv_at hl 1 rfl) ?_
              refine lv_aload X.1 X.2.1 d_Ff_join_105 (lv_at hl 0 rfl) ?_
              refine w_cVv (n := 3) (i := 122) (ci := 4) (As := [.int (iI (op)), .ref (ad (2 * ((21 + a.toNat)))), .ref (ad (2 * ((21 + b.toNat))))]) (rest := []) X w hml hl.1 (c_Ff_combine hT (G := G) hO hF (op := op) (a := 21 + a.toNat) (b := 21 + b.toNat) (by omega) (by omega) (by omega) hW hA9 hB9 (by omega) (by omega)) (by omega) (by rw [mkV_O (by decide)]; exact hF.1) rfl k_m_Ff_105 k_im_Ff_combine k_se_Ff_combine k_i_Ff k_co_Ff_combine (by decide +kernel) rfl ⟨Nat.le_of_ble_eq_true rfl, Nat.le_of_ble_eq_true rfl⟩ ⟨rfl, rfl⟩ ⟨by decide, by decide⟩ rfl (Nat.le_of_ble_eq_true rfl) d_Ff_join_107 (fun C' H locs hp w => ?_)
              obtain ⟨G6, rfl, q1, q2, q4⟩ := hp
              have q3 : okp pr 25 (jnR pr inv op (G (21 + a.toNat)) (G (21 + b.toNat))) := jnR_ok hI hA9 hB9 (fun h => by have := ((prd_ok (N := 25) (show 0 < pr by omega) hpr.2 hA9 hB9 (by omega) (by omega)).ok hpr.2).dlt 300; omega) (by omega)
              refine lv_aload_n X.1 X.2.1 d_Ff_join_110 rfl (lv_at hl 3 rfl) ?_
              refine lv_aload X.1 X.2.1 d_Ff_join_111 (lv_at hl 2 rfl) ?_
              refine w_cVi (n := 1) (i := 122) (ci := 4) (As := [.ref (ad (2 * ((21 + t.toNat))))]) (rest := []) X w hml hl.1 (c_Ff_store hT (G := G6) hO hF (k := (21 + t.toNat)) (by omega) q1) (by omega) (by rw [mkV_O (by decide)]; exact hF.1) rfl k_m_Ff_109 k_im_Ff_store k_se_Ff_store k_i_Ff k_co_Ff_store (by decide +kernel) rfl ⟨Nat.le_of_ble_eq_true rfl, Nat.le_of_ble_eq_true rfl⟩ ⟨rfl, rfl⟩ ⟨by decide, by decide⟩ rfl (Nat.le_of_ble_eq_true rfl) d_Ff_join_113 (fun r' C' H locs hp w => ?_)
              obtain ⟨rfl, rfl⟩ := hp
              refine x_iret X hr hlk w ⟨⟨k0, k0a, k0b⟩, by omega, by omega, by omega, by rw [q2], q3, clP.put hcl (by omega) q3 (q1.up (by rw [wd_2 (by omega), q2]; exact q3.ok hpr.2)) (fun j hj h h2 => by rw [va_up_ne _ _ h2, q4 j (by omega) (by omega) (by omega)]) (by rw [va_up_self, q2])⟩ d_Ff_join_116 (by decide) (by decide)
            · exact x_thrARE (is := 102) (text := "the degree is too high") X hst ev (by decide) k_c_Ff_100 k_i_ArithmeticException w (⟨rfl, Or.inr (Or.inr ⟨rfl, ⟨k0, k0a, k0b⟩, by omega, by omega⟩)⟩) hml hl.1 hnx hlk d_Ff_join_91 d_Ff_join_94 d_Ff_join_95 d_Ff_join_97 d_Ff_join_100 (by decide) (by decide) (by decide) (by decide) (by decide) (by decide)
        · exact x_thrIAE (is := 98) (text := "division by 0") X hst ev (by decide) k_c_Ff_52 k_i_IllegalArgumentException w (⟨rfl, Or.inr (Or.inl ⟨rfl, ⟨k0, k0a, k0b⟩, by omega⟩)⟩) hml hl.1 hnx hlk d_Ff_join_60 d_Ff_join_63 d_Ff_join_64 d_Ff_join_66 d_Ff_join_69 (by decide) (by decide) (by decide) (by decide) (by decide) (by decide)
      · refine lv_iload_n X.1 X.2.1 d_Ff_join_47 rfl (lv_at hl 5 rfl) ?_
        refine lv_iconst (v := iI (4)) X.1 X.2.1 d_Ff_join_48 (by decide) ?_
        refine i_ne (a := op) (b := 4) (tgt := 70) X (by omega) (by omega) d_Ff_join_49 (by decide) (fun h_49 => ?_) (fun h_49 => ?_)
        · refine lv_iload_n X.1 X.2.1 d_Ff_join_70 rfl (lv_at hl 5 rfl) ?_
          refine lv_iconst (v := iI (2)) X.1 X.2.1 d_Ff_join_71 (by decide) ?_
          refine i_ne (a := op) (b := 2) (tgt := 101) X (by omega) (by omega) d_Ff_join_72 (by decide) (fun h_72 => ?_) (fun h_72 => ?_)
          · refine lv_aload_n X.1 X.2.1 d_Ff_join_101 rfl (lv_at hl 3 rfl) ?_
            refine lv_iload_n X.1 X.2.1 d_Ff_join_102 rfl (lv_at hl 5 rfl) ?_
            refine lv_aload X.1 X.2.1 d_Ff_join_103 (lv_at hl 1 rfl) ?_
            refine lv_aload X.1 X.2.1 d_Ff_join_105 (lv_at hl 0 rfl) ?_
            refine w_cVv (n := 3) (i := 122) (ci := 4) (As := [.int (iI (op)), .ref (ad (2 * ((21 + a.toNat)))), .ref (ad (2 * ((21 + b.toNat))))]) (rest := []) X w hml hl.1 (c_Ff_combine hT (G := G) hO hF (op := op) (a := 21 + a.toNat) (b := 21 + b.toNat) (by omega) (by omega) (by omega) hW hA9 hB9 (by omega) (by omega)) (by omega) (by rw [mkV_O (by decide)]; exact hF.1) rfl k_m_Ff_105 k_im_Ff_combine k_se_Ff_combine k_i_Ff k_co_Ff_combine (by decide +kernel) rfl ⟨Nat.le_of_ble_eq_true rfl, Nat.le_of_ble_eq_true rfl⟩ ⟨rfl, rfl⟩ ⟨by decide, by decide⟩ rfl (Nat.le_of_ble_eq_true rfl) d_Ff_join_107 (fun C' H locs hp w => ?_)
            obtain ⟨G6, rfl, q1, q2, q4⟩ := hp
            have q3 : okp pr 25 (jnR pr inv op (G (21 + a.toNat)) (G (21 + b.toNat))) := jnR_ok hI hA9 hB9 (fun h => by have := ((prd_ok (N := 25) (show 0 < pr by omega) hpr.2 hA9 hB9 (by omega) (by omega)).ok hpr.2).dlt 300; omega) (by omega)
            refine lv_aload_n X.1 X.2.1 d_Ff_join_110 rfl (lv_at hl 3 rfl) ?_
            refine lv_aload X.1 X.2.1 d_Ff_join_111 (lv_at hl 2 rfl) ?_
            refine w_cVi (n := 1) (i := 122) (ci := 4) (As := [.ref (ad (2 * ((21 + t.toNat))))]) (rest := []) X w hml hl.1 (c_Ff_store hT (G := G6) hO hF (k := (21 + t.toNat)) (by omega) q1) (by omega) (by rw [mkV_O (by decide)]; exact hF.1) rfl k_m_Ff_109 k_im_Ff_store k_se_Ff_store k_i_Ff k_co_Ff_store (by decide +kernel) rfl ⟨Nat.le_of_ble_eq_true rfl, Nat.le_of_ble_eq_true rfl⟩ ⟨rfl, rfl⟩ ⟨by decide, by decide⟩ rfl (Nat.le_of_ble_eq_true rfl) d_Ff_join_113 (fun r' C' H locs hp w => ?_)
            obtain ⟨rfl, rfl⟩ := hp
            refine x_iret X hr hlk w ⟨⟨k0, k0a, k0b⟩, by omega, by omega, by omega, by rw [q2], q3, clP.put hcl (by omega) q3 (q1.up (by rw [wd_2 (by omega), q2]; exact q3.ok hpr.2)) (fun j hj h h2 => by rw [va_up_ne _ _ h2, q4 j (by omega) (by omega) (by omega)]) (by rw [va_up_self, q2])⟩ d_Ff_join_116 (by decide) (by decide)
          · refine lv_aload X.1 X.2.1 d_Ff_join_75 (lv_at hl 1 rfl) ?_
            refine g_deg (k := (21 + a.toNat)) X hT w (by omega) k_f_Ff_95 d_Ff_join_77 ?_
            refine lv_aload X.1 X.2.1 d_Ff_join_80 (lv_at hl 0 rfl) ?_
            refine g_deg (k := (21 + b.toNat)) X hT w (by omega) k_f_Ff_95 d_Ff_join_82 ?_
            refine i_add (a := dg 300 (G ((21 + a.toNat)))) (b := dg 300 (G ((21 + b.toNat)))) X d_Ff_join_85 ?_
            refine lv_bipush (v := iI (24)) X.1 X.2.1 d_Ff_join_86 (by decide) ?_
            refine i_le (a := (dg 300 (G ((21 + a.toNat)))) + (dg 300 (G ((21 + b.toNat))))) (b := 24) (tgt := 101) X (by omega) (by omega) d_Ff_join_88 (by decide) (fun h_88 => ?_) (fun h_88 => ?_)
            · refine lv_aload_n X.1 X.2.1 d_Ff_join_101 rfl (lv_at hl 3 rfl) ?_
              refine lv_iload_n X.1 X.2.1 d_Ff_join_102 rfl (lv_at hl 5 rfl) ?_
              refine lv_aload X.1 X.2.1 d_Ff_join_103 (lv_at hl 1 rfl) ?_
              refine lv_aload X.1 X.2.1 d_Ff_join_105 (lv_at hl 0 rfl) ?_
              refine w_cVv (n := 3) (i := 122) (ci := 4) (As := [.int (iI (op)), .ref (ad (2 * ((21 + a.toNat)))), .ref (ad (2 * ((21 + b.toNat))))]) (rest := []) X w hml hl.1 (c_Ff_combine hT (G := G) hO hF (op := op) (a := 21 + a.toNat) (b := 21 + b.toNat) (by omega) (by omega) (by omega) hW hA9 hB9 (by omega) (by omega)) (by omega) (by rw [mkV_O (by decide)]; exact hF.1) rfl k_m_Ff_105 k_im_Ff_combine k_se_Ff_combine k_i_Ff k_co_Ff_combine (by decide +kernel) rfl ⟨Nat.le_of_ble_eq_true rfl, Nat.le_of_ble_eq_true rfl⟩ ⟨rfl, rfl⟩ ⟨by decide, by decide⟩ rfl (Nat.le_of_ble_eq_true rfl) d_Ff_join_107 (fun C' H locs hp w => ?_)
              obtain ⟨G6, rfl, q1, q2, q4⟩ := hp
              have q3 : okp pr 25 (jnR pr inv op (G (21 + a.toNat)) (G (21 + b.toNat))) := jnR_ok hI hA9 hB9 (fun h => by have := ((prd_ok (N := 25) (show 0 < pr by omega) hpr.2 hA9 hB9 (by omega) (by omega)).ok hpr.2).dlt 300; omega) (by omega)
              refine lv_aload_n X.1 X.2.1 d_Ff_join_110 rfl (lv_at hl 3 rfl) ?_
              refine lv_aload X.1 X.2.1 d_Ff_join_111 (lv_at hl 2 rfl) ?_
              refine w_cVi (n := 1) (i := 122) (ci := 4) (As := [.ref (ad (2 * ((21 + t.toNat))))]) (rest := []) X w hml hl.1 (c_Ff_store hT (G := G6) hO hF (k := (21 + t.toNat)) (by omega) q1) (by omega) (by rw [mkV_O (by decide)]; exact hF.1) rfl k_m_Ff_109 k_im_Ff_store k_se_Ff_store k_i_Ff k_co_Ff_store (by decide +kernel) rfl ⟨Nat.le_of_ble_eq_true rfl, Nat.le_of_ble_eq_true rfl⟩ ⟨rfl, rfl⟩ ⟨by decide, by decide⟩ rfl (Nat.le_of_ble_eq_true rfl) d_Ff_join_113 (fun r' C' H locs hp w => ?_)
              obtain ⟨rfl, rfl⟩ := hp
              refine x_iret X hr hlk w ⟨⟨k0, k0a, k0b⟩, by omega, by omega, by omega, by rw [q2], q3, clP.put hcl (by omega) q3 (q1.up (by rw [wd_2 (by omega), q2]; exact q3.ok hpr.2)) (fun j hj h h2 => by rw [va_up_ne _ _ h2, q4 j (by omega) (by omega) (by omega)]) (by rw [va_up_self, q2])⟩ d_Ff_join_116 (by decide) (by decide)
            · exact x_thrARE (is := 102) (text := "the degree is too high") X hst ev (by decide) k_c_Ff_100 k_i_ArithmeticException w (⟨rfl, Or.inr (Or.inr ⟨rfl, ⟨k0, k0a, k0b⟩, by omega, by omega⟩)⟩) hml hl.1 hnx hlk d_Ff_join_91 d_Ff_join_94 d_Ff_join_95 d_Ff_join_97 d_Ff_join_100 (by decide) (by decide) (by decide) (by decide) (by decide) (by decide)
        · refine lv_aload X.1 X.2.1 d_Ff_join_52 (lv_at hl 0 rfl) ?_
          refine g_deg (k := (21 + b.toNat)) X hT w (by omega) k_f_Ff_95 d_Ff_join_54 ?_
          refine z_ge (a := dg 300 (G ((21 + b.toNat)))) (tgt := 70) X (by omega) d_Ff_join_57 (by decide) (fun h_57 => ?_) (fun h_57 => ?_)
          · refine lv_iload_n X.1 X.2.1 d_Ff_join_70 rfl (lv_at hl 5 rfl) ?_
            refine lv_iconst (v := iI (2)) X.1 X.2.1 d_Ff_join_71 (by decide) ?_
            refine i_ne (a := op) (b := 2) (tgt := 101) X (by omega) (by omega) d_Ff_join_72 (by decide) (fun h_72 => ?_) (fun h_72 => ?_)
            · refine lv_aload_n X.1 X.2.1 d_Ff_join_101 rfl (lv_at hl 3 rfl) ?_
              refine lv_iload_n X.1 X.2.1 d_Ff_join_102 rfl (lv_at hl 5 rfl) ?_
              refine lv_aload X.1 X.2.1 d_Ff_join_103 (lv_at hl 1 rfl) ?_
              refine lv_aload X.1 X.2.1 d_Ff_join_105 (lv_at hl 0 rfl) ?_
              refine w_cVv (n := 3) (i := 122) (ci := 4) (As := [.int (iI (op)), .ref (ad (2 * ((21 + a.toNat)))), .ref (ad (2 * ((21 + b.toNat))))]) (rest := []) X w hml hl.1 (c_Ff_combine hT (G := G) hO hF (op := op) (a := 21 + a.toNat) (b := 21 + b.toNat) (by omega) (by omega) (by omega) hW hA9 hB9 (by omega) (by omega)) (by omega) (by rw [mkV_O (by decide)]; exact hF.1) rfl k_m_Ff_105 k_im_Ff_combine k_se_Ff_combine k_i_Ff k_co_Ff_combine (by decide +kernel) rfl ⟨Nat.le_of_ble_eq_true rfl, Nat.le_of_ble_eq_true rfl⟩ ⟨rfl, rfl⟩ ⟨by decide, by decide⟩ rfl (Nat.le_of_ble_eq_true rfl) d_Ff_join_107 (fun C' H locs hp w => ?_)
              obtain ⟨G6, rfl, q1, q2, q4⟩ := hp
              have q3 : okp pr 25 (jnR pr inv op (G (21 + a.toNat)) (G (21 + b.toNat))) := jnR_ok hI hA9 hB9 (fun h => by have := ((prd_ok (N := 25) (show 0 < pr by omega) hpr.2 hA9 hB9 (by omega) (by omega)).ok hpr.2).dlt 300; omega) (by omega)
              refine lv_aload_n X.1 X.2.1 d_Ff_join_110 rfl (lv_at hl 3 rfl) ?_
              refine lv_aload X.1 X.2.1 d_Ff_join_111 (lv_at hl 2 rfl) ?_
              refine w_cVi (n := 1) (i := 122) (ci := 4) (As := [.ref (ad (2 * ((21 + t.toNat))))]) (rest := []) X w hml hl.1 (c_Ff_store hT (G := G6) hO hF (k := (21 + t.toNat)) (by omega) q1) (by omega) (by rw [mkV_O (by decide)]; exact hF.1) rfl k_m_Ff_109 k_im_Ff_store k_se_Ff_store k_i_Ff k_co_Ff_store (by decide +kernel) rfl ⟨Nat.le_of_ble_eq_true rfl, Nat.le_of_ble_eq_true rfl⟩ ⟨rfl, rfl⟩ ⟨by decide, by decide⟩ rfl (Nat.le_of_ble_eq_true rfl) d_Ff_join_113 (fun r' C' H locs hp w => ?_)
              obtain ⟨rfl, rfl⟩ := hp
              refine x_iret X hr hlk w ⟨⟨k0, k0a, k0b⟩, by omega, by omega, by omega, by rw [q2], q3, clP.put hcl (by omega) q3 (q1.up (by rw [wd_2 (by omega), q2]; exact q3.ok hpr.2)) (fun j hj h h2 => by rw [va_up_ne _ _ h2, q4 j (by omega) (by omega) (by omega)]) (by rw [va_up_self, q2])⟩ d_Ff_join_116 (by decide) (by decide)
            · refine lv_aload X.1 X.2.1 d_Ff_join_75 (lv_at hl 1 rfl) ?_
              refine g_deg (k := (21 + a.toNat)) X hT w (by omega) k_f_Ff_95 d_Ff_join_77 ?_
              refine lv_aload X.1 X.2.1 d_Ff_join_80 (lv_at hl 0 rfl) ?_
              refine g_deg (k := (21 + b.toNat)) X hT w (by omega) k_f_Ff_95 d_Ff_join_82 ?_
              refine i_add (a := dg 300 (G ((21 + a.toNat)))) (b := dg 300 (G ((21 + b.toNat)))) X d_Ff_join_85 ?_
              refine lv_bipush (v := iI (24)) X.1 X.2.1 d_Ff_join_86 (by decide) ?_
              refine i_le (a := (dg 300 (G ((21 + a.toNat)))) + (dg 300 (G ((21 + b.toNat))))) (b := 24) (tgt := 101) X (by omega) (by omega) d_Ff_join_88 (by decide) (fun h_88 => ?_) (fun h_88 => ?_)
              · refine lv_aload_n X.1 X.2.1 d_Ff_join_101 rfl (lv_at hl 3 rfl) ?_
                refine lv_iload_n X.1 X.2.1 d_Ff_join_102 rfl (lv_at hl 5 rfl) ?_
                refine lv_aload X.1 X.2.1 d_Ff_join_103 (lv_at hl 1 rfl) ?_
                refine lv_aload X.1 X.2.1 d_Ff_join_105 (lv_at hl 0 rfl) ?_
                refine w_cVv (n := 3) (i := 122) (ci := 4) (As := [.int (iI (op)), .ref (ad (2 * ((21 + a.toNat)))), .ref (ad (2 * ((21 + b.toNat))))]) (rest := []) X w hml hl.1 (c_Ff_combine hT (G := G) hO hF (op := op) (a := 21 + a.toNat) (b := 21 + b.toNat) (by omega) (by omega) (by omega) hW hA9 hB9 (by omega) (by omega)) (by omega) (by rw [mkV_O (by decide)]; exact hF.1) rfl k_m_Ff_105 k_im_Ff_combine k_se_Ff_combine k_i_Ff k_co_Ff_combine (by decide +kernel) rfl ⟨Nat.le_of_ble_eq_true rfl, Nat.le_of_ble_eq_true rfl⟩ ⟨rfl, rfl⟩ ⟨by decide, by decide⟩ rfl (Nat.le_of_ble_eq_true rfl) d_Ff_join_107 (fun C' H locs hp w => ?_)
                obtain ⟨G6, rfl, q1, q2, q4⟩ := hp
                have q3 : okp pr 25 (jnR pr inv op (G (21 + a.toNat)) (G (21 + b.toNat))) := jnR_ok hI hA9 hB9 (fun h => by have := ((prd_ok (N := 25) (show 0 < pr by omega) hpr.2 hA9 hB9 (by omega) (by omega)).ok hpr.2).dlt 300; omega) (by omega)
                refine lv_aload_n X.1 X.2.1 d_Ff_join_110 rfl (lv_at hl 3 rfl) ?_
                refine lv_aload X.1 X.2.1 d_Ff_join_111 (lv_at hl 2 rfl) ?_
                refine w_cVi (n := 1) (i := 122) (ci := 4) (As := [.ref (ad (2 * ((21 + t.toNat))))]) (rest := []) X w hml hl.1 (c_Ff_store hT (G := G6) hO hF (k := (21 + t.toNat)) (by omega) q1) (by omega) (by rw [mkV_O (by decide)]; exact hF.1) rfl k_m_Ff_109 k_im_Ff_store k_se_Ff_store k_i_Ff k_co_Ff_store (by decide +kernel) rfl ⟨Nat.le_of_ble_eq_true rfl, Nat.le_of_ble_eq_true rfl⟩ ⟨rfl, rfl⟩ ⟨by decide, by decide⟩ rfl (Nat.le_of_ble_eq_true rfl) d_Ff_join_113 (fun r' C' H locs hp w => ?_)
                obtain ⟨rfl, rfl⟩ := hp
                refine x_iret X hr hlk w ⟨⟨k0, k0a, k0b⟩, by omega, by omega, by omega, by rw [q2], q3, clP.put hcl (by omega) q3 (q1.up (by rw [wd_2 (by omega), q2]; exact q3.ok hpr.2)) (fun j hj h h2 => by rw [va_up_ne _ _ h2, q4 j (by omega) (by omega) (by omega)]) (by rw [va_up_self, q2])⟩ d_Ff_join_116 (by decide) (by decide)
              · exact x_thrARE (is := 102) (text := "the degree is too high") X hst ev (by decide) k_c_Ff_100 k_i_ArithmeticException w (⟨rfl, Or.inr (Or.inr ⟨rfl, ⟨k0, k0a, k0b⟩, by omega, by omega⟩)⟩) hml hl.1 hnx hlk d_Ff_join_91 d_Ff_join_94 d_Ff_join_95 d_Ff_join_97 d_Ff_join_100 (by decide) (by decide) (by decide) (by decide) (by decide) (by decide)
          · exact x_thrIAE (is := 98) (text := "division by 0") X hst ev (by decide) k_c_Ff_52 k_i_IllegalArgumentException w (⟨rfl, Or.inr (Or.inl ⟨rfl, ⟨k0, k0a, k0b⟩, by omega⟩)⟩) hml hl.1 hnx hlk d_Ff_join_60 d_Ff_join_63 d_Ff_join_64 d_Ff_join_66 d_Ff_join_69 (by decide) (by decide) (by decide) (by decide) (by decide) (by decide)
    · exact x_thrIAE (is := 93) (text := "no such operation") X hst ev (by decide) k_c_Ff_52 k_i_IllegalArgumentException w (⟨rfl, Or.inr (Or.inl ⟨rfl, ⟨k0, k0a, k0b⟩, by omega⟩)⟩) hml hl.1 hnx hlk d_Ff_join_32 d_Ff_join_35 d_Ff_join_36 d_Ff_join_38 d_Ff_join_41 (by decide) (by decide) (by decide) (by decide) (by decide) (by decide)
theorem c_Ff_factor {l : Launch} (hst : l.stackTraces = false) {D : va_G} {cs : Nat → ClassId} {A : Nat → Prop} {ad : Nat → Nat} {T : Nat} (hT : 132 ≤ T) {G : Nat → Nat → Int} {O : Nat → va_E} {pr : Int} {inv : Nat → Int} {K : KS} {ph : Nat → Nat} {lo hi : Nat → Int} (hcl : clI cs ad pr inv K ph lo hi G O) (hl0 : 0 ≤ limF pr) {a : Int} (ha9 : rg a) : FXi l y_Ff_factor ws_Ff_factor { frames := 7, cells := 3, slots := 18, locals := 172 } D cs A ad T [.ref (ad (122)), .int (iI (a))] (mkV cs ad (rV G) O) (fun x C' => (0 ≤ a ∧ a ≤ 15) ∧ (0 ≤ dg 300 (G (21 + a.toNat)) ∧ dg 300 (G (21 + a.toNat)) ≤ limF pr) ∧ x = iI (((cutC pr inv xP oneP K (G (21 + a.toNat))).1 : Nat) : Int) ∧ clP cs ad pr inv (cutC pr inv xP oneP K (G (21 + a.toNat))) (fun r => G (21 + r)) O C') (fun E C' => C' = (mkV cs ad (rV G) O) ∧ ((E = xNSE ∧ outF a 0 15 = 1) ∨ (E = xIAE ∧ (0 ≤ a ∧ a ≤ 15) ∧ (dg 300 (G (21 + a.toNat)) < 0 ∨ limF pr < dg 300 (G (21 + a.toNat)))))) 3 := by
  refine f_bodyi (by decide) (Nat.le_of_ble_eq_true rfl) ?_
  intro p e s m below meth c X hr hlk hml hnx ev w ls hl
  have hl : lv_has ls 3 [(0, .ref (ad (122))), (1, .int (iI (a)))] := hl
  obtain ⟨hO, hF, hKc, hS, hW, hRg, h14, h15, h18⟩ := id hcl
  have hU := hKc.1
  have hI : invP pr inv := hO.2.2
  have hpr := hI.1
  have hlr := limF_rg pr
  refine lv_aload_n X.1 X.2.1 d_Ff_factor_0 rfl (lv_at hl 0 rfl) ?_
  refine lv_iload_n X.1 X.2.1 d_Ff_factor_1 rfl (lv_at hl 1 rfl) ?_
  refine x_cVr (n := 1) (i := 122) (ci := 4) (k1 := 1) (As := [.int (iI (a))]) (rest := []) X ev hnx hlk w hml hl.1 (c_Ff_register hst hT hO hF (r := a) (by omega)) (fun E C' h => ⟨h.1, Or.inl ⟨h.2.1, h.2.2⟩⟩) (by omega) (by rw [mkV_O (by decide)]; exact hF.1) rfl k_m_Ff_72 k_im_Ff_register k_se_Ff_register k_i_Ff k_co_Ff_register (by decide +kernel) rfl ⟨Nat.le_of_ble_eq_true rfl, Nat.le_of_ble_eq_true rfl⟩ ⟨rfl, rfl⟩ ⟨by decide, by decide⟩ (by decide) (by decide) rfl (Nat.le_of_ble_eq_true rfl) d_Ff_factor_2 (fun r' C' H locs hp w => ?_)
  obtain ⟨k0, rfl, rfl⟩ := hp
  have hA9 := hRg a.toNat (by omega)
  have da1 := (hA9.ok hpr.2).dlt 300
  have da0 := dg_ge 300 (G (21 + a.toNat))
  refine lv_astore_n (lv' := [(2, .ref (ad (2 * ((21 + a.toNat))))), (0, .ref (ad (122))), (1, .int (iI (a)))]) X.1 X.2.1 d_Ff_factor_5 rfl hl (by decide) rfl (fun ls hl => ?_)
  refine lv_aload_n X.1 X.2.1 d_Ff_factor_6 rfl (lv_at hl 0 rfl) ?_
  refine x_cSv (n := 1) (k1 := 1) (As := [.ref (ad (2 * ((21 + a.toNat))))]) (rest := []) X ev hnx hlk w hml hl.1 (c_Ff_needNotZero hst hT (k := 21 + a.toNat) (by omega)) (fun E C' h => ⟨h.1, Or.inr ⟨h.2.1, k0, Or.inl h.2.2⟩⟩) k_m_Ff_136 k_st_Ff_needNotZero k_i_Ff k_co_Ff_needNotZero (by decide +kernel) rfl ⟨Nat.le_of_ble_eq_true rfl, Nat.le_of_ble_eq_true rfl⟩ ⟨rfl, rfl⟩ ⟨by decide, by decide⟩ (by decide) (by decide) rfl (Nat.le_of_ble_eq_true rfl) d_Ff_factor_7 (fun C' H locs hp w => ?_)
  obtain ⟨k1, rfl⟩ := hp
  refine lv_aload_n X.1 X.2.1 d_Ff_factor_10 rfl (lv_at hl 0 rfl) ?_
  refine g_deg (k := (21 + a.toNat)) X hT w (by omega) k_f_Ff_95 d_Ff_factor_11 ?_
  refine lv_aload_n X.1 X.2.1 d_Ff_factor_14 rfl (lv_at hl 1 rfl) ?_
  refine x_cVi (n := 0) (i := 122) (ci := 4) (k1 := 0) (As := []) (rest := [.int (iI (dg 300 (G ((21 + a.toNat)))))]) X ev hnx hlk w hml hl.1 (c_Ff_highestCutDegree hst hT hO hF hl0) (fun _ _ h => h.elim) (by omega) (by rw [mkV_O (by decide)]; exact hF.1) rfl k_m_Ff_139 k_im_Ff_highestCutDegree k_se_Ff_highestCutDegree k_i_Ff k_co_Ff_highestCutDegree (by decide +kernel) rfl ⟨Nat.le_of_ble_eq_true rfl, Nat.le_of_ble_eq_true rfl⟩ ⟨rfl, rfl⟩ ⟨by decide, by decide⟩ (by decide) (by decide) rfl (Nat.le_of_ble_eq_true rfl) d_Ff_factor_15 (fun r' C' H locs hp w => ?_)
  obtain ⟨rfl, rfl⟩ := hp
  refine i_le (a := dg 300 (G ((21 + a.toNat)))) (b := limF pr) (tgt := 31) X (by omega) (by omega) d_Ff_factor_18 (by decide) (fun h_18 => ?_) (fun h_18 => ?_)
  · refine lv_aload_n X.1 X.2.1 d_Ff_factor_31 rfl (lv_at hl 1 rfl) ?_
    refine t_ffo X hT w hF 1 (by decide) k_f_Ff_21 rfl d_Ff_factor_32 ?_
    refine lv_aload_n X.1 X.2.1 d_Ff_factor_35 rfl (lv_at hl 0 rfl) ?_
    refine w_cVv (n := 1) (i := 125) (ci := 2) (As := [.ref (ad (2 * ((21 + a.toNat))))]) (rest := []) X w hml hl.1 (c_Cu_cut hT (G := G) hO hKc (k := 21 + a.toNat) (by omega) hW hA9 (by rw [h14]; exact oneP_ok (by omega) (by omega)) (by rw [h15]; exact xP_ok25 (by omega)) (by rw [h15, xP_dg]; omega)) (by omega) (by rw [mkV_O (by decide)]; exact hU.1) rfl k_m_Ff_145 k_im_Cu_cut k_se_Cu_cut k_i_Cu k_co_Cu_cut (by decide +kernel) rfl ⟨Nat.le_of_ble_eq_true rfl, Nat.le_of_ble_eq_true rfl⟩ ⟨rfl, rfl⟩ ⟨by decide, by decide⟩ rfl (Nat.le_of_ble_eq_true rfl) d_Ff_factor_36 (fun C' H locs hp w => ?_)
    obtain ⟨G6, O6, ph6, rfl, q1, q2, q3, q4⟩ := hp
    rw [h14, h15] at q1
    have hF6 : ffO cs ad O6 := ⟨by rw [q4 122 (by decide) (by decide) (by decide)]; exact hF.1, by rw [q4 131 (by decide) (by decide) (by decide)]; exact hF.2⟩
    refine lv_aload_n X.1 X.2.1 d_Ff_factor_39 rfl (lv_at hl 1 rfl) ?_
    refine t_ffo X hT w hF6 1 (by decide) k_f_Ff_21 rfl d_Ff_factor_40 ?_
    refine t_cu X hT w q1.1 2 (by decide) k_f_Ff_148 rfl d_Ff_factor_43 ?_
    refine x_iret X hr hlk w ⟨k0, ⟨k1, by omega⟩, rfl, G6, O6, ph6, lo, hi, rfl, ⟨?_, hF6, q1, ?_, q2, ?_, ?_, ?_, ?_⟩, fun r hr => q3 _ (by omega) (by omega), fun i hi => q4 i (by omega) (by omega) (by omega)⟩ d_Ff_factor_46 (by decide) (by decide)
    · exact ⟨by rw [q4 123 (by decide) (by decide) (by decide)]; exact hO.1, by rw [q4 124 (by decide) (by decide) (by decide)]; exact hO.2.1, hO.2.2⟩
    · exact ⟨by rw [q4 128 (by decide) (by decide) (by decide)]; exact hS.1, by rw [q4 129 (by decide) (by decide) (by decide)]; exact hS.2.1, by rw [q4 130 (by decide) (by decide) (by decide)]; exact hS.2.2.1, hS.2.2.2⟩
    · intro r hr; rw [q3 _ (by omega) (by omega)]; exact hRg r hr
    · rw [q3 14 (by omega) (by omega)]; exact h14
    · rw [q3 15 (by omega) (by omega)]; exact h15
    · rw [q3 18 (by omega) (by omega)]; exact h18
  · exact x_thrIAE (is := 143) (text := "the degree is too high to be cut") X hst ev (by decide) k_c_Ff_52 k_i_IllegalArgumentException w (⟨rfl, Or.inr ⟨rfl, k0, Or.inr (by omega)⟩⟩) hml hl.1 hnx hlk d_Ff_factor_21 d_Ff_factor_24 d_Ff_factor_25 d_Ff_factor_27 d_Ff_factor_30 (by decide) (by decide) (by decide) (by decide) (by decide) (by decide)
theorem c_Cu_forget2 {l : Launch} {D : va_G} {cs : Nat → ClassId} {A : Nat → Prop} {ad : Nat → Nat} {T : Nat} (hT : 132 ≤ T) {G : Nat → Nat → Int} {O : Nat → va_E} {n : Nat} {ph : Nat → Nat} {tm : Nat → Int} (hU : cuO cs ad n ph tm O) : Cv l y_Cu_forget ws_Cu_forget { frames := 0, cells := 0, slots := 0, locals := 0 } D cs A ad T [.ref (ad (125))] (mkV cs ad (rV G) O) (fun C' => ∃ O', C' = mkV cs ad (rV G) O' ∧ cuO cs ad 0 ph tm O' ∧ ∀ i, i ≠ 125 → O' i = O i) := by
  refine w_bodyV (by decide) (Nat.le_of_ble_eq_true rfl) ?_
  intro p e s m below meth c X hr hlk hml w ls hl
  have hl : lv_has ls 1 [(0, .ref (ad 125))] := hl
  refine lv_aload_n X.1 X.2.1 d_Cu_forget_0 rfl (lv_at hl 0 rfl) ?_
  refine lv_iconst (v := iI (0)) X.1 X.2.1 d_Cu_forget_1 (by decide) ?_
  refine t_ps (z := 0) X hT w hU 0 rfl k_f_Cu_28 d_Cu_forget_2 (fun H locs w => ?_)
  exact w_vret X hr hlk w ⟨_, rfl, hU.size (by omega), fun i hi => va_up_ne _ _ hi⟩ d_Cu_forget_5
section FIX
variable {p : Program} {l : Launch} {e : Env} {s : State} {m : MethodId} {args : Array Value} {below : List Frame} {meth : Method} {c : Code} {H : Heap} {locs : List Loc} {Q : State → Prop} {D : va_G} {cs : Nat → ClassId} {A : Nat → Prop} {ad : Nat → Nat} {T : Nat} {O : Nat → va_E} {pr : Int} {inv : Nat → Int}
variable {G : Nat → Nat → Int} {was : Int}
theorem l_Ff_field {px : String → (Nat → va_E) → Prop} {Qc : Array Value → State → Outcome → State → Prop} (X : Cx p s m args c b_Ff_field RFf) (hlk : meth.locks = false) (hml : c.maxLocals = 4) (hT : 132 ≤ T) (hF : ffO cs ad O)
    (K : ∀ (G1 : Nat → Nat → Int) (H : Heap) (locs : List Loc) (ls : Array Slot), Wd D cs A ad T s (mkV cs ad (rV G1) O) H locs → WF G1 → (∀ j, G1 j = if 21 ≤ j ∧ j < 37 then fun _ => 0 else G j) → lv_has ls 4 [(0, .ref (ad (122))), (2, .int (iI (was)))] → W p l e { frames := 6, cells := 1, slots := 6, locals := 90 } s m args below meth c H locs 0 (6 * 0) (vx_MQ below Qc (XP px D cs A ad T) args s 1 (6 * 1) A) (F0 m 56 ls [])) :
    ∀ (n i : Nat) (G1 : Nat → Nat → Int) (H : Heap) (locs : List Loc) (ls : Array Slot), i + n = 16 → Wd D cs A ad T s (mkV cs ad (rV G1) O) H locs → WF G1 → (∀ j, G1 j = if 21 ≤ j ∧ j < 21 + i then fun _ => 0 else G j) → lv_has ls 4 [(0, .ref (ad (122))), (2, .int (iI (was))), (3, .int (iI (i)))] → W p l e { frames := 6, cells := 1, slots := 6, locals := 90 } s m args below meth c H locs 0 (6 * 0) (vx_MQ below Qc (XP px D cs A ad T) args s 1 (6 * 1) A) (F0 m 35 ls []) := by
  intro n
  induction n with
  | zero =>
    intro i G1 H locs ls h1 w hW hG hl
    refine lv_iload_n X.1 X.2.1 d_Ff_field_35 rfl (lv_at hl 2 rfl) ?_
    refine lv_bipush (v := iI (16)) X.1 X.2.1 d_Ff_field_36 (by decide) ?_
    refine i_ge (a := i) (b := 16) (tgt := 56) X (by omega) (by omega) d_Ff_field_38 (by decide) (fun h_38 => ?_) (fun h_38 => ?_)
    · refine K G1 H locs ls w hW (fun j => ?_) (lv_sub hl [0, 1] rfl)
      rw [hG j]
      split <;> split <;> first | rfl | (exfalso; omega)
    · exact absurd h_38 (by omega)
  | succ n ih =>
    intro i G1 H locs ls h1 w hW hG hl
    refine lv_iload_n X.1 X.2.1 d_Ff_field_35 rfl (lv_at hl 2 rfl) ?_
    refine lv_bipush (v := iI (16)) X.1 X.2.1 d_Ff_field_36 (by decide) ?_
    refine i_ge (a := i) (b := 16) (tgt := 56) X (by omega) (by omega) d_Ff_field_38 (by decide) (fun h_38 => ?_) (fun h_38 => ?_)
    · exact absurd h_38 (by omega)
    · refine lv_aload_n X.1 X.2.1 d_Ff_field_41 rfl (lv_at hl 0 rfl) ?_
      refine t_ffo X hT w hF 3 (by decide) k_f_Ff_34 rfl d_Ff_field_42 ?_
      refine lv_iload_n X.1 X.2.1 d_Ff_field_45 rfl (lv_at hl 2 rfl) ?_
      refine t_rg (z := i) X hT w hF (i) (by omega) (by omega) d_Ff_field_46 ?_
      refine w_cVv (n := 0) (i := 2 * ((21 + i))) (ci := 0) (As := []) (rest := []) X w hml hl.1 (c_Po_clear hT (G := G1) (k := 21 + i) (by omega) (hW _ (by omega))) (by omega) (mkV_o (by omega)) rfl k_m_Ff_66 k_im_Po_clear k_se_Po_clear k_i_Po k_co_Po_clear (by decide +kernel) rfl ⟨Nat.le_of_ble_eq_true rfl, Nat.le_of_ble_eq_true rfl⟩ ⟨rfl, rfl⟩ ⟨by decide, by decide⟩ rfl (Nat.le_of_ble_eq_true rfl) d_Ff_field_47 (fun C' H locs hp w => ?_)
      subst hp
      obtain ⟨Gw1, eGw1⟩ : ∃ gg : Nat → Nat → Int, gg = va_up G1 (21 + i) (fun _ => 0) := ⟨_, rfl⟩
      rw [← eGw1] at w
      refine i_inc (k := 2) (x := i) (lv' := [(3, .int (iI (i + 1))), (0, .ref (ad (122))), (2, .int (iI (was)))]) X d_Ff_field_50 hl rfl (by decide) rfl (fun ls hl => ?_)
      refine lv_goto (tgt := 35) X.1 X.2.1 d_Ff_field_53 (by decide) ?_
      refine ih (i + 1) Gw1 H locs ls (by omega) w (by rw [eGw1]; exact hW.up (ok_0 _)) (fun j => ?_) (lv_sub hl [1, 2, 0] rfl)
      rw [eGw1]
      by_cases e9 : j = 21 + i
      · rw [e9, va_up_self, if_pos (by omega)]
      · rw [va_up_ne _ _ e9, hG j]; split <;> split <;> first | rfl | (exfalso; omega)
end FIX
theorem c_Ff_field {l : Launch} (hst : l.stackTraces = false) {D : va_G} {cs : Nat → ClassId} {A : Nat → Prop} {ad : Nat → Nat} {T : Nat} (hT : 132 ≤ T) {G : Nat → Nat → Int} {O : Nat → va_E} {pr : Int} {inv : Nat → Int} {K : KS} {ph : Nat → Nat} {lo hi : Nat → Int} (hcl : clI cs ad pr inv K ph lo hi G O) {q : Int} (hq9 : rg q) : FXi l y_Ff_field ws_Ff_field { frames := 6, cells := 1, slots := 6, locals := 90 } D cs A ad T [.ref (ad (122)), .int (iI (q))] (mkV cs ad (rV G) O) (fun x C' => 0 ≤ limF q ∧ x = iI pr ∧ ∃ inv', clP cs ad q inv' (0, K.2) (fun _ _ => 0) O C') (fun E C' => C' = (mkV cs ad (rV G) O) ∧ E = xIAE ∧ limF q < 0) 1 := by
  refine f_bodyi (by decide) (Nat.le_of_ble_eq_true rfl) ?_
  intro p e s m below meth c X hr hlk hml hnx ev w ls hl
  have hl : lv_has ls 4 [(0, .ref (ad (122))), (1, .int (iI (q)))] := hl
  obtain ⟨hO, hF, hKc, hS, hW, hRg, h14, h15, h18⟩ := id hcl
  have hU := hKc.1
  have hI : invP pr inv := hO.2.2
  have hpr := hI.1
  have hfl := fidx_lim (q := q)
  have hfr := fidx_rg q
  refine lv_iload_n X.1 X.2.1 d_Ff_field_0 rfl (lv_at hl 1 rfl) ?_
  refine x_cSi (n := 1) (k1 := 0) (As := [.int (iI (q))]) (rest := []) X ev hnx hlk w hml hl.1 (c_Ff_fieldIndex hst hT (G := G) (O := O) (q := q) (by omega)) (fun _ _ h => h.elim) k_m_Ff_48 k_st_Ff_fieldIndex k_i_Ff k_co_Ff_fieldIndex (by decide +kernel) rfl ⟨Nat.le_of_ble_eq_true rfl, Nat.le_of_ble_eq_true rfl⟩ ⟨rfl, rfl⟩ ⟨by decide, by decide⟩ (by decide) (by decide) rfl (Nat.le_of_ble_eq_true rfl) d_Ff_field_1 (fun r' C' H locs hp w => ?_)
  obtain ⟨rfl, rfl⟩ := hp
  refine z_ge (a := fidx q) (tgt := 17) X (by omega) d_Ff_field_4 (by decide) (fun h_4 => ?_) (fun h_4 => ?_)
  · refine lv_aload_n X.1 X.2.1 d_Ff_field_17 rfl (lv_at hl 0 rfl) ?_
    refine t_ffo X hT w hF 0 (by decide) k_f_Ff_12 rfl d_Ff_field_18 ?_
    refine t_ar X hT w hO 0 (by decide) k_f_Ff_59 rfl d_Ff_field_21 ?_
    refine lv_istore_n (lv' := [(2, .int (iI (pr))), (0, .ref (ad (122))), (1, .int (iI (q)))]) X.1 X.2.1 d_Ff_field_24 rfl hl (by decide) rfl (fun ls hl => ?_)
    refine lv_aload_n X.1 X.2.1 d_Ff_field_25 rfl (lv_at hl 1 rfl) ?_
    refine t_ffo X hT w hF 0 (by decide) k_f_Ff_12 rfl d_Ff_field_26 ?_
    refine lv_iload_n X.1 X.2.1 d_Ff_field_29 rfl (lv_at hl 2 rfl) ?_
    refine w_cVv (n := 1) (i := 123) (ci := 1) (As := [.int (iI (q))]) (rest := []) X w hml hl.1 (c_Ar_become (i := 123) (j := 124) (fs := arF ad pr) (inv := inv) (q := q) (by omega) (by omega) (by decide) (by rw [mkV_O (by decide)]; exact hO.1) (by rw [mkV_O (by decide)]; exact hO.2.1) rfl rfl (hasInv_of (by omega))) (by omega) (by rw [mkV_O (by decide)]; exact hO.1) rfl k_m_Ff_63 k_im_Ar_become k_se_Ar_become k_i_Ar k_co_Ar_become (by decide +kernel) rfl ⟨Nat.le_of_ble_eq_true rfl, Nat.le_of_ble_eq_true rfl⟩ ⟨rfl, rfl⟩ ⟨by decide, by decide⟩ rfl (Nat.le_of_ble_eq_true rfl) d_Ff_field_30 (fun C' H locs hp w => ?_)
    obtain ⟨F6, hI6, rfl⟩ := hp
    have e6 : arG cs (mkV cs ad (rV G) O) 123 124 (arF ad pr) q F6 = mkV cs ad (rV G) (va_up (va_up O 123 (.inr (1, arF ad q))) 124 (aI cs 13 F6)) := by
      unfold arG
      rw [mkV_sO (by decide), mkV_sO (by decide)]
      rfl
    rw [e6] at w
    obtain ⟨O6, eO6⟩ : ∃ oo : Nat → va_E, oo = va_up (va_up O 123 (.inr (1, arF ad q))) 124 (aI cs 13 F6) := ⟨_, rfl⟩
    rw [← eO6] at w
    have qO : ∀ i, i ≠ 123 → i ≠ 124 → O6 i = O i := fun i h1 h2 => by rw [eO6, va_up_ne _ _ h2, va_up_ne _ _ h1]
    have hO6 : arO cs ad q F6 O6 := ⟨by rw [eO6, va_up_ne _ _ (by decide), va_up_self], by rw [eO6, va_up_self], hI6⟩
    have hF6 : ffO cs ad O6 := ⟨by rw [qO 122 (by decide) (by decide)]; exact hF.1, by rw [qO 131 (by decide) (by decide)]; exact hF.2⟩
    have hU6 : cuO cs ad K.1 ph K.2.2 O6 := ⟨by rw [qO 125 (by decide) (by decide)]; exact hU.1, by rw [qO 126 (by decide) (by decide)]; exact hU.2.1, by rw [qO 127 (by decide) (by decide)]; exact hU.2.2.1, hU.2.2.2⟩
    refine lv_iconst (v := iI (0)) X.1 X.2.1 d_Ff_field_33 (by decide) ?_
    refine lv_istore_n (lv' := [(3, .int (iI (0))), (2, .int (iI (pr))), (0, .ref (ad (122))), (1, .int (iI (q)))]) X.1 X.2.1 d_Ff_field_34 rfl hl (by decide) rfl (fun ls hl => ?_)
    refine l_Ff_field (G := G) (was := pr) X hlk hml hT hF6 (fun G7 H locs ls w gW gG hl => ?_) 16 0 G _ _ ls (by omega) w hW (fun j => by rw [if_neg (by omega)]) (lv_sub hl [2, 1, 0] rfl)
    refine lv_aload_n X.1 X.2.1 d_Ff_field_56 rfl (lv_at hl 0 rfl) ?_
    refine t_ffo X hT w hF6 1 (by decide) k_f_Ff_21 rfl d_Ff_field_57 ?_
    refine w_cVv (n := 0) (i := 125) (ci := 2) (As := []) (rest := []) X w hml hl.1 (c_Cu_forget2 hT (G := G7) hU6) (by omega) (by rw [mkV_O (by decide)]; exact hU6.1) rfl k_m_Ff_69 k_im_Cu_forget k_se_Cu_forget k_i_Cu k_co_Cu_forget (by decide +kernel) rfl ⟨Nat.le_of_ble_eq_true rfl, Nat.le_of_ble_eq_true rfl⟩ ⟨rfl, rfl⟩ ⟨by decide, by decide⟩ rfl (Nat.le_of_ble_eq_true rfl) d_Ff_field_60 (fun C' H locs hp w => ?_)
    obtain ⟨O8, rfl, hU8, q8⟩ := hp
    refine lv_iload_n X.1 X.2.1 d_Ff_field_63 rfl (lv_at hl 1 rfl) ?_
    have g7 : ∀ j, j < 61 → ¬ (21 ≤ j ∧ j < 37) → G7 j = G j := fun j _ h => by rw [gG j, if_neg h]
    refine x_iret X hr hlk w ⟨by omega, rfl, F6, G7, O8, ph, lo, hi, rfl, ⟨?_, ?_, ⟨hU8, fun i hi => ?_, fun i hi => absurd hi (Nat.not_lt_zero _)⟩, ?_, gW, ?_, ?_, ?_, ?_⟩, fun r hr => by rw [gG, if_pos (by omega)], fun i hi => by rw [q8 i (by omega), qO i (by omega) (by omega)]⟩ d_Ff_field_64 (by decide) (by decide)
    · exact ⟨by rw [q8 123 (by decide)]; exact hO6.1, by rw [q8 124 (by decide)]; exact hO6.2.1, hI6⟩
    · exact ⟨by rw [q8 122 (by decide)]; exact hF6.1, by rw [q8 131 (by decide)]; exact hF6.2⟩
    · have hp := hU.2.2.2.2.1 i hi
      rw [g7 _ hp.2 (by omega)]
      exact hKc.2.1 i hi
    · exact ⟨by rw [q8 128 (by decide), qO 128 (by decide) (by decide)]; exact hS.1, by rw [q8 129 (by decide), qO 129 (by decide) (by decide)]; exact hS.2.1, by rw [q8 130 (by decide), qO 130 (by decide) (by decide)]; exact hS.2.2.1, hS.2.2.2⟩
    · intro r hr; rw [gG, if_pos (by omega)]; exact okp_0 _ (by have := hI6.1; omega)
    · rw [g7 14 (by omega) (by omega)]; exact h14
    · rw [g7 15 (by omega) (by omega)]; exact h15
    · rw [g7 18 (by omega) (by omega)]; exact h18
  · exact x_thrIAE (is := 54) (text := "no such field") X hst ev (by decide) k_c_Ff_52 k_i_IllegalArgumentException w (⟨rfl, rfl, hfl.1.mp (by omega)⟩) hml hl.1 hnx hlk d_Ff_field_7 d_Ff_field_10 d_Ff_field_11 d_Ff_field_13 d_Ff_field_16 (by decide) (by decide) (by decide) (by decide) (by decide) (by decide)
