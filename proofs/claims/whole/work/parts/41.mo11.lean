theorem c_Mo_power {l : Launch} {D : va_G} {cs : Nat → ClassId} {A : Nat → Prop} {ad : Nat → Nat} {T : Nat} (hT : 213 ≤ T) {M : Nat → Nat → Int} {B : Nat → va_E} {th pr fc : Int} (hB : moO cs ad th pr fc B) {inv : Nat → Int} (hI : invP pr inv) {t a n d : Int} (ht : rg t) (ha : rg a) (hn : rg n) (hd : rg d) (hW : WR M) (hok : ∀ r, r < 16 → okp pr 25 (M r)) : Ci l y_Mo_power ws_Mo_power { frames := 3, cells := 0, slots := 0, locals := 72 } D cs A ad T [.ref (ad (132)), .int (iI (t)), .int (iI (a)), .int (iI (n)), .int (iI (d))] (mkR cs M B) (fun x C' => ((outF t 0 15 = 1 ∨ outF a 0 15 = 1 ∨ outF d 0 15 = 1) ∧ x = iI 0 ∧ C' = mkR cs M (mB ad B 1 pr fc)) ∨ (((0 ≤ t ∧ t ≤ 15) ∧ (0 ≤ a ∧ a ≤ 15) ∧ (0 ≤ d ∧ d ≤ 15)) ∧ (n < 0 ∨ dg 300 (M d.toNat) < 1) ∧ x = iI 0 ∧ C' = mkR cs M (mB ad B 2 pr fc)) ∨ (((0 ≤ t ∧ t ≤ 15) ∧ (0 ≤ a ∧ a ≤ 15) ∧ (0 ≤ d ∧ d ≤ 15)) ∧ (0 ≤ n ∧ 1 ≤ dg 300 (M d.toNat)) ∧ x = iI (dg 300 (rsd pr inv (M a.toNat) n.toNat (M d.toNat))) ∧ okp pr 25 (rsd pr inv (M a.toNat) n.toNat (M d.toNat)) ∧ ∃ M1, C' = mkR cs M1 (mB ad B 0 pr fc) ∧ WR M1 ∧ ∀ r, r < 41 → M1 r = va_up M t.toNat (rsd pr inv (M a.toNat) n.toNat (M d.toNat)) r)) := by
  refine w_bodyI (by decide) (Nat.le_of_ble_eq_true rfl) ?_
  intro p e s m below meth c X hr hlk hml w ls hl
  have hl : lv_has ls 5 [(0, .ref (ad (132))), (1, .int (iI (t))), (2, .int (iI (a))), (3, .int (iI (n))), (4, .int (iI (d)))] := hl
  have hpr := hI.1
  have hB0 := hB
  refine lv_aload_n X.1 X.2.1 d_Mo_power_0 rfl (lv_at hl 0 rfl) ?_
  refine lv_iload_n X.1 X.2.1 d_Mo_power_1 rfl (lv_at hl 1 rfl) ?_
  refine w_cVi (n := 1) (i := 132) (ci := 5) (As := [.int (iI (t))]) (rest := []) X w hml hl.1 (c_Mo_none hT (M := M) hB (x := t) (by omega)) (by omega) (by rw [mkR_B (by decide)]; exact hB.1) rfl k_m_Mo_73 k_im_Mo_none k_se_Mo_none k_i_Mo k_co_Mo_none (by decide +kernel) rfl ⟨Nat.le_of_ble_eq_true rfl, Nat.le_of_ble_eq_true rfl⟩ ⟨rfl, rfl⟩ ⟨Nat.zero_le _, Nat.zero_le _⟩ rfl (Nat.le_of_ble_eq_true rfl) d_Mo_power_2 (fun r' C' H locs hp w => ?_)
  obtain ⟨rfl, rfl⟩ := hp
  have hB := hB0.set (outF (t) 0 15) pr fc
  refine z_ne (a := outF (t) 0 15) (tgt := 56) X (outF_rg _ _ _) d_Mo_power_5 (by decide) (fun h_5 => ?_) (fun h_5 => ?_)
  · refine lv_iconst (v := iI (0)) X.1 X.2.1 d_Mo_power_56 (by decide) ?_
    obtain ⟨k1, k2⟩ := outF_1 h_5
    exact w_iret X hr hlk w (Or.inl ⟨Or.inl k1, rfl, by rw [k1]⟩) d_Mo_power_57
  · have k0 := outF_0 h_5
    refine lv_aload_n X.1 X.2.1 d_Mo_power_8 rfl (lv_at hl 0 rfl) ?_
    refine lv_iload_n X.1 X.2.1 d_Mo_power_9 rfl (lv_at hl 2 rfl) ?_
    refine w_cVi (n := 1) (i := 132) (ci := 5) (As := [.int (iI (a))]) (rest := []) X w hml hl.1 (c_Mo_none hT (M := M) hB (x := a) (by omega)) (by omega) (by rw [mkR_B (by decide)]; exact hB.1) rfl k_m_Mo_73 k_im_Mo_none k_se_Mo_none k_i_Mo k_co_Mo_none (by decide +kernel) rfl ⟨Nat.le_of_ble_eq_true rfl, Nat.le_of_ble_eq_true rfl⟩ ⟨rfl, rfl⟩ ⟨Nat.zero_le _, Nat.zero_le _⟩ rfl (Nat.le_of_ble_eq_true rfl) d_Mo_power_10 (fun r' C' H locs hp w => ?_)
    obtain ⟨rfl, rfl⟩ := hp
    rw [mB_mB] at w
    have hB := hB0.set (outF (a) 0 15) pr fc
    refine z_ne (a := outF (a) 0 15) (tgt := 56) X (outF_rg _ _ _) d_Mo_power_13 (by decide) (fun h_13 => ?_) (fun h_13 => ?_)
    · refine lv_iconst (v := iI (0)) X.1 X.2.1 d_Mo_power_56 (by decide) ?_
      obtain ⟨k1, k2⟩ := outF_1 h_13
      exact w_iret X hr hlk w (Or.inl ⟨Or.inr (Or.inl k1), rfl, by rw [k1]⟩) d_Mo_power_57
    · have k0a := outF_0 h_13
      refine lv_aload_n X.1 X.2.1 d_Mo_power_16 rfl (lv_at hl 0 rfl) ?_
      refine lv_iload X.1 X.2.1 d_Mo_power_17 (lv_at hl 4 rfl) ?_
      refine w_cVi (n := 1) (i := 132) (ci := 5) (As := [.int (iI (d))]) (rest := []) X w hml hl.1 (c_Mo_none hT (M := M) hB (x := d) (by omega)) (by omega) (by rw [mkR_B (by decide)]; exact hB.1) rfl k_m_Mo_73 k_im_Mo_none k_se_Mo_none k_i_Mo k_co_Mo_none (by decide +kernel) rfl ⟨Nat.le_of_ble_eq_true rfl, Nat.le_of_ble_eq_true rfl⟩ ⟨rfl, rfl⟩ ⟨Nat.zero_le _, Nat.zero_le _⟩ rfl (Nat.le_of_ble_eq_true rfl) d_Mo_power_19 (fun r' C' H locs hp w => ?_)
      obtain ⟨rfl, rfl⟩ := hp
      rw [mB_mB] at w
      have hB := hB0.set (outF (d) 0 15) pr fc
      refine z_ne (a := outF (d) 0 15) (tgt := 56) X (outF_rg _ _ _) d_Mo_power_22 (by decide) (fun h_22 => ?_) (fun h_22 => ?_)
      · refine lv_iconst (v := iI (0)) X.1 X.2.1 d_Mo_power_56 (by decide) ?_
        obtain ⟨k1, k2⟩ := outF_1 h_22
        exact w_iret X hr hlk w (Or.inl ⟨Or.inr (Or.inr k1), rfl, by rw [k1]⟩) d_Mo_power_57
      · have k0d := outF_0 h_22
        have hd9 := hok d.toNat (by omega)
        have ha9 := hok a.toNat (by omega)
        have hdd := (hd9.ok hpr.2).dlt 300
        have hdd0 := dg_ge 300 (M d.toNat)
        refine lv_aload_n X.1 X.2.1 d_Mo_power_25 rfl (lv_at hl 0 rfl) ?_
        refine lv_iconst (v := iI (2)) X.1 X.2.1 d_Mo_power_26 (by decide) ?_
        refine lv_iload_n X.1 X.2.1 d_Mo_power_27 rfl (lv_at hl 3 rfl) ?_
        refine z_lt (a := n) (tgt := 45) X (by omega) d_Mo_power_28 (by decide) (fun h_28 => ?_) (fun h_28 => ?_)
        · refine lv_iconst (v := iI (1)) X.1 X.2.1 d_Mo_power_45 (by decide) ?_
          refine lv_goto (tgt := 50) X.1 X.2.1 d_Mo_power_46 (by decide) ?_
          refine w_cVi (n := 2) (i := 132) (ci := 5) (As := [.int (iI (2)), .int (iI (1))]) (rest := []) X w hml hl.1 (c_Mo_refuse hT (M := M) hB (k := 2) (b := 1) (by omega)) (by omega) (by rw [mkR_B (by decide)]; exact hB.1) rfl k_m_Mo_61 k_im_Mo_refuse k_se_Mo_refuse k_i_Mo k_co_Mo_refuse (by decide +kernel) rfl ⟨Nat.le_of_ble_eq_true rfl, Nat.le_of_ble_eq_true rfl⟩ ⟨rfl, rfl⟩ ⟨Nat.zero_le _, Nat.zero_le _⟩ rfl (Nat.le_of_ble_eq_true rfl) d_Mo_power_50 (fun r' C' H locs hp w => ?_)
          obtain ⟨rfl, rfl⟩ := hp
          rw [mB_mB] at w
          have hB := hB0.set (if (1 : Int) = 0 then (outF d 0 15) else 2) pr fc
          refine z_eq (a := 1) (tgt := 58) X (by omega) d_Mo_power_53 (by decide) (fun h_53 => ?_) (fun h_53 => ?_)
          · exact absurd h_53 (by omega)
          · refine lv_iconst (v := iI (0)) X.1 X.2.1 d_Mo_power_56 (by decide) ?_
            exact w_iret X hr hlk w (Or.inr (Or.inl ⟨⟨k0, k0a, k0d⟩, by omega, rfl, by rw [if_neg (by decide)]⟩)) d_Mo_power_57
        · refine lv_aload_n X.1 X.2.1 d_Mo_power_31 rfl (lv_at hl 0 rfl) ?_
          refine m_get X hT w hB 2 (by decide) k_f_Mo_18 rfl d_Mo_power_32 ?_
          refine lv_iload X.1 X.2.1 d_Mo_power_35 (lv_at hl 4 rfl) ?_
          refine m_aal (i := 133) (n := 16) (pl := fun i => 138 + i) (z := d) X w (by omega) (by rw [mkR_B (by decide)]; exact hB.2.1) (d.toNat) (by omega) (by omega) (by decide) d_Mo_power_37 ?_
          refine w_cSi (n := 1) (As := [.ref (ad (138 + d.toNat))]) (rest := [.int (iI (2)), .ref (ad (132))]) X w hml hl.1 (c_Mo_degree hT (M := M) (a := d.toNat) (by omega) (hW _ (by omega))) k_m_Mo_80 k_st_Mo_degree k_i_Mo k_co_Mo_degree (by decide +kernel) rfl ⟨Nat.le_of_ble_eq_true rfl, Nat.le_of_ble_eq_true rfl⟩ ⟨rfl, rfl⟩ ⟨Nat.zero_le _, Nat.zero_le _⟩ rfl (Nat.le_of_ble_eq_true rfl) d_Mo_power_38 (fun r' C' H locs hp w => ?_)
          obtain ⟨rfl, rfl⟩ := hp
          refine lv_iconst (v := iI (1)) X.1 X.2.1 d_Mo_power_41 (by decide) ?_
          refine i_ge (a := dg 300 (M d.toNat)) (b := 1) (tgt := 49) X (by omega) (by omega) d_Mo_power_42 (by decide) (fun h_42 => ?_) (fun h_42 => ?_)
          · refine lv_iconst (v := iI (0)) X.1 X.2.1 d_Mo_power_49 (by decide) ?_
            refine w_cVi (n := 2) (i := 132) (ci := 5) (As := [.int (iI (2)), .int (iI (0))]) (rest := []) X w hml hl.1 (c_Mo_refuse hT (M := M) hB (k := 2) (b := 0) (by omega)) (by omega) (by rw [mkR_B (by decide)]; exact hB.1) rfl k_m_Mo_61 k_im_Mo_refuse k_se_Mo_refuse k_i_Mo k_co_Mo_refuse (by decide +kernel) rfl ⟨Nat.le_of_ble_eq_true rfl, Nat.le_of_ble_eq_true rfl⟩ ⟨rfl, rfl⟩ ⟨Nat.zero_le _, Nat.zero_le _⟩ rfl (Nat.le_of_ble_eq_true rfl) d_Mo_power_50 (fun r' C' H locs hp w => ?_)
            obtain ⟨rfl, rfl⟩ := hp
            rw [mB_mB] at w
            have hB := hB0.set (if (0 : Int) = 0 then (outF d 0 15) else 2) pr fc
            have hth : (if (0 : Int) = 0 then (outF d 0 15) else 2) = 0 := by rw [if_pos rfl]; exact h_22
            rw [hth] at w hB
            refine z_eq (a := 0) (tgt := 58) X (by omega) d_Mo_power_53 (by decide) (fun h_53 => ?_) (fun h_53 => ?_)
            · refine lv_aload_n X.1 X.2.1 d_Mo_power_58 rfl (lv_at hl 0 rfl) ?_
              refine m_get X hT w hB 2 (by decide) k_f_Mo_18 rfl d_Mo_power_59 ?_
              refine lv_iload_n X.1 X.2.1 d_Mo_power_62 rfl (lv_at hl 2 rfl) ?_
              refine m_aal (i := 133) (n := 16) (pl := fun i => 138 + i) (z := a) X w (by omega) (by rw [mkR_B (by decide)]; exact hB.2.1) (a.toNat) (by omega) (by omega) (by decide) d_Mo_power_63 ?_
              refine lv_aload_n X.1 X.2.1 d_Mo_power_64 rfl (lv_at hl 0 rfl) ?_
              refine m_get X hT w hB 13 (by decide) k_f_Mo_52 rfl d_Mo_power_65 ?_
              refine w_cSv (n := 2) (As := [.ref (ad (138 + a.toNat)), .ref (ad (138 + 48))]) (rest := []) X w hml hl.1 (c_Mo_copy hT (M := M) (a := a.toNat) (b := 48) (by omega) (by omega) hW) k_m_Mo_84 k_st_Mo_copy k_i_Mo k_co_Mo_copy (by decide +kernel) rfl ⟨Nat.le_of_ble_eq_true rfl, Nat.le_of_ble_eq_true rfl⟩ ⟨rfl, rfl⟩ ⟨Nat.zero_le _, Nat.zero_le _⟩ rfl (Nat.le_of_ble_eq_true rfl) d_Mo_power_68 (fun C' H locs hp w => ?_)
              subst hp
              obtain ⟨Mw1, eMw1⟩ : ∃ mm : Nat → Nat → Int, mm = va_up M 48 (M a.toNat) := ⟨_, rfl⟩
              rw [← eMw1] at w
              have hW1 : WR Mw1 := by rw [eMw1]; exact hW.up (hW _ (by omega))
              have a48 : Mw1 48 = M a.toNat := by rw [eMw1, va_up_self]
              have aF : ∀ r, r ≠ 48 → Mw1 r = M r := fun r h => by rw [eMw1, va_up_ne _ _ h]
              have ad9 : Mw1 d.toNat = M d.toNat := aF _ (by omega)
              refine lv_aload_n X.1 X.2.1 d_Mo_power_71 rfl (lv_at hl 0 rfl) ?_
              refine lv_iload_n X.1 X.2.1 d_Mo_power_72 rfl (lv_at hl 3 rfl) ?_
              refine lv_aload_n X.1 X.2.1 d_Mo_power_73 rfl (lv_at hl 0 rfl) ?_
              refine m_get X hT w hB 2 (by decide) k_f_Mo_18 rfl d_Mo_power_74 ?_
              refine lv_iload X.1 X.2.1 d_Mo_power_77 (lv_at hl 4 rfl) ?_
              refine m_aal (i := 133) (n := 16) (pl := fun i => 138 + i) (z := d) X w (by omega) (by rw [mkR_B (by decide)]; exact hB.2.1) (d.toNat) (by omega) (by omega) (by decide) d_Mo_power_79 ?_
              have hcr := c_Mo_raised (l := l) (D := D) (A := A) hT (M := Mw1) hB hI (d := d.toNat) (q := n.toNat) (by omega) (by omega) hW1 (by rw [a48]; exact ha9.mono (by omega)) (by rw [ad9]; exact hd9.mono (by omega)) (by rw [ad9]; omega)
              rw [show ((n.toNat : Nat) : Int) = n by omega] at hcr
              refine w_cVv (n := 2) (i := 132) (ci := 5) (As := [.int (iI (n)), .ref (ad (138 + d.toNat))]) (rest := []) X w hml hl.1 (hcr) (by omega) (by rw [mkR_B (by decide)]; exact hB.1) rfl k_m_Mo_103 k_im_Mo_raised k_se_Mo_raised k_i_Mo k_co_Mo_raised (by decide +kernel) rfl ⟨Nat.le_of_ble_eq_true rfl, Nat.le_of_ble_eq_true rfl⟩ ⟨rfl, rfl⟩ ⟨Nat.zero_le _, Nat.zero_le _⟩ rfl (Nat.le_of_ble_eq_true rfl) d_Mo_power_80 (fun C' H locs hp w => ?_)
              obtain ⟨M2, rfl, hW2, g1, g2, g3⟩ := hp
              rw [a48, ad9] at g1
              refine lv_aload_n X.1 X.2.1 d_Mo_power_83 rfl (lv_at hl 0 rfl) ?_
              refine m_get X hT w hB 14 (by decide) k_f_Mo_55 rfl d_Mo_power_84 ?_
              refine lv_aload_n X.1 X.2.1 d_Mo_power_87 rfl (lv_at hl 0 rfl) ?_
              refine m_get X hT w hB 2 (by decide) k_f_Mo_18 rfl d_Mo_power_88 ?_
              refine lv_iload_n X.1 X.2.1 d_Mo_power_91 rfl (lv_at hl 1 rfl) ?_
              refine m_aal (i := 133) (n := 16) (pl := fun i => 138 + i) (z := t) X w (by omega) (by rw [mkR_B (by decide)]; exact hB.2.1) (t.toNat) (by omega) (by omega) (by decide) d_Mo_power_92 ?_
              refine w_cSv (n := 2) (As := [.ref (ad (138 + 49)), .ref (ad (138 + t.toNat))]) (rest := []) X w hml hl.1 (c_Mo_copy hT (M := M2) (a := 49) (b := t.toNat) (by omega) (by omega) hW2) k_m_Mo_84 k_st_Mo_copy k_i_Mo k_co_Mo_copy (by decide +kernel) rfl ⟨Nat.le_of_ble_eq_true rfl, Nat.le_of_ble_eq_true rfl⟩ ⟨rfl, rfl⟩ ⟨Nat.zero_le _, Nat.zero_le _⟩ rfl (Nat.le_of_ble_eq_true rfl) d_Mo_power_93 (fun C' H locs hp w => ?_)
              subst hp
              obtain ⟨Mw2, eMw2⟩ : ∃ mm : Nat → Nat → Int, mm = va_up M2 t.toNat (M2 49) := ⟨_, rfl⟩
              rw [← eMw2] at w
              rw [g1] at eMw2
              have k49 : Mw2 49 = (rsd pr inv (M a.toNat) n.toNat (M d.toNat)) := by rw [eMw2, va_up_ne _ _ (by omega)]; exact g1
              rw [g1] at g2
              refine lv_aload_n X.1 X.2.1 d_Mo_power_96 rfl (lv_at hl 0 rfl) ?_
              refine m_get X hT w hB 14 (by decide) k_f_Mo_55 rfl d_Mo_power_97 ?_
              refine w_cSi (n := 1) (As := [.ref (ad (138 + 49))]) (rest := []) X w hml hl.1 (c_Mo_degree hT (M := Mw2) (a := 49) (by omega) (by rw [k49]; exact (g2.mono (by omega)).ok hpr.2)) k_m_Mo_80 k_st_Mo_degree k_i_Mo k_co_Mo_degree (by decide +kernel) rfl ⟨Nat.le_of_ble_eq_true rfl, Nat.le_of_ble_eq_true rfl⟩ ⟨rfl, rfl⟩ ⟨Nat.zero_le _, Nat.zero_le _⟩ rfl (Nat.le_of_ble_eq_true rfl) d_Mo_power_100 (fun r' C' H locs hp w => ?_)
              obtain ⟨rfl, rfl⟩ := hp
              rw [k49]
              refine w_iret X hr hlk w (Or.inr (Or.inr ⟨⟨k0, k0a, k0d⟩, ⟨by omega, by omega⟩, rfl, g2, Mw2, rfl, by rw [eMw2]; exact hW2.up ((g2.mono (by omega)).ok hpr.2), fun r hr9 => ?_⟩)) d_Mo_power_103
              rw [eMw2]
              by_cases e9 : r = t.toNat
              · rw [e9, va_up_self, va_up_self]
              · rw [va_up_ne _ _ e9, va_up_ne _ _ e9, g3 r (by omega) (by omega) (by omega) (by omega) (by omega), aF r (by omega)]
            · exact absurd h_53 (by omega)
          · refine lv_iconst (v := iI (1)) X.1 X.2.1 d_Mo_power_45 (by decide) ?_
            refine lv_goto (tgt := 50) X.1 X.2.1 d_Mo_power_46 (by decide) ?_
            refine w_cVi (n := 2) (i := 132) (ci := 5) (As := [.int (iI (2)), .int (iI (1))]) (rest := []) X w hml hl.1 (c_Mo_refuse hT (M := M) hB (k := 2) (b := 1) (by omega)) (by omega) (by rw [mkR_B (by decide)]; exact hB.1) rfl k_m_Mo_61 k_im_Mo_refuse k_se_Mo_refuse k_i_Mo k_co_Mo_refuse (by decide +kernel) rfl ⟨Nat.le_of_ble_eq_true rfl, Nat.le_of_ble_eq_true rfl⟩ ⟨rfl, rfl⟩ ⟨Nat.zero_le _, Nat.zero_le _⟩ rfl (Nat.le_of_ble_eq_true rfl) d_Mo_power_50 (fun r' C' H locs hp w => ?_)
            obtain ⟨rfl, rfl⟩ := hp
            rw [mB_mB] at w
            have hB := hB0.set (if (1 : Int) = 0 then (outF d 0 15) else 2) pr fc
            refine z_eq (a := 1) (tgt := 58) X (by omega) d_Mo_power_53 (by decide) (fun h_53 => ?_) (fun h_53 => ?_)
            · exact absurd h_53 (by omega)
            · refine lv_iconst (v := iI (0)) X.1 X.2.1 d_Mo_power_56 (by decide) ?_
              exact w_iret X hr hlk w (Or.inr (Or.inl ⟨⟨k0, k0a, k0d⟩, by omega, rfl, by rw [if_neg (by decide)]⟩)) d_Mo_power_57
def irL (pr : Int) (inv : Nat → Int) (A : Nat → Int) : Nat → Nat → (Nat → Int) → Bool
  | 0, _, _ => true
  | n + 1, e, Bs => if 2 * (e : Int) ≤ dg 300 A then (if 0 < dg 300 (gcdP pr inv A (va_up (rsd pr inv Bs pr.toNat A) 1 ((rsd pr inv Bs pr.toNat A 1 - 1) % pr))) then false else irL pr inv A n (e + 1) (rsd pr inv Bs pr.toNat A)) else true
def irrR (pr : Int) (inv : Nat → Int) (A : Nat → Int) : Bool := if dg 300 A < 1 then false else irL pr inv A 13 1 xP
section MIR
variable {p : Program} {l : Launch} {e : Env} {s : State} {m : MethodId} {args : Array Value} {below : List Frame} {meth : Method} {c : Code} {H : Heap} {locs : List Loc} {Q : State → Prop} {D : va_G} {cs : Nat → ClassId} {A : Nat → Prop} {ad : Nat → Nat} {T : Nat} {B : Nat → va_E} {th pr fc : Int}
variable {M : Nat → Nat → Int} {inv : Nat → Int} {a : Int}
theorem l_Mo_irr {post : Int32 → (Nat → va_E) → Prop} (X : Cx p s m args c b_Mo_irreducible RMo) (hr : meth.sig.returnType = some .boolean) (hlk : meth.locks = false) (hml : c.maxLocals = 4) (hT : 213 ≤ T) (hB : moO cs ad th pr fc B) (hI : invP pr inv) (ha : 0 ≤ a ∧ a ≤ 15) (hA : okp pr 25 (M a.toNat)) (hd1 : 1 ≤ dg 300 (M a.toNat)) {Z : Bool} (hp : ∀ M1, WR M1 → (∀ r, r < 41 → M1 r = M r) → post (bI Z) (mkR cs M1 B)) :
    ∀ (n e0 : Nat) (M1 : Nat → Nat → Int) (H : Heap) (locs : List Loc) (ls : Array Slot), e0 + n = 14 → 1 ≤ e0 → Wd D cs A ad T s (mkR cs M1 B) H locs → irL pr inv (M a.toNat) n e0 (M1 48) = Z → okp pr 25 (M1 48) → WR M1 → (∀ r, r < 41 → M1 r = M r) → lv_has ls 4 [(0, .ref (ad (132))), (1, .int (iI (a))), (2, .int (iI (dg 300 (M a.toNat)))), (3, .int (iI (e0)))] → W p l e { frames := 3, cells := 0, slots := 0, locals := 72 } s m args below meth c H locs 0 0 (MQ below (va_Qi post (QW D cs ad T) A) args s 0 0 A) (F0 m 43 ls []) := by
  have hpr := hI.1
  have hda := (hA.ok hpr.2).dlt 300
  intro n
  induction n with
  | zero =>
    intro e0 M1 H locs ls h1 h0 w hz h48 hW hF hl
    have hz : true = Z := hz
    subst hz
    refine lv_iconst (v := iI (2)) X.1 X.2.1 d_Mo_irreducible_43 (by decide) ?_
    refine lv_iload_n X.1 X.2.1 d_Mo_irreducible_44 rfl (lv_at hl 3 rfl) ?_
    refine i_mul (a := 2) (b := e0) X d_Mo_irreducible_45 ?_
    refine lv_iload_n X.1 X.2.1 d_Mo_irreducible_46 rfl (lv_at hl 2 rfl) ?_
    refine i_gt (a := 2 * e0) (b := dg 300 (M a.toNat)) (tgt := 136) X (by omega) (by omega) d_Mo_irreducible_47 (by decide) (fun h_47 => ?_) (fun h_47 => ?_)
    · refine lv_iconst (v := iI (1)) X.1 X.2.1 d_Mo_irreducible_136 (by decide) ?_
      exact w_zret X hr rfl hlk w (hp M1 hW hF) d_Mo_irreducible_137
    · exact absurd h_47 (by omega)
  | succ n ih =>
    intro e0 M1 H locs ls h1 h0 w hz h48 hW hF hl
    have ea : M1 a.toNat = M a.toNat := hF _ (by omega)
    obtain ⟨Y, hY⟩ : ∃ Y : Nat → Int, Y = rsd pr inv (M1 48) pr.toNat (M a.toNat) := ⟨_, rfl⟩
    have hz : (if 2 * (e0 : Int) ≤ dg 300 (M a.toNat) then (if 0 < dg 300 (gcdP pr inv (M a.toNat) (va_up (rsd pr inv (M1 48) pr.toNat (M a.toNat)) 1 ((rsd pr inv (M1 48) pr.toNat (M a.toNat) 1 - 1) % pr))) then false else irL pr inv (M a.toNat) n (e0 + 1) (rsd pr inv (M1 48) pr.toNat (M a.toNat))) else true) = Z := hz
    rw [← hY] at hz
    refine lv_iconst (v := iI (2)) X.1 X.2.1 d_Mo_irreducible_43 (by decide) ?_
    refine lv_iload_n X.1 X.2.1 d_Mo_irreducible_44 rfl (lv_at hl 3 rfl) ?_
    refine i_mul (a := 2) (b := e0) X d_Mo_irreducible_45 ?_
    refine lv_iload_n X.1 X.2.1 d_Mo_irreducible_46 rfl (lv_at hl 2 rfl) ?_
    refine i_gt (a := 2 * e0) (b := dg 300 (M a.toNat)) (tgt := 136) X (by omega) (by omega) d_Mo_irreducible_47 (by decide) (fun h_47 => ?_) (fun h_47 => ?_)
    · refine lv_iconst (v := iI (1)) X.1 X.2.1 d_Mo_irreducible_136 (by decide) ?_
      rw [if_neg (by omega)] at hz
      subst hz
      exact w_zret X hr rfl hlk w (hp M1 hW hF) d_Mo_irreducible_137
    · refine lv_aload_n X.1 X.2.1 d_Mo_irreducible_50 rfl (lv_at hl 0 rfl) ?_
      refine lv_aload_n X.1 X.2.1 d_Mo_irreducible_51 rfl (lv_at hl 0 rfl) ?_
      refine m_get X hT w hB 1 (by decide) k_f_Mo_13 rfl d_Mo_irreducible_52 ?_
      refine lv_aload_n X.1 X.2.1 d_Mo_irreducible_55 rfl (lv_at hl 0 rfl) ?_
      refine m_get X hT w hB 2 (by decide) k_f_Mo_18 rfl d_Mo_irreducible_56 ?_
      refine lv_iload_n X.1 X.2.1 d_Mo_irreducible_59 rfl (lv_at hl 1 rfl) ?_
      refine m_aal (i := 133) (n := 16) (pl := fun i => 138 + i) (z := a) X w (by omega) (by rw [mkR_B (by decide)]; exact hB.2.1) (a.toNat) (by omega) (by omega) (by decide) d_Mo_irreducible_60 ?_
      have hcr := c_Mo_raised (l := l) (D := D) (A := A) hT (M := M1) hB hI (d := a.toNat) (q := pr.toNat) (by omega) (by omega) hW (h48.mono (by omega)) (by rw [ea]; exact hA.mono (by omega)) (by rw [ea]; omega)
      rw [show ((pr.toNat : Nat) : Int) = pr by omega] at hcr
      refine w_cVv (n := 2) (i := 132) (ci := 5) (As := [.int (iI (pr)), .ref (ad (138 + a.toNat))]) (rest := []) X w hml hl.1 (hcr) (by omega) (by rw [mkR_B (by decide)]; exact hB.1) rfl k_m_Mo_103 k_im_Mo_raised k_se_Mo_raised k_i_Mo k_co_Mo_raised (by decide +kernel) rfl ⟨Nat.le_of_ble_eq_true rfl, Nat.le_of_ble_eq_true rfl⟩ ⟨rfl, rfl⟩ ⟨Nat.zero_le _, Nat.zero_le _⟩ rfl (Nat.le_of_ble_eq_true rfl) d_Mo_irreducible_61 (fun C' H locs hp1 w => ?_)
      obtain ⟨M2, rfl, hW2, g1, g2, g3⟩ := hp1
      rw [ea, ← hY] at g1
      rw [g1] at g2
      refine lv_aload_n X.1 X.2.1 d_Mo_irreducible_64 rfl (lv_at hl 0 rfl) ?_
      refine m_get X hT w hB 14 (by decide) k_f_Mo_55 rfl d_Mo_irreducible_65 ?_
      refine lv_aload_n X.1 X.2.1 d_Mo_irreducible_68 rfl (lv_at hl 0 rfl) ?_
      refine m_get X hT w hB 13 (by decide) k_f_Mo_52 rfl d_Mo_irreducible_69 ?_
      refine w_cSv (n := 2) (As := [.ref (ad (138 + 49)), .ref (ad (138 + 48))]) (rest := []) X w hml hl.1 (c_Mo_copy hT (M := M2) (a := 49) (b := 48) (by omega) (by omega) hW2) k_m_Mo_84 k_st_Mo_copy k_i_Mo k_co_Mo_copy (by decide +kernel) rfl ⟨Nat.le_of_ble_eq_true rfl, Nat.le_of_ble_eq_true rfl⟩ ⟨rfl, rfl⟩ ⟨Nat.zero_le _, Nat.zero_le _⟩ rfl (Nat.le_of_ble_eq_true rfl) d_Mo_irreducible_72 (fun C' H locs hp1 w => ?_)
      subst hp1
      obtain ⟨Mw1, eMw1⟩ : ∃ mm : Nat → Nat → Int, mm = va_up M2 48 (M2 49) := ⟨_, rfl⟩
      rw [← eMw1] at w
      rw [g1] at eMw1
      have hW3 : WR Mw1 := by rw [eMw1]; exact hW2.up ((g2.mono (by omega)).ok hpr.2)
      have b48 : Mw1 48 = Y := by rw [eMw1, va_up_self]
      refine lv_aload_n X.1 X.2.1 d_Mo_irreducible_75 rfl (lv_at hl 0 rfl) ?_
      refine m_get X hT w hB 13 (by decide) k_f_Mo_52 rfl d_Mo_irreducible_76 ?_
      refine lv_aload_n X.1 X.2.1 d_Mo_irreducible_79 rfl (lv_at hl 0 rfl) ?_
      refine m_get X hT w hB 11 (by decide) k_f_Mo_46 rfl d_Mo_irreducible_80 ?_
      refine w_cSv (n := 2) (As := [.ref (ad (138 + 48)), .ref (ad (138 + 46))]) (rest := []) X w hml hl.1 (c_Mo_copy hT (M := Mw1) (a := 48) (b := 46) (by omega) (by omega) hW3) k_m_Mo_84 k_st_Mo_copy k_i_Mo k_co_Mo_copy (by decide +kernel) rfl ⟨Nat.le_of_ble_eq_true rfl, Nat.le_of_ble_eq_true rfl⟩ ⟨rfl, rfl⟩ ⟨Nat.zero_le _, Nat.zero_le _⟩ rfl (Nat.le_of_ble_eq_true rfl) d_Mo_irreducible_83 (fun C' H locs hp1 w => ?_)
      subst hp1
      obtain ⟨Mw2, eMw2⟩ : ∃ mm : Nat → Nat → Int, mm = va_up Mw1 46 (Mw1 48) := ⟨_, rfl⟩
      rw [← eMw2] at w
      rw [b48] at eMw2
      have hW4 : WR Mw2 := by rw [eMw2]; exact hW3.up ((g2.mono (by omega)).ok hpr.2)
      have b46 : Mw2 46 = Y := by rw [eMw2, va_up_self]
      have y1 := g2.1 1
      have b461 : Mw2 46 1 = Y 1 := by rw [b46]
      refine lv_aload_n X.1 X.2.1 d_Mo_irreducible_86 rfl (lv_at hl 0 rfl) ?_
      refine m_get X hT w hB 11 (by decide) k_f_Mo_46 rfl d_Mo_irreducible_87 ?_
      refine lv_iconst (v := iI (1)) X.1 X.2.1 d_Mo_irreducible_90 (by decide) ?_
      refine lv_aload_n X.1 X.2.1 d_Mo_irreducible_91 rfl (lv_at hl 0 rfl) ?_
      refine lv_aload_n X.1 X.2.1 d_Mo_irreducible_92 rfl (lv_at hl 0 rfl) ?_
      refine m_get X hT w hB 11 (by decide) k_f_Mo_46 rfl d_Mo_irreducible_93 ?_
      refine lv_iconst (v := iI (1)) X.1 X.2.1 d_Mo_irreducible_96 (by decide) ?_
      refine m_ld (r := 46) (z := 1) X hT w (by omega) (1) (by omega) (by omega) d_Mo_irreducible_97 ?_
      refine lv_iconst (v := iI (1)) X.1 X.2.1 d_Mo_irreducible_98 (by decide) ?_
      refine i_sub (a := Mw2 46 1) (b := 1) X d_Mo_irreducible_99 ?_
      refine w_cVi (n := 1) (i := 132) (ci := 5) (As := [.int (iI ((Mw2 46 1) - 1))]) (rest := [.int (iI (1)), .ref (ad (138 + 46))]) X w hml hl.1 (c_Mo_inField hT (M := Mw2) hB (v := Mw2 46 1 - 1) (by omega) hpr) (by omega) (by rw [mkR_B (by decide)]; exact hB.1) rfl k_m_Mo_77 k_im_Mo_inField k_se_Mo_inField k_i_Mo k_co_Mo_inField (by decide +kernel) rfl ⟨Nat.le_of_ble_eq_true rfl, Nat.le_of_ble_eq_true rfl⟩ ⟨rfl, rfl⟩ ⟨Nat.zero_le _, Nat.zero_le _⟩ rfl (Nat.le_of_ble_eq_true rfl) d_Mo_irreducible_100 (fun r' C' H locs hp1 w => ?_)
      obtain ⟨rfl, rfl⟩ := hp1
      rw [b461]
      refine m_st (r := 46) (z := 1) (v := (Y 1 - 1) % pr) X hT w (by omega) (1) (by omega) (by omega) d_Mo_irreducible_103 (fun H locs w => ?_)
      obtain ⟨Mw3, eMw3⟩ : ∃ mm : Nat → Nat → Int, mm = va_up Mw2 46 (va_up (Mw2 46) 1 ((Y 1 - 1) % pr)) := ⟨_, rfl⟩
      rw [← eMw3] at w
      refine lv_aload_n X.1 X.2.1 d_Mo_irreducible_104 rfl (lv_at hl 0 rfl) ?_
      refine lv_aload_n X.1 X.2.1 d_Mo_irreducible_105 rfl (lv_at hl 0 rfl) ?_
      refine m_get X hT w hB 2 (by decide) k_f_Mo_18 rfl d_Mo_irreducible_106 ?_
      refine lv_iload_n X.1 X.2.1 d_Mo_irreducible_109 rfl (lv_at hl 1 rfl) ?_
      refine m_aal (i := 133) (n := 16) (pl := fun i => 138 + i) (z := a) X w (by omega) (by rw [mkR_B (by decide)]; exact hB.2.1) (a.toNat) (by omega) (by omega) (by decide) d_Mo_irreducible_110 ?_
      refine lv_aload_n X.1 X.2.1 d_Mo_irreducible_111 rfl (lv_at hl 0 rfl) ?_
      refine m_get X hT w hB 11 (by decide) k_f_Mo_46 rfl d_Mo_irreducible_112 ?_
      have c46 : Mw3 46 = va_up Y 1 ((Y 1 - 1) % pr) := by rw [eMw3, va_up_self, b46]
      have hw9 : okp pr 25 (va_up Y 1 ((Y 1 - 1) % pr)) := up_okp g2 (by omega) ⟨Int.emod_nonneg _ (by omega), Int.emod_lt_of_pos _ (by omega)⟩
      have hW5 : WR Mw3 := by rw [eMw3, b46]; exact hW4.up ((hw9.mono (by omega)).ok hpr.2)
      have cF : ∀ r, r ≠ 46 → Mw3 r = Mw1 r := fun r h => by rw [eMw3, va_up_ne _ _ h, eMw2, va_up_ne _ _ h]
      have cG : ∀ r, r < 41 → Mw3 r = M r := fun r h => by rw [cF r (by omega), eMw1, va_up_ne _ _ (by omega), g3 r (by omega) (by omega) (by omega) (by omega) (by omega)]; exact hF r h
      have c_a : Mw3 a.toNat = M a.toNat := cG _ (by omega)
      refine w_cVv (n := 2) (i := 132) (ci := 5) (As := [.ref (ad (138 + a.toNat)), .ref (ad (138 + 46))]) (rest := []) X w hml hl.1 (c_Mo_common hT (M := Mw3) hB hI (a := a.toNat) (b := 46) (by omega) (by omega) hW5 (by rw [c_a]; exact hA.mono (by omega)) (by rw [c46]; exact hw9.mono (by omega)) (by rw [c46]; have := (hw9.ok hpr.2).dlt 300; omega)) (by omega) (by rw [mkR_B (by decide)]; exact hB.1) rfl k_m_Mo_100 k_im_Mo_common k_se_Mo_common k_i_Mo k_co_Mo_common (by decide +kernel) rfl ⟨Nat.le_of_ble_eq_true rfl, Nat.le_of_ble_eq_true rfl⟩ ⟨rfl, rfl⟩ ⟨Nat.zero_le _, Nat.zero_le _⟩ rfl (Nat.le_of_ble_eq_true rfl) d_Mo_irreducible_115 (fun C' H locs hp1 w => ?_)
      obtain ⟨M6, rfl, hW6, q1, q2, q3⟩ := hp1
      rw [c_a, c46] at q1
      have q6 := (q2.ok hpr.2).dlt 300
      have q7 := dg_ge 300 (M6 44)
      refine lv_aload_n X.1 X.2.1 d_Mo_irreducible_118 rfl (lv_at hl 0 rfl) ?_
      refine m_get X hT w hB 9 (by decide) k_f_Mo_40 rfl d_Mo_irreducible_119 ?_
      refine w_cSi (n := 1) (As := [.ref (ad (138 + 44))]) (rest := []) X w hml hl.1 (c_Mo_degree hT (M := M6) (a := 44) (by omega) (hW6 _ (by omega))) k_m_Mo_80 k_st_Mo_degree k_i_Mo k_co_Mo_degree (by decide +kernel) rfl ⟨Nat.le_of_ble_eq_true rfl, Nat.le_of_ble_eq_true rfl⟩ ⟨rfl, rfl⟩ ⟨Nat.zero_le _, Nat.zero_le _⟩ rfl (Nat.le_of_ble_eq_true rfl) d_Mo_irreducible_122 (fun r' C' H locs hp1 w => ?_)
      obtain ⟨rfl, rfl⟩ := hp1
      refine z_le (a := dg 300 (M6 44)) (tgt := 130) X (by omega) d_Mo_irreducible_125 (by decide) (fun h_125 => ?_) (fun h_125 => ?_)
      · refine i_inc (k := 3) (x := e0) (lv' := [(3, .int (iI (e0 + 1))), (0, .ref (ad (132))), (1, .int (iI (a))), (2, .int (iI (dg 300 (M a.toNat))))]) X d_Mo_irreducible_130 hl rfl (by decide) rfl (fun ls hl => ?_)
        refine lv_goto (tgt := 43) X.1 X.2.1 d_Mo_irreducible_133 (by decide) ?_
        rw [if_pos (by omega), ← q1, if_neg (by omega)] at hz
        have d48 : M6 48 = Y := by rw [q3 48 (by decide) (by decide) (by decide) (by decide), cF 48 (by decide), b48]
        exact ih (e0 + 1) M6 H locs ls (by omega) (by omega) w (by rw [d48]; exact hz) (by rw [d48]; exact g2) hW6 (fun r h => by rw [q3 r (by omega) (by omega) (by omega) (by omega)]; exact cG r h) (lv_sub hl [1, 2, 3, 0] rfl)
      · refine lv_iconst (v := iI (0)) X.1 X.2.1 d_Mo_irreducible_128 (by decide) ?_
        rw [if_pos (by omega), ← q1, if_pos (by omega)] at hz
        subst hz
        exact w_zret X hr rfl hlk w (hp M6 hW6 (fun r h => by rw [q3 r (by omega) (by omega) (by omega) (by omega)]; exact cG r h)) d_Mo_irreducible_129
end MIR
theorem c_Mo_irreducible {l : Launch} {D : va_G} {cs : Nat → ClassId} {A : Nat → Prop} {ad : Nat → Nat} {T : Nat} (hT : 213 ≤ T) {M : Nat → Nat → Int} {B : Nat → va_E} {th pr fc : Int} (hB : moO cs ad th pr fc B) {inv : Nat → Int} (hI : invP pr inv) {a : Int} (ha : rg a) (hW : WR M) (hok : ∀ r, r < 16 → okp pr 25 (M r)) : Ci l y_Mo_irreducible ws_Mo_irreducible { frames := 3, cells := 0, slots := 0, locals := 72 } D cs A ad T [.ref (ad (132)), .int (iI (a))] (mkR cs M B) (fun x C' => (outF a 0 15 = 1 ∧ x = iI 0 ∧ C' = mkR cs M (mB ad B 1 pr fc)) ∨ ((0 ≤ a ∧ a ≤ 15) ∧ x = bI (irrR pr inv (M a.toNat)) ∧ ∃ M1, C' = mkR cs M1 (mB ad B 0 pr fc) ∧ WR M1 ∧ ∀ r, r < 41 → M1 r = M r)) := by
  refine w_bodyI (by decide) (Nat.le_of_ble_eq_true rfl) ?_
  intro p e s m below meth c X hr hlk hml w ls hl
  have hl : lv_has ls 4 [(0, .ref (ad (132))), (1, .int (iI (a)))] := hl
  have hpr := hI.1
  have hB0 := hB
  refine lv_aload_n X.1 X.2.1 d_Mo_irreducible_0 rfl (lv_at hl 0 rfl) ?_
  refine lv_iload_n X.1 X.2.1 d_Mo_irreducible_1 rfl (lv_at hl 1 rfl) ?_
  refine w_cVi (n := 1) (i := 132) (ci := 5) (As := [.int (iI (a))]) (rest := []) X w hml hl.1 (c_Mo_none hT (M := M) hB (x := a) (by omega)) (by omega) (by rw [mkR_B (by decide)]; exact hB.1) rfl k_m_Mo_73 k_im_Mo_none k_se_Mo_none k_i_Mo k_co_Mo_none (by decide +kernel) rfl ⟨Nat.le_of_ble_eq_true rfl, Nat.le_of_ble_eq_true rfl⟩ ⟨rfl, rfl⟩ ⟨Nat.zero_le _, Nat.zero_le _⟩ rfl (Nat.le_of_ble_eq_true rfl) d_Mo_irreducible_2 (fun r' C' H locs hp w => ?_)
  obtain ⟨rfl, rfl⟩ := hp
  have hB := hB0.set (outF (a) 0 15) pr fc
  refine z_eq (a := outF (a) 0 15) (tgt := 10) X (outF_rg _ _ _) d_Mo_irreducible_5 (by decide) (fun h_5 => ?_) (fun h_5 => ?_)
  · have k0 := outF_0 h_5
    have hok9 := hok a.toNat (by omega)
    have hda := (hok9.ok hpr.2).dlt 300
    have hda0 := dg_ge 300 (M a.toNat)
    refine lv_aload_n X.1 X.2.1 d_Mo_irreducible_10 rfl (lv_at hl 0 rfl) ?_
    refine m_get X hT w hB 2 (by decide) k_f_Mo_18 rfl d_Mo_irreducible_11 ?_
    refine lv_iload_n X.1 X.2.1 d_Mo_irreducible_14 rfl (lv_at hl 1 rfl) ?_
    refine m_aal (i := 133) (n := 16) (pl := fun i => 138 + i) (z := a) X w (by omega) (by rw [mkR_B (by decide)]; exact hB.2.1) (a.toNat) (by omega) (by omega) (by decide) d_Mo_irreducible_15 ?_
    refine w_cSi (n := 1) (As := [.ref (ad (138 + a.toNat))]) (rest := []) X w hml hl.1 (c_Mo_degree hT (M := M) (a := a.toNat) (by omega) (hW _ (by omega))) k_m_Mo_80 k_st_Mo_degree k_i_Mo k_co_Mo_degree (by decide +kernel) rfl ⟨Nat.le_of_ble_eq_true rfl, Nat.le_of_ble_eq_true rfl⟩ ⟨rfl, rfl⟩ ⟨Nat.zero_le _, Nat.zero_le _⟩ rfl (Nat.le_of_ble_eq_true rfl) d_Mo_irreducible_16 (fun r' C' H locs hp w => ?_)
    obtain ⟨rfl, rfl⟩ := hp
    refine lv_istore_n (lv' := [(2, .int (iI (dg 300 (M a.toNat)))), (0, .ref (ad (132))), (1, .int (iI (a)))]) X.1 X.2.1 d_Mo_irreducible_19 rfl hl (by decide) rfl (fun ls hl => ?_)
    refine lv_iload_n X.1 X.2.1 d_Mo_irreducible_20 rfl (lv_at hl 0 rfl) ?_
    refine lv_iconst (v := iI (1)) X.1 X.2.1 d_Mo_irreducible_21 (by decide) ?_
    refine i_ge (a := dg 300 (M a.toNat)) (b := 1) (tgt := 27) X (by omega) (by omega) d_Mo_irreducible_22 (by decide) (fun h_22 => ?_) (fun h_22 => ?_)
    · refine lv_aload_n X.1 X.2.1 d_Mo_irreducible_27 rfl (lv_at hl 1 rfl) ?_
      refine m_get X hT w hB 13 (by decide) k_f_Mo_52 rfl d_Mo_irreducible_28 ?_
      refine w_cSv (n := 1) (As := [.ref (ad (138 + 48))]) (rest := []) X w hml hl.1 (c_Mo_clear hT (M := M) (a := 48) (by omega) hW) k_m_Mo_69 k_st_Mo_clear k_i_Mo k_co_Mo_clear (by decide +kernel) rfl ⟨Nat.le_of_ble_eq_true rfl, Nat.le_of_ble_eq_true rfl⟩ ⟨rfl, rfl⟩ ⟨Nat.zero_le _, Nat.zero_le _⟩ rfl (Nat.le_of_ble_eq_true rfl) d_Mo_irreducible_31 (fun C' H locs hp w => ?_)
      subst hp
      obtain ⟨Mw1, eMw1⟩ : ∃ mm : Nat → Nat → Int, mm = va_up M 48 (fun _ => 0) := ⟨_, rfl⟩
      rw [← eMw1] at w
      refine lv_aload_n X.1 X.2.1 d_Mo_irreducible_34 rfl (lv_at hl 1 rfl) ?_
      refine m_get X hT w hB 13 (by decide) k_f_Mo_52 rfl d_Mo_irreducible_35 ?_
      refine lv_iconst (v := iI (1)) X.1 X.2.1 d_Mo_irreducible_38 (by decide) ?_
      refine lv_iconst (v := iI (1)) X.1 X.2.1 d_Mo_irreducible_39 (by decide) ?_
      refine m_st (r := 48) (z := 1) (v := 1) X hT w (by omega) (1) (by omega) (by omega) d_Mo_irreducible_40 (fun H locs w => ?_)
      obtain ⟨Mw2, eMw2⟩ : ∃ mm : Nat → Nat → Int, mm = va_up Mw1 48 (va_up (Mw1 48) 1 (1)) := ⟨_, rfl⟩
      rw [← eMw2] at w
      refine lv_iconst (v := iI (1)) X.1 X.2.1 d_Mo_irreducible_41 (by decide) ?_
      refine lv_istore_n (lv' := [(3, .int (iI (1))), (2, .int (iI (dg 300 (M a.toNat)))), (0, .ref (ad (132))), (1, .int (iI (a)))]) X.1 X.2.1 d_Mo_irreducible_42 rfl hl (by decide) rfl (fun ls hl => ?_)
      have e48 : Mw2 48 = xP := by
        rw [eMw2, va_up_self, eMw1, va_up_self]
        funext x
        unfold va_up xP
        rfl
      have eF : ∀ r, r ≠ 48 → Mw2 r = M r := fun r h => by rw [eMw2, va_up_ne _ _ h, eMw1, va_up_ne _ _ h]
      have hx9 : okp pr 25 xP := by
        refine ⟨fun x => ?_, fun x hx => ?_⟩
        · unfold xP; split <;> omega
        · unfold xP; rw [if_neg (by omega)]
      have hW2 : WR Mw2 := by
        have e9 : Mw2 = va_up M 48 xP := by
          funext r
          by_cases e9 : r = 48
          · rw [e9, va_up_self, e48]
          · rw [va_up_ne _ _ e9, eF r e9]
        rw [e9]
        exact hW.up ((hx9.mono (by omega)).ok hpr.2)
      exact l_Mo_irr (M := M) (a := a) (Z := irrR pr inv (M a.toNat)) X hr hlk hml hT hB hI k0 hok9 (by omega) (fun M1 q1 q2 => Or.inr ⟨k0, rfl, M1, by rw [h_5], q1, q2⟩) 13 1 Mw2 _ _ ls (by omega) (by omega) w (by rw [e48]; unfold irrR; rw [if_neg (by omega)]) (by rw [e48]; exact hx9) hW2 (fun r h => eF r (by omega)) (lv_sub hl [2, 3, 1, 0] rfl)
    · refine lv_iconst (v := iI (0)) X.1 X.2.1 d_Mo_irreducible_25 (by decide) ?_
      exact w_zret X hr rfl hlk w (Or.inr ⟨k0, by unfold irrR; rw [if_pos (by omega)]; rfl, M, by rw [h_5], hW, fun _ _ => rfl⟩) d_Mo_irreducible_26
  · refine lv_iconst (v := iI (0)) X.1 X.2.1 d_Mo_irreducible_8 (by decide) ?_
    obtain ⟨k1, k2⟩ := outF_1 h_5
    exact w_zret X hr rfl hlk w (Or.inl ⟨k1, rfl, by rw [k1]⟩) d_Mo_irreducible_9
