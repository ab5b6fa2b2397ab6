def invR (pr : Int) (inv : Nat → Int) (A M : Nat → Int) : Option (Nat → Int) := (gauR pr inv (dg 300 M).toNat (dg 300 M).toNat 0 (matR pr inv A M (dg 300 M).toNat)).map (fun F x => if x < (dg 300 M).toNat then F x (dg 300 M).toNat else 0)
theorem c_Mo_inverse {l : Launch} {D : va_G} {cs : Nat → ClassId} {A : Nat → Prop} {ad : Nat → Nat} {T : Nat} (hT : 213 ≤ T) {M : Nat → Nat → Int} {B : Nat → va_E} {th pr fc : Int} (hB : moO cs ad th pr fc B) {inv : Nat → Int} (hI : invP pr inv) {k0 : Nat} {pm : Nat → Nat} {Fq : Nat → Nat → Int} (hEq : eqV cs ad k0 pm Fq B) {t a d : Int} (ht : rg t) (ha : rg a) (hd : rg d) (hW : WR M) (hok : ∀ r, r < 16 → okp pr 25 (M r)) : CiE l y_Mo_inverse ws_Mo_inverse { frames := 2, cells := 0, slots := 0, locals := 49 } AOI D cs A ad T [.ref (ad (132)), .int (iI (t)), .int (iI (a)), .int (iI (d))] (mkR cs M B) (fun x C' => ((outF t 0 15 = 1 ∨ outF a 0 15 = 1 ∨ outF d 0 15 = 1) ∧ x = iI 0 ∧ C' = mkR cs M (mB ad B 1 pr fc)) ∨ (((0 ≤ t ∧ t ≤ 15) ∧ (0 ≤ a ∧ a ≤ 15) ∧ (0 ≤ d ∧ d ≤ 15)) ∧ dg 300 (M d.toNat) < 1 ∧ x = iI 0 ∧ C' = mkR cs M (mB ad B 2 pr fc)) ∨ (((0 ≤ t ∧ t ≤ 15) ∧ (0 ≤ a ∧ a ≤ 15) ∧ (0 ≤ d ∧ d ≤ 15)) ∧ 1 ≤ dg 300 (M d.toNat) ∧ invR pr inv (M a.toNat) (M d.toNat) = none ∧ x = iI 0 ∧ ∃ (M1 : Nat → Nat → Int) (B1 : Nat → va_E) (pm' : Nat → Nat) (F' : Nat → Nat → Int) (k' : Nat), C' = mkR cs M1 B1 ∧ WR M1 ∧ (∀ r, r < 41 → M1 r = M r) ∧ moO cs ad 3 pr fc B1 ∧ eqV cs ad k' pm' F' B1 ∧ (∀ q, q ≠ 132 → q ≠ 136 → q < 188 ∨ 213 ≤ q → B1 q = B q)) ∨ (((0 ≤ t ∧ t ≤ 15) ∧ (0 ≤ a ∧ a ≤ 15) ∧ (0 ≤ d ∧ d ≤ 15)) ∧ 1 ≤ dg 300 (M d.toNat) ∧ ∃ Z, invR pr inv (M a.toNat) (M d.toNat) = some Z ∧ okp pr 25 Z ∧ x = iI (dg 300 Z) ∧ ∃ (M1 : Nat → Nat → Int) (B1 : Nat → va_E) (pm' : Nat → Nat) (F' : Nat → Nat → Int) (k' : Nat), C' = mkR cs M1 B1 ∧ WR M1 ∧ (∀ r, r < 41 → M1 r = va_up M t.toNat Z r) ∧ moO cs ad 0 pr fc B1 ∧ eqV cs ad k' pm' F' B1 ∧ (∀ q, q ≠ 132 → q ≠ 136 → q < 188 ∨ 213 ≤ q → B1 q = B q))) := by
  refine w_bodyIE (by decide) (Nat.le_of_ble_eq_true rfl) ?_
  intro p e s m below meth c X hr hlk hml hover w ls hl
  have hl : lv_has ls 12 [(0, .ref (ad (132))), (1, .int (iI (t))), (2, .int (iI (a))), (3, .int (iI (d)))] := hl
  have hpr := hI.1
  have hB0 := hB
  refine lv_aload_n X.1 X.2.1 d_Mo_inverse_0 rfl (lv_at hl 0 rfl) ?_
  refine lv_iload_n X.1 X.2.1 d_Mo_inverse_1 rfl (lv_at hl 1 rfl) ?_
  refine w_cVi (n := 1) (i := 132) (ci := 5) (As := [.int (iI (t))]) (rest := []) X w hml hl.1 (c_Mo_none hT (M := M) hB (x := t) (by omega)) (by omega) (by rw [mkR_B (by decide)]; exact hB.1) rfl k_m_Mo_73 k_im_Mo_none k_se_Mo_none k_i_Mo k_co_Mo_none (by decide +kernel) rfl ⟨Nat.le_of_ble_eq_true rfl, Nat.le_of_ble_eq_true rfl⟩ ⟨rfl, rfl⟩ ⟨Nat.zero_le _, Nat.zero_le _⟩ rfl (Nat.le_of_ble_eq_true rfl) d_Mo_inverse_2 (fun r' C' H locs hp w => ?_)
  obtain ⟨rfl, rfl⟩ := hp
  have hB := hB0.set (outF (t) 0 15) pr fc
  refine z_ne (a := outF (t) 0 15) (tgt := 50) X (outF_rg _ _ _) d_Mo_inverse_5 (by decide) (fun h_5 => ?_) (fun h_5 => ?_)
  · refine lv_iconst (v := iI (0)) X.1 X.2.1 d_Mo_inverse_50 (by decide) ?_
    obtain ⟨k1, k2⟩ := outF_1 h_5
    exact w_iret X hr hlk w (Or.inl ⟨Or.inl k1, rfl, by rw [k1]⟩) d_Mo_inverse_51
  · have k0a := outF_0 h_5
    refine lv_aload_n X.1 X.2.1 d_Mo_inverse_8 rfl (lv_at hl 0 rfl) ?_
    refine lv_iload_n X.1 X.2.1 d_Mo_inverse_9 rfl (lv_at hl 2 rfl) ?_
    refine w_cVi (n := 1) (i := 132) (ci := 5) (As := [.int (iI (a))]) (rest := []) X w hml hl.1 (c_Mo_none hT (M := M) hB (x := a) (by omega)) (by omega) (by rw [mkR_B (by decide)]; exact hB.1) rfl k_m_Mo_73 k_im_Mo_none k_se_Mo_none k_i_Mo k_co_Mo_none (by decide +kernel) rfl ⟨Nat.le_of_ble_eq_true rfl, Nat.le_of_ble_eq_true rfl⟩ ⟨rfl, rfl⟩ ⟨Nat.zero_le _, Nat.zero_le _⟩ rfl (Nat.le_of_ble_eq_true rfl) d_Mo_inverse_10 (fun r' C' H locs hp w => ?_)
    obtain ⟨rfl, rfl⟩ := hp
    rw [mB_mB] at w
    have hB := hB0.set (outF (a) 0 15) pr fc
    refine z_ne (a := outF (a) 0 15) (tgt := 50) X (outF_rg _ _ _) d_Mo_inverse_13 (by decide) (fun h_13 => ?_) (fun h_13 => ?_)
    · refine lv_iconst (v := iI (0)) X.1 X.2.1 d_Mo_inverse_50 (by decide) ?_
      obtain ⟨k1, k2⟩ := outF_1 h_13
      exact w_iret X hr hlk w (Or.inl ⟨Or.inr (Or.inl k1), rfl, by rw [k1]⟩) d_Mo_inverse_51
    · have k0b := outF_0 h_13
      refine lv_aload_n X.1 X.2.1 d_Mo_inverse_16 rfl (lv_at hl 0 rfl) ?_
      refine lv_iload_n X.1 X.2.1 d_Mo_inverse_17 rfl (lv_at hl 3 rfl) ?_
      refine w_cVi (n := 1) (i := 132) (ci := 5) (As := [.int (iI (d))]) (rest := []) X w hml hl.1 (c_Mo_none hT (M := M) hB (x := d) (by omega)) (by omega) (by rw [mkR_B (by decide)]; exact hB.1) rfl k_m_Mo_73 k_im_Mo_none k_se_Mo_none k_i_Mo k_co_Mo_none (by decide +kernel) rfl ⟨Nat.le_of_ble_eq_true rfl, Nat.le_of_ble_eq_true rfl⟩ ⟨rfl, rfl⟩ ⟨Nat.zero_le _, Nat.zero_le _⟩ rfl (Nat.le_of_ble_eq_true rfl) d_Mo_inverse_18 (fun r' C' H locs hp w => ?_)
      obtain ⟨rfl, rfl⟩ := hp
      rw [mB_mB] at w
      have hB := hB0.set (outF (d) 0 15) pr fc
      refine z_ne (a := outF (d) 0 15) (tgt := 50) X (outF_rg _ _ _) d_Mo_inverse_21 (by decide) (fun h_21 => ?_) (fun h_21 => ?_)
      · refine lv_iconst (v := iI (0)) X.1 X.2.1 d_Mo_inverse_50 (by decide) ?_
        obtain ⟨k1, k2⟩ := outF_1 h_21
        exact w_iret X hr hlk w (Or.inl ⟨Or.inr (Or.inr k1), rfl, by rw [k1]⟩) d_Mo_inverse_51
      · have k0c := outF_0 h_21
        have hd9 := hok d.toNat (by omega)
        have ha9 := hok a.toNat (by omega)
        have hdd := (hd9.ok hpr.2).dlt 300
        have hdd0 := dg_ge 300 (M d.toNat)
        refine lv_aload_n X.1 X.2.1 d_Mo_inverse_24 rfl (lv_at hl 0 rfl) ?_
        refine lv_iconst (v := iI (2)) X.1 X.2.1 d_Mo_inverse_25 (by decide) ?_
        refine lv_aload_n X.1 X.2.1 d_Mo_inverse_26 rfl (lv_at hl 0 rfl) ?_
        refine m_get X hT w hB 2 (by decide) k_f_Mo_18 rfl d_Mo_inverse_27 ?_
        refine lv_iload_n X.1 X.2.1 d_Mo_inverse_30 rfl (lv_at hl 3 rfl) ?_
        refine m_aal (i := 133) (n := 16) (pl := fun i => 138 + i) (z := d) X w (by omega) (by rw [mkR_B (by decide)]; exact hB.2.1) (d.toNat) (by omega) (by omega) (by decide) d_Mo_inverse_31 ?_
        refine w_cSi (n := 1) (As := [.ref (ad (138 + d.toNat))]) (rest := [.int (iI (2)), .ref (ad (132))]) X w hml hl.1 (c_Mo_degree hT (M := M) (a := d.toNat) (by omega) (hW _ (by omega))) k_m_Mo_80 k_st_Mo_degree k_i_Mo k_co_Mo_degree (by decide +kernel) rfl ⟨Nat.le_of_ble_eq_true rfl, Nat.le_of_ble_eq_true rfl⟩ ⟨rfl, rfl⟩ ⟨Nat.zero_le _, Nat.zero_le _⟩ rfl (Nat.le_of_ble_eq_true rfl) d_Mo_inverse_32 (fun r' C' H locs hp w => ?_)
        obtain ⟨rfl, rfl⟩ := hp
        refine lv_iconst (v := iI (1)) X.1 X.2.1 d_Mo_inverse_35 (by decide) ?_
        refine i_ge (a := dg 300 (M d.toNat)) (b := 1) (tgt := 43) X (by omega) (by omega) d_Mo_inverse_36 (by decide) (fun h_36 => ?_) (fun h_36 => ?_)
        · refine lv_iconst (v := iI (0)) X.1 X.2.1 d_Mo_inverse_43 (by decide) ?_
          refine w_cVi (n := 2) (i := 132) (ci := 5) (As := [.int (iI (2)), .int (iI (0))]) (rest := []) X w hml hl.1 (c_Mo_refuse hT (M := M) hB (k := 2) (b := 0) (by omega)) (by omega) (by rw [mkR_B (by decide)]; exact hB.1) rfl k_m_Mo_61 k_im_Mo_refuse k_se_Mo_refuse k_i_Mo k_co_Mo_refuse (by decide +kernel) rfl ⟨Nat.le_of_ble_eq_true rfl, Nat.le_of_ble_eq_true rfl⟩ ⟨rfl, rfl⟩ ⟨Nat.zero_le _, Nat.zero_le _⟩ rfl (Nat.le_of_ble_eq_true rfl) d_Mo_inverse_44 (fun r' C' H locs hp w => ?_)
          obtain ⟨rfl, rfl⟩ := hp
          rw [mB_mB] at w
          have hB := hB0.set (if (0 : Int) = 0 then (outF d 0 15) else 2) pr fc
          have hth : (if (0 : Int) = 0 then (outF d 0 15) else 2) = 0 := by rw [if_pos rfl]; exact h_21
          rw [hth] at w hB
          obtain ⟨n, en⟩ := Int.eq_ofNat_of_zero_le (show 0 ≤ dg 300 (M d.toNat) by omega)
          refine z_eq (a := 0) (tgt := 52) X (by omega) d_Mo_inverse_47 (by decide) (fun h_47 => ?_) (fun h_47 => ?_)
          · refine lv_aload_n X.1 X.2.1 d_Mo_inverse_52 rfl (lv_at hl 0 rfl) ?_
            refine m_get X hT w hB 2 (by decide) k_f_Mo_18 rfl d_Mo_inverse_53 ?_
            refine lv_iload_n X.1 X.2.1 d_Mo_inverse_56 rfl (lv_at hl 3 rfl) ?_
            refine m_aal (i := 133) (n := 16) (pl := fun i => 138 + i) (z := d) X w (by omega) (by rw [mkR_B (by decide)]; exact hB.2.1) (d.toNat) (by omega) (by omega) (by decide) d_Mo_inverse_57 ?_
            refine w_cSi (n := 1) (As := [.ref (ad (138 + d.toNat))]) (rest := []) X w hml hl.1 (c_Mo_degree hT (M := M) (a := d.toNat) (by omega) (hW _ (by omega))) k_m_Mo_80 k_st_Mo_degree k_i_Mo k_co_Mo_degree (by decide +kernel) rfl ⟨Nat.le_of_ble_eq_true rfl, Nat.le_of_ble_eq_true rfl⟩ ⟨rfl, rfl⟩ ⟨Nat.zero_le _, Nat.zero_le _⟩ rfl (Nat.le_of_ble_eq_true rfl) d_Mo_inverse_58 (fun r' C' H locs hp w => ?_)
            obtain ⟨rfl, rfl⟩ := hp
            rw [en]
            refine lv_istore (lv' := [(4, .int (iI (n))), (0, .ref (ad (132))), (1, .int (iI (t))), (2, .int (iI (a))), (3, .int (iI (d)))]) X.1 X.2.1 d_Mo_inverse_61 hl (by decide) rfl (fun ls hl => ?_)
            refine lv_aload_n X.1 X.2.1 d_Mo_inverse_63 rfl (lv_at hl 1 rfl) ?_
            refine m_get X hT w hB 2 (by decide) k_f_Mo_18 rfl d_Mo_inverse_64 ?_
            refine lv_iload_n X.1 X.2.1 d_Mo_inverse_67 rfl (lv_at hl 3 rfl) ?_
            refine m_aal (i := 133) (n := 16) (pl := fun i => 138 + i) (z := a) X w (by omega) (by rw [mkR_B (by decide)]; exact hB.2.1) (a.toNat) (by omega) (by omega) (by decide) d_Mo_inverse_68 ?_
            refine lv_aload_n X.1 X.2.1 d_Mo_inverse_69 rfl (lv_at hl 1 rfl) ?_
            refine m_get X hT w hB 11 (by decide) k_f_Mo_46 rfl d_Mo_inverse_70 ?_
            refine w_cSv (n := 2) (As := [.ref (ad (138 + a.toNat)), .ref (ad (138 + 46))]) (rest := []) X w hml hl.1 (c_Mo_copy hT (M := M) (a := a.toNat) (b := 46) (by omega) (by omega) hW) k_m_Mo_84 k_st_Mo_copy k_i_Mo k_co_Mo_copy (by decide +kernel) rfl ⟨Nat.le_of_ble_eq_true rfl, Nat.le_of_ble_eq_true rfl⟩ ⟨rfl, rfl⟩ ⟨Nat.zero_le _, Nat.zero_le _⟩ rfl (Nat.le_of_ble_eq_true rfl) d_Mo_inverse_73 (fun C' H locs hp w => ?_)
            subst hp
            obtain ⟨Mw1, eMw1⟩ : ∃ mm : Nat → Nat → Int, mm = va_up M 46 (M a.toNat) := ⟨_, rfl⟩
            rw [← eMw1] at w
            have hW1 : WR Mw1 := by rw [eMw1]; exact hW.up (hW _ (by omega))
            have a46 : Mw1 46 = M a.toNat := by rw [eMw1, va_up_self]
            have aF : ∀ r, r ≠ 46 → Mw1 r = M r := fun r h => by rw [eMw1, va_up_ne _ _ h]
            have adn : Mw1 d.toNat = M d.toNat := aF _ (by omega)
            refine lv_iconst (v := iI (0)) X.1 X.2.1 d_Mo_inverse_76 (by decide) ?_
            refine lv_istore (lv' := [(5, .int (iI (0))), (4, .int (iI (n))), (0, .ref (ad (132))), (1, .int (iI (t))), (2, .int (iI (a))), (3, .int (iI (d)))]) X.1 X.2.1 d_Mo_inverse_77 hl (by decide) rfl (fun ls hl => ?_)
            obtain ⟨Fy, hEy⟩ := hEq.any n
            have hEz := hEy.other (i := 132) (x := .inr (5, moF ad 0 pr fc)) (by decide)
            refine l_inv_79 (M := Mw1) (B := mB ad B 0 pr fc) (n := n) (t := t) (a := a) (d := d) (pm := pm) X hml hT (by omega) hI k0c (by rw [adn]; exact hd9) (by rw [adn]; exact en) (V := M a.toNat) ha9 (fun M2 F2 B2 H locs ls w gB2 gE2 gQ2 hW2 gF2 gR2 hl => ?_) n 0 Mw1 Fy (mB ad B 0 pr fc) H locs ls (by omega) w hB hEz (fun _ _ => rfl) hW1 a46 (fun i j hi hj => by omega) (fun _ _ _ _ => rfl) (lv_sub hl [2, 3, 4, 5, 1, 0] rfl)
            have g2F : ∀ r, r < 41 → M2 r = M r := fun r h => by rw [gR2 r (by omega) (by omega) (by omega), aF r (by omega)]
            have hB := gB2
            refine lv_iconst (v := iI (0)) X.1 X.2.1 d_Mo_inverse_177 (by decide) ?_
            refine lv_istore (lv' := [(5, .int (iI (0))), (0, .ref (ad (132))), (1, .int (iI (t))), (2, .int (iI (a))), (3, .int (iI (d))), (4, .int (iI (n)))]) X.1 X.2.1 d_Mo_inverse_178 hl (by decide) rfl (fun ls hl => ?_)
            refine l_inv_180 (M := M2) (B := B2) (n := n) (t := t) (a := a) (d := d) (pm := pm) X hml hT (by omega) (Fa := F2) (fun F3 B3 H locs ls w gB3 gE3 gQ3 gF3 hl => ?_) n 0 F2 B2 H locs ls (by omega) w gB2 gE2 (fun _ _ => rfl) (fun i j hi hj => by rw [if_neg (by omega)]) (lv_sub hl [1, 2, 3, 4, 5, 0] rfl)
            refine lv_iconst (v := iI (0)) X.1 X.2.1 d_Mo_inverse_213 (by decide) ?_
            refine lv_istore (lv' := [(5, .int (iI (0))), (0, .ref (ad (132))), (1, .int (iI (t))), (2, .int (iI (a))), (3, .int (iI (d))), (4, .int (iI (n)))]) X.1 X.2.1 d_Mo_inverse_214 hl (by decide) rfl (fun ls hl => ?_)
            have hE := gE3.ext (F' := matR pr inv (M a.toNat) (M d.toNat) n) (fun i j hi hj => by
                rw [gF3 i j hi hj]
                unfold matR
                by_cases e : j = n
                · rw [if_pos e, if_pos e]
                · rw [if_neg e, if_neg e, gF2 i j hi (by omega), adn])
            have hmat : okE pr n (matR pr inv (M a.toNat) (M d.toNat) n) := by
              intro i j hi hj
              unfold matR
              split
              · split <;> omega
              · have := (dvm_ok2 (M := 25) hI (whK_ok hI ha9 hd9 (by omega) j) hd9 (by omega) (by omega) (by omega) (by omega)).1 i
                exact this
            have hB := gB3
            refine l_inv_216 (M := M2) (B := mB ad B 0 pr fc) (Fs := matR pr inv (M a.toNat) (M d.toNat) n) (n := n) (t := t) X hr hlk hml hT (by omega) hover hI (fun pm5 F5 B5 z5 b5 e5 q5 => ?_) (fun pm5 F5 B5 H locs ls w z5 o5 b5 e5 q5 hl => ?_) n 0 pm _ B3 H locs ls (by omega) w rfl hmat gB3 hE (fun q h1 h2 h3 => by rw [gQ3 q h3, gQ2 q h3]) (lv_sub hl [1, 2, 5, 0] rfl)
            · refine Or.inr (Or.inr (Or.inl ⟨⟨k0a, k0b, k0c⟩, by omega, ?_, rfl, M2, B5, pm5, F5, n, rfl, hW2, g2F, b5, e5, fun q h1 h2 h3 => by rw [q5 q h1 h2 h3]; show va_up B 132 _ q = B q; rw [va_up_ne _ _ h1]⟩))
              unfold invR
              rw [en, show ((n : Nat) : Int).toNat = n by omega, z5]
              rfl
            · have hB := b5
              have q5 : ∀ q, q ≠ 132 → q ≠ 136 → q < 188 ∨ 213 ≤ q → B5 q = B q := fun q h1 h2 h3 => by rw [q5 q h1 h2 h3]; show va_up B 132 _ q = B q; rw [va_up_ne _ _ h1]
              refine lv_aload_n X.1 X.2.1 d_Mo_inverse_445 rfl (lv_at hl 0 rfl) ?_
              refine m_get X hT w hB 2 (by decide) k_f_Mo_18 rfl d_Mo_inverse_446 ?_
              refine lv_iload_n X.1 X.2.1 d_Mo_inverse_449 rfl (lv_at hl 1 rfl) ?_
              refine m_aal (i := 133) (n := 16) (pl := fun i => 138 + i) (z := t) X w (by omega) (by rw [mkR_B (by decide)]; exact hB.2.1) (t.toNat) (by omega) (by omega) (by decide) d_Mo_inverse_450 ?_
              refine w_cSv (n := 1) (As := [.ref (ad (138 + t.toNat))]) (rest := []) X w hml hl.1 (c_Mo_clear hT (M := M2) (a := t.toNat) (by omega) hW2) k_m_Mo_69 k_st_Mo_clear k_i_Mo k_co_Mo_clear (by decide +kernel) rfl ⟨Nat.le_of_ble_eq_true rfl, Nat.le_of_ble_eq_true rfl⟩ ⟨rfl, rfl⟩ ⟨Nat.zero_le _, Nat.zero_le _⟩ rfl (Nat.le_of_ble_eq_true rfl) d_Mo_inverse_451 (fun C' H locs hp w => ?_)
              subst hp
              obtain ⟨Mx1, eMx1⟩ : ∃ mm : Nat → Nat → Int, mm = va_up M2 t.toNat (fun _ => 0) := ⟨_, rfl⟩
              rw [← eMx1] at w
              refine lv_iconst (v := iI (0)) X.1 X.2.1 d_Mo_inverse_454 (by decide) ?_
              refine lv_istore (lv' := [(5, .int (iI (0))), (0, .ref (ad (132))), (1, .int (iI (t))), (4, .int (iI (n)))]) X.1 X.2.1 d_Mo_inverse_455 hl (by decide) rfl (fun ls hl => ?_)
              have hB := b5
              refine l_inv_457 (M := Mx1) (B := B5) (n := n) (t := t) X hml hT (by omega) b5 (pm := pm5) (F := F5) e5 k0a (fun M6 H locs ls w s5 s6 hl => ?_) n 0 Mx1 H locs ls (by omega) w (by rw [eMx1, va_up_self]; funext x; rw [if_neg (by omega)]) (fun _ _ => rfl) (lv_sub hl [1, 2, 3, 0] rfl)
              obtain ⟨Z, eZ⟩ : ∃ Z : Nat → Int, Z = fun x => if x < n then F5 x n else 0 := ⟨_, rfl⟩
              rw [← eZ] at s5
              have k6 : M6 t.toNat = Z := s5
              have hZ : okp pr 25 Z := by
                rw [eZ]
                refine ⟨fun x => ?_, fun x hx => ?_⟩
                · show 0 ≤ (if x < n then F5 x n else 0) ∧ (if x < n then F5 x n else 0) < pr
                  split
                  · next h => exact o5 x n h (Nat.le_refl _)
                  · omega
                · show (if x < n then F5 x n else 0) = 0
                  rw [if_neg (by omega)]
              have hiv : invR pr inv (M a.toNat) (M d.toNat) = some Z := by
                unfold invR
                rw [en, show ((n : Nat) : Int).toNat = n by omega, z5, Option.map_some, ← eZ]
              refine lv_aload_n X.1 X.2.1 d_Mo_inverse_489 rfl (lv_at hl 0 rfl) ?_
              refine m_get X hT w hB 2 (by decide) k_f_Mo_18 rfl d_Mo_inverse_490 ?_
              refine lv_iload_n X.1 X.2.1 d_Mo_inverse_493 rfl (lv_at hl 1 rfl) ?_
              refine m_aal (i := 133) (n := 16) (pl := fun i => 138 + i) (z := t) X w (by omega) (by rw [mkR_B (by decide)]; exact hB.2.1) (t.toNat) (by omega) (by omega) (by decide) d_Mo_inverse_494 ?_
              refine w_cSi (n := 1) (As := [.ref (ad (138 + t.toNat))]) (rest := []) X w hml hl.1 (c_Mo_degree hT (M := M6) (a := t.toNat) (by omega) (by rw [k6]; exact (hZ.mono (by omega)).ok hpr.2)) k_m_Mo_80 k_st_Mo_degree k_i_Mo k_co_Mo_degree (by decide +kernel) rfl ⟨Nat.le_of_ble_eq_true rfl, Nat.le_of_ble_eq_true rfl⟩ ⟨rfl, rfl⟩ ⟨Nat.zero_le _, Nat.zero_le _⟩ rfl (Nat.le_of_ble_eq_true rfl) d_Mo_inverse_495 (fun r' C' H locs hp w => ?_)
              obtain ⟨rfl, rfl⟩ := hp
              rw [k6]
              refine w_iret X hr hlk w (Or.inr (Or.inr (Or.inr ⟨⟨k0a, k0b, k0c⟩, by omega, Z, hiv, hZ, rfl, M6, B5, pm5, F5, n, rfl, ?_, fun r h => ?_, b5, e5, q5⟩))) d_Mo_inverse_498
              · have e7 : M6 = va_up M2 t.toNat Z := by
                  funext r
                  by_cases e7 : r = t.toNat
                  · rw [e7, va_up_self, k6]
                  · rw [va_up_ne _ _ e7, s6 r e7, eMx1, va_up_ne _ _ e7]
                rw [e7]
                exact hW2.up ((hZ.mono (by omega)).ok hpr.2)
              · by_cases e7 : r = t.toNat
                · rw [e7, va_up_self, k6]
                · rw [va_up_ne _ _ e7, s6 r e7, eMx1, va_up_ne _ _ e7]; exact g2F r h
          · exact absurd h_47 (by omega)
        · refine lv_iconst (v := iI (1)) X.1 X.2.1 d_Mo_inverse_39 (by decide) ?_
          refine lv_goto (tgt := 44) X.1 X.2.1 d_Mo_inverse_40 (by decide) ?_
          refine w_cVi (n := 2) (i := 132) (ci := 5) (As := [.int (iI (2)), .int (iI (1))]) (rest := []) X w hml hl.1 (c_Mo_refuse hT (M := M) hB (k := 2) (b := 1) (by omega)) (by omega) (by rw [mkR_B (by decide)]; exact hB.1) rfl k_m_Mo_61 k_im_Mo_refuse k_se_Mo_refuse k_i_Mo k_co_Mo_refuse (by decide +kernel) rfl ⟨Nat.le_of_ble_eq_true rfl, Nat.le_of_ble_eq_true rfl⟩ ⟨rfl, rfl⟩ ⟨Nat.zero_le _, Nat.zero_le _⟩ rfl (Nat.le_of_ble_eq_true rfl) d_Mo_inverse_44 (fun r' C' H locs hp w => ?_)
          obtain ⟨rfl, rfl⟩ := hp
          rw [mB_mB] at w
          have hB := hB0.set (if (1 : Int) = 0 then (outF d 0 15) else 2) pr fc
          refine z_eq (a := 1) (tgt := 52) X (by omega) d_Mo_inverse_47 (by decide) (fun h_47 => ?_) (fun h_47 => ?_)
          · exact absurd h_47 (by omega)
          · refine lv_iconst (v := iI (0)) X.1 X.2.1 d_Mo_inverse_50 (by decide) ?_
            exact w_iret X hr hlk w (Or.inr (Or.inl ⟨⟨k0a, k0b, k0c⟩, by omega, rfl, by rw [if_neg (by decide)]⟩)) d_Mo_inverse_51
