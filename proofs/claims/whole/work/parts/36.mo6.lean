theorem outF_rg (x lo hi : Int) : rg (outF x lo hi) := by unfold outF; split <;> omega
theorem outF_0 {x lo hi : Int} (h : outF x lo hi = 0) : lo ≤ x ∧ x ≤ hi := by
  unfold outF at h
  split at h <;> omega
theorem outF_1 {x lo hi : Int} (h : outF x lo hi ≠ 0) : outF x lo hi = 1 ∧ (x < lo ∨ hi < x) := by
  unfold outF at h ⊢
  split
  · next h1 => exact ⟨rfl, h1⟩
  · next h1 => rw [if_neg h1] at h; exact absurd rfl h
theorem outF_in {x lo hi : Int} (h : lo ≤ x ∧ x ≤ hi) : outF x lo hi = 0 := by unfold outF; rw [if_neg (by omega)]
theorem outF_out {x lo hi : Int} (h : x < lo ∨ hi < x) : outF x lo hi = 1 := by unfold outF; rw [if_pos h]
theorem c_Mo_get {l : Launch} {D : va_G} {cs : Nat → ClassId} {A : Nat → Prop} {ad : Nat → Nat} {T : Nat} (hT : 213 ≤ T) {M : Nat → Nat → Int} {B : Nat → va_E} {th pr fc : Int} (hB : moO cs ad th pr fc B) {r i : Int} (hr9 : rg r) (hi : rg i) : Ci l y_Mo_get ws_Mo_get { frames := 2, cells := 0, slots := 0, locals := 43 } D cs A ad T [.ref (ad (132)), .int (iI (r)), .int (iI (i))] (mkR cs M B) (fun x C' => ((outF r 0 15 = 1 ∨ outF i 0 24 = 1) ∧ x = iI 0 ∧ C' = mkR cs M (mB ad B (if outF r 0 15 = 1 then 1 else 2) pr fc)) ∨ ((0 ≤ r ∧ r ≤ 15) ∧ (0 ≤ i ∧ i ≤ 24) ∧ x = iI (M r.toNat i.toNat) ∧ C' = mkR cs M (mB ad B 0 pr fc))) := by
  refine w_bodyI (by decide) (Nat.le_of_ble_eq_true rfl) ?_
  intro p e s m below meth c X hr hlk hml w ls hl
  have hl : lv_has ls 3 [(0, .ref (ad (132))), (1, .int (iI (r))), (2, .int (iI (i)))] := hl
  have hB0 := hB
  refine lv_aload_n X.1 X.2.1 d_Mo_get_0 rfl (lv_at hl 0 rfl) ?_
  refine lv_iload_n X.1 X.2.1 d_Mo_get_1 rfl (lv_at hl 1 rfl) ?_
  refine w_cVi (n := 1) (i := 132) (ci := 5) (As := [.int (iI (r))]) (rest := []) X w hml hl.1 (c_Mo_none hT (M := M) hB (x := r) (by omega)) (by omega) (by rw [mkR_B (by decide)]; exact hB.1) rfl k_m_Mo_73 k_im_Mo_none k_se_Mo_none k_i_Mo k_co_Mo_none (by decide +kernel) rfl ⟨Nat.le_of_ble_eq_true rfl, Nat.le_of_ble_eq_true rfl⟩ ⟨rfl, rfl⟩ ⟨Nat.zero_le _, Nat.zero_le _⟩ rfl (Nat.le_of_ble_eq_true rfl) d_Mo_get_2 (fun r' C' H locs hp w => ?_)
  obtain ⟨rfl, rfl⟩ := hp
  have hB := hB0.set (outF (r) 0 15) pr fc
  refine z_ne (a := outF (r) 0 15) (tgt := 31) X (outF_rg _ _ _) d_Mo_get_5 (by decide) (fun h_5 => ?_) (fun h_5 => ?_)
  · refine lv_iconst (v := iI (0)) X.1 X.2.1 d_Mo_get_31 (by decide) ?_
    obtain ⟨k1, k2⟩ := outF_1 h_5
    exact w_iret X hr hlk w (Or.inl ⟨Or.inl k1, rfl, by rw [k1, if_pos rfl]⟩) d_Mo_get_32
  · refine lv_aload_n X.1 X.2.1 d_Mo_get_8 rfl (lv_at hl 0 rfl) ?_
    refine lv_iconst (v := iI (2)) X.1 X.2.1 d_Mo_get_9 (by decide) ?_
    refine lv_iload_n X.1 X.2.1 d_Mo_get_10 rfl (lv_at hl 2 rfl) ?_
    refine z_lt (a := i) (tgt := 20) X (by omega) d_Mo_get_11 (by decide) (fun h_11 => ?_) (fun h_11 => ?_)
    · refine lv_iconst (v := iI (1)) X.1 X.2.1 d_Mo_get_20 (by decide) ?_
      refine lv_goto (tgt := 25) X.1 X.2.1 d_Mo_get_21 (by decide) ?_
      refine w_cVi (n := 2) (i := 132) (ci := 5) (As := [.int (iI (2)), .int (iI (1))]) (rest := []) X w hml hl.1 (c_Mo_refuse hT (M := M) hB (k := 2) (b := 1) (by omega)) (by omega) (by rw [mkR_B (by decide)]; exact hB.1) rfl k_m_Mo_61 k_im_Mo_refuse k_se_Mo_refuse k_i_Mo k_co_Mo_refuse (by decide +kernel) rfl ⟨Nat.le_of_ble_eq_true rfl, Nat.le_of_ble_eq_true rfl⟩ ⟨rfl, rfl⟩ ⟨Nat.zero_le _, Nat.zero_le _⟩ rfl (Nat.le_of_ble_eq_true rfl) d_Mo_get_25 (fun r' C' H locs hp w => ?_)
      obtain ⟨rfl, rfl⟩ := hp
      rw [mB_mB] at w
      have hB := hB0.set (if (1 : Int) = 0 then (outF r 0 15) else 2) pr fc
      refine z_eq (a := 1) (tgt := 33) X (by omega) d_Mo_get_28 (by decide) (fun h_28 => ?_) (fun h_28 => ?_)
      · exact absurd h_28 (by omega)
      · refine lv_iconst (v := iI (0)) X.1 X.2.1 d_Mo_get_31 (by decide) ?_
        have k1 := outF_out (x := i) (lo := 0) (hi := 24) (by omega)
        exact w_iret X hr hlk w (Or.inl ⟨Or.inr k1, rfl, by rw [h_5, if_neg (by decide), if_neg (by decide)]⟩) d_Mo_get_32
    · refine lv_iload_n X.1 X.2.1 d_Mo_get_14 rfl (lv_at hl 2 rfl) ?_
      refine lv_bipush (v := iI (24)) X.1 X.2.1 d_Mo_get_15 (by decide) ?_
      refine i_le (a := i) (b := 24) (tgt := 24) X (by omega) (by omega) d_Mo_get_17 (by decide) (fun h_17 => ?_) (fun h_17 => ?_)
      · refine lv_iconst (v := iI (0)) X.1 X.2.1 d_Mo_get_24 (by decide) ?_
        refine w_cVi (n := 2) (i := 132) (ci := 5) (As := [.int (iI (2)), .int (iI (0))]) (rest := []) X w hml hl.1 (c_Mo_refuse hT (M := M) hB (k := 2) (b := 0) (by omega)) (by omega) (by rw [mkR_B (by decide)]; exact hB.1) rfl k_m_Mo_61 k_im_Mo_refuse k_se_Mo_refuse k_i_Mo k_co_Mo_refuse (by decide +kernel) rfl ⟨Nat.le_of_ble_eq_true rfl, Nat.le_of_ble_eq_true rfl⟩ ⟨rfl, rfl⟩ ⟨Nat.zero_le _, Nat.zero_le _⟩ rfl (Nat.le_of_ble_eq_true rfl) d_Mo_get_25 (fun r' C' H locs hp w => ?_)
        obtain ⟨rfl, rfl⟩ := hp
        rw [mB_mB] at w
        have hB := hB0.set (if (0 : Int) = 0 then (outF r 0 15) else 2) pr fc
        refine z_eq (a := 0) (tgt := 33) X (by omega) d_Mo_get_28 (by decide) (fun h_28 => ?_) (fun h_28 => ?_)
        · refine lv_aload_n X.1 X.2.1 d_Mo_get_33 rfl (lv_at hl 0 rfl) ?_
          refine m_get X hT w hB 2 (by decide) k_f_Mo_18 rfl d_Mo_get_34 ?_
          refine lv_iload_n X.1 X.2.1 d_Mo_get_37 rfl (lv_at hl 1 rfl) ?_
          refine m_aal (i := 133) (n := 16) (pl := fun i => 138 + i) (z := r) X w (by omega) (by rw [mkR_B (by decide)]; exact hB.2.1) (r.toNat) (by have := outF_0 h_5; omega) (by have := outF_0 h_5; omega) (by decide) d_Mo_get_38 ?_
          refine lv_iload_n X.1 X.2.1 d_Mo_get_39 rfl (lv_at hl 2 rfl) ?_
          refine m_ld (r := r.toNat) (z := i) X hT w (by have := outF_0 h_5; omega) (i.toNat) (by omega) (by omega) d_Mo_get_40 ?_
          have k0 := outF_0 h_5
          exact w_iret X hr hlk w (Or.inr ⟨k0, by omega, rfl, by rw [h_5, if_pos (by decide)]⟩) d_Mo_get_41
        · exact absurd h_28 (by omega)
      · refine lv_iconst (v := iI (1)) X.1 X.2.1 d_Mo_get_20 (by decide) ?_
        refine lv_goto (tgt := 25) X.1 X.2.1 d_Mo_get_21 (by decide) ?_
        refine w_cVi (n := 2) (i := 132) (ci := 5) (As := [.int (iI (2)), .int (iI (1))]) (rest := []) X w hml hl.1 (c_Mo_refuse hT (M := M) hB (k := 2) (b := 1) (by omega)) (by omega) (by rw [mkR_B (by decide)]; exact hB.1) rfl k_m_Mo_61 k_im_Mo_refuse k_se_Mo_refuse k_i_Mo k_co_Mo_refuse (by decide +kernel) rfl ⟨Nat.le_of_ble_eq_true rfl, Nat.le_of_ble_eq_true rfl⟩ ⟨rfl, rfl⟩ ⟨Nat.zero_le _, Nat.zero_le _⟩ rfl (Nat.le_of_ble_eq_true rfl) d_Mo_get_25 (fun r' C' H locs hp w => ?_)
        obtain ⟨rfl, rfl⟩ := hp
        rw [mB_mB] at w
        have hB := hB0.set (if (1 : Int) = 0 then (outF r 0 15) else 2) pr fc
        refine z_eq (a := 1) (tgt := 33) X (by omega) d_Mo_get_28 (by decide) (fun h_28 => ?_) (fun h_28 => ?_)
        · exact absurd h_28 (by omega)
        · refine lv_iconst (v := iI (0)) X.1 X.2.1 d_Mo_get_31 (by decide) ?_
          have k1 := outF_out (x := i) (lo := 0) (hi := 24) (by omega)
          exact w_iret X hr hlk w (Or.inl ⟨Or.inr k1, rfl, by rw [h_5, if_neg (by decide), if_neg (by decide)]⟩) d_Mo_get_32
theorem c_Mo_set {l : Launch} {D : va_G} {cs : Nat → ClassId} {A : Nat → Prop} {ad : Nat → Nat} {T : Nat} (hT : 213 ≤ T) {M : Nat → Nat → Int} {B : Nat → va_E} {th pr fc : Int} (hB : moO cs ad th pr fc B) {r i v : Int} (hr9 : rg r) (hi : rg i) (hv : rg v) (hpr : 2 ≤ pr ∧ pr ≤ 13) : Ci l y_Mo_set ws_Mo_set { frames := 2, cells := 0, slots := 0, locals := 43 } D cs A ad T [.ref (ad (132)), .int (iI (r)), .int (iI (i)), .int (iI (v))] (mkR cs M B) (fun x C' => ((outF r 0 15 = 1 ∨ outF i 0 24 = 1) ∧ x = iI 0 ∧ C' = mkR cs M (mB ad B (if outF r 0 15 = 1 then 1 else 2) pr fc)) ∨ ((0 ≤ r ∧ r ≤ 15) ∧ (0 ≤ i ∧ i ≤ 24) ∧ x = iI (M r.toNat i.toNat) ∧ C' = mkR cs (va_up M r.toNat (va_up (M r.toNat) i.toNat (v % pr))) (mB ad B 0 pr fc))) := by
  refine w_bodyI (by decide) (Nat.le_of_ble_eq_true rfl) ?_
  intro p e s m below meth c X hr hlk hml w ls hl
  have hl : lv_has ls 5 [(0, .ref (ad (132))), (1, .int (iI (r))), (2, .int (iI (i))), (3, .int (iI (v)))] := hl
  have hB0 := hB
  refine lv_aload_n X.1 X.2.1 d_Mo_set_0 rfl (lv_at hl 0 rfl) ?_
  refine lv_iload_n X.1 X.2.1 d_Mo_set_1 rfl (lv_at hl 1 rfl) ?_
  refine w_cVi (n := 1) (i := 132) (ci := 5) (As := [.int (iI (r))]) (rest := []) X w hml hl.1 (c_Mo_none hT (M := M) hB (x := r) (by omega)) (by omega) (by rw [mkR_B (by decide)]; exact hB.1) rfl k_m_Mo_73 k_im_Mo_none k_se_Mo_none k_i_Mo k_co_Mo_none (by decide +kernel) rfl ⟨Nat.le_of_ble_eq_true rfl, Nat.le_of_ble_eq_true rfl⟩ ⟨rfl, rfl⟩ ⟨Nat.zero_le _, Nat.zero_le _⟩ rfl (Nat.le_of_ble_eq_true rfl) d_Mo_set_2 (fun r' C' H locs hp w => ?_)
  obtain ⟨rfl, rfl⟩ := hp
  have hB := hB0.set (outF (r) 0 15) pr fc
  refine z_ne (a := outF (r) 0 15) (tgt := 31) X (outF_rg _ _ _) d_Mo_set_5 (by decide) (fun h_5 => ?_) (fun h_5 => ?_)
  · refine lv_iconst (v := iI (0)) X.1 X.2.1 d_Mo_set_31 (by decide) ?_
    obtain ⟨k1, k2⟩ := outF_1 h_5
    exact w_iret X hr hlk w (Or.inl ⟨Or.inl k1, rfl, by rw [k1, if_pos rfl]⟩) d_Mo_set_32
  · refine lv_aload_n X.1 X.2.1 d_Mo_set_8 rfl (lv_at hl 0 rfl) ?_
    refine lv_iconst (v := iI (2)) X.1 X.2.1 d_Mo_set_9 (by decide) ?_
    refine lv_iload_n X.1 X.2.1 d_Mo_set_10 rfl (lv_at hl 2 rfl) ?_
    refine z_lt (a := i) (tgt := 20) X (by omega) d_Mo_set_11 (by decide) (fun h_11 => ?_) (fun h_11 => ?_)
    · refine lv_iconst (v := iI (1)) X.1 X.2.1 d_Mo_set_20 (by decide) ?_
      refine lv_goto (tgt := 25) X.1 X.2.1 d_Mo_set_21 (by decide) ?_
      refine w_cVi (n := 2) (i := 132) (ci := 5) (As := [.int (iI (2)), .int (iI (1))]) (rest := []) X w hml hl.1 (c_Mo_refuse hT (M := M) hB (k := 2) (b := 1) (by omega)) (by omega) (by rw [mkR_B (by decide)]; exact hB.1) rfl k_m_Mo_61 k_im_Mo_refuse k_se_Mo_refuse k_i_Mo k_co_Mo_refuse (by decide +kernel) rfl ⟨Nat.le_of_ble_eq_true rfl, Nat.le_of_ble_eq_true rfl⟩ ⟨rfl, rfl⟩ ⟨Nat.zero_le _, Nat.zero_le _⟩ rfl (Nat.le_of_ble_eq_true rfl) d_Mo_set_25 (fun r' C' H locs hp w => ?_)
      obtain ⟨rfl, rfl⟩ := hp
      rw [mB_mB] at w
      have hB := hB0.set (if (1 : Int) = 0 then (outF r 0 15) else 2) pr fc
      refine z_eq (a := 1) (tgt := 33) X (by omega) d_Mo_set_28 (by decide) (fun h_28 => ?_) (fun h_28 => ?_)
      · exact absurd h_28 (by omega)
      · refine lv_iconst (v := iI (0)) X.1 X.2.1 d_Mo_set_31 (by decide) ?_
        have k1 := outF_out (x := i) (lo := 0) (hi := 24) (by omega)
        exact w_iret X hr hlk w (Or.inl ⟨Or.inr k1, rfl, by rw [h_5, if_neg (by decide), if_neg (by decide)]⟩) d_Mo_set_32
    · refine lv_iload_n X.1 X.2.1 d_Mo_set_14 rfl (lv_at hl 2 rfl) ?_
      refine lv_bipush (v := iI (24)) X.1 X.2.1 d_Mo_set_15 (by decide) ?_
      refine i_le (a := i) (b := 24) (tgt := 24) X (by omega) (by omega) d_Mo_set_17 (by decide) (fun h_17 => ?_) (fun h_17 => ?_)
      · refine lv_iconst (v := iI (0)) X.1 X.2.1 d_Mo_set_24 (by decide) ?_
        refine w_cVi (n := 2) (i := 132) (ci := 5) (As := [.int (iI (2)), .int (iI (0))]) (rest := []) X w hml hl.1 (c_Mo_refuse hT (M := M) hB (k := 2) (b := 0) (by omega)) (by omega) (by rw [mkR_B (by decide)]; exact hB.1) rfl k_m_Mo_61 k_im_Mo_refuse k_se_Mo_refuse k_i_Mo k_co_Mo_refuse (by decide +kernel) rfl ⟨Nat.le_of_ble_eq_true rfl, Nat.le_of_ble_eq_true rfl⟩ ⟨rfl, rfl⟩ ⟨Nat.zero_le _, Nat.zero_le _⟩ rfl (Nat.le_of_ble_eq_true rfl) d_Mo_set_25 (fun r' C' H locs hp w => ?_)
        obtain ⟨rfl, rfl⟩ := hp
        rw [mB_mB] at w
        have hB := hB0.set (if (0 : Int) = 0 then (outF r 0 15) else 2) pr fc
        refine z_eq (a := 0) (tgt := 33) X (by omega) d_Mo_set_28 (by decide) (fun h_28 => ?_) (fun h_28 => ?_)
        · refine lv_aload_n X.1 X.2.1 d_Mo_set_33 rfl (lv_at hl 0 rfl) ?_
          refine m_get X hT w hB 2 (by decide) k_f_Mo_18 rfl d_Mo_set_34 ?_
          refine lv_iload_n X.1 X.2.1 d_Mo_set_37 rfl (lv_at hl 1 rfl) ?_
          refine m_aal (i := 133) (n := 16) (pl := fun i => 138 + i) (z := r) X w (by omega) (by rw [mkR_B (by decide)]; exact hB.2.1) (r.toNat) (by have := outF_0 h_5; omega) (by have := outF_0 h_5; omega) (by decide) d_Mo_set_38 ?_
          refine lv_iload_n X.1 X.2.1 d_Mo_set_39 rfl (lv_at hl 2 rfl) ?_
          refine m_ld (r := r.toNat) (z := i) X hT w (by have := outF_0 h_5; omega) (i.toNat) (by omega) (by omega) d_Mo_set_40 ?_
          refine lv_istore (lv' := [(4, .int (iI (M r.toNat i.toNat))), (0, .ref (ad (132))), (1, .int (iI (r))), (2, .int (iI (i))), (3, .int (iI (v)))]) X.1 X.2.1 d_Mo_set_41 hl (by decide) rfl (fun ls hl => ?_)
          refine lv_aload_n X.1 X.2.1 d_Mo_set_43 rfl (lv_at hl 1 rfl) ?_
          refine m_get X hT w hB 2 (by decide) k_f_Mo_18 rfl d_Mo_set_44 ?_
          refine lv_iload_n X.1 X.2.1 d_Mo_set_47 rfl (lv_at hl 2 rfl) ?_
          refine m_aal (i := 133) (n := 16) (pl := fun i => 138 + i) (z := r) X w (by omega) (by rw [mkR_B (by decide)]; exact hB.2.1) (r.toNat) (by have := outF_0 h_5; omega) (by have := outF_0 h_5; omega) (by decide) d_Mo_set_48 ?_
          refine lv_iload_n X.1 X.2.1 d_Mo_set_49 rfl (lv_at hl 3 rfl) ?_
          refine lv_aload_n X.1 X.2.1 d_Mo_set_50 rfl (lv_at hl 1 rfl) ?_
          refine lv_iload_n X.1 X.2.1 d_Mo_set_51 rfl (lv_at hl 4 rfl) ?_
          refine w_cVi (n := 1) (i := 132) (ci := 5) (As := [.int (iI (v))]) (rest := [.int (iI (i)), .ref (ad (138 + r.toNat))]) X w hml hl.1 (c_Mo_inField hT (M := M) hB (v := v) hv hpr) (by omega) (by rw [mkR_B (by decide)]; exact hB.1) rfl k_m_Mo_77 k_im_Mo_inField k_se_Mo_inField k_i_Mo k_co_Mo_inField (by decide +kernel) rfl ⟨Nat.le_of_ble_eq_true rfl, Nat.le_of_ble_eq_true rfl⟩ ⟨rfl, rfl⟩ ⟨Nat.zero_le _, Nat.zero_le _⟩ rfl (Nat.le_of_ble_eq_true rfl) d_Mo_set_52 (fun r' C' H locs hp w => ?_)
          obtain ⟨rfl, rfl⟩ := hp
          refine m_st (r := r.toNat) (z := i) (v := v % pr) X hT w (by have := outF_0 h_5; omega) (i.toNat) (by omega) (by omega) d_Mo_set_55 (fun H locs w => ?_)
          obtain ⟨Mw1, eMw1⟩ : ∃ mm : Nat → Nat → Int, mm = va_up M r.toNat (va_up (M r.toNat) i.toNat (v % pr)) := ⟨_, rfl⟩
          rw [← eMw1] at w
          refine lv_iload X.1 X.2.1 d_Mo_set_56 (lv_at hl 0 rfl) ?_
          have k0 := outF_0 h_5
          exact w_iret X hr hlk w (Or.inr ⟨k0, by omega, rfl, by rw [eMw1, h_5, if_pos (by decide)]⟩) d_Mo_set_58
        · exact absurd h_28 (by omega)
      · refine lv_iconst (v := iI (1)) X.1 X.2.1 d_Mo_set_20 (by decide) ?_
        refine lv_goto (tgt := 25) X.1 X.2.1 d_Mo_set_21 (by decide) ?_
        refine w_cVi (n := 2) (i := 132) (ci := 5) (As := [.int (iI (2)), .int (iI (1))]) (rest := []) X w hml hl.1 (c_Mo_refuse hT (M := M) hB (k := 2) (b := 1) (by omega)) (by omega) (by rw [mkR_B (by decide)]; exact hB.1) rfl k_m_Mo_61 k_im_Mo_refuse k_se_Mo_refuse k_i_Mo k_co_Mo_refuse (by decide +kernel) rfl ⟨Nat.le_of_ble_eq_true rfl, Nat.le_of_ble_eq_true rfl⟩ ⟨rfl, rfl⟩ ⟨Nat.zero_le _, Nat.zero_le _⟩ rfl (Nat.le_of_ble_eq_true rfl) d_Mo_set_25 (fun r' C' H locs hp w => ?_)
        obtain ⟨rfl, rfl⟩ := hp
        rw [mB_mB] at w
        have hB := hB0.set (if (1 : Int) = 0 then (outF r 0 15) else 2) pr fc
        refine z_eq (a := 1) (tgt := 33) X (by omega) d_Mo_set_28 (by decide) (fun h_28 => ?_) (fun h_28 => ?_)
        · exact absurd h_28 (by omega)
        · refine lv_iconst (v := iI (0)) X.1 X.2.1 d_Mo_set_31 (by decide) ?_
          have k1 := outF_out (x := i) (lo := 0) (hi := 24) (by omega)
          exact w_iret X hr hlk w (Or.inl ⟨Or.inr k1, rfl, by rw [h_5, if_neg (by decide), if_neg (by decide)]⟩) d_Mo_set_32
theorem c_Mo_value {l : Launch} {D : va_G} {cs : Nat → ClassId} {A : Nat → Prop} {ad : Nat → Nat} {T : Nat} (hT : 213 ≤ T) {M : Nat → Nat → Int} {B : Nat → va_E} {th pr fc : Int} (hB : moO cs ad th pr fc B) {a v : Int} (ha : rg a) (hv : rg v) (hpr : 2 ≤ pr ∧ pr ≤ 13) (hok : ∀ r, r < 16 → okp pr 50 (M r)) : Ci l y_Mo_value ws_Mo_value { frames := 2, cells := 0, slots := 0, locals := 43 } D cs A ad T [.ref (ad (132)), .int (iI (a)), .int (iI (v))] (mkR cs M B) (fun x C' => (outF a 0 15 = 1 ∧ x = iI 0 ∧ C' = mkR cs M (mB ad B 1 pr fc)) ∨ ((0 ≤ a ∧ a ≤ 15) ∧ x = iI (hor pr (M a.toNat) (v % pr) 25 0) ∧ C' = mkR cs M (mB ad B 0 pr fc))) := by
  refine w_bodyI (by decide) (Nat.le_of_ble_eq_true rfl) ?_
  intro p e s m below meth c X hr hlk hml w ls hl
  have hl : lv_has ls 3 [(0, .ref (ad (132))), (1, .int (iI (a))), (2, .int (iI (v)))] := hl
  have hB0 := hB
  have hvr : 0 ≤ v % pr ∧ v % pr < pr := ⟨Int.emod_nonneg _ (by omega), Int.emod_lt_of_pos _ (by omega)⟩
  refine lv_aload_n X.1 X.2.1 d_Mo_value_0 rfl (lv_at hl 0 rfl) ?_
  refine lv_iload_n X.1 X.2.1 d_Mo_value_1 rfl (lv_at hl 1 rfl) ?_
  refine w_cVi (n := 1) (i := 132) (ci := 5) (As := [.int (iI (a))]) (rest := []) X w hml hl.1 (c_Mo_none hT (M := M) hB (x := a) (by omega)) (by omega) (by rw [mkR_B (by decide)]; exact hB.1) rfl k_m_Mo_73 k_im_Mo_none k_se_Mo_none k_i_Mo k_co_Mo_none (by decide +kernel) rfl ⟨Nat.le_of_ble_eq_true rfl, Nat.le_of_ble_eq_true rfl⟩ ⟨rfl, rfl⟩ ⟨Nat.zero_le _, Nat.zero_le _⟩ rfl (Nat.le_of_ble_eq_true rfl) d_Mo_value_2 (fun r' C' H locs hp w => ?_)
  obtain ⟨rfl, rfl⟩ := hp
  have hB := hB0.set (outF (a) 0 15) pr fc
  refine z_eq (a := outF (a) 0 15) (tgt := 10) X (outF_rg _ _ _) d_Mo_value_5 (by decide) (fun h_5 => ?_) (fun h_5 => ?_)
  · have k0 := outF_0 h_5
    refine lv_aload_n X.1 X.2.1 d_Mo_value_10 rfl (lv_at hl 0 rfl) ?_
    refine lv_aload_n X.1 X.2.1 d_Mo_value_11 rfl (lv_at hl 0 rfl) ?_
    refine m_get X hT w hB 2 (by decide) k_f_Mo_18 rfl d_Mo_value_12 ?_
    refine lv_iload_n X.1 X.2.1 d_Mo_value_15 rfl (lv_at hl 1 rfl) ?_
    refine m_aal (i := 133) (n := 16) (pl := fun i => 138 + i) (z := a) X w (by omega) (by rw [mkR_B (by decide)]; exact hB.2.1) (a.toNat) (by omega) (by omega) (by decide) d_Mo_value_16 ?_
    refine lv_aload_n X.1 X.2.1 d_Mo_value_17 rfl (lv_at hl 0 rfl) ?_
    refine lv_iload_n X.1 X.2.1 d_Mo_value_18 rfl (lv_at hl 2 rfl) ?_
    refine w_cVi (n := 1) (i := 132) (ci := 5) (As := [.int (iI (v))]) (rest := [.ref (ad (138 + a.toNat)), .ref (ad (132))]) X w hml hl.1 (c_Mo_inField hT (M := M) hB (v := v) hv hpr) (by omega) (by rw [mkR_B (by decide)]; exact hB.1) rfl k_m_Mo_77 k_im_Mo_inField k_se_Mo_inField k_i_Mo k_co_Mo_inField (by decide +kernel) rfl ⟨Nat.le_of_ble_eq_true rfl, Nat.le_of_ble_eq_true rfl⟩ ⟨rfl, rfl⟩ ⟨Nat.zero_le _, Nat.zero_le _⟩ rfl (Nat.le_of_ble_eq_true rfl) d_Mo_value_19 (fun r' C' H locs hp w => ?_)
    obtain ⟨rfl, rfl⟩ := hp
    refine w_cVi (n := 2) (i := 132) (ci := 5) (As := [.ref (ad (138 + a.toNat)), .int (iI (v % pr))]) (rest := []) X w hml hl.1 (c_Mo_at hT (M := M) hB (a := a.toNat) (v := v % pr) hpr (by omega) (hok _ (by omega)) hvr) (by omega) (by rw [mkR_B (by decide)]; exact hB.1) rfl k_m_Mo_107 k_im_Mo_at k_se_Mo_at k_i_Mo k_co_Mo_at (by decide +kernel) rfl ⟨Nat.le_of_ble_eq_true rfl, Nat.le_of_ble_eq_true rfl⟩ ⟨rfl, rfl⟩ ⟨Nat.zero_le _, Nat.zero_le _⟩ rfl (Nat.le_of_ble_eq_true rfl) d_Mo_value_22 (fun r' C' H locs hp w => ?_)
    obtain ⟨rfl, rfl⟩ := hp
    exact w_iret X hr hlk w (Or.inr ⟨outF_0 h_5, rfl, by rw [h_5]⟩) d_Mo_value_25
  · refine lv_iconst (v := iI (0)) X.1 X.2.1 d_Mo_value_8 (by decide) ?_
    obtain ⟨k1, k2⟩ := outF_1 h_5
    exact w_iret X hr hlk w (Or.inl ⟨k1, rfl, by rw [k1]⟩) d_Mo_value_9
/-- how many of the numbers from v on are zeros -/
def zerL (pr : Int) (F : Nat → Int) (N : Nat) : Nat → Nat → Int → Int
  | _, 0, n => n
  | v, k + 1, n => zerL pr F N (v + 1) k (if hor pr F v N 0 = 0 then n + 1 else n)
section MZ
variable {p : Program} {l : Launch} {e : Env} {s : State} {m : MethodId} {args : Array Value} {below : List Frame} {meth : Method} {c : Code} {H : Heap} {locs : List Loc} {Q : State → Prop} {D : va_G} {cs : Nat → ClassId} {A : Nat → Prop} {ad : Nat → Nat} {T : Nat} {B : Nat → va_E} {th pr fc : Int}
variable {a : Int} {M : Nat → Nat → Int}
theorem hor_rg {pr : Int} (hp : 0 < pr) (F : Nat → Int) (v : Int) : ∀ (n : Nat) (q : Int), 0 ≤ q ∧ q < pr → 0 ≤ hor pr F v n q ∧ hor pr F v n q < pr
  | 0, _, h => h
  | n + 1, q, _ => hor_rg hp F v n _ ⟨Int.emod_nonneg _ (by omega), Int.emod_lt_of_pos _ hp⟩
theorem l_Mo_zeros {post : Int32 → (Nat → va_E) → Prop} (X : Cx p s m args c b_Mo_zeros RMo) (hr : meth.sig.returnType = some .int) (hlk : meth.locks = false) (hml : c.maxLocals = 4) (hT : 213 ≤ T) (hB : moO cs ad th pr fc B) (hpr : 2 ≤ pr ∧ pr ≤ 13) (ha : 0 ≤ a ∧ a ≤ 15) (hA : okp pr 50 (M a.toNat)) {Z : Int} (hp : post (iI Z) (mkR cs M B)) :
    ∀ (k v : Nat) (n : Int) (H : Heap) (locs : List Loc) (ls : Array Slot), Wd D cs A ad T s (mkR cs M B) H locs → (v : Int) + k = pr → 0 ≤ n ∧ n ≤ v → zerL pr (M a.toNat) 25 v k n = Z → lv_has ls 4 [(0, .ref (ad (132))), (1, .int (iI (a))), (2, .int (iI (n))), (3, .int (iI (v)))] → W p l e { frames := 2, cells := 0, slots := 0, locals := 43 } s m args below meth c H locs 0 0 (MQ below (va_Qi post (QW D cs ad T) A) args s 0 0 A) (F0 m 14 ls []) := by
  intro k
  induction k with
  | zero =>
    intro v n H locs ls w h1 h2 hz hl
    have hz : n = Z := hz
    subst hz
    refine lv_iload_n X.1 X.2.1 d_Mo_zeros_14 rfl (lv_at hl 3 rfl) ?_
    refine lv_aload_n X.1 X.2.1 d_Mo_zeros_15 rfl (lv_at hl 0 rfl) ?_
    refine m_get X hT w hB 1 (by decide) k_f_Mo_13 rfl d_Mo_zeros_16 ?_
    refine i_ge (a := v) (b := pr) (tgt := 45) X (by omega) (by omega) d_Mo_zeros_19 (by decide) (fun h_19 => ?_) (fun h_19 => ?_)
    · refine lv_iload_n X.1 X.2.1 d_Mo_zeros_45 rfl (lv_at hl 2 rfl) ?_
      exact w_iret X hr hlk w hp d_Mo_zeros_46
    · exact absurd h_19 (by omega)
  | succ k ih =>
    intro v n H locs ls w h1 h2 hz hl
    have hh := hor_rg (show 0 < pr by omega) (M a.toNat) v 25 0 (by omega)
    have hz : zerL pr (M a.toNat) 25 (v + 1) k (if hor pr (M a.toNat) v 25 0 = 0 then n + 1 else n) = Z := hz
    refine lv_iload_n X.1 X.2.1 d_Mo_zeros_14 rfl (lv_at hl 3 rfl) ?_
    refine lv_aload_n X.1 X.2.1 d_Mo_zeros_15 rfl (lv_at hl 0 rfl) ?_
    refine m_get X hT w hB 1 (by decide) k_f_Mo_13 rfl d_Mo_zeros_16 ?_
    refine i_ge (a := v) (b := pr) (tgt := 45) X (by omega) (by omega) d_Mo_zeros_19 (by decide) (fun h_19 => ?_) (fun h_19 => ?_)
    · exact absurd h_19 (by omega)
    · refine lv_aload_n X.1 X.2.1 d_Mo_zeros_22 rfl (lv_at hl 0 rfl) ?_
      refine lv_aload_n X.1 X.2.1 d_Mo_zeros_23 rfl (lv_at hl 0 rfl) ?_
      refine m_get X hT w hB 2 (by decide) k_f_Mo_18 rfl d_Mo_zeros_24 ?_
      refine lv_iload_n X.1 X.2.1 d_Mo_zeros_27 rfl (lv_at hl 1 rfl) ?_
      refine m_aal (i := 133) (n := 16) (pl := fun i => 138 + i) (z := a) X w (by omega) (by rw [mkR_B (by decide)]; exact hB.2.1) (a.toNat) (by omega) (by omega) (by decide) d_Mo_zeros_28 ?_
      refine lv_iload_n X.1 X.2.1 d_Mo_zeros_29 rfl (lv_at hl 3 rfl) ?_
      refine w_cVi (n := 2) (i := 132) (ci := 5) (As := [.ref (ad (138 + a.toNat)), .int (iI (v))]) (rest := []) X w hml hl.1 (c_Mo_at hT (M := M) hB (a := a.toNat) (v := v) hpr (by omega) hA (by omega)) (by omega) (by rw [mkR_B (by decide)]; exact hB.1) rfl k_m_Mo_107 k_im_Mo_at k_se_Mo_at k_i_Mo k_co_Mo_at (by decide +kernel) rfl ⟨Nat.le_of_ble_eq_true rfl, Nat.le_of_ble_eq_true rfl⟩ ⟨rfl, rfl⟩ ⟨Nat.zero_le _, Nat.zero_le _⟩ rfl (Nat.le_of_ble_eq_true rfl) d_Mo_zeros_30 (fun r' C' H locs hp1 w => ?_)
      obtain ⟨rfl, rfl⟩ := hp1
      refine z_ne (a := hor pr (M a.toNat) v 25 0) (tgt := 39) X (by omega) d_Mo_zeros_33 (by decide) (fun h_33 => ?_) (fun h_33 => ?_)
      · refine i_inc (k := 3) (x := v) (lv' := [(3, .int (iI (v + 1))), (0, .ref (ad (132))), (1, .int (iI (a))), (2, .int (iI (n)))]) X d_Mo_zeros_39 hl rfl (by decide) rfl (fun ls hl => ?_)
        refine lv_goto (tgt := 14) X.1 X.2.1 d_Mo_zeros_42 (by decide) ?_
        rw [if_neg (by omega)] at hz
        exact ih (v + 1) n H locs ls w (by omega) (by omega) hz (lv_sub hl [1, 2, 3, 0] rfl)
      · refine i_inc (k := 2) (x := n) (lv' := [(2, .int (iI (n + 1))), (0, .ref (ad (132))), (1, .int (iI (a))), (3, .int (iI (v)))]) X d_Mo_zeros_36 hl rfl (by decide) rfl (fun ls hl => ?_)
        refine i_inc (k := 3) (x := v) (lv' := [(3, .int (iI (v + 1))), (2, .int (iI (n + 1))), (0, .ref (ad (132))), (1, .int (iI (a)))]) X d_Mo_zeros_39 hl rfl (by decide) rfl (fun ls hl => ?_)
        refine lv_goto (tgt := 14) X.1 X.2.1 d_Mo_zeros_42 (by decide) ?_
        rw [if_pos (by omega)] at hz
        exact ih (v + 1) (n + 1) H locs ls w (by omega) (by omega) hz (lv_sub hl [2, 3, 1, 0] rfl)
end MZ
theorem c_Mo_zeros {l : Launch} {D : va_G} {cs : Nat → ClassId} {A : Nat → Prop} {ad : Nat → Nat} {T : Nat} (hT : 213 ≤ T) {M : Nat → Nat → Int} {B : Nat → va_E} {th pr fc : Int} (hB : moO cs ad th pr fc B) {a : Int} (ha : rg a) (hpr : 2 ≤ pr ∧ pr ≤ 13) (hok : ∀ r, r < 16 → okp pr 50 (M r)) : Ci l y_Mo_zeros ws_Mo_zeros { frames := 2, cells := 0, slots := 0, locals := 43 } D cs A ad T [.ref (ad (132)), .int (iI (a))] (mkR cs M B) (fun x C' => (outF a 0 15 = 1 ∧ x = iI 0 ∧ C' = mkR cs M (mB ad B 1 pr fc)) ∨ ((0 ≤ a ∧ a ≤ 15) ∧ x = iI (zerL pr (M a.toNat) 25 0 pr.toNat 0) ∧ C' = mkR cs M (mB ad B 0 pr fc))) := by
  refine w_bodyI (by decide) (Nat.le_of_ble_eq_true rfl) ?_
  intro p e s m below meth c X hr hlk hml w ls hl
  have hl : lv_has ls 4 [(0, .ref (ad (132))), (1, .int (iI (a)))] := hl
  have hB0 := hB
  refine lv_aload_n X.1 X.2.1 d_Mo_zeros_0 rfl (lv_at hl 0 rfl) ?_
  refine lv_iload_n X.1 X.2.1 d_Mo_zeros_1 rfl (lv_at hl 1 rfl) ?_
  refine w_cVi (n := 1) (i := 132) (ci := 5) (As := [.int (iI (a))]) (rest := []) X w hml hl.1 (c_Mo_none hT (M := M) hB (x := a) (by omega)) (by omega) (by rw [mkR_B (by decide)]; exact hB.1) rfl k_m_Mo_73 k_im_Mo_none k_se_Mo_none k_i_Mo k_co_Mo_none (by decide +kernel) rfl ⟨Nat.le_of_ble_eq_true rfl, Nat.le_of_ble_eq_true rfl⟩ ⟨rfl, rfl⟩ ⟨Nat.zero_le _, Nat.zero_le _⟩ rfl (Nat.le_of_ble_eq_true rfl) d_Mo_zeros_2 (fun r' C' H locs hp w => ?_)
  obtain ⟨rfl, rfl⟩ := hp
  have hB := hB0.set (outF (a) 0 15) pr fc
  refine z_eq (a := outF (a) 0 15) (tgt := 10) X (outF_rg _ _ _) d_Mo_zeros_5 (by decide) (fun h_5 => ?_) (fun h_5 => ?_)
  · refine lv_iconst (v := iI (0)) X.1 X.2.1 d_Mo_zeros_10 (by decide) ?_
    refine lv_istore_n (lv' := [(2, .int (iI (0))), (0, .ref (ad (132))), (1, .int (iI (a)))]) X.1 X.2.1 d_Mo_zeros_11 rfl hl (by decide) rfl (fun ls hl => ?_)
    refine lv_iconst (v := iI (0)) X.1 X.2.1 d_Mo_zeros_12 (by decide) ?_
    refine lv_istore_n (lv' := [(3, .int (iI (0))), (2, .int (iI (0))), (0, .ref (ad (132))), (1, .int (iI (a)))]) X.1 X.2.1 d_Mo_zeros_13 rfl hl (by decide) rfl (fun ls hl => ?_)
    have k0 := outF_0 h_5
    exact l_Mo_zeros (a := a) (M := M) X hr hlk hml hT hB hpr k0 (hok _ (by omega)) (Or.inr ⟨k0, rfl, by rw [h_5]⟩) pr.toNat 0 0 _ _ ls w (by omega) (by omega) rfl (lv_sub hl [2, 3, 1, 0] rfl)
  · refine lv_iconst (v := iI (0)) X.1 X.2.1 d_Mo_zeros_8 (by decide) ?_
    obtain ⟨k1, k2⟩ := outF_1 h_5
    exact w_iret X hr hlk w (Or.inl ⟨k1, rfl, by rw [k1]⟩) d_Mo_zeros_9
