section MM
variable {p : Program} {l : Launch} {e : Env} {s : State} {m : MethodId} {args : Array Value} {below : List Frame} {meth : Method} {c : Code} {H : Heap} {locs : List Loc} {Q : State → Prop} {D : va_G} {cs : Nat → ClassId} {A : Nat → Prop} {ad : Nat → Nat} {T : Nat} {B : Nat → va_E} {th pr fc : Int}
variable {a : Nat} {M : Nat → Nat → Int}
theorem l_Mo_monic (X : Cx p s m args c b_Mo_monic RMo) (hT : 213 ≤ T) (hB : moO cs ad th pr fc B) (hpr : 2 ≤ pr ∧ pr ≤ 13) (ha : a < 50) (hA : okp pr 50 (M a)) {u : Int} (hu : 0 ≤ u ∧ u ≤ 13)
    (K : ∀ (M1 : Nat → Nat → Int) (H : Heap) (locs : List Loc) (ls : Array Slot), Wd D cs A ad T s (mkR cs M1 B) H locs → (∀ x : Nat, M1 a x = if (x : Int) ≤ dg 300 (M a) then M a x * u % pr else M a x) → (∀ r, r ≠ a → M1 r = M r) → W p l e { frames := 1, cells := 0, slots := 0, locals := 22 } s m args below meth c H locs 0 0 Q (F0 m 51 ls [])) :
    ∀ (n i : Nat) (M1 : Nat → Nat → Int) (H : Heap) (locs : List Loc) (ls : Array Slot), dg 300 (M a) + 2 ≤ i + n → (i : Int) ≤ dg 300 (M a) + 1 → Wd D cs A ad T s (mkR cs M1 B) H locs → (∀ x : Nat, M1 a x = if x < i then M a x * u % pr else M a x) → (∀ r, r ≠ a → M1 r = M r) → lv_has ls 5 [(0, .ref (ad (132))), (1, .ref (ad (138 + a))), (2, .int (iI (dg 300 (M a)))), (3, .int (iI (u))), (4, .int (iI (i)))] → W p l e { frames := 1, cells := 0, slots := 0, locals := 22 } s m args below meth c H locs 0 0 Q (F0 m 24 ls []) := by
  have hda := (hA.ok hpr.2).dlt 300
  have hda0 := dg_ge 300 (M a)
  intro n
  induction n with
  | zero => intro i M1 H locs ls h1 h2; omega
  | succ n ih =>
    intro i M1 H locs ls h1 h2 w hM1 hM2 hl
    have ex := hM1 i
    rw [if_neg (by omega)] at ex
    have r1 := hA.1 i
    have hm : 0 ≤ M1 a i * u ∧ M1 a i * u ≤ 169 := by
      rw [ex]
      exact ⟨Int.mul_nonneg r1.1 hu.1, by have := Int.mul_le_mul (show M a i ≤ 13 by omega) hu.2 hu.1 (by decide); omega⟩
    refine lv_iload X.1 X.2.1 d_Mo_monic_24 (lv_at hl 4 rfl) ?_
    refine lv_iload_n X.1 X.2.1 d_Mo_monic_26 rfl (lv_at hl 2 rfl) ?_
    refine i_gt (a := i) (b := dg 300 (M a)) (tgt := 51) X (by omega) (by omega) d_Mo_monic_27 (by decide) (fun h_27 => ?_) (fun h_27 => ?_)
    · exact K M1 H locs ls w (fun x => by rw [hM1 x]; split <;> split <;> first | rfl | (exfalso; omega)) hM2
    · refine lv_aload_n X.1 X.2.1 d_Mo_monic_30 rfl (lv_at hl 1 rfl) ?_
      refine lv_iload X.1 X.2.1 d_Mo_monic_31 (lv_at hl 4 rfl) ?_
      refine lv_aload_n X.1 X.2.1 d_Mo_monic_33 rfl (lv_at hl 1 rfl) ?_
      refine lv_iload X.1 X.2.1 d_Mo_monic_34 (lv_at hl 4 rfl) ?_
      refine m_ld (r := a) (z := i) X hT w (by omega) (i) (by omega) (by omega) d_Mo_monic_36 ?_
      refine lv_iload_n X.1 X.2.1 d_Mo_monic_37 rfl (lv_at hl 3 rfl) ?_
      refine i_mul (a := M1 a i) (b := u) X d_Mo_monic_38 ?_
      refine lv_aload_n X.1 X.2.1 d_Mo_monic_39 rfl (lv_at hl 0 rfl) ?_
      refine m_get X hT w hB 1 (by decide) k_f_Mo_13 rfl d_Mo_monic_40 ?_
      refine i_rem (a := (M1 a i) * u) (b := pr) X (by omega) (by omega) d_Mo_monic_43 ?_
      refine m_st (r := a) (z := i) (v := ((M1 a i) * u) % pr) X hT w (by omega) (i) (by omega) (by omega) d_Mo_monic_44 (fun H locs w => ?_)
      obtain ⟨Mw1, eMw1⟩ : ∃ mm : Nat → Nat → Int, mm = va_up M1 a (va_up (M1 a) i (((M1 a i) * u) % pr)) := ⟨_, rfl⟩
      rw [← eMw1] at w
      refine i_inc (k := 4) (x := i) (lv' := [(4, .int (iI (i + 1))), (0, .ref (ad (132))), (1, .ref (ad (138 + a))), (2, .int (iI (dg 300 (M a)))), (3, .int (iI (u)))]) X d_Mo_monic_45 hl rfl (by decide) rfl (fun ls hl => ?_)
      refine lv_goto (tgt := 24) X.1 X.2.1 d_Mo_monic_48 (by decide) ?_
      have hu9 : ∀ x : Nat, Mw1 a x = if x < i + 1 then M a x * u % pr else M a x := by
        intro x
        rw [eMw1, va_up_self]
        by_cases e9 : x = i
        · subst e9; rw [va_up_self, ex, if_pos (by omega)]
        · rw [va_up_ne _ _ e9, hM1 x]; split <;> split <;> first | rfl | (exfalso; omega)
      exact ih (i + 1) Mw1 H locs ls (by omega) (by omega) w hu9 (fun r h9 => by rw [eMw1, va_up_ne _ _ h9]; exact hM2 r h9) (lv_sub hl [1, 2, 3, 4, 0] rfl)
end MM
theorem c_Mo_monic {l : Launch} {D : va_G} {cs : Nat → ClassId} {A : Nat → Prop} {ad : Nat → Nat} {T : Nat} (hT : 213 ≤ T) {M : Nat → Nat → Int} {B : Nat → va_E} {th pr fc : Int} (hB : moO cs ad th pr fc B) {inv : Nat → Int} (hI : invP pr inv) {a : Nat} (ha : a < 50) (hA : okp pr 50 (M a)) : Cv l y_Mo_monic ws_Mo_monic { frames := 1, cells := 0, slots := 0, locals := 22 } D cs A ad T [.ref (ad (132)), .ref (ad (138 + a))] (mkR cs M B) (fun C' => C' = mkR cs (va_up M a (mon pr inv (M a))) B) := by
  refine w_bodyV (by decide) (Nat.le_of_ble_eq_true rfl) ?_
  intro p e s m below meth c X hr hlk hml w ls hl
  have hl : lv_has ls 5 [(0, .ref (ad (132))), (1, .ref (ad (138 + a)))] := hl
  have hpr := hI.1
  have hda := (hA.ok hpr.2).dlt 300
  have hda0 := dg_ge 300 (M a)
  refine lv_aload_n X.1 X.2.1 d_Mo_monic_0 rfl (lv_at hl 1 rfl) ?_
  refine w_cSi (n := 1) (As := [.ref (ad (138 + a))]) (rest := []) X w hml hl.1 (c_Mo_degree hT (M := M) (B := B) (a := a) ha (hA.ok hpr.2)) k_m_Mo_80 k_st_Mo_degree k_i_Mo k_co_Mo_degree (by decide +kernel) rfl ⟨Nat.le_of_ble_eq_true rfl, Nat.le_of_ble_eq_true rfl⟩ ⟨rfl, rfl⟩ ⟨Nat.zero_le _, Nat.zero_le _⟩ rfl (Nat.le_of_ble_eq_true rfl) d_Mo_monic_1 (fun r' C' H locs hp w => ?_)
  obtain ⟨rfl, rfl⟩ := hp
  refine lv_istore_n (lv' := [(2, .int (iI (dg 300 (M a)))), (0, .ref (ad (132))), (1, .ref (ad (138 + a)))]) X.1 X.2.1 d_Mo_monic_4 rfl hl (by decide) rfl (fun ls hl => ?_)
  refine lv_iload_n X.1 X.2.1 d_Mo_monic_5 rfl (lv_at hl 0 rfl) ?_
  refine z_ge (a := dg 300 (M a)) (tgt := 13) X (by omega) d_Mo_monic_6 (by decide) (fun h_6 => ?_) (fun h_6 => ?_)
  · refine lv_aload_n X.1 X.2.1 d_Mo_monic_13 rfl (lv_at hl 1 rfl) ?_
    refine lv_aload_n X.1 X.2.1 d_Mo_monic_14 rfl (lv_at hl 2 rfl) ?_
    refine lv_iload_n X.1 X.2.1 d_Mo_monic_15 rfl (lv_at hl 0 rfl) ?_
    refine m_ld (r := a) (z := dg 300 (M a)) X hT w (by omega) ((dg 300 (M a)).toNat) (by omega) (by omega) d_Mo_monic_16 ?_
    have hld := hA.lead (by omega)
    have hiv := hI.inv hld
    refine w_cVi (n := 1) (i := 132) (ci := 5) (As := [.int (iI (M a ((dg 300 (M a)).toNat)))]) (rest := []) X w hml hl.1 (c_Mo_under hT (M := M) hB (v := M a (dg 300 (M a)).toNat) (iv := inv (M a (dg 300 (M a)).toNat).toNat) hpr hld hiv) (by omega) (by rw [mkR_B (by decide)]; exact hB.1) rfl k_m_Mo_88 k_im_Mo_under k_se_Mo_under k_i_Mo k_co_Mo_under (by decide +kernel) rfl ⟨Nat.le_of_ble_eq_true rfl, Nat.le_of_ble_eq_true rfl⟩ ⟨rfl, rfl⟩ ⟨Nat.zero_le _, Nat.zero_le _⟩ rfl (Nat.le_of_ble_eq_true rfl) d_Mo_monic_17 (fun r' C' H locs hp w => ?_)
    obtain ⟨rfl, rfl⟩ := hp
    refine lv_istore_n (lv' := [(3, .int (iI (inv (M a (dg 300 (M a)).toNat).toNat))), (2, .int (iI (dg 300 (M a)))), (0, .ref (ad (132))), (1, .ref (ad (138 + a)))]) X.1 X.2.1 d_Mo_monic_20 rfl hl (by decide) rfl (fun ls hl => ?_)
    refine lv_iconst (v := iI (0)) X.1 X.2.1 d_Mo_monic_21 (by decide) ?_
    refine lv_istore (lv' := [(4, .int (iI (0))), (3, .int (iI (inv (M a (dg 300 (M a)).toNat).toNat))), (2, .int (iI (dg 300 (M a)))), (0, .ref (ad (132))), (1, .ref (ad (138 + a)))]) X.1 X.2.1 d_Mo_monic_22 hl (by decide) rfl (fun ls hl => ?_)
    refine l_Mo_monic (M := M) (a := a) (u := inv (M a (dg 300 (M a)).toNat).toNat) X hT hB hpr ha hA (by omega) (fun M1 H locs ls w g1 g2 => ?_) (dg 300 (M a) + 2).toNat 0 M _ _ _ (by omega) (by omega) w (fun x => by rw [if_neg (by omega)]) (fun _ _ => rfl) (lv_sub hl [3, 4, 2, 1, 0] rfl)
    refine w_vret X hr hlk w ?_ d_Mo_monic_51
    have hmon : mon pr inv (M a) = fun x => M a x * inv (M a (dg 300 (M a)).toNat).toNat % pr := by unfold mon; rw [if_neg (by omega)]
    rw [hmon]
    congr 1
    funext r
    by_cases e9 : r = a
    · rw [e9, va_up_self]
      funext x
      rw [g1 x]
      split
      · rfl
      · rw [(hA.ok hpr.2).above (N := 300) (by omega) (by omega)]; simp
    · rw [va_up_ne _ _ e9, g2 r e9]
  · refine lv_iconst (v := iI (0)) X.1 X.2.1 d_Mo_monic_9 (by decide) ?_
    refine lv_goto (tgt := 20) X.1 X.2.1 d_Mo_monic_10 (by decide) ?_
    refine lv_istore_n (lv' := [(3, .int (iI (0))), (2, .int (iI (dg 300 (M a)))), (0, .ref (ad (132))), (1, .ref (ad (138 + a)))]) X.1 X.2.1 d_Mo_monic_20 rfl hl (by decide) rfl (fun ls hl => ?_)
    refine lv_iconst (v := iI (0)) X.1 X.2.1 d_Mo_monic_21 (by decide) ?_
    refine lv_istore (lv' := [(4, .int (iI (0))), (3, .int (iI (0))), (2, .int (iI (dg 300 (M a)))), (0, .ref (ad (132))), (1, .ref (ad (138 + a)))]) X.1 X.2.1 d_Mo_monic_22 hl (by decide) rfl (fun ls hl => ?_)
    refine l_Mo_monic (M := M) (a := a) (u := 0) X hT hB hpr ha hA (by omega) (fun M1 H locs ls w g1 g2 => ?_) (dg 300 (M a) + 2).toNat 0 M _ _ _ (by omega) (by omega) w (fun x => by rw [if_neg (by omega)]) (fun _ _ => rfl) (lv_sub hl [3, 4, 2, 1, 0] rfl)
    refine w_vret X hr hlk w ?_ d_Mo_monic_51
    have hmon : mon pr inv (M a) = M a := by unfold mon; rw [if_pos (by omega)]
    rw [hmon]
    congr 1
    funext r
    by_cases e9 : r = a
    · rw [e9, va_up_self]
      funext x
      rw [g1 x]
      rw [if_neg (by omega)]
    · rw [va_up_ne _ _ e9, g2 r e9]
theorem dvm_ok2 {pr : Int} {inv : Nat → Int} (hI : invP pr inv) {A B : Nat → Int} {N K : Nat} (hA : okp pr N A) (hB : okp pr K B) (hN : N ≤ 300) (hK : K ≤ 300) (hd : 0 ≤ dg 300 B) {M : Nat} (hM : dg 300 B ≤ M) : okp pr M (dvm pr inv A B).1 := by
  have hpr := hI.1
  have hBo := hB.ok hpr.2
  have hAo := hA.ok hpr.2
  have h1 := hAo.dlt 300
  refine ⟨(dvm_ok (M := 600) (by omega) hA hB hN hK hpr.2 (by have := dg_lt 300 A; have := dg_ge 300 B; omega)).1.1, fun x hx => ?_⟩
  unfold dvm
  rw [if_neg (by omega)]
  refine divL_top (iv := inv (B (dg 300 B).toNat).toNat) (B := B) (e := (dg 300 B).toNat) (N := N) (M := (dg 300 A - dg 300 B + 1).toNat) (by omega) (fun x hx => hBo.above hK (by omega)) (hI.inv (hB.lead hd)).2 (dg 300 A - dg 300 B + 1).toNat (A, fun _ => 0) hA (okp_0 _ (by omega)) (fun i x hi hx => hBo.above hK (by omega)) (Nat.le_refl _) (fun x hx => hAo.above hN (by omega)) x (by omega)
section MG
variable {p : Program} {l : Launch} {e : Env} {s : State} {m : MethodId} {args : Array Value} {below : List Frame} {meth : Method} {c : Code} {H : Heap} {locs : List Loc} {Q : State → Prop} {D : va_G} {cs : Nat → ClassId} {A : Nat → Prop} {ad : Nat → Nat} {T : Nat} {B : Nat → va_E} {th pr fc : Int}
variable {M : Nat → Nat → Int} {inv : Nat → Int}
theorem l_Mo_common (X : Cx p s m args c b_Mo_common RMo) (hml : c.maxLocals = 3) (hT : 213 ≤ T) (hB : moO cs ad th pr fc B) (hI : invP pr inv) {Z : Nat → Int}
    (K : ∀ (M1 : Nat → Nat → Int) (H : Heap) (locs : List Loc) (ls : Array Slot), Wd D cs A ad T s (mkR cs M1 B) H locs → M1 44 = Z → okp pr 50 Z → WR M1 → (∀ r, r ≠ 41 → r ≠ 42 → r ≠ 44 → r ≠ 45 → M1 r = M r) → lv_has ls 3 [(0, .ref (ad (132)))] → W p l e { frames := 2, cells := 0, slots := 0, locals := 49 } s m args below meth c H locs 0 0 Q (F0 m 63 ls [])) :
    ∀ (n : Nat) (M1 : Nat → Nat → Int) (H : Heap) (locs : List Loc) (ls : Array Slot), dg 300 (M1 45) < n → Wd D cs A ad T s (mkR cs M1 B) H locs → okp pr 50 (M1 44) → okp pr 50 (M1 45) → gcdL pr inv n (M1 44) (M1 45) = Z → WR M1 → (∀ r, r ≠ 41 → r ≠ 42 → r ≠ 44 → r ≠ 45 → M1 r = M r) → lv_has ls 3 [(0, .ref (ad (132)))] → W p l e { frames := 2, cells := 0, slots := 0, locals := 49 } s m args below meth c H locs 0 0 Q (F0 m 16 ls []) := by
  have hpr := hI.1
  intro n
  induction n with
  | zero =>
    intro M1 H locs ls h1 w h44 h45 hz hW hF hl
    have hz : M1 44 = Z := hz
    refine lv_aload_n X.1 X.2.1 d_Mo_common_16 rfl (lv_at hl 0 rfl) ?_
    refine m_get X hT w hB 10 (by decide) k_f_Mo_43 rfl d_Mo_common_17 ?_
    refine w_cSi (n := 1) (As := [.ref (ad (138 + 45))]) (rest := []) X w hml hl.1 (c_Mo_degree hT (M := M1) (B := B) (a := 45) (by omega) (h45.ok hpr.2)) k_m_Mo_80 k_st_Mo_degree k_i_Mo k_co_Mo_degree (by decide +kernel) rfl ⟨Nat.le_of_ble_eq_true rfl, Nat.le_of_ble_eq_true rfl⟩ ⟨rfl, rfl⟩ ⟨Nat.zero_le _, Nat.zero_le _⟩ rfl (Nat.le_of_ble_eq_true rfl) d_Mo_common_20 (fun r' C' H locs hp w => ?_)
    obtain ⟨rfl, rfl⟩ := hp
    refine z_lt (a := dg 300 (M1 45)) (tgt := 63) X (by have := dg_ge 300 (M1 45); omega) d_Mo_common_23 (by decide) (fun h_23 => ?_) (fun h_23 => ?_)
    · exact K M1 H locs ls w hz (by rw [← hz]; exact h44) hW hF hl
    · exact absurd h_23 (by omega)
  | succ n ih =>
    intro M1 H locs ls h1 w h44 h45 hz hW hF hl
    have hd0 := dg_ge 300 (M1 45)
    have hd1 := (h45.ok hpr.2).dlt 300
    have hd2 := (h44.ok hpr.2).dlt 300
    unfold gcdL at hz
    refine lv_aload_n X.1 X.2.1 d_Mo_common_16 rfl (lv_at hl 0 rfl) ?_
    refine m_get X hT w hB 10 (by decide) k_f_Mo_43 rfl d_Mo_common_17 ?_
    refine w_cSi (n := 1) (As := [.ref (ad (138 + 45))]) (rest := []) X w hml hl.1 (c_Mo_degree hT (M := M1) (B := B) (a := 45) (by omega) (h45.ok hpr.2)) k_m_Mo_80 k_st_Mo_degree k_i_Mo k_co_Mo_degree (by decide +kernel) rfl ⟨Nat.le_of_ble_eq_true rfl, Nat.le_of_ble_eq_true rfl⟩ ⟨rfl, rfl⟩ ⟨Nat.zero_le _, Nat.zero_le _⟩ rfl (Nat.le_of_ble_eq_true rfl) d_Mo_common_20 (fun r' C' H locs hp w => ?_)
    obtain ⟨rfl, rfl⟩ := hp
    refine z_lt (a := dg 300 (M1 45)) (tgt := 63) X (by omega) d_Mo_common_23 (by decide) (fun h_23 => ?_) (fun h_23 => ?_)
    · rw [if_pos (by omega)] at hz
      exact K M1 H locs ls w hz (by rw [← hz]; exact h44) hW hF hl
    · refine lv_aload_n X.1 X.2.1 d_Mo_common_26 rfl (lv_at hl 0 rfl) ?_
      refine lv_aload_n X.1 X.2.1 d_Mo_common_27 rfl (lv_at hl 0 rfl) ?_
      refine m_get X hT w hB 9 (by decide) k_f_Mo_40 rfl d_Mo_common_28 ?_
      refine lv_aload_n X.1 X.2.1 d_Mo_common_31 rfl (lv_at hl 0 rfl) ?_
      refine m_get X hT w hB 10 (by decide) k_f_Mo_43 rfl d_Mo_common_32 ?_
      refine w_cVv (n := 2) (i := 132) (ci := 5) (As := [.ref (ad (138 + 44)), .ref (ad (138 + 45))]) (rest := []) X w hml hl.1 (c_Mo_divided hT (M := M1) hB hI (a := 44) (b := 45) (by omega) (by omega) hW h44 h45 (by omega)) (by omega) (by rw [mkR_B (by decide)]; exact hB.1) rfl k_m_Mo_91 k_im_Mo_divided k_se_Mo_divided k_i_Mo k_co_Mo_divided (by decide +kernel) rfl ⟨Nat.le_of_ble_eq_true rfl, Nat.le_of_ble_eq_true rfl⟩ ⟨rfl, rfl⟩ ⟨Nat.zero_le _, Nat.zero_le _⟩ rfl (Nat.le_of_ble_eq_true rfl) d_Mo_common_35 (fun C' H locs hp w => ?_)
      subst hp
      obtain ⟨Mw1, eMw1⟩ : ∃ mm : Nat → Nat → Int, mm = va_up (va_up M1 41 (dvm pr inv (M1 44) (M1 45)).2) 42 (dvm pr inv (M1 44) (M1 45)).1 := ⟨_, rfl⟩
      rw [← eMw1] at w
      have hq := dvm_ok (inv := inv) (M := 50) (by omega) h44 h45 (by omega) (by omega) hpr.2 (by omega)
      have hr9 : okp pr (dg 300 (M1 45)).toNat (dvm pr inv (M1 44) (M1 45)).1 := dvm_ok2 hI h44 h45 (by omega) (by omega) (by omega) (by omega)
      have hdr := (hr9.ok hpr.2).dlt 300
      have hW1 : WR Mw1 := by rw [eMw1]; exact (hW.up (hq.2.ok hpr.2)).up (hq.1.ok hpr.2)
      refine lv_aload_n X.1 X.2.1 d_Mo_common_38 rfl (lv_at hl 0 rfl) ?_
      refine m_get X hT w hB 10 (by decide) k_f_Mo_43 rfl d_Mo_common_39 ?_
      refine lv_aload_n X.1 X.2.1 d_Mo_common_42 rfl (lv_at hl 0 rfl) ?_
      refine m_get X hT w hB 9 (by decide) k_f_Mo_40 rfl d_Mo_common_43 ?_
      refine w_cSv (n := 2) (As := [.ref (ad (138 + 45)), .ref (ad (138 + 44))]) (rest := []) X w hml hl.1 (c_Mo_copy hT (M := Mw1) (B := B) (a := 45) (b := 44) (by omega) (by omega) hW1) k_m_Mo_84 k_st_Mo_copy k_i_Mo k_co_Mo_copy (by decide +kernel) rfl ⟨Nat.le_of_ble_eq_true rfl, Nat.le_of_ble_eq_true rfl⟩ ⟨rfl, rfl⟩ ⟨Nat.zero_le _, Nat.zero_le _⟩ rfl (Nat.le_of_ble_eq_true rfl) d_Mo_common_46 (fun C' H locs hp w => ?_)
      subst hp
      obtain ⟨Mw2, eMw2⟩ : ∃ mm : Nat → Nat → Int, mm = va_up Mw1 44 (Mw1 45) := ⟨_, rfl⟩
      rw [← eMw2] at w
      have f45 : Mw1 45 = M1 45 := by rw [eMw1, va_up_ne _ _ (by omega), va_up_ne _ _ (by omega)]
      rw [f45] at eMw2
      have hW2 : WR Mw2 := by rw [eMw2]; exact hW1.up (h45.ok hpr.2)
      have f42 : Mw2 42 = (dvm pr inv (M1 44) (M1 45)).1 := by rw [eMw2, va_up_ne _ _ (by omega), eMw1, va_up_self]
      refine lv_aload_n X.1 X.2.1 d_Mo_common_49 rfl (lv_at hl 0 rfl) ?_
      refine m_get X hT w hB 7 (by decide) k_f_Mo_34 rfl d_Mo_common_50 ?_
      refine lv_aload_n X.1 X.2.1 d_Mo_common_53 rfl (lv_at hl 0 rfl) ?_
      refine m_get X hT w hB 10 (by decide) k_f_Mo_43 rfl d_Mo_common_54 ?_
      refine w_cSv (n := 2) (As := [.ref (ad (138 + 42)), .ref (ad (138 + 45))]) (rest := []) X w hml hl.1 (c_Mo_copy hT (M := Mw2) (B := B) (a := 42) (b := 45) (by omega) (by omega) hW2) k_m_Mo_84 k_st_Mo_copy k_i_Mo k_co_Mo_copy (by decide +kernel) rfl ⟨Nat.le_of_ble_eq_true rfl, Nat.le_of_ble_eq_true rfl⟩ ⟨rfl, rfl⟩ ⟨Nat.zero_le _, Nat.zero_le _⟩ rfl (Nat.le_of_ble_eq_true rfl) d_Mo_common_57 (fun C' H locs hp w => ?_)
      subst hp
      obtain ⟨Mw3, eMw3⟩ : ∃ mm : Nat → Nat → Int, mm = va_up Mw2 45 (Mw2 42) := ⟨_, rfl⟩
      rw [← eMw3] at w
      refine lv_goto (tgt := 16) X.1 X.2.1 d_Mo_common_60 (by decide) ?_
      rw [if_neg (by omega)] at hz
      rw [f42] at eMw3
      have g44 : Mw3 44 = M1 45 := by rw [eMw3, va_up_ne _ _ (by omega), eMw2, va_up_self]
      have g45 : Mw3 45 = (dvm pr inv (M1 44) (M1 45)).1 := by rw [eMw3, va_up_self]
      exact ih Mw3 H locs ls (by rw [g45]; omega) w (by rw [g44]; exact h45) (by rw [g45]; exact hr9.mono (by omega)) (by rw [g44, g45]; exact hz) (by rw [eMw3]; exact hW2.up (hq.1.ok hpr.2)) (fun r r1 r2 r4 r5 => by rw [eMw3, va_up_ne _ _ r5, eMw2, va_up_ne _ _ r4, eMw1, va_up_ne _ _ r2, va_up_ne _ _ r1]; exact hF r r1 r2 r4 r5) hl
end MG
theorem c_Mo_common {l : Launch} {D : va_G} {cs : Nat → ClassId} {A : Nat → Prop} {ad : Nat → Nat} {T : Nat} (hT : 213 ≤ T) {M : Nat → Nat → Int} {B : Nat → va_E} {th pr fc : Int} (hB : moO cs ad th pr fc B) {inv : Nat → Int} (hI : invP pr inv) {a b : Nat} (ha : a < 50 ∧ a ≠ 44) (hb : b < 50 ∧ b ≠ 44 ∧ b ≠ 45) (hW : WR M) (hA : okp pr 50 (M a)) (hBo : okp pr 50 (M b)) (hd : dg 300 (M b) < 26) : Cv l y_Mo_common ws_Mo_common { frames := 2, cells := 0, slots := 0, locals := 49 } D cs A ad T [.ref (ad (132)), .ref (ad (138 + a)), .ref (ad (138 + b))] (mkR cs M B) (fun C' => ∃ M', C' = mkR cs M' B ∧ WR M' ∧ M' 44 = gcdP pr inv (M a) (M b) ∧ okp pr 50 (M' 44) ∧ ∀ r, r ≠ 41 → r ≠ 42 → r ≠ 44 → r ≠ 45 → M' r = M r) := by
  refine w_bodyV (by decide) (Nat.le_of_ble_eq_true rfl) ?_
  intro p e s m below meth c X hr hlk hml w ls hl
  have hl : lv_has ls 3 [(0, .ref (ad (132))), (1, .ref (ad (138 + a))), (2, .ref (ad (138 + b)))] := hl
  have hpr := hI.1
  refine lv_aload_n X.1 X.2.1 d_Mo_common_0 rfl (lv_at hl 1 rfl) ?_
  refine lv_aload_n X.1 X.2.1 d_Mo_common_1 rfl (lv_at hl 0 rfl) ?_
  refine m_get X hT w hB 9 (by decide) k_f_Mo_40 rfl d_Mo_common_2 ?_
  refine w_cSv (n := 2) (As := [.ref (ad (138 + a)), .ref (ad (138 + 44))]) (rest := []) X w hml hl.1 (c_Mo_copy hT (M := M) (B := B) (a := a) (b := 44) ha.1 (by omega) hW) k_m_Mo_84 k_st_Mo_copy k_i_Mo k_co_Mo_copy (by decide +kernel) rfl ⟨Nat.le_of_ble_eq_true rfl, Nat.le_of_ble_eq_true rfl⟩ ⟨rfl, rfl⟩ ⟨Nat.zero_le _, Nat.zero_le _⟩ rfl (Nat.le_of_ble_eq_true rfl) d_Mo_common_5 (fun C' H locs hp w => ?_)
  subst hp
  obtain ⟨Mw1, eMw1⟩ : ∃ mm : Nat → Nat → Int, mm = va_up M 44 (M a) := ⟨_, rfl⟩
  rw [← eMw1] at w
  have hW1 : WR Mw1 := by rw [eMw1]; exact hW.up (hA.ok hpr.2)
  have fb : Mw1 b = M b := by rw [eMw1, va_up_ne _ _ hb.2.1]
  refine lv_aload_n X.1 X.2.1 d_Mo_common_8 rfl (lv_at hl 2 rfl) ?_
  refine lv_aload_n X.1 X.2.1 d_Mo_common_9 rfl (lv_at hl 0 rfl) ?_
  refine m_get X hT w hB 10 (by decide) k_f_Mo_43 rfl d_Mo_common_10 ?_
  refine w_cSv (n := 2) (As := [.ref (ad (138 + b)), .ref (ad (138 + 45))]) (rest := []) X w hml hl.1 (c_Mo_copy hT (M := Mw1) (B := B) (a := b) (b := 45) hb.1 (by omega) hW1) k_m_Mo_84 k_st_Mo_copy k_i_Mo k_co_Mo_copy (by decide +kernel) rfl ⟨Nat.le_of_ble_eq_true rfl, Nat.le_of_ble_eq_true rfl⟩ ⟨rfl, rfl⟩ ⟨Nat.zero_le _, Nat.zero_le _⟩ rfl (Nat.le_of_ble_eq_true rfl) d_Mo_common_13 (fun C' H locs hp w => ?_)
  subst hp
  obtain ⟨Mw2, eMw2⟩ : ∃ mm : Nat → Nat → Int, mm = va_up Mw1 45 (Mw1 b) := ⟨_, rfl⟩
  rw [← eMw2] at w
  rw [fb] at eMw2
  have k45 : Mw2 45 = M b := by rw [eMw2, va_up_self]
  have k44 : Mw2 44 = M a := by rw [eMw2, va_up_ne _ _ (by omega), eMw1, va_up_self]
  refine l_Mo_common (M := Mw2) (Z := gcdL pr inv 26 (M a) (M b)) X hml hT hB hI (fun M2 H locs ls w g1 g2 g3 g4 hl => ?_) 26 Mw2 _ _ _ (by rw [k45]; exact hd) w (by rw [k44]; exact hA) (by rw [k45]; exact hBo) (by rw [k44, k45]) (by rw [eMw2]; exact hW1.up (hBo.ok hpr.2)) (fun _ _ _ _ _ => rfl) (lv_sub hl [0] rfl)
  refine lv_aload_n X.1 X.2.1 d_Mo_common_63 rfl (lv_at hl 0 rfl) ?_
  refine lv_aload_n X.1 X.2.1 d_Mo_common_64 rfl (lv_at hl 0 rfl) ?_
  refine m_get X hT w hB 9 (by decide) k_f_Mo_40 rfl d_Mo_common_65 ?_
  refine w_cVv (n := 1) (i := 132) (ci := 5) (As := [.ref (ad (138 + 44))]) (rest := []) X w hml hl.1 (c_Mo_monic hT (M := M2) hB hI (a := 44) (by omega) (by rw [g1]; exact g2)) (by omega) (by rw [mkR_B (by decide)]; exact hB.1) rfl k_m_Mo_94 k_im_Mo_monic k_se_Mo_monic k_i_Mo k_co_Mo_monic (by decide +kernel) rfl ⟨Nat.le_of_ble_eq_true rfl, Nat.le_of_ble_eq_true rfl⟩ ⟨rfl, rfl⟩ ⟨Nat.zero_le _, Nat.zero_le _⟩ rfl (Nat.le_of_ble_eq_true rfl) d_Mo_common_68 (fun C' H locs hp w => ?_)
  subst hp
  obtain ⟨Mw3, eMw3⟩ : ∃ mm : Nat → Nat → Int, mm = va_up M2 44 (mon pr inv (M2 44)) := ⟨_, rfl⟩
  rw [← eMw3] at w
  rw [g1] at eMw3
  have k44 : Mw3 44 = gcdP pr inv (M a) (M b) := by rw [eMw3, va_up_self]; rfl
  have hmo := mon_ok (inv := inv) (show 0 < pr by omega) g2
  exact w_vret X hr hlk w ⟨Mw3, rfl, by rw [eMw3]; exact g3.up (hmo.ok hpr.2), k44, by rw [k44]; exact hmo, fun r r1 r2 r4 r5 => by rw [eMw3, va_up_ne _ _ r4, g4 r r1 r2 r4 r5, eMw2, va_up_ne _ _ r5, eMw1, va_up_ne _ _ r4]⟩ d_Mo_common_71
section MA
variable {p : Program} {l : Launch} {e : Env} {s : State} {m : MethodId} {args : Array Value} {below : List Frame} {meth : Method} {c : Code} {H : Heap} {locs : List Loc} {Q : State → Prop} {D : va_G} {cs : Nat → ClassId} {A : Nat → Prop} {ad : Nat → Nat} {T : Nat} {B : Nat → va_E} {th pr fc : Int}
variable {a : Nat} {v : Int} {M : Nat → Nat → Int}
theorem l_Mo_at {post : Int32 → (Nat → va_E) → Prop} (X : Cx p s m args c b_Mo_at RMo) (hr : meth.sig.returnType = some .int) (hlk : meth.locks = false) (hT : 213 ≤ T) (hB : moO cs ad th pr fc B) (hpr : 2 ≤ pr ∧ pr ≤ 13) (ha : a < 50) (hA : okp pr 50 (M a)) (hv : 0 ≤ v ∧ v < pr) (w : Wd D cs A ad T s (mkR cs M B) H locs) {Z : Int} (hp : post (iI Z) (mkR cs M B)) :
    ∀ (n : Nat) (q : Int) (ls : Array Slot), n ≤ 25 → (0 ≤ q ∧ q < pr) → hor pr (M a) v n q = Z → lv_has ls 5 [(0, .ref (ad (132))), (1, .ref (ad (138 + a))), (2, .int (iI (v))), (3, .int (iI (q))), (4, .int (iI ((n : Int) - 1)))] → W p l e { frames := 0, cells := 0, slots := 0, locals := 0 } s m args below meth c H locs 0 0 (MQ below (va_Qi post (QW D cs ad T) A) args s 0 0 A) (F0 m 6 ls []) := by
  intro n
  induction n with
  | zero =>
    intro q ls hn hq hz hl
    have hz : q = Z := hz
    subst hz
    refine lv_iload X.1 X.2.1 d_Mo_at_6 (lv_at hl 4 rfl) ?_
    refine z_lt (a := ((0 : Nat) : Int) - 1) (tgt := 31) X (by omega) d_Mo_at_8 (by decide) (fun h_8 => ?_) (fun h_8 => ?_)
    · refine lv_iload_n X.1 X.2.1 d_Mo_at_31 rfl (lv_at hl 3 rfl) ?_
      exact w_iret X hr hlk w hp d_Mo_at_32
    · exact absurd h_8 (by omega)
  | succ n ih =>
    intro q ls hn hq hz hl
    have r1 := hA.1 n
    have hm : 0 ≤ q * v ∧ q * v ≤ 169 := ⟨Int.mul_nonneg hq.1 hv.1, by have := Int.mul_le_mul (show q ≤ 13 by omega) (show v ≤ 13 by omega) hv.1 (by decide); omega⟩
    refine lv_iload X.1 X.2.1 d_Mo_at_6 (lv_at hl 4 rfl) ?_
    refine z_lt (a := ((n + 1 : Nat) : Int) - 1) (tgt := 31) X (by omega) d_Mo_at_8 (by decide) (fun h_8 => ?_) (fun h_8 => ?_)
    · exact absurd h_8 (by omega)
    · refine lv_iload_n X.1 X.2.1 d_Mo_at_11 rfl (lv_at hl 3 rfl) ?_
      refine lv_iload_n X.1 X.2.1 d_Mo_at_12 rfl (lv_at hl 2 rfl) ?_
      refine i_mul (a := q) (b := v) X d_Mo_at_13 ?_
      refine lv_aload_n X.1 X.2.1 d_Mo_at_14 rfl (lv_at hl 1 rfl) ?_
      refine lv_iload X.1 X.2.1 d_Mo_at_15 (lv_at hl 4 rfl) ?_
      refine m_ld (r := a) (z := ((n + 1 : Nat) : Int) - 1) X hT w (by omega) (n) (by omega) (by omega) d_Mo_at_17 ?_
      refine i_add (a := q * v) (b := M a n) X d_Mo_at_18 ?_
      refine lv_aload_n X.1 X.2.1 d_Mo_at_19 rfl (lv_at hl 0 rfl) ?_
      refine m_get X hT w hB 1 (by decide) k_f_Mo_13 rfl d_Mo_at_20 ?_
      refine i_rem (a := (q * v) + (M a n)) (b := pr) X (by omega) (by omega) d_Mo_at_23 ?_
      refine lv_istore_n (lv' := [(3, .int (iI (((q * v) + (M a n)) % pr))), (0, .ref (ad (132))), (1, .ref (ad (138 + a))), (2, .int (iI (v))), (4, .int (iI (((n + 1 : Nat) : Int) - 1)))]) X.1 X.2.1 d_Mo_at_24 rfl hl (by decide) rfl (fun ls hl => ?_)
      refine i_inc (k := 4) (x := ((n + 1 : Nat) : Int) - 1) (lv' := [(4, .int (iI ((((n + 1 : Nat) : Int) - 1) + (-1)))), (3, .int (iI (((q * v) + (M a n)) % pr))), (0, .ref (ad (132))), (1, .ref (ad (138 + a))), (2, .int (iI (v)))]) X d_Mo_at_25 hl rfl (by decide) rfl (fun ls hl => ?_)
      refine lv_goto (tgt := 6) X.1 X.2.1 d_Mo_at_28 (by decide) ?_
      refine ih _ ls (by omega) ⟨Int.emod_nonneg _ (by omega), Int.emod_lt_of_pos _ (by omega)⟩ hz ?_
      rw [show (n : Int) - 1 = ((n + 1 : Nat) : Int) - 1 + (-1) by omega]
      exact (lv_sub hl [2, 3, 4, 1, 0] rfl)
end MA
theorem c_Mo_at {l : Launch} {D : va_G} {cs : Nat → ClassId} {A : Nat → Prop} {ad : Nat → Nat} {T : Nat} (hT : 213 ≤ T) {M : Nat → Nat → Int} {B : Nat → va_E} {th pr fc : Int} (hB : moO cs ad th pr fc B) {a : Nat} {v : Int} (hpr : 2 ≤ pr ∧ pr ≤ 13) (ha : a < 50) (hA : okp pr 50 (M a)) (hv : 0 ≤ v ∧ v < pr) : Ci l y_Mo_at ws_Mo_at { frames := 0, cells := 0, slots := 0, locals := 0 } D cs A ad T [.ref (ad (132)), .ref (ad (138 + a)), .int (iI (v))] (mkR cs M B) (fun r C' => r = iI (hor pr (M a) v 25 0) ∧ C' = mkR cs M B) := by
  refine w_bodyI (by decide) (Nat.le_of_ble_eq_true rfl) ?_
  intro p e s m below meth c X hr hlk hml w ls hl
  have hl : lv_has ls 5 [(0, .ref (ad (132))), (1, .ref (ad (138 + a))), (2, .int (iI (v)))] := hl
  refine lv_iconst (v := iI (0)) X.1 X.2.1 d_Mo_at_0 (by decide) ?_
  refine lv_istore_n (lv' := [(3, .int (iI (0))), (0, .ref (ad (132))), (1, .ref (ad (138 + a))), (2, .int (iI (v)))]) X.1 X.2.1 d_Mo_at_1 rfl hl (by decide) rfl (fun ls hl => ?_)
  refine lv_bipush (v := iI (24)) X.1 X.2.1 d_Mo_at_2 (by decide) ?_
  refine lv_istore (lv' := [(4, .int (iI (24))), (3, .int (iI (0))), (0, .ref (ad (132))), (1, .ref (ad (138 + a))), (2, .int (iI (v)))]) X.1 X.2.1 d_Mo_at_4 hl (by decide) rfl (fun ls hl => ?_)
  exact l_Mo_at (a := a) (v := v) X hr hlk hT hB hpr ha hA hv w ⟨rfl, rfl⟩ 25 0 ls (by omega) (by omega) rfl (lv_sub hl [2, 3, 4, 1, 0] rfl)
theorem c_Mo_divides {l : Launch} {D : va_G} {cs : Nat → ClassId} {A : Nat → Prop} {ad : Nat → Nat} {T : Nat} (hT : 213 ≤ T) {M : Nat → Nat → Int} {B : Nat → va_E} {th pr fc : Int} (hB : moO cs ad th pr fc B) {inv : Nat → Int} (hI : invP pr inv) {a b : Nat} (ha : a < 50 ∧ a ≠ 41 ∧ a ≠ 42) (hb : b < 50 ∧ b ≠ 41 ∧ b ≠ 42) (hW : WR M) (hA : okp pr 50 (M a)) (hBo : okp pr 50 (M b)) (hd : 0 ≤ dg 300 (M b)) : Ci l y_Mo_divides ws_Mo_divides { frames := 2, cells := 0, slots := 0, locals := 49 } D cs A ad T [.ref (ad (132)), .ref (ad (138 + a)), .ref (ad (138 + b))] (mkR cs M B) (fun r C' => r = (if dg 300 (dvm pr inv (M a) (M b)).1 < 0 then iI 1 else iI 0) ∧ C' = mkR cs (va_up (va_up M 41 (dvm pr inv (M a) (M b)).2) 42 (dvm pr inv (M a) (M b)).1) B) := by
  refine w_bodyI (by decide) (Nat.le_of_ble_eq_true rfl) ?_
  intro p e s m below meth c X hr hlk hml w ls hl
  have hl : lv_has ls 3 [(0, .ref (ad (132))), (1, .ref (ad (138 + a))), (2, .ref (ad (138 + b)))] := hl
  have hpr := hI.1
  have hq := dvm_ok (inv := inv) (M := 50) (by omega) hA hBo (by omega) (by omega) hpr.2 (by have := (hA.ok hpr.2).dlt 300; omega)
  have hdr := (hq.1.ok hpr.2).dlt 300
  have hdr0 := dg_ge 300 (dvm pr inv (M a) (M b)).1
  refine lv_aload_n X.1 X.2.1 d_Mo_divides_0 rfl (lv_at hl 0 rfl) ?_
  refine lv_aload_n X.1 X.2.1 d_Mo_divides_1 rfl (lv_at hl 1 rfl) ?_
  refine lv_aload_n X.1 X.2.1 d_Mo_divides_2 rfl (lv_at hl 2 rfl) ?_
  refine w_cVv (n := 2) (i := 132) (ci := 5) (As := [.ref (ad (138 + a)), .ref (ad (138 + b))]) (rest := []) X w hml hl.1 (c_Mo_divided hT (M := M) hB hI (a := a) (b := b) ha hb hW hA hBo hd) (by omega) (by rw [mkR_B (by decide)]; exact hB.1) rfl k_m_Mo_91 k_im_Mo_divided k_se_Mo_divided k_i_Mo k_co_Mo_divided (by decide +kernel) rfl ⟨Nat.le_of_ble_eq_true rfl, Nat.le_of_ble_eq_true rfl⟩ ⟨rfl, rfl⟩ ⟨Nat.zero_le _, Nat.zero_le _⟩ rfl (Nat.le_of_ble_eq_true rfl) d_Mo_divides_3 (fun C' H locs hp w => ?_)
  subst hp
  obtain ⟨Mw1, eMw1⟩ : ∃ mm : Nat → Nat → Int, mm = va_up (va_up M 41 (dvm pr inv (M a) (M b)).2) 42 (dvm pr inv (M a) (M b)).1 := ⟨_, rfl⟩
  rw [← eMw1] at w
  have f42 : Mw1 42 = (dvm pr inv (M a) (M b)).1 := by rw [eMw1, va_up_self]
  refine lv_aload_n X.1 X.2.1 d_Mo_divides_6 rfl (lv_at hl 0 rfl) ?_
  refine m_get X hT w hB 7 (by decide) k_f_Mo_34 rfl d_Mo_divides_7 ?_
  refine w_cSi (n := 1) (As := [.ref (ad (138 + 42))]) (rest := []) X w hml hl.1 (c_Mo_degree hT (M := Mw1) (B := B) (a := 42) (by omega) (by rw [f42]; exact hq.1.ok hpr.2)) k_m_Mo_80 k_st_Mo_degree k_i_Mo k_co_Mo_degree (by decide +kernel) rfl ⟨Nat.le_of_ble_eq_true rfl, Nat.le_of_ble_eq_true rfl⟩ ⟨rfl, rfl⟩ ⟨Nat.zero_le _, Nat.zero_le _⟩ rfl (Nat.le_of_ble_eq_true rfl) d_Mo_divides_10 (fun r' C' H locs hp w => ?_)
  obtain ⟨rfl, rfl⟩ := hp
  rw [f42]
  refine z_ge (a := dg 300 (dvm pr inv (M a) (M b)).1) (tgt := 20) X (by omega) d_Mo_divides_13 (by decide) (fun h_13 => ?_) (fun h_13 => ?_)
  · refine lv_iconst (v := iI (0)) X.1 X.2.1 d_Mo_divides_20 (by decide) ?_
    exact w_zret X hr rfl hlk w ⟨by rw [if_neg (by omega)], by rw [eMw1]⟩ d_Mo_divides_21
  · refine lv_iconst (v := iI (1)) X.1 X.2.1 d_Mo_divides_16 (by decide) ?_
    refine lv_goto (tgt := 21) X.1 X.2.1 d_Mo_divides_17 (by decide) ?_
    exact w_zret X hr rfl hlk w ⟨by rw [if_pos (by omega)], by rw [eMw1]⟩ d_Mo_divides_21
