section PU
variable {p : Program} {l : Launch} {e : Env} {R : Room} {s : State} {m : MethodId} {args : Array Value} {below : List Frame} {meth : Method} {c : Code} {H : Heap} {locs : List Loc} {cells slots : Nat} {Q : State → Prop} {D : va_G} {cs : Nat → ClassId} {A : Nat → Prop} {ad : Nat → Nat} {T : Nat}
variable {k : Nat} {O : Nat → va_E}
theorem l_Po_put (X : Cx p s m args c b_Po_put RPo) (hT : 132 ≤ T) (hk : k < 61) {V0 : Nat → PV} {F : Nat → Int} (hF : ok (wd k) F)
    (K : ∀ (V : Nat → PV) (H : Heap) (locs : List Loc) (ls : Array Slot), Wd D cs A ad T s (mkV cs ad V O) H locs → (V k).1 = dg 300 F → (V k).2 = F → (∀ j, j ≠ k → V j = V0 j) → W p l e R s m args below meth c H locs cells slots Q (F0 m 51 ls [])) :
    ∀ (n : Nat) (V : Nat → PV) (H : Heap) (locs : List Loc) (ls : Array Slot), (V k).1 + 2 ≤ n → -1 ≤ (V k).1 ∧ (V k).1 < wd k → Wd D cs A ad T s (mkV cs ad V O) H locs → (∀ x : Nat, (V k).1 < x → F x = 0) → (V k).2 = F → (∀ j, j ≠ k → V j = V0 j) → lv_has ls 3 [(0, .ref (ad (2 * k)))] → W p l e R s m args below meth c H locs cells slots Q (F0 m 19 ls []) := by
  have hw := wd_lt k
  have hw2 := wd_le k
  intro n
  induction n with
  | zero => intro V H locs ls h1 h2; omega
  | succ n ih =>
    intro V H locs ls h1 h2 w hV1 hV2 hV3 hl
    refine lv_aload_n X.1 X.2.1 d_Po_put_19 rfl (lv_at hl 0 rfl) ?_
    refine t_deg (k := k) X hT w (by omega) k_f_Po_13 d_Po_put_20 ?_
    refine z_lt (a := (V k).1) (tgt := 51) X (by omega) d_Po_put_23 (by decide) (fun h_23 => ?_) (fun h_23 => ?_)
    · exact K V H locs ls w (by refine (dg_eq (by omega) (by omega) (fun x hx => by omega) (fun x hx _ => hV1 x hx)).symm) hV2 hV3
    · refine lv_aload_n X.1 X.2.1 d_Po_put_26 rfl (lv_at hl 0 rfl) ?_
      refine t_co (k := k) X hT w (by omega) k_f_Po_7 d_Po_put_27 ?_
      refine lv_aload_n X.1 X.2.1 d_Po_put_30 rfl (lv_at hl 0 rfl) ?_
      refine t_deg (k := k) X hT w (by omega) k_f_Po_13 d_Po_put_31 ?_
      refine t_ld (k := k) (z := (V k).1) X hT w (by omega) ((V k).1.toNat) (by omega) (by omega) d_Po_put_34 ?_
      refine z_ne (a := (V k).2 ((V k).1.toNat)) (tgt := 51) X (by rw [hV2]; have := hF.1 (V k).1.toNat; omega) d_Po_put_35 (by decide) (fun h_35 => ?_) (fun h_35 => ?_)
      · exact K V H locs ls w (by refine (dg_eq (by omega) (by omega) (fun x hx => by rw [hV2] at h_35; rw [show x = (V k).1.toNat by omega]; exact h_35) (fun x hx _ => hV1 x hx)).symm) hV2 hV3
      · refine lv_aload_n X.1 X.2.1 d_Po_put_38 rfl (lv_at hl 0 rfl) ?_
        refine lv_dup X.1 X.2.1 d_Po_put_39 rfl ?_
        refine t_deg (k := k) X hT w (by omega) k_f_Po_13 d_Po_put_40 ?_
        refine lv_iconst (v := iI (1)) X.1 X.2.1 d_Po_put_43 (by decide) ?_
        refine i_sub (a := (V k).1) (b := 1) X d_Po_put_44 ?_
        refine t_pd (k := k) (z := ((V k).1) - 1) X hT w (by omega) k_f_Po_13 d_Po_put_45 (fun H locs w => ?_)
        obtain ⟨V1, eV1⟩ : ∃ U : Nat → PV, U = va_up V k (((V k).1) - 1, (V k).2) := ⟨_, rfl⟩
        rw [← eV1] at w
        refine lv_goto (tgt := 19) X.1 X.2.1 d_Po_put_48 (by decide) ?_
        refine ih V1 H locs ls ?_ ?_ w ?_ ?_ ?_ (lv_sub hl [0] rfl)
        · rw [eV1, va_up_self]; show (V k).1 - 1 + 2 ≤ _; omega
        · rw [eV1, va_up_self]; show -1 ≤ (V k).1 - 1 ∧ (V k).1 - 1 < _; omega
        · intro x hx
          rw [eV1, va_up_self] at hx
          have hx : (V k).1 - 1 < x := hx
          by_cases h9 : (x : Int) = (V k).1
          · rw [hV2] at h_35; rw [show x = (V k).1.toNat by omega]; exact h_35
          · exact hV1 x (by omega)
        · rw [eV1, va_up_self]; exact hV2
        · intro j hj; rw [eV1, va_up_ne _ _ hj]; exact hV3 j hj
end PU
theorem c_Po_put {l : Launch} {D : va_G} {cs : Nat → ClassId} {A : Nat → Prop} {ad : Nat → Nat} {T : Nat} (hT : 132 ≤ T) {G : Nat → Nat → Int} {O : Nat → va_E} {k i : Nat} {v : Int} (hk : k < 61) (hi : i < wd k) (hv : 0 ≤ v ∧ v < 13) (hG : ok (wd k) (G k)) : Cv l y_Po_put ws_Po_put { frames := 1, cells := 0, slots := 0, locals := 21 } D cs A ad T [.ref (ad (2 * k)), .int (iI (i)), .int (iI (v))] (mkV cs ad (rV G) O) (fun C' => C' = mkV cs ad (rV (va_up G k (va_up (G k) i v))) O) := by
  refine w_bodyV (by decide) (Nat.le_of_ble_eq_true rfl) ?_
  intro p e s m below meth c X hr hlk hml w ls hl
  have hl : lv_has ls 3 [(0, .ref (ad (2 * k))), (1, .int (iI (i))), (2, .int (iI (v)))] := hl
  have hd := hG.dlt 300
  have hd0 := dg_ge 300 (G k)
  have hw := wd_lt k
  have hF : ok (wd k) (va_up (G k) i v) := by
    refine ⟨fun x => ?_, fun x hx => ?_⟩
    · by_cases h : x = i
      · subst h; rw [va_up_self]; exact hv
      · rw [va_up_ne _ _ h]; exact hG.1 x
    · rw [va_up_ne _ _ (by omega)]; exact hG.2 x hx
  have hr1 : ∀ V1, V1 = va_up (rV G) k (((rV G) k).1, va_up ((rV G) k).2 i v) → (V1 k).1 = dg 300 (G k) := fun V1 h => by rw [h, va_up_self]; rfl
  refine lv_aload_n X.1 X.2.1 d_Po_put_0 rfl (lv_at hl 0 rfl) ?_
  refine t_co (k := k) X hT w (by omega) k_f_Po_7 d_Po_put_1 ?_
  refine lv_iload_n X.1 X.2.1 d_Po_put_4 rfl (lv_at hl 1 rfl) ?_
  refine lv_iload_n X.1 X.2.1 d_Po_put_5 rfl (lv_at hl 2 rfl) ?_
  refine t_st (k := k) (z := i) (v := v) X hT w (by omega) (i) (by omega) (by omega) d_Po_put_6 (fun H locs w => ?_)
  obtain ⟨V1, eV1⟩ : ∃ U : Nat → PV, U = va_up (rV G) k (((rV G) k).1, va_up ((rV G) k).2 i (v)) := ⟨_, rfl⟩
  rw [← eV1] at w
  refine lv_aload_n X.1 X.2.1 d_Po_put_7 rfl (lv_at hl 0 rfl) ?_
  refine lv_aload_n X.1 X.2.1 d_Po_put_8 rfl (lv_at hl 0 rfl) ?_
  refine t_deg (k := k) X hT w (by omega) k_f_Po_13 d_Po_put_9 ?_
  refine lv_iload_n X.1 X.2.1 d_Po_put_12 rfl (lv_at hl 1 rfl) ?_
  refine i_max (a := (V1 k).1) (b := i) X (by rw [hl.1]; exact hml) k_m_Po_17 (by rw [hr1 V1 eV1]; omega) (by omega) (Nat.le_of_ble_eq_true rfl) (Nat.le_of_ble_eq_true rfl) ⟨Nat.zero_le _, Nat.zero_le _⟩ d_Po_put_13 ?_
  refine t_pd (k := k) (z := max ((V1 k).1) (i)) X hT w (by omega) k_f_Po_13 d_Po_put_16 (fun H locs w => ?_)
  obtain ⟨V2, eV2⟩ : ∃ U : Nat → PV, U = va_up V1 k (max ((V1 k).1) (i), (V1 k).2) := ⟨_, rfl⟩
  rw [← eV2] at w
  have e1 : (V2 k).1 = max (dg 300 (G k)) i := by rw [eV2, va_up_self]; show max (V1 k).1 _ = _; rw [hr1 V1 eV1]
  have e2 : (V2 k).2 = va_up (G k) i v := by rw [eV2, va_up_self]; show (V1 k).2 = _; rw [eV1, va_up_self]; rfl
  refine l_Po_put X hT hk (V0 := rV G) hF (fun V H locs ls w hV1 hV2 hV3 => ?_) ((V2 k).1 + 2).toNat V2 _ _ _ (by omega) (by omega) w (fun x hx => ?_) e2 (fun j hj => by rw [eV2, va_up_ne _ _ hj, eV1, va_up_ne _ _ hj]) (lv_sub hl [0] rfl)
  · refine w_vret X hr hlk w ?_ d_Po_put_51
    rw [rV_of (G := G) (k := k) (V := V) hV1 hV2 hV3]
  · rw [va_up_ne _ _ (by omega)]
    exact hG.above (wd_le k) (by omega)
theorem c_Po_becomePowerOfX {l : Launch} {D : va_G} {cs : Nat → ClassId} {A : Nat → Prop} {ad : Nat → Nat} {T : Nat} (hT : 132 ≤ T) {G : Nat → Nat → Int} {O : Nat → va_E} {k i : Nat} (hk : k < 61) (hi : i < wd k) (hG : ok (wd k) (G k)) : Cv l y_Po_becomePowerOfX ws_Po_becomePowerOfX { frames := 1, cells := 0, slots := 0, locals := 21 } D cs A ad T [.ref (ad (2 * k)), .int (iI (i))] (mkV cs ad (rV G) O) (fun C' => C' = mkV cs ad (rV (va_up G k (fun x => if x = i then 1 else 0))) O) := by
  refine w_bodyV (by decide) (Nat.le_of_ble_eq_true rfl) ?_
  intro p e s m below meth c X hr hlk hml w ls hl
  have hl : lv_has ls 2 [(0, .ref (ad (2 * k))), (1, .int (iI (i)))] := hl
  have hw := wd_lt k
  have hw2 := wd_le k
  refine lv_aload_n X.1 X.2.1 d_Po_becomePowerOfX_0 rfl (lv_at hl 0 rfl) ?_
  refine w_cVv (n := 0) (i := 2 * k) (ci := 0) (As := []) (rest := []) X w hml hl.1 (c_Po_clear hT (G := G) (k := k) hk hG) (by omega) (mkV_o hk) rfl k_m_Po_23 k_im_Po_clear k_se_Po_clear k_i_Po k_co_Po_clear (by decide +kernel) rfl ⟨Nat.le_of_ble_eq_true rfl, Nat.le_of_ble_eq_true rfl⟩ ⟨rfl, rfl⟩ ⟨Nat.zero_le _, Nat.zero_le _⟩ rfl (Nat.le_of_ble_eq_true rfl) d_Po_becomePowerOfX_1 (fun C' H locs hp w => ?_)
  subst hp
  refine lv_aload_n X.1 X.2.1 d_Po_becomePowerOfX_4 rfl (lv_at hl 0 rfl) ?_
  refine t_co (k := k) X hT w (by omega) k_f_Po_7 d_Po_becomePowerOfX_5 ?_
  refine lv_iload_n X.1 X.2.1 d_Po_becomePowerOfX_8 rfl (lv_at hl 1 rfl) ?_
  refine lv_iconst (v := iI (1)) X.1 X.2.1 d_Po_becomePowerOfX_9 (by decide) ?_
  refine t_st (k := k) (z := i) (v := 1) X hT w (by omega) (i) (by omega) (by omega) d_Po_becomePowerOfX_10 (fun H locs w => ?_)
  obtain ⟨V1, eV1⟩ : ∃ U : Nat → PV, U = va_up (rV (va_up G k (fun _ => 0))) k (((rV (va_up G k (fun _ => 0))) k).1, va_up ((rV (va_up G k (fun _ => 0))) k).2 i (1)) := ⟨_, rfl⟩
  rw [← eV1] at w
  refine lv_aload_n X.1 X.2.1 d_Po_becomePowerOfX_11 rfl (lv_at hl 0 rfl) ?_
  refine lv_iload_n X.1 X.2.1 d_Po_becomePowerOfX_12 rfl (lv_at hl 1 rfl) ?_
  refine t_pd (k := k) (z := i) X hT w (by omega) k_f_Po_13 d_Po_becomePowerOfX_13 (fun H locs w => ?_)
  obtain ⟨V2, eV2⟩ : ∃ U : Nat → PV, U = va_up V1 k (i, (V1 k).2) := ⟨_, rfl⟩
  rw [← eV2] at w
  refine w_vret X hr hlk w ?_ d_Po_becomePowerOfX_16
  rw [rV_of (G := G) (k := k) (F := fun x => if x = i then 1 else 0) (V := V2) ?_ ?_ ?_]
  · rw [eV2, va_up_self]
    refine (dg_eq (by omega) (by omega) (fun x hx => ?_) (fun x hx _ => ?_)).symm
    · rw [if_pos (by omega)]; decide
    · rw [if_neg (by omega)]
  · rw [eV2, va_up_self]
    show (V1 k).2 = _
    rw [eV1, va_up_self, rV_up, va_up_self]
    funext x
    show va_up _ i 1 x = _
    unfold va_up
    rfl
  · intro j hj
    rw [eV2, va_up_ne _ _ hj, eV1, va_up_ne _ _ hj, rV_up, va_up_ne _ _ hj]
theorem c_Po_lead {l : Launch} {D : va_G} {cs : Nat → ClassId} {A : Nat → Prop} {ad : Nat → Nat} {T : Nat} (hT : 132 ≤ T) {G : Nat → Nat → Int} {O : Nat → va_E} {k : Nat} (hk : k < 61) (hG : ok (wd k) (G k)) : Ci l y_Po_lead ws_Po_lead { frames := 0, cells := 0, slots := 0, locals := 0 } D cs A ad T [.ref (ad (2 * k))] (mkV cs ad (rV G) O) (fun r C' => r = iI (if dg 300 (G k) < 0 then 0 else G k (dg 300 (G k)).toNat) ∧ C' = mkV cs ad (rV G) O) := by
  refine w_bodyI (by decide) (Nat.le_of_ble_eq_true rfl) ?_
  intro p e s m below meth c X hr hlk hml w ls hl
  have hl : lv_has ls 1 [(0, .ref (ad (2 * k)))] := hl
  have hd := hG.dlt 300
  have hd0 := dg_ge 300 (G k)
  have hw := wd_lt k
  have e1 : ((rV G) k).1 = dg 300 (G k) := rfl
  refine lv_aload_n X.1 X.2.1 d_Po_lead_0 rfl (lv_at hl 0 rfl) ?_
  refine t_deg (k := k) X hT w (by omega) k_f_Po_13 d_Po_lead_1 ?_
  refine z_ge (a := ((rV G) k).1) (tgt := 11) X (by omega) d_Po_lead_4 (by decide) (fun h_4 => ?_) (fun h_4 => ?_)
  · refine lv_aload_n X.1 X.2.1 d_Po_lead_11 rfl (lv_at hl 0 rfl) ?_
    refine t_co (k := k) X hT w (by omega) k_f_Po_7 d_Po_lead_12 ?_
    refine lv_aload_n X.1 X.2.1 d_Po_lead_15 rfl (lv_at hl 0 rfl) ?_
    refine t_deg (k := k) X hT w (by omega) k_f_Po_13 d_Po_lead_16 ?_
    refine t_ld (k := k) (z := ((rV G) k).1) X hT w (by omega) ((dg 300 (G k)).toNat) (by omega) (by omega) d_Po_lead_19 ?_
    exact w_iret X hr hlk w ⟨by rw [if_neg (by omega)]; rfl, rfl⟩ d_Po_lead_20
  · refine lv_iconst (v := iI (0)) X.1 X.2.1 d_Po_lead_7 (by decide) ?_
    refine lv_goto (tgt := 20) X.1 X.2.1 d_Po_lead_8 (by decide) ?_
    exact w_iret X hr hlk w ⟨by rw [if_pos (by omega)], rfl⟩ d_Po_lead_20
theorem c_Po_isOne {l : Launch} {D : va_G} {cs : Nat → ClassId} {A : Nat → Prop} {ad : Nat → Nat} {T : Nat} (hT : 132 ≤ T) {G : Nat → Nat → Int} {O : Nat → va_E} {k : Nat} (hk : k < 61) (hG : ok (wd k) (G k)) : Ci l y_Po_isOne ws_Po_isOne { frames := 0, cells := 0, slots := 0, locals := 0 } D cs A ad T [.ref (ad (2 * k))] (mkV cs ad (rV G) O) (fun r C' => r = (if dg 300 (G k) = 0 ∧ G k 0 = 1 then 1 else 0) ∧ C' = mkV cs ad (rV G) O) := by
  refine w_bodyI (by decide) (Nat.le_of_ble_eq_true rfl) ?_
  intro p e s m below meth c X hr hlk hml w ls hl
  have hl : lv_has ls 1 [(0, .ref (ad (2 * k)))] := hl
  have hd := hG.dlt 300
  have hd0 := dg_ge 300 (G k)
  have hw := wd_lt k
  have hw2 := wd_ge k
  have h0 := hG.1 0
  have e1 : ((rV G) k).1 = dg 300 (G k) := rfl
  have e2 : ((rV G) k).2 0 = G k 0 := rfl
  refine lv_aload_n X.1 X.2.1 d_Po_isOne_0 rfl (lv_at hl 0 rfl) ?_
  refine t_deg (k := k) X hT w (by omega) k_f_Po_13 d_Po_isOne_1 ?_
  refine z_ne (a := ((rV G) k).1) (tgt := 21) X (by omega) d_Po_isOne_4 (by decide) (fun h_4 => ?_) (fun h_4 => ?_)
  · refine lv_iconst (v := iI (0)) X.1 X.2.1 d_Po_isOne_21 (by decide) ?_
    exact w_zret X hr rfl hlk w ⟨by rw [if_neg (fun h => by omega)]; rfl, rfl⟩ d_Po_isOne_22
  · refine lv_aload_n X.1 X.2.1 d_Po_isOne_7 rfl (lv_at hl 0 rfl) ?_
    refine t_co (k := k) X hT w (by omega) k_f_Po_7 d_Po_isOne_8 ?_
    refine lv_iconst (v := iI (0)) X.1 X.2.1 d_Po_isOne_11 (by decide) ?_
    refine t_ld (k := k) (z := 0) X hT w (by omega) (0) (by omega) (by omega) d_Po_isOne_12 ?_
    refine lv_iconst (v := iI (1)) X.1 X.2.1 d_Po_isOne_13 (by decide) ?_
    refine i_ne (a := ((rV G) k).2 0) (b := 1) (tgt := 21) X (by omega) (by omega) d_Po_isOne_14 (by decide) (fun h_14 => ?_) (fun h_14 => ?_)
    · refine lv_iconst (v := iI (0)) X.1 X.2.1 d_Po_isOne_21 (by decide) ?_
      exact w_zret X hr rfl hlk w ⟨by rw [if_neg (fun h => by omega)]; rfl, rfl⟩ d_Po_isOne_22
    · refine lv_iconst (v := iI (1)) X.1 X.2.1 d_Po_isOne_17 (by decide) ?_
      refine lv_goto (tgt := 22) X.1 X.2.1 d_Po_isOne_18 (by decide) ?_
      exact w_zret X hr rfl hlk w ⟨by rw [if_pos ⟨by omega, by omega⟩]; rfl, rfl⟩ d_Po_isOne_22
