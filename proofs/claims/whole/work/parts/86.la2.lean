theorem c_La_field {l : Launch} {D : va_G} {cs : Nat → ClassId} {A : Nat → Prop} {ad : Nat → Nat} {T : Nat} {C : Nat → va_E} {P : Int32 → (Nat → va_E) → Prop} {px : String → (Nat → va_E) → Prop} {q : Int} (hT : 213 ≤ T) (hC : C 122 = .inr (4, ffF ad)) (hM : FXi l y_Ff_field ws_Ff_field { frames := 6, cells := 1, slots := 6, locals := 90 } D cs A ad T (.ref (ad 122) :: [.int (iI q)]) C P px 1) (hP : ∀ x C1, P x C1 → ∃ ov, C1 137 = aL cs 1 ov) (hX : ∀ E C1, px E C1 → ∃ k : Int, (fun E k => E = xIAE ∧ k = 1) E k) : Cw l y_La_field ws_La_field { frames := 7, cells := 1, slots := 6, locals := 113 } D cs A ad T [.ref (ad 122), .int (iI q), .ref (ad 137)] C (wPo cs vfI P px (fun E k => E = xIAE ∧ k = 1)) 1 := by
  refine w_bodyW (by decide) (Nat.le_of_ble_eq_true rfl) ?_
  intro p e s m below meth c X hr hlk hml htab ev w ls hl
  have hl : lv_has ls 4 [(0, .ref (ad 122)), (1, .int (iI q)), (2, .ref (ad 137))] := hl
  refine lv_aload_n X.1 X.2.1 d_La_field_0 rfl (lv_at hl 2 rfl) ?_
  refine lv_iconst (v := iI (0)) X.1 X.2.1 d_La_field_1 (by decide) ?_
  refine lv_aload_n X.1 X.2.1 d_La_field_2 rfl (lv_at hl 0 rfl) ?_
  refine lv_iload_n X.1 X.2.1 d_La_field_3 rfl (lv_at hl 1 rfl) ?_
  refine q_cVi (n := 1) (i := 122) (ci := 4) (k1 := 1) (As := [.int (iI q)]) (rest := [.int (iI (0)), .ref (ad 137)]) X ev w hml hl.1 hM (by omega) hC rfl k_m_La_7 k_im_Ff_field k_se_Ff_field k_i_Ff k_co_Ff_field (by decide +kernel) rfl ⟨(Nat.le_of_ble_eq_true rfl), (Nat.le_of_ble_eq_true rfl)⟩ ⟨rfl, rfl⟩ ⟨(Nat.le_of_ble_eq_true rfl), (Nat.le_of_ble_eq_true rfl)⟩ rfl (Nat.le_of_ble_eq_true rfl) d_La_field_4 (fun E ce q9 C1 H locs hx w g1 g2 g3 => ?_) (fun x C1 H locs hp w => ?_)
  · obtain ⟨k, hk⟩ := hX E C1 hx
    obtain ⟨rfl, rfl⟩ := hk
    refine vx_catch (own := RLa) (name := xIAE) X.2.2.1 [] ⟨0, 9, 12, 13⟩ [] (by rw [htab]; rfl) (fun z hz => absurd hz List.not_mem_nil) (by decide) (by decide) (X.2.2.2 _ k_c_La_13) (ca_IAE ev) g1 g2 g3 ?_
    refine lv_astore_n (lv' := [(3, .ref q9), (0, .ref (ad 122)), (1, .int (iI q)), (2, .ref (ad 137))]) X.1 X.2.1 d_La_field_12 rfl hl (by decide) rfl (fun ls hl => ?_)
    refine lv_iconst (v := iI (1)) X.1 X.2.1 d_La_field_13 (by decide) ?_
    exact q_iret X hr hlk w (.inr ⟨xIAE, 1, hx, ⟨rfl, rfl⟩, rfl⟩) d_La_field_14 (Nat.le_of_ble_eq_true rfl) (Nat.le_of_ble_eq_true rfl)
  · obtain ⟨ov, hov⟩ := hP x C1 hp
    refine W.eq (g2 := F0 m 7 ls [.int (iI x.toInt), .int (iI (0)), .ref (ad 137)]) (by rw [iI_back]) ?_
    refine l_i2l X (rg_back x) d_La_field_7 ?_
    refine w_lst (i := 137) (n := 1) (F := ov) (z := 0) (v := x.toInt) X w (by omega) hov 0 rfl (by decide) (by decide) d_La_field_8 (fun H locs w => ?_)
    refine lv_goto (tgt := 15) X.1 X.2.1 d_La_field_9 (by decide) ?_
    refine lv_iconst (v := iI (0)) X.1 X.2.1 d_La_field_15 (by decide) ?_
    exact q_iret X hr hlk w (.inl ⟨rfl, x, C1, ov, hp, hov, rfl⟩) d_La_field_16 (Nat.le_of_ble_eq_true rfl) (Nat.le_of_ble_eq_true rfl)
theorem c_La_set {l : Launch} {D : va_G} {cs : Nat → ClassId} {A : Nat → Prop} {ad : Nat → Nat} {T : Nat} {C : Nat → va_E} {P : Int32 → (Nat → va_E) → Prop} {px : String → (Nat → va_E) → Prop} {r i v : Int} (hT : 213 ≤ T) (hC : C 122 = .inr (4, ffF ad)) (hM : FXi l y_Ff_set ws_Ff_set { frames := 7, cells := 2, slots := 12, locals := 111 } D cs A ad T (.ref (ad 122) :: [.int (iI r), .int (iI i), .int (iI v)]) C P px 2) (hP : ∀ x C1, P x C1 → ∃ ov, C1 137 = aL cs 1 ov) (hX : ∀ E C1, px E C1 → ∃ k : Int, (fun E k => (E = xNSE ∧ k = 1) ∨ (E = xIAE ∧ k = 2)) E k) : Cw l y_La_set ws_La_set { frames := 8, cells := 2, slots := 12, locals := 136 } D cs A ad T [.ref (ad 122), .int (iI r), .int (iI i), .int (iI v), .ref (ad 137)] C (wPo cs vfI P px (fun E k => (E = xNSE ∧ k = 1) ∨ (E = xIAE ∧ k = 2))) 2 := by
  refine w_bodyW (by decide) (Nat.le_of_ble_eq_true rfl) ?_
  intro p e s m below meth c X hr hlk hml htab ev w ls hl
  have hl : lv_has ls 6 [(0, .ref (ad 122)), (1, .int (iI r)), (2, .int (iI i)), (3, .int (iI v)), (4, .ref (ad 137))] := hl
  refine lv_aload X.1 X.2.1 d_La_set_0 (lv_at hl 4 rfl) ?_
  refine lv_iconst (v := iI (0)) X.1 X.2.1 d_La_set_2 (by decide) ?_
  refine lv_aload_n X.1 X.2.1 d_La_set_3 rfl (lv_at hl 0 rfl) ?_
  refine lv_iload_n X.1 X.2.1 d_La_set_4 rfl (lv_at hl 1 rfl) ?_
  refine lv_iload_n X.1 X.2.1 d_La_set_5 rfl (lv_at hl 2 rfl) ?_
  refine lv_iload_n X.1 X.2.1 d_La_set_6 rfl (lv_at hl 3 rfl) ?_
  refine q_cVi (n := 3) (i := 122) (ci := 4) (k1 := 2) (As := [.int (iI r), .int (iI i), .int (iI v)]) (rest := [.int (iI (0)), .ref (ad 137)]) X ev w hml hl.1 hM (by omega) hC rfl k_m_La_15 k_im_Ff_set k_se_Ff_set k_i_Ff k_co_Ff_set (by decide +kernel) rfl ⟨(Nat.le_of_ble_eq_true rfl), (Nat.le_of_ble_eq_true rfl)⟩ ⟨rfl, rfl⟩ ⟨(Nat.le_of_ble_eq_true rfl), (Nat.le_of_ble_eq_true rfl)⟩ rfl (Nat.le_of_ble_eq_true rfl) d_La_set_7 (fun E ce q9 C1 H locs hx w g1 g2 g3 => ?_) (fun x C1 H locs hp w => ?_)
  · obtain ⟨k, hk⟩ := hX E C1 hx
    rcases hk with ⟨rfl, rfl⟩ | ⟨rfl, rfl⟩
    · refine vx_catch (own := RLa) (name := xNSE) X.2.2.1 [] ⟨0, 12, 15, 19⟩ [⟨0, 12, 19, 13⟩] (by rw [htab]; rfl) (fun z hz => absurd hz List.not_mem_nil) (by decide) (by decide) (X.2.2.2 _ k_c_La_19) (ca_NSE ev) g1 g2 g3 ?_
      refine lv_astore (lv' := [(5, .ref q9), (0, .ref (ad 122)), (1, .int (iI r)), (2, .int (iI i)), (3, .int (iI v)), (4, .ref (ad 137))]) X.1 X.2.1 d_La_set_15 hl (by decide) rfl (fun ls hl => ?_)
      refine lv_iconst (v := iI (1)) X.1 X.2.1 d_La_set_17 (by decide) ?_
      exact q_iret X hr hlk w (.inr ⟨xNSE, 1, hx, .inl ⟨rfl, rfl⟩, rfl⟩) d_La_set_18 (Nat.le_of_ble_eq_true rfl) (Nat.le_of_ble_eq_true rfl)
    · refine vx_catch (own := RLa) (name := xIAE) X.2.2.1 [⟨0, 12, 15, 19⟩] ⟨0, 12, 19, 13⟩ [] (by rw [htab]; rfl) (fun z hz => by obtain rfl := List.mem_singleton.mp hz; exact Or.inr ⟨by decide, xNSE, X.2.2.2 _ k_c_La_19, ev.2.2.2.2.2.2.2.2.2 (xIAE, xNSE) (by decide)⟩) (by decide) (by decide) (X.2.2.2 _ k_c_La_13) (ca_IAE ev) g1 g2 g3 ?_
      refine lv_astore (lv' := [(5, .ref q9), (0, .ref (ad 122)), (1, .int (iI r)), (2, .int (iI i)), (3, .int (iI v)), (4, .ref (ad 137))]) X.1 X.2.1 d_La_set_19 hl (by decide) rfl (fun ls hl => ?_)
      refine lv_iconst (v := iI (2)) X.1 X.2.1 d_La_set_21 (by decide) ?_
      exact q_iret X hr hlk w (.inr ⟨xIAE, 2, hx, .inr ⟨rfl, rfl⟩, rfl⟩) d_La_set_22 (Nat.le_of_ble_eq_true rfl) (Nat.le_of_ble_eq_true rfl)
  · obtain ⟨ov, hov⟩ := hP x C1 hp
    refine W.eq (g2 := F0 m 10 ls [.int (iI x.toInt), .int (iI (0)), .ref (ad 137)]) (by rw [iI_back]) ?_
    refine l_i2l X (rg_back x) d_La_set_10 ?_
    refine w_lst (i := 137) (n := 1) (F := ov) (z := 0) (v := x.toInt) X w (by omega) hov 0 rfl (by decide) (by decide) d_La_set_11 (fun H locs w => ?_)
    refine lv_goto (tgt := 23) X.1 X.2.1 d_La_set_12 (by decide) ?_
    refine lv_iconst (v := iI (0)) X.1 X.2.1 d_La_set_23 (by decide) ?_
    exact q_iret X hr hlk w (.inl ⟨rfl, x, C1, ov, hp, hov, rfl⟩) d_La_set_24 (Nat.le_of_ble_eq_true rfl) (Nat.le_of_ble_eq_true rfl)
theorem c_La_get {l : Launch} {D : va_G} {cs : Nat → ClassId} {A : Nat → Prop} {ad : Nat → Nat} {T : Nat} {C : Nat → va_E} {P : Int32 → (Nat → va_E) → Prop} {px : String → (Nat → va_E) → Prop} {r i : Int} (hT : 213 ≤ T) (hC : C 122 = .inr (4, ffF ad)) (hM : FXi l y_Ff_get ws_Ff_get { frames := 7, cells := 2, slots := 12, locals := 111 } D cs A ad T (.ref (ad 122) :: [.int (iI r), .int (iI i)]) C P px 2) (hP : ∀ x C1, P x C1 → ∃ ov, C1 137 = aL cs 1 ov) (hX : ∀ E C1, px E C1 → ∃ k : Int, (fun E k => (E = xNSE ∧ k = 1) ∨ (E = xIAE ∧ k = 2)) E k) : Cw l y_La_get ws_La_get { frames := 8, cells := 2, slots := 12, locals := 134 } D cs A ad T [.ref (ad 122), .int (iI r), .int (iI i), .ref (ad 137)] C (wPo cs vfI P px (fun E k => (E = xNSE ∧ k = 1) ∨ (E = xIAE ∧ k = 2))) 2 := by
  refine w_bodyW (by decide) (Nat.le_of_ble_eq_true rfl) ?_
  intro p e s m below meth c X hr hlk hml htab ev w ls hl
  have hl : lv_has ls 5 [(0, .ref (ad 122)), (1, .int (iI r)), (2, .int (iI i)), (3, .ref (ad 137))] := hl
  refine lv_aload_n X.1 X.2.1 d_La_get_0 rfl (lv_at hl 3 rfl) ?_
  refine lv_iconst (v := iI (0)) X.1 X.2.1 d_La_get_1 (by decide) ?_
  refine lv_aload_n X.1 X.2.1 d_La_get_2 rfl (lv_at hl 0 rfl) ?_
  refine lv_iload_n X.1 X.2.1 d_La_get_3 rfl (lv_at hl 1 rfl) ?_
  refine lv_iload_n X.1 X.2.1 d_La_get_4 rfl (lv_at hl 2 rfl) ?_
  refine q_cVi (n := 2) (i := 122) (ci := 4) (k1 := 2) (As := [.int (iI r), .int (iI i)]) (rest := [.int (iI (0)), .ref (ad 137)]) X ev w hml hl.1 hM (by omega) hC rfl k_m_La_21 k_im_Ff_get k_se_Ff_get k_i_Ff k_co_Ff_get (by decide +kernel) rfl ⟨(Nat.le_of_ble_eq_true rfl), (Nat.le_of_ble_eq_true rfl)⟩ ⟨rfl, rfl⟩ ⟨(Nat.le_of_ble_eq_true rfl), (Nat.le_of_ble_eq_true rfl)⟩ rfl (Nat.le_of_ble_eq_true rfl) d_La_get_5 (fun E ce q9 C1 H locs hx w g1 g2 g3 => ?_) (fun x C1 H locs hp w => ?_)
  · obtain ⟨k, hk⟩ := hX E C1 hx
    rcases hk with ⟨rfl, rfl⟩ | ⟨rfl, rfl⟩
    · refine vx_catch (own := RLa) (name := xNSE) X.2.2.1 [] ⟨0, 10, 13, 19⟩ [⟨0, 10, 17, 13⟩] (by rw [htab]; rfl) (fun z hz => absurd hz List.not_mem_nil) (by decide) (by decide) (X.2.2.2 _ k_c_La_19) (ca_NSE ev) g1 g2 g3 ?_
      refine lv_astore (lv' := [(4, .ref q9), (0, .ref (ad 122)), (1, .int (iI r)), (2, .int (iI i)), (3, .ref (ad 137))]) X.1 X.2.1 d_La_get_13 hl (by decide) rfl (fun ls hl => ?_)
      refine lv_iconst (v := iI (1)) X.1 X.2.1 d_La_get_15 (by decide) ?_
      exact q_iret X hr hlk w (.inr ⟨xNSE, 1, hx, .inl ⟨rfl, rfl⟩, rfl⟩) d_La_get_16 (Nat.le_of_ble_eq_true rfl) (Nat.le_of_ble_eq_true rfl)
    · refine vx_catch (own := RLa) (name := xIAE) X.2.2.1 [⟨0, 10, 13, 19⟩] ⟨0, 10, 17, 13⟩ [] (by rw [htab]; rfl) (fun z hz => by obtain rfl := List.mem_singleton.mp hz; exact Or.inr ⟨by decide, xNSE, X.2.2.2 _ k_c_La_19, ev.2.2.2.2.2.2.2.2.2 (xIAE, xNSE) (by decide)⟩) (by decide) (by decide) (X.2.2.2 _ k_c_La_13) (ca_IAE ev) g1 g2 g3 ?_
      refine lv_astore (lv' := [(4, .ref q9), (0, .ref (ad 122)), (1, .int (iI r)), (2, .int (iI i)), (3, .ref (ad 137))]) X.1 X.2.1 d_La_get_17 hl (by decide) rfl (fun ls hl => ?_)
      refine lv_iconst (v := iI (2)) X.1 X.2.1 d_La_get_19 (by decide) ?_
      exact q_iret X hr hlk w (.inr ⟨xIAE, 2, hx, .inr ⟨rfl, rfl⟩, rfl⟩) d_La_get_20 (Nat.le_of_ble_eq_true rfl) (Nat.le_of_ble_eq_true rfl)
  · obtain ⟨ov, hov⟩ := hP x C1 hp
    refine W.eq (g2 := F0 m 8 ls [.int (iI x.toInt), .int (iI (0)), .ref (ad 137)]) (by rw [iI_back]) ?_
    refine l_i2l X (rg_back x) d_La_get_8 ?_
    refine w_lst (i := 137) (n := 1) (F := ov) (z := 0) (v := x.toInt) X w (by omega) hov 0 rfl (by decide) (by decide) d_La_get_9 (fun H locs w => ?_)
    refine lv_goto (tgt := 21) X.1 X.2.1 d_La_get_10 (by decide) ?_
    refine lv_iconst (v := iI (0)) X.1 X.2.1 d_La_get_21 (by decide) ?_
    exact q_iret X hr hlk w (.inl ⟨rfl, x, C1, ov, hp, hov, rfl⟩) d_La_get_22 (Nat.le_of_ble_eq_true rfl) (Nat.le_of_ble_eq_true rfl)
theorem c_La_join {l : Launch} {D : va_G} {cs : Nat → ClassId} {A : Nat → Prop} {ad : Nat → Nat} {T : Nat} {C : Nat → va_E} {P : Int32 → (Nat → va_E) → Prop} {px : String → (Nat → va_E) → Prop} {t op a b : Int} (hT : 213 ≤ T) (hC : C 122 = .inr (4, ffF ad)) (hM : FXi l y_Ff_join ws_Ff_join { frames := 7, cells := 4, slots := 24, locals := 123 } D cs A ad T (.ref (ad 122) :: [.int (iI t), .int (iI op), .int (iI a), .int (iI b)]) C P px 4) (hP : ∀ x C1, P x C1 → ∃ ov, C1 137 = aL cs 1 ov) (hX : ∀ E C1, px E C1 → ∃ k : Int, (fun E k => (E = xNSE ∧ k = 1) ∨ (E = xIAE ∧ k = 2) ∨ (E = xARE ∧ k = 3)) E k) : Cw l y_La_join ws_La_join { frames := 8, cells := 4, slots := 24, locals := 150 } D cs A ad T [.ref (ad 122), .int (iI t), .int (iI op), .int (iI a), .int (iI b), .ref (ad 137)] C (wPo cs vfI P px (fun E k => (E = xNSE ∧ k = 1) ∨ (E = xIAE ∧ k = 2) ∨ (E = xARE ∧ k = 3))) 4 := by
  refine w_bodyW (by decide) (Nat.le_of_ble_eq_true rfl) ?_
  intro p e s m below meth c X hr hlk hml htab ev w ls hl
  have hl : lv_has ls 7 [(0, .ref (ad 122)), (1, .int (iI t)), (2, .int (iI op)), (3, .int (iI a)), (4, .int (iI b)), (5, .ref (ad 137))] := hl
  refine lv_aload X.1 X.2.1 d_La_join_0 (lv_at hl 5 rfl) ?_
  refine lv_iconst (v := iI (0)) X.1 X.2.1 d_La_join_2 (by decide) ?_
  refine lv_aload_n X.1 X.2.1 d_La_join_3 rfl (lv_at hl 0 rfl) ?_
  refine lv_iload_n X.1 X.2.1 d_La_join_4 rfl (lv_at hl 1 rfl) ?_
  refine lv_iload_n X.1 X.2.1 d_La_join_5 rfl (lv_at hl 2 rfl) ?_
  refine lv_iload_n X.1 X.2.1 d_La_join_6 rfl (lv_at hl 3 rfl) ?_
  refine lv_iload X.1 X.2.1 d_La_join_7 (lv_at hl 4 rfl) ?_
  refine q_cVi (n := 4) (i := 122) (ci := 4) (k1 := 4) (As := [.int (iI t), .int (iI op), .int (iI a), .int (iI b)]) (rest := [.int (iI (0)), .ref (ad 137)]) X ev w hml hl.1 hM (by omega) hC rfl k_m_La_25 k_im_Ff_join k_se_Ff_join k_i_Ff k_co_Ff_join (by decide +kernel) rfl ⟨(Nat.le_of_ble_eq_true rfl), (Nat.le_of_ble_eq_true rfl)⟩ ⟨rfl, rfl⟩ ⟨(Nat.le_of_ble_eq_true rfl), (Nat.le_of_ble_eq_true rfl)⟩ rfl (Nat.le_of_ble_eq_true rfl) d_La_join_9 (fun E ce q9 C1 H locs hx w g1 g2 g3 => ?_) (fun x C1 H locs hp w => ?_)
  · obtain ⟨k, hk⟩ := hX E C1 hx
    rcases hk with ⟨rfl, rfl⟩ | ⟨rfl, rfl⟩ | ⟨rfl, rfl⟩
    · refine vx_catch (own := RLa) (name := xNSE) X.2.2.1 [] ⟨0, 14, 17, 19⟩ [⟨0, 14, 21, 13⟩, ⟨0, 14, 25, 29⟩] (by rw [htab]; rfl) (fun z hz => absurd hz List.not_mem_nil) (by decide) (by decide) (X.2.2.2 _ k_c_La_19) (ca_NSE ev) g1 g2 g3 ?_
      refine lv_astore (lv' := [(6, .ref q9), (0, .ref (ad 122)), (1, .int (iI t)), (2, .int (iI op)), (3, .int (iI a)), (4, .int (iI b)), (5, .ref (ad 137))]) X.1 X.2.1 d_La_join_17 hl (by decide) rfl (fun ls hl => ?_)
      refine lv_iconst (v := iI (1)) X.1 X.2.1 d_La_join_19 (by decide) ?_
      exact q_iret X hr hlk w (.inr ⟨xNSE, 1, hx, .inl ⟨rfl, rfl⟩, rfl⟩) d_La_join_20 (Nat.le_of_ble_eq_true rfl) (Nat.le_of_ble_eq_true rfl)
    · refine vx_catch (own := RLa) (name := xIAE) X.2.2.1 [⟨0, 14, 17, 19⟩] ⟨0, 14, 21, 13⟩ [⟨0, 14, 25, 29⟩] (by rw [htab]; rfl) (fun z hz => by obtain rfl := List.mem_singleton.mp hz; exact Or.inr ⟨by decide, xNSE, X.2.2.2 _ k_c_La_19, ev.2.2.2.2.2.2.2.2.2 (xIAE, xNSE) (by decide)⟩) (by decide) (by decide) (X.2.2.2 _ k_c_La_13) (ca_IAE ev) g1 g2 g3 ?_
      refine lv_astore (lv' := [(6, .ref q9), (0, .ref (ad 122)), (1, .int (iI t)), (2, .int (iI op)), (3, .int (iI a)), (4, .int (iI b)), (5, .ref (ad 137))]) X.1 X.2.1 d_La_join_21 hl (by decide) rfl (fun ls hl => ?_)
      refine lv_iconst (v := iI (2)) X.1 X.2.1 d_La_join_23 (by decide) ?_
      exact q_iret X hr hlk w (.inr ⟨xIAE, 2, hx, .inr (.inl ⟨rfl, rfl⟩), rfl⟩) d_La_join_24 (Nat.le_of_ble_eq_true rfl) (Nat.le_of_ble_eq_true rfl)
    · refine vx_catch (own := RLa) (name := xARE) X.2.2.1 [⟨0, 14, 17, 19⟩, ⟨0, 14, 21, 13⟩] ⟨0, 14, 25, 29⟩ [] (by rw [htab]; rfl) (fun z hz => by
          rcases List.mem_cons.mp hz with rfl | hz
          · exact Or.inr ⟨by decide, xNSE, X.2.2.2 _ k_c_La_19, ev.2.2.2.2.2.2.2.2.2 (xARE, xNSE) (by decide)⟩
          · obtain rfl := List.mem_singleton.mp hz; exact Or.inr ⟨by decide, xIAE, X.2.2.2 _ k_c_La_13, ev.2.2.2.2.2.2.2.2.2 (xARE, xIAE) (by decide)⟩) (by decide) (by decide) (X.2.2.2 _ k_c_La_29) (ca_ARE ev) g1 g2 g3 ?_
      refine lv_astore (lv' := [(6, .ref q9), (0, .ref (ad 122)), (1, .int (iI t)), (2, .int (iI op)), (3, .int (iI a)), (4, .int (iI b)), (5, .ref (ad 137))]) X.1 X.2.1 d_La_join_25 hl (by decide) rfl (fun ls hl => ?_)
      refine lv_iconst (v := iI (3)) X.1 X.2.1 d_La_join_27 (by decide) ?_
      exact q_iret X hr hlk w (.inr ⟨xARE, 3, hx, .inr (.inr ⟨rfl, rfl⟩), rfl⟩) d_La_join_28 (Nat.le_of_ble_eq_true rfl) (Nat.le_of_ble_eq_true rfl)
  · obtain ⟨ov, hov⟩ := hP x C1 hp
    refine W.eq (g2 := F0 m 12 ls [.int (iI x.toInt), .int (iI (0)), .ref (ad 137)]) (by rw [iI_back]) ?_
    refine l_i2l X (rg_back x) d_La_join_12 ?_
    refine w_lst (i := 137) (n := 1) (F := ov) (z := 0) (v := x.toInt) X w (by omega) hov 0 rfl (by decide) (by decide) d_La_join_13 (fun H locs w => ?_)
    refine lv_goto (tgt := 29) X.1 X.2.1 d_La_join_14 (by decide) ?_
    refine lv_iconst (v := iI (0)) X.1 X.2.1 d_La_join_29 (by decide) ?_
    exact q_iret X hr hlk w (.inl ⟨rfl, x, C1, ov, hp, hov, rfl⟩) d_La_join_30 (Nat.le_of_ble_eq_true rfl) (Nat.le_of_ble_eq_true rfl)
theorem c_La_power {l : Launch} {D : va_G} {cs : Nat → ClassId} {A : Nat → Prop} {ad : Nat → Nat} {T : Nat} {C : Nat → va_E} {P : Int32 → (Nat → va_E) → Prop} {px : String → (Nat → va_E) → Prop} {t a n d : Int} (hT : 213 ≤ T) (hC : C 122 = .inr (4, ffF ad)) (hM : FXi l y_Ff_power ws_Ff_power { frames := 7, cells := 4, slots := 24, locals := 123 } D cs A ad T (.ref (ad 122) :: [.int (iI t), .int (iI a), .int (iI n), .int (iI d)]) C P px 4) (hP : ∀ x C1, P x C1 → ∃ ov, C1 137 = aL cs 1 ov) (hX : ∀ E C1, px E C1 → ∃ k : Int, (fun E k => (E = xNSE ∧ k = 1) ∨ (E = xIAE ∧ k = 2)) E k) : Cw l y_La_power ws_La_power { frames := 8, cells := 4, slots := 24, locals := 150 } D cs A ad T [.ref (ad 122), .int (iI t), .int (iI a), .int (iI n), .int (iI d), .ref (ad 137)] C (wPo cs vfI P px (fun E k => (E = xNSE ∧ k = 1) ∨ (E = xIAE ∧ k = 2))) 4 := by
  refine w_bodyW (by decide) (Nat.le_of_ble_eq_true rfl) ?_
  intro p e s m below meth c X hr hlk hml htab ev w ls hl
  have hl : lv_has ls 7 [(0, .ref (ad 122)), (1, .int (iI t)), (2, .int (iI a)), (3, .int (iI n)), (4, .int (iI d)), (5, .ref (ad 137))] := hl
  refine lv_aload X.1 X.2.1 d_La_power_0 (lv_at hl 5 rfl) ?_
  refine lv_iconst (v := iI (0)) X.1 X.2.1 d_La_power_2 (by decide) ?_
  refine lv_aload_n X.1 X.2.1 d_La_power_3 rfl (lv_at hl 0 rfl) ?_
  refine lv_iload_n X.1 X.2.1 d_La_power_4 rfl (lv_at hl 1 rfl) ?_
  refine lv_iload_n X.1 X.2.1 d_La_power_5 rfl (lv_at hl 2 rfl) ?_
  refine lv_iload_n X.1 X.2.1 d_La_power_6 rfl (lv_at hl 3 rfl) ?_
  refine lv_iload X.1 X.2.1 d_La_power_7 (lv_at hl 4 rfl) ?_
  refine q_cVi (n := 4) (i := 122) (ci := 4) (k1 := 4) (As := [.int (iI t), .int (iI a), .int (iI n), .int (iI d)]) (rest := [.int (iI (0)), .ref (ad 137)]) X ev w hml hl.1 hM (by omega) hC rfl k_m_La_31 k_im_Ff_power k_se_Ff_power k_i_Ff k_co_Ff_power (by decide +kernel) rfl ⟨(Nat.le_of_ble_eq_true rfl), (Nat.le_of_ble_eq_true rfl)⟩ ⟨rfl, rfl⟩ ⟨(Nat.le_of_ble_eq_true rfl), (Nat.le_of_ble_eq_true rfl)⟩ rfl (Nat.le_of_ble_eq_true rfl) d_La_power_9 (fun E ce q9 C1 H locs hx w g1 g2 g3 => ?_) (fun x C1 H locs hp w => ?_)
  · obtain ⟨k, hk⟩ := hX E C1 hx
    rcases hk with ⟨rfl, rfl⟩ | ⟨rfl, rfl⟩
    · refine vx_catch (own := RLa) (name := xNSE) X.2.2.1 [] ⟨0, 14, 17, 19⟩ [⟨0, 14, 21, 13⟩] (by rw [htab]; rfl) (fun z hz => absurd hz List.not_mem_nil) (by decide) (by decide) (X.2.2.2 _ k_c_La_19) (ca_NSE ev) g1 g2 g3 ?_
      refine lv_astore (lv' := [(6, .ref q9), (0, .ref (ad 122)), (1, .int (iI t)), (2, .int (iI a)), (3, .int (iI n)), (4, .int (iI d)), (5, .ref (ad 137))]) X.1 X.2.1 d_La_power_17 hl (by decide) rfl (fun ls hl => ?_)
      refine lv_iconst (v := iI (1)) X.1 X.2.1 d_La_power_19 (by decide) ?_
      exact q_iret X hr hlk w (.inr ⟨xNSE, 1, hx, .inl ⟨rfl, rfl⟩, rfl⟩) d_La_power_20 (Nat.le_of_ble_eq_true rfl) (Nat.le_of_ble_eq_true rfl)
    · refine vx_catch (own := RLa) (name := xIAE) X.2.2.1 [⟨0, 14, 17, 19⟩] ⟨0, 14, 21, 13⟩ [] (by rw [htab]; rfl) (fun z hz => by obtain rfl := List.mem_singleton.mp hz; exact Or.inr ⟨by decide, xNSE, X.2.2.2 _ k_c_La_19, ev.2.2.2.2.2.2.2.2.2 (xIAE, xNSE) (by decide)⟩) (by decide) (by decide) (X.2.2.2 _ k_c_La_13) (ca_IAE ev) g1 g2 g3 ?_
      refine lv_astore (lv' := [(6, .ref q9), (0, .ref (ad 122)), (1, .int (iI t)), (2, .int (iI a)), (3, .int (iI n)), (4, .int (iI d)), (5, .ref (ad 137))]) X.1 X.2.1 d_La_power_21 hl (by decide) rfl (fun ls hl => ?_)
      refine lv_iconst (v := iI (2)) X.1 X.2.1 d_La_power_23 (by decide) ?_
      exact q_iret X hr hlk w (.inr ⟨xIAE, 2, hx, .inr ⟨rfl, rfl⟩, rfl⟩) d_La_power_24 (Nat.le_of_ble_eq_true rfl) (Nat.le_of_ble_eq_true rfl)
  · obtain ⟨ov, hov⟩ := hP x C1 hp
    refine W.eq (g2 := F0 m 12 ls [.int (iI x.toInt), .int (iI (0)), .ref (ad 137)]) (by rw [iI_back]) ?_
    refine l_i2l X (rg_back x) d_La_power_12 ?_
    refine w_lst (i := 137) (n := 1) (F := ov) (z := 0) (v := x.toInt) X w (by omega) hov 0 rfl (by decide) (by decide) d_La_power_13 (fun H locs w => ?_)
    refine lv_goto (tgt := 25) X.1 X.2.1 d_La_power_14 (by decide) ?_
    refine lv_iconst (v := iI (0)) X.1 X.2.1 d_La_power_25 (by decide) ?_
    exact q_iret X hr hlk w (.inl ⟨rfl, x, C1, ov, hp, hov, rfl⟩) d_La_power_26 (Nat.le_of_ble_eq_true rfl) (Nat.le_of_ble_eq_true rfl)
theorem c_La_inverse {l : Launch} {D : va_G} {cs : Nat → ClassId} {A : Nat → Prop} {ad : Nat → Nat} {T : Nat} {C : Nat → va_E} {P : Int32 → (Nat → va_E) → Prop} {px : String → (Nat → va_E) → Prop} {t a d : Int} (hT : 213 ≤ T) (hC : C 122 = .inr (4, ffF ad)) (hM : FXi l y_Ff_inverse ws_Ff_inverse { frames := 7, cells := 5, slots := 30, locals := 111 } D cs A ad T (.ref (ad 122) :: [.int (iI t), .int (iI a), .int (iI d)]) C P px 5) (hP : ∀ x C1, P x C1 → ∃ ov, C1 137 = aL cs 1 ov) (hX : ∀ E C1, px E C1 → ∃ k : Int, (fun E k => (E = xNSE ∧ k = 1) ∨ (E = xIAE ∧ k = 2) ∨ (E = xISE ∧ k = 3)) E k) : Cw l y_La_inverse ws_La_inverse { frames := 8, cells := 5, slots := 30, locals := 137 } D cs A ad T [.ref (ad 122), .int (iI t), .int (iI a), .int (iI d), .ref (ad 137)] C (wPo cs vfI P px (fun E k => (E = xNSE ∧ k = 1) ∨ (E = xIAE ∧ k = 2) ∨ (E = xISE ∧ k = 3))) 5 := by
  refine w_bodyW (by decide) (Nat.le_of_ble_eq_true rfl) ?_
  intro p e s m below meth c X hr hlk hml htab ev w ls hl
  have hl : lv_has ls 6 [(0, .ref (ad 122)), (1, .int (iI t)), (2, .int (iI a)), (3, .int (iI d)), (4, .ref (ad 137))] := hl
  refine lv_aload X.1 X.2.1 d_La_inverse_0 (lv_at hl 4 rfl) ?_
  refine lv_iconst (v := iI (0)) X.1 X.2.1 d_La_inverse_2 (by decide) ?_
  refine lv_aload_n X.1 X.2.1 d_La_inverse_3 rfl (lv_at hl 0 rfl) ?_
  refine lv_iload_n X.1 X.2.1 d_La_inverse_4 rfl (lv_at hl 1 rfl) ?_
  refine lv_iload_n X.1 X.2.1 d_La_inverse_5 rfl (lv_at hl 2 rfl) ?_
  refine lv_iload_n X.1 X.2.1 d_La_inverse_6 rfl (lv_at hl 3 rfl) ?_
  refine q_cVi (n := 3) (i := 122) (ci := 4) (k1 := 5) (As := [.int (iI t), .int (iI a), .int (iI d)]) (rest := [.int (iI (0)), .ref (ad 137)]) X ev w hml hl.1 hM (by omega) hC rfl k_m_La_34 k_im_Ff_inverse k_se_Ff_inverse k_i_Ff k_co_Ff_inverse (by decide +kernel) rfl ⟨(Nat.le_of_ble_eq_true rfl), (Nat.le_of_ble_eq_true rfl)⟩ ⟨rfl, rfl⟩ ⟨(Nat.le_of_ble_eq_true rfl), (Nat.le_of_ble_eq_true rfl)⟩ rfl (Nat.le_of_ble_eq_true rfl) d_La_inverse_7 (fun E ce q9 C1 H locs hx w g1 g2 g3 => ?_) (fun x C1 H locs hp w => ?_)
  · obtain ⟨k, hk⟩ := hX E C1 hx
    rcases hk with ⟨rfl, rfl⟩ | ⟨rfl, rfl⟩ | ⟨rfl, rfl⟩
    · refine vx_catch (own := RLa) (name := xNSE) X.2.2.1 [] ⟨0, 12, 15, 19⟩ [⟨0, 12, 19, 13⟩, ⟨0, 12, 23, 37⟩] (by rw [htab]; rfl) (fun z hz => absurd hz List.not_mem_nil) (by decide) (by decide) (X.2.2.2 _ k_c_La_19) (ca_NSE ev) g1 g2 g3 ?_
      refine lv_astore (lv' := [(5, .ref q9), (0, .ref (ad 122)), (1, .int (iI t)), (2, .int (iI a)), (3, .int (iI d)), (4, .ref (ad 137))]) X.1 X.2.1 d_La_inverse_15 hl (by decide) rfl (fun ls hl => ?_)
      refine lv_iconst (v := iI (1)) X.1 X.2.1 d_La_inverse_17 (by decide) ?_
      exact q_iret X hr hlk w (.inr ⟨xNSE, 1, hx, .inl ⟨rfl, rfl⟩, rfl⟩) d_La_inverse_18 (Nat.le_of_ble_eq_true rfl) (Nat.le_of_ble_eq_true rfl)
    · refine vx_catch (own := RLa) (name := xIAE) X.2.2.1 [⟨0, 12, 15, 19⟩] ⟨0, 12, 19, 13⟩ [⟨0, 12, 23, 37⟩] (by rw [htab]; rfl) (fun z hz => by obtain rfl := List.mem_singleton.mp hz; exact Or.inr ⟨by decide, xNSE, X.2.2.2 _ k_c_La_19, ev.2.2.2.2.2.2.2.2.2 (xIAE, xNSE) (by decide)⟩) (by decide) (by decide) (X.2.2.2 _ k_c_La_13) (ca_IAE ev) g1 g2 g3 ?_
      refine lv_astore (lv' := [(5, .ref q9), (0, .ref (ad 122)), (1, .int (iI t)), (2, .int (iI a)), (3, .int (iI d)), (4, .ref (ad 137))]) X.1 X.2.1 d_La_inverse_19 hl (by decide) rfl (fun ls hl => ?_)
      refine lv_iconst (v := iI (2)) X.1 X.2.1 d_La_inverse_21 (by decide) ?_
      exact q_iret X hr hlk w (.inr ⟨xIAE, 2, hx, .inr (.inl ⟨rfl, rfl⟩), rfl⟩) d_La_inverse_22 (Nat.le_of_ble_eq_true rfl) (Nat.le_of_ble_eq_true rfl)
    · refine vx_catch (own := RLa) (name := xISE) X.2.2.1 [⟨0, 12, 15, 19⟩, ⟨0, 12, 19, 13⟩] ⟨0, 12, 23, 37⟩ [] (by rw [htab]; rfl) (fun z hz => by
          rcases List.mem_cons.mp hz with rfl | hz
          · exact Or.inr ⟨by decide, xNSE, X.2.2.2 _ k_c_La_19, ev.2.2.2.2.2.2.2.2.2 (xISE, xNSE) (by decide)⟩
          · obtain rfl := List.mem_singleton.mp hz; exact Or.inr ⟨by decide, xIAE, X.2.2.2 _ k_c_La_13, ev.2.2.2.2.2.2.2.2.2 (xISE, xIAE) (by decide)⟩) (by decide) (by decide) (X.2.2.2 _ k_c_La_37) (ca_ISE ev) g1 g2 g3 ?_
      refine lv_astore (lv' := [(5, .ref q9), (0, .ref (ad 122)), (1, .int (iI t)), (2, .int (iI a)), (3, .int (iI d)), (4, .ref (ad 137))]) X.1 X.2.1 d_La_inverse_23 hl (by decide) rfl (fun ls hl => ?_)
      refine lv_iconst (v := iI (3)) X.1 X.2.1 d_La_inverse_25 (by decide) ?_
      exact q_iret X hr hlk w (.inr ⟨xISE, 3, hx, .inr (.inr ⟨rfl, rfl⟩), rfl⟩) d_La_inverse_26 (Nat.le_of_ble_eq_true rfl) (Nat.le_of_ble_eq_true rfl)
  · obtain ⟨ov, hov⟩ := hP x C1 hp
    refine W.eq (g2 := F0 m 10 ls [.int (iI x.toInt), .int (iI (0)), .ref (ad 137)]) (by rw [iI_back]) ?_
    refine l_i2l X (rg_back x) d_La_inverse_10 ?_
    refine w_lst (i := 137) (n := 1) (F := ov) (z := 0) (v := x.toInt) X w (by omega) hov 0 rfl (by decide) (by decide) d_La_inverse_11 (fun H locs w => ?_)
    refine lv_goto (tgt := 27) X.1 X.2.1 d_La_inverse_12 (by decide) ?_
    refine lv_iconst (v := iI (0)) X.1 X.2.1 d_La_inverse_27 (by decide) ?_
    exact q_iret X hr hlk w (.inl ⟨rfl, x, C1, ov, hp, hov, rfl⟩) d_La_inverse_28 (Nat.le_of_ble_eq_true rfl) (Nat.le_of_ble_eq_true rfl)
theorem c_La_value {l : Launch} {D : va_G} {cs : Nat → ClassId} {A : Nat → Prop} {ad : Nat → Nat} {T : Nat} {C : Nat → va_E} {P : Int32 → (Nat → va_E) → Prop} {px : String → (Nat → va_E) → Prop} {a v : Int} (hT : 213 ≤ T) (hC : C 122 = .inr (4, ffF ad)) (hM : FXi l y_Ff_value ws_Ff_value { frames := 7, cells := 1, slots := 6, locals := 111 } D cs A ad T (.ref (ad 122) :: [.int (iI a), .int (iI v)]) C P px 1) (hP : ∀ x C1, P x C1 → ∃ ov, C1 137 = aL cs 1 ov) (hX : ∀ E C1, px E C1 → ∃ k : Int, (fun E k => E = xNSE ∧ k = 1) E k) : Cw l y_La_value ws_La_value { frames := 8, cells := 1, slots := 6, locals := 133 } D cs A ad T [.ref (ad 122), .int (iI a), .int (iI v), .ref (ad 137)] C (wPo cs vfI P px (fun E k => E = xNSE ∧ k = 1)) 1 := by
  refine w_bodyW (by decide) (Nat.le_of_ble_eq_true rfl) ?_
  intro p e s m below meth c X hr hlk hml htab ev w ls hl
  have hl : lv_has ls 5 [(0, .ref (ad 122)), (1, .int (iI a)), (2, .int (iI v)), (3, .ref (ad 137))] := hl
  refine lv_aload_n X.1 X.2.1 d_La_value_0 rfl (lv_at hl 3 rfl) ?_
  refine lv_iconst (v := iI (0)) X.1 X.2.1 d_La_value_1 (by decide) ?_
  refine lv_aload_n X.1 X.2.1 d_La_value_2 rfl (lv_at hl 0 rfl) ?_
  refine lv_iload_n X.1 X.2.1 d_La_value_3 rfl (lv_at hl 1 rfl) ?_
  refine lv_iload_n X.1 X.2.1 d_La_value_4 rfl (lv_at hl 2 rfl) ?_
  refine q_cVi (n := 2) (i := 122) (ci := 4) (k1 := 1) (As := [.int (iI a), .int (iI v)]) (rest := [.int (iI (0)), .ref (ad 137)]) X ev w hml hl.1 hM (by omega) hC rfl k_m_La_39 k_im_Ff_value k_se_Ff_value k_i_Ff k_co_Ff_value (by decide +kernel) rfl ⟨(Nat.le_of_ble_eq_true rfl), (Nat.le_of_ble_eq_true rfl)⟩ ⟨rfl, rfl⟩ ⟨(Nat.le_of_ble_eq_true rfl), (Nat.le_of_ble_eq_true rfl)⟩ rfl (Nat.le_of_ble_eq_true rfl) d_La_value_5 (fun E ce q9 C1 H locs hx w g1 g2 g3 => ?_) (fun x C1 H locs hp w => ?_)
  · obtain ⟨k, hk⟩ := hX E C1 hx
    obtain ⟨rfl, rfl⟩ := hk
    refine vx_catch (own := RLa) (name := xNSE) X.2.2.1 [] ⟨0, 10, 13, 19⟩ [] (by rw [htab]; rfl) (fun z hz => absurd hz List.not_mem_nil) (by decide) (by decide) (X.2.2.2 _ k_c_La_19) (ca_NSE ev) g1 g2 g3 ?_
    refine lv_astore (lv' := [(4, .ref q9), (0, .ref (ad 122)), (1, .int (iI a)), (2, .int (iI v)), (3, .ref (ad 137))]) X.1 X.2.1 d_La_value_13 hl (by decide) rfl (fun ls hl => ?_)
    refine lv_iconst (v := iI (1)) X.1 X.2.1 d_La_value_15 (by decide) ?_
    exact q_iret X hr hlk w (.inr ⟨xNSE, 1, hx, ⟨rfl, rfl⟩, rfl⟩) d_La_value_16 (Nat.le_of_ble_eq_true rfl) (Nat.le_of_ble_eq_true rfl)
  · obtain ⟨ov, hov⟩ := hP x C1 hp
    refine W.eq (g2 := F0 m 8 ls [.int (iI x.toInt), .int (iI (0)), .ref (ad 137)]) (by rw [iI_back]) ?_
    refine l_i2l X (rg_back x) d_La_value_8 ?_
    refine w_lst (i := 137) (n := 1) (F := ov) (z := 0) (v := x.toInt) X w (by omega) hov 0 rfl (by decide) (by decide) d_La_value_9 (fun H locs w => ?_)
    refine lv_goto (tgt := 17) X.1 X.2.1 d_La_value_10 (by decide) ?_
    refine lv_iconst (v := iI (0)) X.1 X.2.1 d_La_value_17 (by decide) ?_
    exact q_iret X hr hlk w (.inl ⟨rfl, x, C1, ov, hp, hov, rfl⟩) d_La_value_18 (Nat.le_of_ble_eq_true rfl) (Nat.le_of_ble_eq_true rfl)
theorem c_La_zeros {l : Launch} {D : va_G} {cs : Nat → ClassId} {A : Nat → Prop} {ad : Nat → Nat} {T : Nat} {C : Nat → va_E} {P : Int32 → (Nat → va_E) → Prop} {px : String → (Nat → va_E) → Prop} {a : Int} (hT : 213 ≤ T) (hC : C 122 = .inr (4, ffF ad)) (hM : FXi l y_Ff_zeros ws_Ff_zeros { frames := 7, cells := 1, slots := 6, locals := 111 } D cs A ad T (.ref (ad 122) :: [.int (iI a)]) C P px 1) (hP : ∀ x C1, P x C1 → ∃ ov, C1 137 = aL cs 1 ov) (hX : ∀ E C1, px E C1 → ∃ k : Int, (fun E k => E = xNSE ∧ k = 1) E k) : Cw l y_La_zeros ws_La_zeros { frames := 8, cells := 1, slots := 6, locals := 135 } D cs A ad T [.ref (ad 122), .int (iI a), .ref (ad 137)] C (wPo cs vfI P px (fun E k => E = xNSE ∧ k = 1)) 1 := by
  refine w_bodyW (by decide) (Nat.le_of_ble_eq_true rfl) ?_
  intro p e s m below meth c X hr hlk hml htab ev w ls hl
  have hl : lv_has ls 4 [(0, .ref (ad 122)), (1, .int (iI a)), (2, .ref (ad 137))] := hl
  refine lv_aload_n X.1 X.2.1 d_La_zeros_0 rfl (lv_at hl 2 rfl) ?_
  refine lv_iconst (v := iI (0)) X.1 X.2.1 d_La_zeros_1 (by decide) ?_
  refine lv_aload_n X.1 X.2.1 d_La_zeros_2 rfl (lv_at hl 0 rfl) ?_
  refine lv_iload_n X.1 X.2.1 d_La_zeros_3 rfl (lv_at hl 1 rfl) ?_
  refine q_cVi (n := 1) (i := 122) (ci := 4) (k1 := 1) (As := [.int (iI a)]) (rest := [.int (iI (0)), .ref (ad 137)]) X ev w hml hl.1 hM (by omega) hC rfl k_m_La_42 k_im_Ff_zeros k_se_Ff_zeros k_i_Ff k_co_Ff_zeros (by decide +kernel) rfl ⟨(Nat.le_of_ble_eq_true rfl), (Nat.le_of_ble_eq_true rfl)⟩ ⟨rfl, rfl⟩ ⟨(Nat.le_of_ble_eq_true rfl), (Nat.le_of_ble_eq_true rfl)⟩ rfl (Nat.le_of_ble_eq_true rfl) d_La_zeros_4 (fun E ce q9 C1 H locs hx w g1 g2 g3 => ?_) (fun x C1 H locs hp w => ?_)
  · obtain ⟨k, hk⟩ := hX E C1 hx
    obtain ⟨rfl, rfl⟩ := hk
    refine vx_catch (own := RLa) (name := xNSE) X.2.2.1 [] ⟨0, 9, 12, 19⟩ [] (by rw [htab]; rfl) (fun z hz => absurd hz List.not_mem_nil) (by decide) (by decide) (X.2.2.2 _ k_c_La_19) (ca_NSE ev) g1 g2 g3 ?_
    refine lv_astore_n (lv' := [(3, .ref q9), (0, .ref (ad 122)), (1, .int (iI a)), (2, .ref (ad 137))]) X.1 X.2.1 d_La_zeros_12 rfl hl (by decide) rfl (fun ls hl => ?_)
    refine lv_iconst (v := iI (1)) X.1 X.2.1 d_La_zeros_13 (by decide) ?_
    exact q_iret X hr hlk w (.inr ⟨xNSE, 1, hx, ⟨rfl, rfl⟩, rfl⟩) d_La_zeros_14 (Nat.le_of_ble_eq_true rfl) (Nat.le_of_ble_eq_true rfl)
  · obtain ⟨ov, hov⟩ := hP x C1 hp
    refine W.eq (g2 := F0 m 7 ls [.int (iI x.toInt), .int (iI (0)), .ref (ad 137)]) (by rw [iI_back]) ?_
    refine l_i2l X (rg_back x) d_La_zeros_7 ?_
    refine w_lst (i := 137) (n := 1) (F := ov) (z := 0) (v := x.toInt) X w (by omega) hov 0 rfl (by decide) (by decide) d_La_zeros_8 (fun H locs w => ?_)
    refine lv_goto (tgt := 15) X.1 X.2.1 d_La_zeros_9 (by decide) ?_
    refine lv_iconst (v := iI (0)) X.1 X.2.1 d_La_zeros_15 (by decide) ?_
    exact q_iret X hr hlk w (.inl ⟨rfl, x, C1, ov, hp, hov, rfl⟩) d_La_zeros_16 (Nat.le_of_ble_eq_true rfl) (Nat.le_of_ble_eq_true rfl)
theorem c_La_factor {l : Launch} {D : va_G} {cs : Nat → ClassId} {A : Nat → Prop} {ad : Nat → Nat} {T : Nat} {C : Nat → va_E} {P : Int32 → (Nat → va_E) → Prop} {px : String → (Nat → va_E) → Prop} {a : Int} (hT : 213 ≤ T) (hC : C 122 = .inr (4, ffF ad)) (hM : FXi l y_Ff_factor ws_Ff_factor { frames := 7, cells := 3, slots := 18, locals := 172 } D cs A ad T (.ref (ad 122) :: [.int (iI a)]) C P px 3) (hP : ∀ x C1, P x C1 → ∃ ov, C1 137 = aL cs 1 ov) (hX : ∀ E C1, px E C1 → ∃ k : Int, (fun E k => (E = xNSE ∧ k = 1) ∨ (E = xIAE ∧ k = 2)) E k) : Cw l y_La_factor ws_La_factor { frames := 8, cells := 3, slots := 18, locals := 194 } D cs A ad T [.ref (ad 122), .int (iI a), .ref (ad 137)] C (wPo cs vfI P px (fun E k => (E = xNSE ∧ k = 1) ∨ (E = xIAE ∧ k = 2))) 3 := by
  refine w_bodyW (by decide) (Nat.le_of_ble_eq_true rfl) ?_
  intro p e s m below meth c X hr hlk hml htab ev w ls hl
  have hl : lv_has ls 4 [(0, .ref (ad 122)), (1, .int (iI a)), (2, .ref (ad 137))] := hl
  refine lv_aload_n X.1 X.2.1 d_La_factor_0 rfl (lv_at hl 2 rfl) ?_
  refine lv_iconst (v := iI (0)) X.1 X.2.1 d_La_factor_1 (by decide) ?_
  refine lv_aload_n X.1 X.2.1 d_La_factor_2 rfl (lv_at hl 0 rfl) ?_
  refine lv_iload_n X.1 X.2.1 d_La_factor_3 rfl (lv_at hl 1 rfl) ?_
  refine q_cVi (n := 1) (i := 122) (ci := 4) (k1 := 3) (As := [.int (iI a)]) (rest := [.int (iI (0)), .ref (ad 137)]) X ev w hml hl.1 hM (by omega) hC rfl k_m_La_45 k_im_Ff_factor k_se_Ff_factor k_i_Ff k_co_Ff_factor (by decide +kernel) rfl ⟨(Nat.le_of_ble_eq_true rfl), (Nat.le_of_ble_eq_true rfl)⟩ ⟨rfl, rfl⟩ ⟨(Nat.le_of_ble_eq_true rfl), (Nat.le_of_ble_eq_true rfl)⟩ rfl (Nat.le_of_ble_eq_true rfl) d_La_factor_4 (fun E ce q9 C1 H locs hx w g1 g2 g3 => ?_) (fun x C1 H locs hp w => ?_)
  · obtain ⟨k, hk⟩ := hX E C1 hx
    rcases hk with ⟨rfl, rfl⟩ | ⟨rfl, rfl⟩
    · refine vx_catch (own := RLa) (name := xNSE) X.2.2.1 [] ⟨0, 9, 12, 19⟩ [⟨0, 9, 15, 13⟩] (by rw [htab]; rfl) (fun z hz => absurd hz List.not_mem_nil) (by decide) (by decide) (X.2.2.2 _ k_c_La_19) (ca_NSE ev) g1 g2 g3 ?_
      refine lv_astore_n (lv' := [(3, .ref q9), (0, .ref (ad 122)), (1, .int (iI a)), (2, .ref (ad 137))]) X.1 X.2.1 d_La_factor_12 rfl hl (by decide) rfl (fun ls hl => ?_)
      refine lv_iconst (v := iI (1)) X.1 X.2.1 d_La_factor_13 (by decide) ?_
      exact q_iret X hr hlk w (.inr ⟨xNSE, 1, hx, .inl ⟨rfl, rfl⟩, rfl⟩) d_La_factor_14 (Nat.le_of_ble_eq_true rfl) (Nat.le_of_ble_eq_true rfl)
    · refine vx_catch (own := RLa) (name := xIAE) X.2.2.1 [⟨0, 9, 12, 19⟩] ⟨0, 9, 15, 13⟩ [] (by rw [htab]; rfl) (fun z hz => by obtain rfl := List.mem_singleton.mp hz; exact Or.inr ⟨by decide, xNSE, X.2.2.2 _ k_c_La_19, ev.2.2.2.2.2.2.2.2.2 (xIAE, xNSE) (by decide)⟩) (by decide) (by decide) (X.2.2.2 _ k_c_La_13) (ca_IAE ev) g1 g2 g3 ?_
      refine lv_astore_n (lv' := [(3, .ref q9), (0, .ref (ad 122)), (1, .int (iI a)), (2, .ref (ad 137))]) X.1 X.2.1 d_La_factor_15 rfl hl (by decide) rfl (fun ls hl => ?_)
      refine lv_iconst (v := iI (2)) X.1 X.2.1 d_La_factor_16 (by decide) ?_
      exact q_iret X hr hlk w (.inr ⟨xIAE, 2, hx, .inr ⟨rfl, rfl⟩, rfl⟩) d_La_factor_17 (Nat.le_of_ble_eq_true rfl) (Nat.le_of_ble_eq_true rfl)
  · obtain ⟨ov, hov⟩ := hP x C1 hp
    refine W.eq (g2 := F0 m 7 ls [.int (iI x.toInt), .int (iI (0)), .ref (ad 137)]) (by rw [iI_back]) ?_
    refine l_i2l X (rg_back x) d_La_factor_7 ?_
    refine w_lst (i := 137) (n := 1) (F := ov) (z := 0) (v := x.toInt) X w (by omega) hov 0 rfl (by decide) (by decide) d_La_factor_8 (fun H locs w => ?_)
    refine lv_goto (tgt := 18) X.1 X.2.1 d_La_factor_9 (by decide) ?_
    refine lv_iconst (v := iI (0)) X.1 X.2.1 d_La_factor_18 (by decide) ?_
    exact q_iret X hr hlk w (.inl ⟨rfl, x, C1, ov, hp, hov, rfl⟩) d_La_factor_19 (Nat.le_of_ble_eq_true rfl) (Nat.le_of_ble_eq_true rfl)
theorem c_La_piece {l : Launch} {D : va_G} {cs : Nat → ClassId} {A : Nat → Prop} {ad : Nat → Nat} {T : Nat} {C : Nat → va_E} {P : Int32 → (Nat → va_E) → Prop} {px : String → (Nat → va_E) → Prop} {t i : Int} (hT : 213 ≤ T) (hC : C 122 = .inr (4, ffF ad)) (hM : FXi l y_Ff_piece ws_Ff_piece { frames := 7, cells := 2, slots := 12, locals := 111 } D cs A ad T (.ref (ad 122) :: [.int (iI t), .int (iI i)]) C P px 2) (hP : ∀ x C1, P x C1 → ∃ ov, C1 137 = aL cs 1 ov) (hX : ∀ E C1, px E C1 → ∃ k : Int, (fun E k => E = xNSE ∧ k = 1) E k) : Cw l y_La_piece ws_La_piece { frames := 8, cells := 2, slots := 12, locals := 134 } D cs A ad T [.ref (ad 122), .int (iI t), .int (iI i), .ref (ad 137)] C (wPo cs vfI P px (fun E k => E = xNSE ∧ k = 1)) 2 := by
  refine w_bodyW (by decide) (Nat.le_of_ble_eq_true rfl) ?_
  intro p e s m below meth c X hr hlk hml htab ev w ls hl
  have hl : lv_has ls 5 [(0, .ref (ad 122)), (1, .int (iI t)), (2, .int (iI i)), (3, .ref (ad 137))] := hl
  refine lv_aload_n X.1 X.2.1 d_La_piece_0 rfl (lv_at hl 3 rfl) ?_
  refine lv_iconst (v := iI (0)) X.1 X.2.1 d_La_piece_1 (by decide) ?_
  refine lv_aload_n X.1 X.2.1 d_La_piece_2 rfl (lv_at hl 0 rfl) ?_
  refine lv_iload_n X.1 X.2.1 d_La_piece_3 rfl (lv_at hl 1 rfl) ?_
  refine lv_iload_n X.1 X.2.1 d_La_piece_4 rfl (lv_at hl 2 rfl) ?_
  refine q_cVi (n := 2) (i := 122) (ci := 4) (k1 := 2) (As := [.int (iI t), .int (iI i)]) (rest := [.int (iI (0)), .ref (ad 137)]) X ev w hml hl.1 hM (by omega) hC rfl k_m_La_48 k_im_Ff_piece k_se_Ff_piece k_i_Ff k_co_Ff_piece (by decide +kernel) rfl ⟨(Nat.le_of_ble_eq_true rfl), (Nat.le_of_ble_eq_true rfl)⟩ ⟨rfl, rfl⟩ ⟨(Nat.le_of_ble_eq_true rfl), (Nat.le_of_ble_eq_true rfl)⟩ rfl (Nat.le_of_ble_eq_true rfl) d_La_piece_5 (fun E ce q9 C1 H locs hx w g1 g2 g3 => ?_) (fun x C1 H locs hp w => ?_)
  · obtain ⟨k, hk⟩ := hX E C1 hx
    obtain ⟨rfl, rfl⟩ := hk
    refine vx_catch (own := RLa) (name := xNSE) X.2.2.1 [] ⟨0, 10, 13, 19⟩ [] (by rw [htab]; rfl) (fun z hz => absurd hz List.not_mem_nil) (by decide) (by decide) (X.2.2.2 _ k_c_La_19) (ca_NSE ev) g1 g2 g3 ?_
    refine lv_astore (lv' := [(4, .ref q9), (0, .ref (ad 122)), (1, .int (iI t)), (2, .int (iI i)), (3, .ref (ad 137))]) X.1 X.2.1 d_La_piece_13 hl (by decide) rfl (fun ls hl => ?_)
    refine lv_iconst (v := iI (1)) X.1 X.2.1 d_La_piece_15 (by decide) ?_
    exact q_iret X hr hlk w (.inr ⟨xNSE, 1, hx, ⟨rfl, rfl⟩, rfl⟩) d_La_piece_16 (Nat.le_of_ble_eq_true rfl) (Nat.le_of_ble_eq_true rfl)
  · obtain ⟨ov, hov⟩ := hP x C1 hp
    refine W.eq (g2 := F0 m 8 ls [.int (iI x.toInt), .int (iI (0)), .ref (ad 137)]) (by rw [iI_back]) ?_
    refine l_i2l X (rg_back x) d_La_piece_8 ?_
    refine w_lst (i := 137) (n := 1) (F := ov) (z := 0) (v := x.toInt) X w (by omega) hov 0 rfl (by decide) (by decide) d_La_piece_9 (fun H locs w => ?_)
    refine lv_goto (tgt := 17) X.1 X.2.1 d_La_piece_10 (by decide) ?_
    refine lv_iconst (v := iI (0)) X.1 X.2.1 d_La_piece_17 (by decide) ?_
    exact q_iret X hr hlk w (.inl ⟨rfl, x, C1, ov, hp, hov, rfl⟩) d_La_piece_18 (Nat.le_of_ble_eq_true rfl) (Nat.le_of_ble_eq_true rfl)
theorem c_La_irreducible {l : Launch} {D : va_G} {cs : Nat → ClassId} {A : Nat → Prop} {ad : Nat → Nat} {T : Nat} {C : Nat → va_E} {P : Int32 → (Nat → va_E) → Prop} {px : String → (Nat → va_E) → Prop} {a : Int} (hT : 213 ≤ T) (hC : C 122 = .inr (4, ffF ad)) (hM : FXi l y_Ff_irreducible ws_Ff_irreducible { frames := 7, cells := 1, slots := 6, locals := 143 } D cs A ad T (.ref (ad 122) :: [.int (iI a)]) C P px 1) (hP : ∀ x C1, P x C1 → ∃ ov, C1 137 = aL cs 1 ov) (hX : ∀ E C1, px E C1 → ∃ k : Int, (fun E k => E = xNSE ∧ k = 1) E k) : Cw l y_La_irreducible ws_La_irreducible { frames := 8, cells := 1, slots := 6, locals := 164 } D cs A ad T [.ref (ad 122), .int (iI a), .ref (ad 137)] C (wPo cs vfZ P px (fun E k => E = xNSE ∧ k = 1)) 1 := by
  refine w_bodyW (by decide) (Nat.le_of_ble_eq_true rfl) ?_
  intro p e s m below meth c X hr hlk hml htab ev w ls hl
  have hl : lv_has ls 4 [(0, .ref (ad 122)), (1, .int (iI a)), (2, .ref (ad 137))] := hl
  refine lv_aload_n X.1 X.2.1 d_La_irreducible_0 rfl (lv_at hl 2 rfl) ?_
  refine lv_iconst (v := iI (0)) X.1 X.2.1 d_La_irreducible_1 (by decide) ?_
  refine lv_aload_n X.1 X.2.1 d_La_irreducible_2 rfl (lv_at hl 0 rfl) ?_
  refine lv_iload_n X.1 X.2.1 d_La_irreducible_3 rfl (lv_at hl 1 rfl) ?_
  refine q_cVi (n := 1) (i := 122) (ci := 4) (k1 := 1) (As := [.int (iI a)]) (rest := [.int (iI (0)), .ref (ad 137)]) X ev w hml hl.1 hM (by omega) hC rfl k_m_La_51 k_im_Ff_irreducible k_se_Ff_irreducible k_i_Ff k_co_Ff_irreducible (by decide +kernel) rfl ⟨(Nat.le_of_ble_eq_true rfl), (Nat.le_of_ble_eq_true rfl)⟩ ⟨rfl, rfl⟩ ⟨(Nat.le_of_ble_eq_true rfl), (Nat.le_of_ble_eq_true rfl)⟩ rfl (Nat.le_of_ble_eq_true rfl) d_La_irreducible_4 (fun E ce q9 C1 H locs hx w g1 g2 g3 => ?_) (fun x C1 H locs hp w => ?_)
  · obtain ⟨k, hk⟩ := hX E C1 hx
    obtain ⟨rfl, rfl⟩ := hk
    refine vx_catch (own := RLa) (name := xNSE) X.2.2.1 [] ⟨0, 16, 19, 19⟩ [] (by rw [htab]; rfl) (fun z hz => absurd hz List.not_mem_nil) (by decide) (by decide) (X.2.2.2 _ k_c_La_19) (ca_NSE ev) g1 g2 g3 ?_
    refine lv_astore_n (lv' := [(3, .ref q9), (0, .ref (ad 122)), (1, .int (iI a)), (2, .ref (ad 137))]) X.1 X.2.1 d_La_irreducible_19 rfl hl (by decide) rfl (fun ls hl => ?_)
    refine lv_iconst (v := iI (1)) X.1 X.2.1 d_La_irreducible_20 (by decide) ?_
    exact q_iret X hr hlk w (.inr ⟨xNSE, 1, hx, ⟨rfl, rfl⟩, rfl⟩) d_La_irreducible_21 (Nat.le_of_ble_eq_true rfl) (Nat.le_of_ble_eq_true rfl)
  · obtain ⟨ov, hov⟩ := hP x C1 hp
    refine W.eq (g2 := F0 m 7 ls [.int (iI x.toInt), .int (iI (0)), .ref (ad 137)]) (by rw [iI_back]) ?_
    refine z_eq (a := x.toInt) (tgt := 14) X (rg_back x) d_La_irreducible_7 (by decide) (fun h_7 => ?_) (fun h_7 => ?_)
    · have hz : vfZ x = 0 := by unfold vfZ; rw [if_pos (by rw [← h_7, iI_back])]
      refine lv_lconst (v := lI (0)) X.1 X.2.1 d_La_irreducible_14 (by decide) ?_
      refine w_lst (i := 137) (n := 1) (F := ov) (z := 0) (v := 0) X w (by omega) hov 0 rfl (by decide) (by decide) d_La_irreducible_15 (fun H locs w => ?_)
      refine lv_goto (tgt := 22) X.1 X.2.1 d_La_irreducible_16 (by decide) ?_
      refine lv_iconst (v := iI (0)) X.1 X.2.1 d_La_irreducible_22 (by decide) ?_
      exact q_iret X hr hlk w (.inl ⟨rfl, x, C1, ov, hp, hov, by rw [hz]⟩) d_La_irreducible_23 (Nat.le_of_ble_eq_true rfl) (Nat.le_of_ble_eq_true rfl)
    · have hz : vfZ x = 1 := by unfold vfZ; rw [if_neg (fun e9 => h_7 (by rw [e9]; rfl))]
      refine lv_lconst (v := lI (1)) X.1 X.2.1 d_La_irreducible_10 (by decide) ?_
      refine lv_goto (tgt := 15) X.1 X.2.1 d_La_irreducible_11 (by decide) ?_
      refine w_lst (i := 137) (n := 1) (F := ov) (z := 0) (v := 1) X w (by omega) hov 0 rfl (by decide) (by decide) d_La_irreducible_15 (fun H locs w => ?_)
      refine lv_goto (tgt := 22) X.1 X.2.1 d_La_irreducible_16 (by decide) ?_
      refine lv_iconst (v := iI (0)) X.1 X.2.1 d_La_irreducible_22 (by decide) ?_
      exact q_iret X hr hlk w (.inl ⟨rfl, x, C1, ov, hp, hov, by rw [hz]⟩) d_La_irreducible_23 (Nat.le_of_ble_eq_true rfl) (Nat.le_of_ble_eq_true rfl)
theorem c_La_order {l : Launch} {D : va_G} {cs : Nat → ClassId} {A : Nat → Prop} {ad : Nat → Nat} {T : Nat} {C : Nat → va_E} {P : Int32 → (Nat → va_E) → Prop} {px : String → (Nat → va_E) → Prop} {a : Int} (hT : 213 ≤ T) (hC : C 122 = .inr (4, ffF ad)) (hM : FXi l y_Ff_order ws_Ff_order { frames := 7, cells := 2, slots := 12, locals := 142 } D cs A ad T (.ref (ad 122) :: [.int (iI a)]) C P px 2) (hP : ∀ x C1, P x C1 → ∃ ov, C1 137 = aL cs 1 ov) (hX : ∀ E C1, px E C1 → ∃ k : Int, (fun E k => (E = xNSE ∧ k = 1) ∨ (E = xIAE ∧ k = 2)) E k) : Cw l y_La_order ws_La_order { frames := 8, cells := 2, slots := 12, locals := 164 } D cs A ad T [.ref (ad 122), .int (iI a), .ref (ad 137)] C (wPo cs vfI P px (fun E k => (E = xNSE ∧ k = 1) ∨ (E = xIAE ∧ k = 2))) 2 := by
  refine w_bodyW (by decide) (Nat.le_of_ble_eq_true rfl) ?_
  intro p e s m below meth c X hr hlk hml htab ev w ls hl
  have hl : lv_has ls 4 [(0, .ref (ad 122)), (1, .int (iI a)), (2, .ref (ad 137))] := hl
  refine lv_aload_n X.1 X.2.1 d_La_order_0 rfl (lv_at hl 2 rfl) ?_
  refine lv_iconst (v := iI (0)) X.1 X.2.1 d_La_order_1 (by decide) ?_
  refine lv_aload_n X.1 X.2.1 d_La_order_2 rfl (lv_at hl 0 rfl) ?_
  refine lv_iload_n X.1 X.2.1 d_La_order_3 rfl (lv_at hl 1 rfl) ?_
  refine q_cVi (n := 1) (i := 122) (ci := 4) (k1 := 2) (As := [.int (iI a)]) (rest := [.int (iI (0)), .ref (ad 137)]) X ev w hml hl.1 hM (by omega) hC rfl k_m_La_55 k_im_Ff_order k_se_Ff_order k_i_Ff k_co_Ff_order (by decide +kernel) rfl ⟨(Nat.le_of_ble_eq_true rfl), (Nat.le_of_ble_eq_true rfl)⟩ ⟨rfl, rfl⟩ ⟨(Nat.le_of_ble_eq_true rfl), (Nat.le_of_ble_eq_true rfl)⟩ rfl (Nat.le_of_ble_eq_true rfl) d_La_order_4 (fun E ce q9 C1 H locs hx w g1 g2 g3 => ?_) (fun x C1 H locs hp w => ?_)
  · obtain ⟨k, hk⟩ := hX E C1 hx
    rcases hk with ⟨rfl, rfl⟩ | ⟨rfl, rfl⟩
    · refine vx_catch (own := RLa) (name := xNSE) X.2.2.1 [] ⟨0, 9, 12, 19⟩ [⟨0, 9, 15, 13⟩] (by rw [htab]; rfl) (fun z hz => absurd hz List.not_mem_nil) (by decide) (by decide) (X.2.2.2 _ k_c_La_19) (ca_NSE ev) g1 g2 g3 ?_
      refine lv_astore_n (lv' := [(3, .ref q9), (0, .ref (ad 122)), (1, .int (iI a)), (2, .ref (ad 137))]) X.1 X.2.1 d_La_order_12 rfl hl (by decide) rfl (fun ls hl => ?_)
      refine lv_iconst (v := iI (1)) X.1 X.2.1 d_La_order_13 (by decide) ?_
      exact q_iret X hr hlk w (.inr ⟨xNSE, 1, hx, .inl ⟨rfl, rfl⟩, rfl⟩) d_La_order_14 (Nat.le_of_ble_eq_true rfl) (Nat.le_of_ble_eq_true rfl)
    · refine vx_catch (own := RLa) (name := xIAE) X.2.2.1 [⟨0, 9, 12, 19⟩] ⟨0, 9, 15, 13⟩ [] (by rw [htab]; rfl) (fun z hz => by obtain rfl := List.mem_singleton.mp hz; exact Or.inr ⟨by decide, xNSE, X.2.2.2 _ k_c_La_19, ev.2.2.2.2.2.2.2.2.2 (xIAE, xNSE) (by decide)⟩) (by decide) (by decide) (X.2.2.2 _ k_c_La_13) (ca_IAE ev) g1 g2 g3 ?_
      refine lv_astore_n (lv' := [(3, .ref q9), (0, .ref (ad 122)), (1, .int (iI a)), (2, .ref (ad 137))]) X.1 X.2.1 d_La_order_15 rfl hl (by decide) rfl (fun ls hl => ?_)
      refine lv_iconst (v := iI (2)) X.1 X.2.1 d_La_order_16 (by decide) ?_
      exact q_iret X hr hlk w (.inr ⟨xIAE, 2, hx, .inr ⟨rfl, rfl⟩, rfl⟩) d_La_order_17 (Nat.le_of_ble_eq_true rfl) (Nat.le_of_ble_eq_true rfl)
  · obtain ⟨ov, hov⟩ := hP x C1 hp
    refine W.eq (g2 := F0 m 7 ls [.int (iI x.toInt), .int (iI (0)), .ref (ad 137)]) (by rw [iI_back]) ?_
    refine l_i2l X (rg_back x) d_La_order_7 ?_
    refine w_lst (i := 137) (n := 1) (F := ov) (z := 0) (v := x.toInt) X w (by omega) hov 0 rfl (by decide) (by decide) d_La_order_8 (fun H locs w => ?_)
    refine lv_goto (tgt := 18) X.1 X.2.1 d_La_order_9 (by decide) ?_
    refine lv_iconst (v := iI (0)) X.1 X.2.1 d_La_order_18 (by decide) ?_
    exact q_iret X hr hlk w (.inl ⟨rfl, x, C1, ov, hp, hov, rfl⟩) d_La_order_19 (Nat.le_of_ble_eq_true rfl) (Nat.le_of_ble_eq_true rfl)
theorem c_La_linear {l : Launch} {D : va_G} {cs : Nat → ClassId} {A : Nat → Prop} {ad : Nat → Nat} {T : Nat} {C : Nat → va_E} {P : Int32 → (Nat → va_E) → Prop} {px : String → (Nat → va_E) → Prop} {t a : Int} (hT : 213 ≤ T) (hC : C 122 = .inr (4, ffF ad)) (hM : FXi l y_Ff_linear ws_Ff_linear { frames := 7, cells := 3, slots := 18, locals := 121 } D cs A ad T (.ref (ad 122) :: [.int (iI t), .int (iI a)]) C P px 3) (hP : ∀ x C1, P x C1 → ∃ ov, C1 137 = aL cs 1 ov) (hX : ∀ E C1, px E C1 → ∃ k : Int, (fun E k => (E = xNSE ∧ k = 1) ∨ (E = xIAE ∧ k = 2)) E k) : Cw l y_La_linear ws_La_linear { frames := 8, cells := 3, slots := 18, locals := 145 } D cs A ad T [.ref (ad 122), .int (iI t), .int (iI a), .ref (ad 137)] C (wPo cs vfI P px (fun E k => (E = xNSE ∧ k = 1) ∨ (E = xIAE ∧ k = 2))) 3 := by
  refine w_bodyW (by decide) (Nat.le_of_ble_eq_true rfl) ?_
  intro p e s m below meth c X hr hlk hml htab ev w ls hl
  have hl : lv_has ls 5 [(0, .ref (ad 122)), (1, .int (iI t)), (2, .int (iI a)), (3, .ref (ad 137))] := hl
  refine lv_aload_n X.1 X.2.1 d_La_linear_0 rfl (lv_at hl 3 rfl) ?_
  refine lv_iconst (v := iI (0)) X.1 X.2.1 d_La_linear_1 (by decide) ?_
  refine lv_aload_n X.1 X.2.1 d_La_linear_2 rfl (lv_at hl 0 rfl) ?_
  refine lv_iload_n X.1 X.2.1 d_La_linear_3 rfl (lv_at hl 1 rfl) ?_
  refine lv_iload_n X.1 X.2.1 d_La_linear_4 rfl (lv_at hl 2 rfl) ?_
  refine q_cVi (n := 2) (i := 122) (ci := 4) (k1 := 3) (As := [.int (iI t), .int (iI a)]) (rest := [.int (iI (0)), .ref (ad 137)]) X ev w hml hl.1 hM (by omega) hC rfl k_m_La_58 k_im_Ff_linear k_se_Ff_linear k_i_Ff k_co_Ff_linear (by decide +kernel) rfl ⟨(Nat.le_of_ble_eq_true rfl), (Nat.le_of_ble_eq_true rfl)⟩ ⟨rfl, rfl⟩ ⟨(Nat.le_of_ble_eq_true rfl), (Nat.le_of_ble_eq_true rfl)⟩ rfl (Nat.le_of_ble_eq_true rfl) d_La_linear_5 (fun E ce q9 C1 H locs hx w g1 g2 g3 => ?_) (fun x C1 H locs hp w => ?_)
  · obtain ⟨k, hk⟩ := hX E C1 hx
    rcases hk with ⟨rfl, rfl⟩ | ⟨rfl, rfl⟩
    · refine vx_catch (own := RLa) (name := xNSE) X.2.2.1 [] ⟨0, 10, 13, 19⟩ [⟨0, 10, 17, 13⟩] (by rw [htab]; rfl) (fun z hz => absurd hz List.not_mem_nil) (by decide) (by decide) (X.2.2.2 _ k_c_La_19) (ca_NSE ev) g1 g2 g3 ?_
      refine lv_astore (lv' := [(4, .ref q9), (0, .ref (ad 122)), (1, .int (iI t)), (2, .int (iI a)), (3, .ref (ad 137))]) X.1 X.2.1 d_La_linear_13 hl (by decide) rfl (fun ls hl => ?_)
      refine lv_iconst (v := iI (1)) X.1 X.2.1 d_La_linear_15 (by decide) ?_
      exact q_iret X hr hlk w (.inr ⟨xNSE, 1, hx, .inl ⟨rfl, rfl⟩, rfl⟩) d_La_linear_16 (Nat.le_of_ble_eq_true rfl) (Nat.le_of_ble_eq_true rfl)
    · refine vx_catch (own := RLa) (name := xIAE) X.2.2.1 [⟨0, 10, 13, 19⟩] ⟨0, 10, 17, 13⟩ [] (by rw [htab]; rfl) (fun z hz => by obtain rfl := List.mem_singleton.mp hz; exact Or.inr ⟨by decide, xNSE, X.2.2.2 _ k_c_La_19, ev.2.2.2.2.2.2.2.2.2 (xIAE, xNSE) (by decide)⟩) (by decide) (by decide) (X.2.2.2 _ k_c_La_13) (ca_IAE ev) g1 g2 g3 ?_
      refine lv_astore (lv' := [(4, .ref q9), (0, .ref (ad 122)), (1, .int (iI t)), (2, .int (iI a)), (3, .ref (ad 137))]) X.1 X.2.1 d_La_linear_17 hl (by decide) rfl (fun ls hl => ?_)
      refine lv_iconst (v := iI (2)) X.1 X.2.1 d_La_linear_19 (by decide) ?_
      exact q_iret X hr hlk w (.inr ⟨xIAE, 2, hx, .inr ⟨rfl, rfl⟩, rfl⟩) d_La_linear_20 (Nat.le_of_ble_eq_true rfl) (Nat.le_of_ble_eq_true rfl)
  · obtain ⟨ov, hov⟩ := hP x C1 hp
    refine W.eq (g2 := F0 m 8 ls [.int (iI x.toInt), .int (iI (0)), .ref (ad 137)]) (by rw [iI_back]) ?_
    refine l_i2l X (rg_back x) d_La_linear_8 ?_
    refine w_lst (i := 137) (n := 1) (F := ov) (z := 0) (v := x.toInt) X w (by omega) hov 0 rfl (by decide) (by decide) d_La_linear_9 (fun H locs w => ?_)
    refine lv_goto (tgt := 21) X.1 X.2.1 d_La_linear_10 (by decide) ?_
    refine lv_iconst (v := iI (0)) X.1 X.2.1 d_La_linear_21 (by decide) ?_
    exact q_iret X hr hlk w (.inl ⟨rfl, x, C1, ov, hp, hov, rfl⟩) d_La_linear_22 (Nat.le_of_ble_eq_true rfl) (Nat.le_of_ble_eq_true rfl)
