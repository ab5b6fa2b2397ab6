/-- Euclid's steps with what A was multiplied by -/
def invL (pr : Int) (inv : Nat → Int) : Nat → (Nat → Int) → (Nat → Int) → (Nat → Int) → (Nat → Int) → P2
  | 0, _, L, _, LT => (L, LT)
  | n + 1, U, L, UT, LT => if dg 300 L ≤ 0 then (L, LT) else invL pr inv n L (dvm pr inv U L).1 LT (addP pr UT (pr - 1) (dvm pr inv U L).2 LT (dg 300 (dvm pr inv U L).2 + 1).toNat)
def invZ (pr : Int) (inv : Nat → Int) (A M : Nat → Int) : P2 := invL pr inv 26 M (dvm pr inv A M).1 (fun _ => 0) oneP
theorem inv_ne {pr v c iv : Int} (hv : 1 ≤ v ∧ v < pr) (hc : c * iv % pr = 1) : v * iv % pr ≠ 0 := by
  intro h
  have e1 := Int.mul_ediv_add_emod (v * iv) pr
  have e2 := Int.mul_ediv_add_emod (c * iv) pr
  rw [h] at e1
  rw [hc] at e2
  have h3 : v = pr * (v * iv / pr * c - v * (c * iv / pr)) := by grind
  obtain ⟨k, hk⟩ : ∃ k : Int, k = v * iv / pr * c - v * (c * iv / pr) := ⟨_, rfl⟩
  rw [← hk] at h3
  rw [h3] at hv
  have h4 : ¬ 1 ≤ k := fun h => by have := Int.mul_le_mul_of_nonneg_left h (show 0 ≤ pr by omega); omega
  have h5 : ¬ k ≤ 0 := fun h => by have := Int.mul_le_mul_of_nonneg_left h (show 0 ≤ pr by omega); omega
  omega
section IV
variable {p : Program} {l : Launch} {e : Env} {s : State} {m : MethodId} {args : Array Value} {below : List Frame} {meth : Method} {c : Code} {H : Heap} {locs : List Loc} {Q : State → Prop} {D : va_G} {cs : Nat → ClassId} {A : Nat → Prop} {ad : Nat → Nat} {T : Nat} {O : Nat → va_E} {pr : Int} {inv : Nat → Int}
variable {t : Nat} {G : Nat → Nat → Int}
theorem l_Ar_invert (X : Cx p s m args c b_Ar_invert RAr) (hml : c.maxLocals = 11) (hT : 132 ≤ T) (hO : arO cs ad pr inv O) {Z : P2} {dm : Int} (hdm : dm ≤ 24)
    (K : ∀ (v b : Nat) (G1 : Nat → Nat → Int) (H : Heap) (locs : List Loc) (ls : Array Slot), Wd D cs A ad T s (mkV cs ad (rV G1) O) H locs → (v = 2 ∨ v = 3) ∧ (b = 4 ∨ b = 5) → okp pr 25 Z.1 → okp pr 25 Z.2 → G1 v = Z.1 → G1 b = Z.2 → WF G1 → (∀ j, j ≠ 0 → j ≠ 2 → j ≠ 3 → j ≠ 4 → j ≠ 5 → j ≠ 6 → G1 j = G j) → lv_has ls 11 [(0, .ref (ad (123))), (1, .ref (ad (2 * t))), (5, .ref (ad (2 * v))), (7, .ref (ad (2 * b)))] → W p l e { frames := 3, cells := 0, slots := 0, locals := 73 } s m args below meth c H locs 0 0 Q (F0 m 136 ls [])) :
    ∀ (n i : Nat) (u v a b : Nat) (G1 : Nat → Nat → Int) (H : Heap) (locs : List Loc) (ls : Array Slot), i + n = 26 → ((u = 2 ∧ v = 3) ∨ (u = 3 ∧ v = 2)) ∧ ((a = 4 ∧ b = 5) ∨ (a = 5 ∧ b = 4)) → okp pr 25 (G1 u) → okp pr 25 (G1 v) → okp pr 25 (G1 a) → okp pr 25 (G1 b) → dg 300 (G1 v) < dg 300 (G1 u) ∧ dg 300 (G1 u) ≤ dm → dg 300 (G1 a) ≤ dm - dg 300 (G1 u) → dg 300 (G1 b) ≤ dm - dg 300 (G1 u) → invL pr inv n (G1 u) (G1 v) (G1 a) (G1 b) = Z → WF G1 → (∀ j, j ≠ 0 → j ≠ 2 → j ≠ 3 → j ≠ 4 → j ≠ 5 → j ≠ 6 → G1 j = G j) → Wd D cs A ad T s (mkV cs ad (rV G1) O) H locs → lv_has ls 11 [(0, .ref (ad (123))), (1, .ref (ad (2 * t))), (4, .ref (ad (2 * u))), (5, .ref (ad (2 * v))), (6, .ref (ad (2 * a))), (7, .ref (ad (2 * b))), (8, .int (iI (i)))] → W p l e { frames := 3, cells := 0, slots := 0, locals := 73 } s m args below meth c H locs 0 0 Q (F0 m 61 ls []) := by
  have hpr := hO.2.2.1
  intro n
  induction n with
  | zero =>
    intro i u v a b G1 H locs ls h1 h2 hU hL hUT hLT hlt hda hdb hz hW hF w hl
    have hz : (G1 v, G1 b) = Z := hz
    refine lv_iload X.1 X.2.1 d_Ar_invert_61 (lv_at hl 6 rfl) ?_
    refine lv_bipush (v := iI (25)) X.1 X.2.1 d_Ar_invert_63 (by decide) ?_
    refine i_gt (a := i) (b := 25) (tgt := 136) X (by omega) (by omega) d_Ar_invert_65 (by decide) (fun h_65 => ?_) (fun h_65 => ?_)
    · exact K v b G1 H locs ls w (by omega) (by rw [← hz]; exact hL) (by rw [← hz]; exact hLT) (by rw [← hz]) (by rw [← hz]) hW hF (lv_sub hl [0, 1, 3, 5] rfl)
    · exact absurd h_65 (by omega)
  | succ n ih =>
    intro i u v a b G1 H locs ls h1 h2 hU hL hUT hLT hlt hda hdb hz hW hF w hl
    have hdu := (hU.ok hpr.2).dlt 300
    have hdv := (hL.ok hpr.2).dlt 300
    have hdv0 := dg_ge 300 (G1 v)
    have w0 : wd 0 = 300 := rfl
    have w6 : wd 6 = 25 := rfl
    have wu : wd u = 25 := wd_2 (by omega)
    have wv : wd v = 25 := wd_2 (by omega)
    have wa : wd a = 25 := wd_2 (by omega)
    have wb : wd b = 25 := wd_2 (by omega)
    unfold invL at hz
    refine lv_iload X.1 X.2.1 d_Ar_invert_61 (lv_at hl 6 rfl) ?_
    refine lv_bipush (v := iI (25)) X.1 X.2.1 d_Ar_invert_63 (by decide) ?_
    refine i_gt (a := i) (b := 25) (tgt := 136) X (by omega) (by omega) d_Ar_invert_65 (by decide) (fun h_65 => ?_) (fun h_65 => ?_)
    · exact absurd h_65 (by omega)
    · refine lv_aload X.1 X.2.1 d_Ar_invert_68 (lv_at hl 3 rfl) ?_
      refine g_deg (k := v) X hT w (by omega) k_f_Ar_52 d_Ar_invert_70 ?_
      refine z_le (a := dg 300 (G1 v)) (tgt := 136) X (by omega) d_Ar_invert_73 (by decide) (fun h_73 => ?_) (fun h_73 => ?_)
      · rw [if_pos (by omega)] at hz
        exact K v b G1 H locs ls w (by omega) (by rw [← hz]; exact hL) (by rw [← hz]; exact hLT) (by rw [← hz]) (by rw [← hz]) hW hF (lv_sub hl [0, 1, 3, 5] rfl)
      · refine lv_aload_n X.1 X.2.1 d_Ar_invert_76 rfl (lv_at hl 0 rfl) ?_
        refine lv_aload X.1 X.2.1 d_Ar_invert_77 (lv_at hl 2 rfl) ?_
        refine lv_aload X.1 X.2.1 d_Ar_invert_79 (lv_at hl 3 rfl) ?_
        refine lv_aload_n X.1 X.2.1 d_Ar_invert_81 rfl (lv_at hl 0 rfl) ?_
        refine t_ar X hT w hO 8 (by decide) k_f_Ar_39 rfl d_Ar_invert_82 ?_
        refine w_cVv (n := 3) (i := 123) (ci := 1) (As := [.ref (ad (2 * u)), .ref (ad (2 * v)), .ref (ad (2 * 6))]) (rest := []) X w hml hl.1 (c_Ar_divide hT (G := G1) hO (k := u) (q := v) (t := 6) (by omega) (by omega) (by omega) (by omega) (by omega) (by omega) (by rw [wu]; exact hU) (by rw [wv]; exact hL) (hW 6 (by omega)) (by rw [w6]; omega)) (by omega) (by rw [mkV_O (by decide)]; exact hO.1) rfl k_m_Ar_87 k_im_Ar_divide k_se_Ar_divide k_i_Ar k_co_Ar_divide (by decide +kernel) rfl ⟨Nat.le_of_ble_eq_true rfl, Nat.le_of_ble_eq_true rfl⟩ ⟨rfl, rfl⟩ ⟨Nat.zero_le _, Nat.zero_le _⟩ rfl (Nat.le_of_ble_eq_true rfl) d_Ar_invert_85 (fun C' H locs hp w => ?_)
        subst hp
        obtain ⟨Gw1, eGw1⟩ : ∃ gg : Nat → Nat → Int, gg = va_up (va_up G1 6 (dvm pr inv (G1 u) (G1 v)).2) u (dvm pr inv (G1 u) (G1 v)).1 := ⟨_, rfl⟩
        rw [← eGw1] at w
        have hq := dvm_ok (inv := inv) (M := (dg 300 (G1 u) - dg 300 (G1 v) + 1).toNat) (by omega) hU hL (by omega) (by omega) hpr.2 (by omega)
        have hq25 : okp pr 25 (dvm pr inv (G1 u) (G1 v)).2 := hq.2.mono (by omega)
        have hdq := (hq.2.ok hpr.2).dlt 300
        have hr : okp pr (dg 300 (G1 v)).toNat (dvm pr inv (G1 u) (G1 v)).1 := dvm_ok25 hO hU hL (by omega) (by omega) (by omega) (by omega)
        have hdr := (hr.ok hpr.2).dlt 300
        have f6 : Gw1 6 = (dvm pr inv (G1 u) (G1 v)).2 := by rw [eGw1, va_up_ne _ _ (by omega), va_up_self]
        have fu : Gw1 u = (dvm pr inv (G1 u) (G1 v)).1 := by rw [eGw1, va_up_self]
        have fv : Gw1 v = G1 v := by rw [eGw1, va_up_ne _ _ (by omega), va_up_ne _ _ (by omega)]
        have fa : Gw1 a = G1 a := by rw [eGw1, va_up_ne _ _ (by omega), va_up_ne _ _ (by omega)]
        have fb : Gw1 b = G1 b := by rw [eGw1, va_up_ne _ _ (by omega), va_up_ne _ _ (by omega)]
        have hW1 : WF Gw1 := by rw [eGw1]; exact (hW.up (k := 6) (hq25.ok hpr.2)).up (k := u) (by rw [wu]; exact (hr.mono (by omega)).ok hpr.2)
        refine lv_aload_n X.1 X.2.1 d_Ar_invert_88 rfl (lv_at hl 0 rfl) ?_
        refine lv_aload X.1 X.2.1 d_Ar_invert_89 (lv_at hl 4 rfl) ?_
        refine lv_aload_n X.1 X.2.1 d_Ar_invert_91 rfl (lv_at hl 0 rfl) ?_
        refine t_ar X hT w hO 0 (by decide) k_f_Ar_48 rfl d_Ar_invert_92 ?_
        refine lv_iconst (v := iI (1)) X.1 X.2.1 d_Ar_invert_95 (by decide) ?_
        refine i_sub (a := pr) (b := 1) X d_Ar_invert_96 ?_
        refine lv_aload_n X.1 X.2.1 d_Ar_invert_97 rfl (lv_at hl 0 rfl) ?_
        refine t_ar X hT w hO 8 (by decide) k_f_Ar_39 rfl d_Ar_invert_98 ?_
        refine lv_aload X.1 X.2.1 d_Ar_invert_101 (lv_at hl 5 rfl) ?_
        refine w_cVv (n := 4) (i := 123) (ci := 1) (As := [.ref (ad (2 * a)), .int (iI (pr - 1)), .ref (ad (2 * 6)), .ref (ad (2 * b))]) (rest := []) X w hml hl.1 (c_Ar_addProduct hT (G := Gw1) hO (k := a) (q := 6) (r := b) (f := pr - 1) (by omega) (by omega) (by omega) (by omega) (by omega) (by rw [fa, wa]; exact hUT) (by rw [f6]; exact hq25.ok hpr.2) (by rw [fb, wb]; exact hLT.ok hpr.2) (by omega) (by rw [f6, fb, wa]; omega)) (by omega) (by rw [mkV_O (by decide)]; exact hO.1) rfl k_m_Ar_94 k_im_Ar_addProduct k_se_Ar_addProduct k_i_Ar k_co_Ar_addProduct (by decide +kernel) rfl ⟨Nat.le_of_ble_eq_true rfl, Nat.le_of_ble_eq_true rfl⟩ ⟨rfl, rfl⟩ ⟨Nat.zero_le _, Nat.zero_le _⟩ rfl (Nat.le_of_ble_eq_true rfl) d_Ar_invert_103 (fun C' H locs hp w => ?_)
        subst hp
        obtain ⟨Gw2, eGw2⟩ : ∃ gg : Nat → Nat → Int, gg = va_up Gw1 a (addP pr (Gw1 a) (pr - 1) (Gw1 6) (Gw1 b) (dg 300 (Gw1 6) + 1).toNat) := ⟨_, rfl⟩
        rw [← eGw2] at w
        refine lv_aload X.1 X.2.1 d_Ar_invert_106 (lv_at hl 2 rfl) ?_
        refine lv_astore (lv' := [(9, .ref (ad (2 * u))), (0, .ref (ad (123))), (1, .ref (ad (2 * t))), (4, .ref (ad (2 * u))), (5, .ref (ad (2 * v))), (6, .ref (ad (2 * a))), (7, .ref (ad (2 * b))), (8, .int (iI (i)))]) X.1 X.2.1 d_Ar_invert_108 hl (by decide) rfl (fun ls hl => ?_)
        refine lv_aload X.1 X.2.1 d_Ar_invert_110 (lv_at hl 4 rfl) ?_
        refine lv_astore (lv' := [(4, .ref (ad (2 * v))), (9, .ref (ad (2 * u))), (0, .ref (ad (123))), (1, .ref (ad (2 * t))), (5, .ref (ad (2 * v))), (6, .ref (ad (2 * a))), (7, .ref (ad (2 * b))), (8, .int (iI (i)))]) X.1 X.2.1 d_Ar_invert_112 hl (by decide) rfl (fun ls hl => ?_)
        refine lv_aload X.1 X.2.1 d_Ar_invert_114 (lv_at hl 1 rfl) ?_
        refine lv_astore (lv' := [(5, .ref (ad (2 * u))), (4, .ref (ad (2 * v))), (9, .ref (ad (2 * u))), (0, .ref (ad (123))), (1, .ref (ad (2 * t))), (6, .ref (ad (2 * a))), (7, .ref (ad (2 * b))), (8, .int (iI (i)))]) X.1 X.2.1 d_Ar_invert_116 hl (by decide) rfl (fun ls hl => ?_)
        refine lv_aload X.1 X.2.1 d_Ar_invert_118 (lv_at hl 5 rfl) ?_
        refine lv_astore (lv' := [(10, .ref (ad (2 * a))), (5, .ref (ad (2 * u))), (4, .ref (ad (2 * v))), (9, .ref (ad (2 * u))), (0, .ref (ad (123))), (1, .ref (ad (2 * t))), (6, .ref (ad (2 * a))), (7, .ref (ad (2 * b))), (8, .int (iI (i)))]) X.1 X.2.1 d_Ar_invert_120 hl (by decide) rfl (fun ls hl => ?_)
        refine lv_aload X.1 X.2.1 d_Ar_invert_122 (lv_at hl 7 rfl) ?_
        refine lv_astore (lv' := [(6, .ref (ad (2 * b))), (10, .ref (ad (2 * a))), (5, .ref (ad (2 * u))), (4, .ref (ad (2 * v))), (9, .ref (ad (2 * u))), (0, .ref (ad (123))), (1, .ref (ad (2 * t))), (7, .ref (ad (2 * b))), (8, .int (iI (i)))]) X.1 X.2.1 d_Ar_invert_124 hl (by decide) rfl (fun ls hl => ?_)
        refine lv_aload X.1 X.2.1 d_Ar_invert_126 (lv_at hl 1 rfl) ?_
        refine lv_astore (lv' := [(7, .ref (ad (2 * a))), (6, .ref (ad (2 * b))), (10, .ref (ad (2 * a))), (5, .ref (ad (2 * u))), (4, .ref (ad (2 * v))), (9, .ref (ad (2 * u))), (0, .ref (ad (123))), (1, .ref (ad (2 * t))), (8, .int (iI (i)))]) X.1 X.2.1 d_Ar_invert_128 hl (by decide) rfl (fun ls hl => ?_)
        refine i_inc (k := 8) (x := i) (lv' := [(8, .int (iI (i + 1))), (7, .ref (ad (2 * a))), (6, .ref (ad (2 * b))), (10, .ref (ad (2 * a))), (5, .ref (ad (2 * u))), (4, .ref (ad (2 * v))), (9, .ref (ad (2 * u))), (0, .ref (ad (123))), (1, .ref (ad (2 * t)))]) X d_Ar_invert_130 hl rfl (by decide) rfl (fun ls hl => ?_)
        refine lv_goto (tgt := 61) X.1 X.2.1 d_Ar_invert_133 (by decide) ?_
        rw [if_neg (by omega)] at hz
        rw [fa, f6, fb] at eGw2
        have hn : okp pr (dm - dg 300 (G1 v) + 1).toNat (addP pr (G1 a) (pr - 1) (dvm pr inv (G1 u) (G1 v)).2 (G1 b) (dg 300 (dvm pr inv (G1 u) (G1 v)).2 + 1).toNat) := by
          refine addP_ok (by omega) ⟨hUT.1, fun x hx => (hUT.ok hpr.2).above (N := 300) (by omega) (by omega)⟩ _ (fun j x hj hx => (hLT.ok hpr.2).above (N := 300) (by omega) (by omega))
        have hdn := (hn.ok hpr.2).dlt 300
        have gu : Gw2 u = (dvm pr inv (G1 u) (G1 v)).1 := by rw [eGw2, va_up_ne _ _ (by omega), fu]
        have gv : Gw2 v = G1 v := by rw [eGw2, va_up_ne _ _ (by omega), fv]
        have gb : Gw2 b = G1 b := by rw [eGw2, va_up_ne _ _ (by omega), fb]
        have ga : Gw2 a = addP pr (G1 a) (pr - 1) (dvm pr inv (G1 u) (G1 v)).2 (G1 b) (dg 300 (dvm pr inv (G1 u) (G1 v)).2 + 1).toNat := by rw [eGw2, va_up_self]
        have hn25 := hn.mono (m := 25) (by omega)
        refine ih (i + 1) v u b a Gw2 H locs ls (by omega) (by omega) (by rw [gv]; exact hL) (by rw [gu]; exact hr.mono (by omega)) (by rw [gb]; exact hLT) (by rw [ga]; exact hn25) (by rw [gu, gv]; omega) (by rw [gb, gv]; omega) (by rw [ga, gv]; omega) (by rw [gu, gv, ga, gb]; exact hz) ?_ ?_ w (lv_sub hl [7, 8, 5, 4, 2, 1, 0] rfl)
        · rw [eGw2]; exact hW1.up (by rw [wa]; exact hn25.ok hpr.2)
        · intro j j0 j2 j3 j4 j5 j6; rw [eGw2, va_up_ne _ _ (by omega), eGw1, va_up_ne _ _ (by omega), va_up_ne _ _ (by omega)]; exact hF j j0 j2 j3 j4 j5 j6
end IV
theorem c_Ar_invert {l : Launch} {D : va_G} {cs : Nat → ClassId} {A : Nat → Prop} {ad : Nat → Nat} {T : Nat} (hT : 132 ≤ T) {G : Nat → Nat → Int} {O : Nat → va_E} {pr : Int} {inv : Nat → Int} (hO : arO cs ad pr inv O) {t a d : Nat} (ht : 7 ≤ t ∧ t < 61) (ha : 7 ≤ a ∧ a < 61) (hd : 7 ≤ d ∧ d < 61) (hW : WF G) (hA : okp pr 25 (G a)) (hM : okp pr 25 (G d)) (hdd : 1 ≤ dg 300 (G d)) : Ci l y_Ar_invert ws_Ar_invert { frames := 3, cells := 0, slots := 0, locals := 73 } D cs A ad T [.ref (ad (123)), .ref (ad (2 * t)), .ref (ad (2 * a)), .ref (ad (2 * d))] (mkV cs ad (rV G) O) (fun r C' => ∃ G', C' = mkV cs ad (rV G') O ∧ WF G' ∧ (∀ j, j ≠ 0 → j ≠ 2 → j ≠ 3 → j ≠ 4 → j ≠ 5 → j ≠ 6 → j ≠ t → G' j = G j) ∧ ((dg 300 (invZ pr inv (G a) (G d)).1 < 0 ∧ r = iI 0 ∧ G' t = G t) ∨ (0 ≤ dg 300 (invZ pr inv (G a) (G d)).1 ∧ r = iI 1 ∧ okp pr 25 (G' t) ∧ G' t = fun x => (invZ pr inv (G a) (G d)).2 x * inv ((invZ pr inv (G a) (G d)).1 (dg 300 (invZ pr inv (G a) (G d)).1).toNat).toNat % pr))) := by
  refine w_bodyI (by decide) (Nat.le_of_ble_eq_true rfl) ?_
  intro p e s m below meth c X hr hlk hml w ls hl
  have hl : lv_has ls 11 [(0, .ref (ad (123))), (1, .ref (ad (2 * t))), (2, .ref (ad (2 * a))), (3, .ref (ad (2 * d)))] := hl
  have hpr := hO.2.2.1
  have wa := wd_2 (show 2 ≤ a by omega)
  have wt := wd_2 (show 2 ≤ t by omega)
  have wdd := wd_2 (show 2 ≤ d by omega)
  have hda := (hA.ok hpr.2).dlt 300
  have hdm := (hM.ok hpr.2).dlt 300
  have hq := dvm_ok (inv := inv) (M := 300) (by omega) hA hM (by omega) (by omega) hpr.2 (by omega)
  have hr1 : okp pr (dg 300 (G d)).toNat (dvm pr inv (G a) (G d)).1 := dvm_ok25 hO hA hM (by omega) (by omega) (by omega) (by omega)
  have hdr := (hr1.ok hpr.2).dlt 300
  have hone : okp pr 1 oneP := oneP_ok (by omega) (by omega)
  have hd1 := (hone.ok hpr.2).dlt 300
  refine lv_aload_n X.1 X.2.1 d_Ar_invert_0 rfl (lv_at hl 0 rfl) ?_
  refine t_ar X hT w hO 4 (by decide) k_f_Ar_27 rfl d_Ar_invert_1 ?_
  refine lv_astore (lv' := [(4, .ref (ad (2 * 2))), (0, .ref (ad (123))), (1, .ref (ad (2 * t))), (2, .ref (ad (2 * a))), (3, .ref (ad (2 * d)))]) X.1 X.2.1 d_Ar_invert_4 hl (by decide) rfl (fun ls hl => ?_)
  refine lv_aload_n X.1 X.2.1 d_Ar_invert_6 rfl (lv_at hl 1 rfl) ?_
  refine t_ar X hT w hO 5 (by decide) k_f_Ar_30 rfl d_Ar_invert_7 ?_
  refine lv_astore (lv' := [(5, .ref (ad (2 * 3))), (4, .ref (ad (2 * 2))), (0, .ref (ad (123))), (1, .ref (ad (2 * t))), (2, .ref (ad (2 * a))), (3, .ref (ad (2 * d)))]) X.1 X.2.1 d_Ar_invert_10 hl (by decide) rfl (fun ls hl => ?_)
  refine lv_aload_n X.1 X.2.1 d_Ar_invert_12 rfl (lv_at hl 2 rfl) ?_
  refine t_ar X hT w hO 6 (by decide) k_f_Ar_33 rfl d_Ar_invert_13 ?_
  refine lv_astore (lv' := [(6, .ref (ad (2 * 4))), (5, .ref (ad (2 * 3))), (4, .ref (ad (2 * 2))), (0, .ref (ad (123))), (1, .ref (ad (2 * t))), (2, .ref (ad (2 * a))), (3, .ref (ad (2 * d)))]) X.1 X.2.1 d_Ar_invert_16 hl (by decide) rfl (fun ls hl => ?_)
  refine lv_aload_n X.1 X.2.1 d_Ar_invert_18 rfl (lv_at hl 3 rfl) ?_
  refine t_ar X hT w hO 7 (by decide) k_f_Ar_36 rfl d_Ar_invert_19 ?_
  refine lv_astore (lv' := [(7, .ref (ad (2 * 5))), (6, .ref (ad (2 * 4))), (5, .ref (ad (2 * 3))), (4, .ref (ad (2 * 2))), (0, .ref (ad (123))), (1, .ref (ad (2 * t))), (2, .ref (ad (2 * a))), (3, .ref (ad (2 * d)))]) X.1 X.2.1 d_Ar_invert_22 hl (by decide) rfl (fun ls hl => ?_)
  refine lv_aload X.1 X.2.1 d_Ar_invert_24 (lv_at hl 3 rfl) ?_
  refine lv_aload_n X.1 X.2.1 d_Ar_invert_26 rfl (lv_at hl 7 rfl) ?_
  refine w_cVv (n := 1) (i := 2 * 2) (ci := 0) (As := [.ref (ad (2 * d))]) (rest := []) X w hml hl.1 (c_Po_copyFrom hT (G := G) (k := 2) (q := d) (by omega) (by omega) (by omega) (hW 2 (by omega)) (hW d (by omega)) (hM.ok hpr.2)) (by omega) (mkV_o (by omega)) rfl k_m_Ar_83 k_im_Po_copyFrom k_se_Po_copyFrom k_i_Po k_co_Po_copyFrom (by decide +kernel) rfl ⟨Nat.le_of_ble_eq_true rfl, Nat.le_of_ble_eq_true rfl⟩ ⟨rfl, rfl⟩ ⟨Nat.zero_le _, Nat.zero_le _⟩ rfl (Nat.le_of_ble_eq_true rfl) d_Ar_invert_27 (fun C' H locs hp w => ?_)
  subst hp
  obtain ⟨Gw1, eGw1⟩ : ∃ gg : Nat → Nat → Int, gg = va_up G 2 (G d) := ⟨_, rfl⟩
  rw [← eGw1] at w
  have hW1 : WF Gw1 := by rw [eGw1]; exact hW.up (k := 2) (hM.ok hpr.2)
  have fa : Gw1 a = G a := by rw [eGw1, va_up_ne _ _ (by omega)]
  have fd : Gw1 d = G d := by rw [eGw1, va_up_ne _ _ (by omega)]
  refine lv_aload X.1 X.2.1 d_Ar_invert_30 (lv_at hl 2 rfl) ?_
  refine lv_aload_n X.1 X.2.1 d_Ar_invert_32 rfl (lv_at hl 6 rfl) ?_
  refine w_cVv (n := 1) (i := 2 * 3) (ci := 0) (As := [.ref (ad (2 * a))]) (rest := []) X w hml hl.1 (c_Po_copyFrom hT (G := Gw1) (k := 3) (q := a) (by omega) (by omega) (by omega) (hW1 3 (by omega)) (hW1 a (by omega)) (by rw [fa]; exact hA.ok hpr.2)) (by omega) (mkV_o (by omega)) rfl k_m_Ar_83 k_im_Po_copyFrom k_se_Po_copyFrom k_i_Po k_co_Po_copyFrom (by decide +kernel) rfl ⟨Nat.le_of_ble_eq_true rfl, Nat.le_of_ble_eq_true rfl⟩ ⟨rfl, rfl⟩ ⟨Nat.zero_le _, Nat.zero_le _⟩ rfl (Nat.le_of_ble_eq_true rfl) d_Ar_invert_33 (fun C' H locs hp w => ?_)
  subst hp
  obtain ⟨Gw2, eGw2⟩ : ∃ gg : Nat → Nat → Int, gg = va_up Gw1 3 (Gw1 a) := ⟨_, rfl⟩
  rw [← eGw2] at w
  rw [fa] at eGw2
  have hW2 : WF Gw2 := by rw [eGw2]; exact hW1.up (k := 3) (hA.ok hpr.2)
  have f3 : Gw2 3 = G a := by rw [eGw2, va_up_self]
  have fd2 : Gw2 d = G d := by rw [eGw2, va_up_ne _ _ (by omega), fd]
  refine lv_aload_n X.1 X.2.1 d_Ar_invert_36 rfl (lv_at hl 4 rfl) ?_
  refine lv_aload X.1 X.2.1 d_Ar_invert_37 (lv_at hl 2 rfl) ?_
  refine lv_aload_n X.1 X.2.1 d_Ar_invert_39 rfl (lv_at hl 7 rfl) ?_
  refine lv_aload_n X.1 X.2.1 d_Ar_invert_40 rfl (lv_at hl 4 rfl) ?_
  refine t_ar X hT w hO 1 (by decide) k_f_Ar_20 rfl d_Ar_invert_41 ?_
  refine w_cVv (n := 3) (i := 123) (ci := 1) (As := [.ref (ad (2 * 3)), .ref (ad (2 * d)), .ref (ad (2 * 0))]) (rest := []) X w hml hl.1 (c_Ar_divide hT (G := Gw2) hO (k := 3) (q := d) (t := 0) (by omega) (by omega) (by omega) (by omega) (by omega) (by omega) (by rw [f3]; exact hA) (by rw [fd2, wdd]; exact hM) (hW2 0 (by omega)) (by rw [f3, fd2]; show _ < (300 : Int); omega)) (by omega) (by rw [mkV_O (by decide)]; exact hO.1) rfl k_m_Ar_87 k_im_Ar_divide k_se_Ar_divide k_i_Ar k_co_Ar_divide (by decide +kernel) rfl ⟨Nat.le_of_ble_eq_true rfl, Nat.le_of_ble_eq_true rfl⟩ ⟨rfl, rfl⟩ ⟨Nat.zero_le _, Nat.zero_le _⟩ rfl (Nat.le_of_ble_eq_true rfl) d_Ar_invert_44 (fun C' H locs hp w => ?_)
  subst hp
  obtain ⟨Gw3, eGw3⟩ : ∃ gg : Nat → Nat → Int, gg = va_up (va_up Gw2 0 (dvm pr inv (Gw2 3) (Gw2 d)).2) 3 (dvm pr inv (Gw2 3) (Gw2 d)).1 := ⟨_, rfl⟩
  rw [← eGw3] at w
  rw [f3, fd2] at eGw3
  have hW3 : WF Gw3 := by rw [eGw3]; exact (hW2.up (k := 0) (hq.2.ok hpr.2)).up (k := 3) ((hr1.mono (m := 25) (by omega)).ok hpr.2)
  refine lv_aload X.1 X.2.1 d_Ar_invert_47 (lv_at hl 1 rfl) ?_
  refine w_cVv (n := 0) (i := 2 * 4) (ci := 0) (As := []) (rest := []) X w hml hl.1 (c_Po_clear hT (G := Gw3) (k := 4) (by omega) (hW3 4 (by omega))) (by omega) (mkV_o (by omega)) rfl k_m_Ar_76 k_im_Po_clear k_se_Po_clear k_i_Po k_co_Po_clear (by decide +kernel) rfl ⟨Nat.le_of_ble_eq_true rfl, Nat.le_of_ble_eq_true rfl⟩ ⟨rfl, rfl⟩ ⟨Nat.zero_le _, Nat.zero_le _⟩ rfl (Nat.le_of_ble_eq_true rfl) d_Ar_invert_49 (fun C' H locs hp w => ?_)
  subst hp
  obtain ⟨Gw4, eGw4⟩ : ∃ gg : Nat → Nat → Int, gg = va_up Gw3 4 (fun _ => 0) := ⟨_, rfl⟩
  rw [← eGw4] at w
  have hW4 : WF Gw4 := by rw [eGw4]; exact hW3.up (k := 4) (ok_0 _)
  refine lv_aload X.1 X.2.1 d_Ar_invert_52 (lv_at hl 0 rfl) ?_
  refine lv_iconst (v := iI (0)) X.1 X.2.1 d_Ar_invert_54 (by decide) ?_
  refine w_cVv (n := 1) (i := 2 * 5) (ci := 0) (As := [.int (iI ((0 : Nat)))]) (rest := []) X w hml hl.1 (c_Po_becomePowerOfX hT (G := Gw4) (k := 5) (i := 0) (by omega) (by decide) (hW4 5 (by omega))) (by omega) (mkV_o (by omega)) rfl k_m_Ar_98 k_im_Po_becomePowerOfX k_se_Po_becomePowerOfX k_i_Po k_co_Po_becomePowerOfX (by decide +kernel) rfl ⟨Nat.le_of_ble_eq_true rfl, Nat.le_of_ble_eq_true rfl⟩ ⟨rfl, rfl⟩ ⟨Nat.zero_le _, Nat.zero_le _⟩ rfl (Nat.le_of_ble_eq_true rfl) d_Ar_invert_55 (fun C' H locs hp w => ?_)
  subst hp
  obtain ⟨Gw5, eGw5⟩ : ∃ gg : Nat → Nat → Int, gg = va_up Gw4 5 (fun x => if x = 0 then 1 else 0) := ⟨_, rfl⟩
  rw [← eGw5] at w
  have hW5 : WF Gw5 := by rw [eGw5]; exact hW4.up (k := 5) ((hone.mono (m := 25) (by omega)).ok hpr.2)
  have g5 : Gw5 5 = oneP := by rw [eGw5, va_up_self]; rfl
  have g4 : Gw5 4 = fun _ => 0 := by rw [eGw5, va_up_ne _ _ (by omega), eGw4, va_up_self]
  have g3 : Gw5 3 = (dvm pr inv (G a) (G d)).1 := by rw [eGw5, va_up_ne _ _ (by omega), eGw4, va_up_ne _ _ (by omega), eGw3, va_up_self]
  have g2 : Gw5 2 = G d := by rw [eGw5, va_up_ne _ _ (by omega), eGw4, va_up_ne _ _ (by omega), eGw3, va_up_ne _ _ (by omega), va_up_ne _ _ (by omega), eGw2, va_up_ne _ _ (by omega), eGw1, va_up_self]
  have hF0 : ∀ j, j ≠ 0 → j ≠ 2 → j ≠ 3 → j ≠ 4 → j ≠ 5 → Gw5 j = G j := fun j j0 j2 j3 j4 j5 => by rw [eGw5, va_up_ne _ _ j5, eGw4, va_up_ne _ _ j4, eGw3, va_up_ne _ _ j3, va_up_ne _ _ j0, eGw2, va_up_ne _ _ j3, eGw1, va_up_ne _ _ j2]
  refine lv_iconst (v := iI (0)) X.1 X.2.1 d_Ar_invert_58 (by decide) ?_
  refine lv_istore (lv' := [(8, .int (iI (0))), (7, .ref (ad (2 * 5))), (6, .ref (ad (2 * 4))), (5, .ref (ad (2 * 3))), (4, .ref (ad (2 * 2))), (0, .ref (ad (123))), (1, .ref (ad (2 * t))), (2, .ref (ad (2 * a))), (3, .ref (ad (2 * d)))]) X.1 X.2.1 d_Ar_invert_59 hl (by decide) rfl (fun ls hl => ?_)
  obtain ⟨Z, eZ⟩ : ∃ Z, Z = invZ pr inv (G a) (G d) := ⟨_, rfl⟩
  rw [← eZ]
  refine l_Ar_invert (G := Gw5) (t := t) (Z := Z) (dm := dg 300 (G d)) X hml hT hO (by omega) (fun v b G1 H locs ls w hvb hZ1 hZ2 hz1 hz2 hW1 hF hl => ?_) 26 0 2 3 4 5 Gw5 _ _ _ (by omega) (by omega) (by rw [g2]; exact hM) (by rw [g3]; exact hr1.mono (by omega)) (by rw [g4]; exact okp_0 _ (by omega)) (by rw [g5]; exact hone.mono (by omega)) (by rw [g2, g3]; omega) (by rw [g2, g4, dg_0]; omega) (by rw [g2, g5]; omega) (by rw [g2, g3, g4, g5, eZ]; rfl) hW5 (fun _ _ _ _ _ _ _ => rfl) w (lv_sub hl [5, 6, 4, 3, 2, 1, 0] rfl)
  · have hdv1 : dg 300 (G1 v) = dg 300 Z.1 := by rw [hz1]
    have hZl := (hZ1.ok hpr.2).dlt 300
    have hZg := dg_ge 300 Z.1
    have hFF : ∀ j, j ≠ 0 → j ≠ 2 → j ≠ 3 → j ≠ 4 → j ≠ 5 → j ≠ 6 → j ≠ t → G1 j = G j := fun j j0 j2 j3 j4 j5 j6 jt => by rw [hF j j0 j2 j3 j4 j5 j6]; exact hF0 j j0 j2 j3 j4 j5
    refine lv_aload X.1 X.2.1 d_Ar_invert_136 (lv_at hl 2 rfl) ?_
    refine g_deg (k := v) X hT w (by omega) k_f_Ar_52 d_Ar_invert_138 ?_
    refine z_ge (a := dg 300 (G1 v)) (tgt := 146) X (by omega) d_Ar_invert_141 (by decide) (fun h_141 => ?_) (fun h_141 => ?_)
    · refine lv_aload_n X.1 X.2.1 d_Ar_invert_146 rfl (lv_at hl 1 rfl) ?_
      refine lv_aload X.1 X.2.1 d_Ar_invert_147 (lv_at hl 3 rfl) ?_
      refine w_cVv (n := 1) (i := 2 * t) (ci := 0) (As := [.ref (ad (2 * b))]) (rest := []) X w hml hl.1 (c_Po_copyFrom hT (G := G1) (k := t) (q := b) (by omega) (by omega) (by omega) (hW1 t (by omega)) (hW1 b (by omega)) (by rw [hz2, wt]; exact hZ2.ok hpr.2)) (by omega) (mkV_o (by omega)) rfl k_m_Ar_83 k_im_Po_copyFrom k_se_Po_copyFrom k_i_Po k_co_Po_copyFrom (by decide +kernel) rfl ⟨Nat.le_of_ble_eq_true rfl, Nat.le_of_ble_eq_true rfl⟩ ⟨rfl, rfl⟩ ⟨Nat.zero_le _, Nat.zero_le _⟩ rfl (Nat.le_of_ble_eq_true rfl) d_Ar_invert_149 (fun C' H locs hp w => ?_)
      subst hp
      obtain ⟨Gw6, eGw6⟩ : ∃ gg : Nat → Nat → Int, gg = va_up G1 t (G1 b) := ⟨_, rfl⟩
      rw [← eGw6] at w
      rw [hz2] at eGw6
      have kt : Gw6 t = Z.2 := by rw [eGw6, va_up_self]
      have kv : Gw6 v = Z.1 := by rw [eGw6, va_up_ne _ _ (by omega), hz1]
      have wv : wd v = 25 := wd_2 (by omega)
      refine lv_aload_n X.1 X.2.1 d_Ar_invert_152 rfl (lv_at hl 0 rfl) ?_
      refine lv_aload_n X.1 X.2.1 d_Ar_invert_153 rfl (lv_at hl 1 rfl) ?_
      refine lv_aload_n X.1 X.2.1 d_Ar_invert_154 rfl (lv_at hl 0 rfl) ?_
      refine t_ar X hT w hO 2 (by decide) k_f_Ar_9 rfl d_Ar_invert_155 ?_
      refine lv_aload X.1 X.2.1 d_Ar_invert_158 (lv_at hl 2 rfl) ?_
      refine w_cVi (n := 0) (i := 2 * v) (ci := 0) (As := []) (rest := [.ref (ad (124)), .ref (ad (2 * t)), .ref (ad (123))]) X w hml hl.1 (c_Po_lead hT (G := Gw6) (k := v) (by omega) (by rw [kv, wv]; exact hZ1.ok hpr.2)) (by omega) (mkV_o (by omega)) rfl k_m_Ar_68 k_im_Po_lead k_se_Po_lead k_i_Po k_co_Po_lead (by decide +kernel) rfl ⟨Nat.le_of_ble_eq_true rfl, Nat.le_of_ble_eq_true rfl⟩ ⟨rfl, rfl⟩ ⟨Nat.zero_le _, Nat.zero_le _⟩ rfl (Nat.le_of_ble_eq_true rfl) d_Ar_invert_160 (fun r' C' H locs hp w => ?_)
      obtain ⟨rfl, rfl⟩ := hp
      rw [kv, if_neg (show ¬ dg 300 Z.1 < 0 by omega)]
      have hld := hZ1.lead (by omega)
      have hiv := hO.inv hld
      have hsd : dg 300 (fun x => Z.2 x * inv (Z.1 (dg 300 Z.1).toNat).toNat % pr) = dg 300 Z.2 := mon_dg hZ2 (by omega) (fun h => inv_ne (hZ2.lead h) hiv.2)
      refine t_in (z := Z.1 (dg 300 Z.1).toNat) X hT w hO ((Z.1 (dg 300 Z.1).toNat).toNat) (by omega) (by omega) d_Ar_invert_163 ?_
      refine w_cVv (n := 2) (i := 123) (ci := 1) (As := [.ref (ad (2 * t)), .int (iI (inv ((Z.1 (dg 300 Z.1).toNat).toNat)))]) (rest := []) X w hml hl.1 (c_Ar_scale hT (G := Gw6) hO (k := t) (f := inv (Z.1 (dg 300 Z.1).toNat).toNat) (by omega) (by rw [kt, wt]; exact hZ2.ok hpr.2) (by omega) (by rw [kt]; exact hsd)) (by omega) (by rw [mkV_O (by decide)]; exact hO.1) rfl k_m_Ar_72 k_im_Ar_scale k_se_Ar_scale k_i_Ar k_co_Ar_scale (by decide +kernel) rfl ⟨Nat.le_of_ble_eq_true rfl, Nat.le_of_ble_eq_true rfl⟩ ⟨rfl, rfl⟩ ⟨Nat.zero_le _, Nat.zero_le _⟩ rfl (Nat.le_of_ble_eq_true rfl) d_Ar_invert_164 (fun C' H locs hp w => ?_)
      subst hp
      obtain ⟨Gw7, eGw7⟩ : ∃ gg : Nat → Nat → Int, gg = va_up Gw6 t (fun x => Gw6 t x * inv (Z.1 (dg 300 Z.1).toNat).toNat % pr) := ⟨_, rfl⟩
      rw [← eGw7] at w
      refine lv_iconst (v := iI (1)) X.1 X.2.1 d_Ar_invert_167 (by decide) ?_
      rw [kt] at eGw7
      have ht7 : Gw7 t = fun x => Z.2 x * inv (Z.1 (dg 300 Z.1).toNat).toNat % pr := by rw [eGw7, va_up_self]
      have hsc := scal_ok (f := inv (Z.1 (dg 300 Z.1).toNat).toNat) (show 0 < pr by omega) hZ2
      refine w_zret X hr rfl hlk w ⟨Gw7, rfl, ?_, fun j j0 j2 j3 j4 j5 j6 jt => ?_, Or.inr ⟨by omega, rfl, by rw [ht7]; exact hsc, ht7⟩⟩ d_Ar_invert_168
      · rw [eGw7, eGw6]; exact (hW1.up (k := t) (by rw [wt]; exact hZ2.ok hpr.2)).up (k := t) (by rw [wt]; exact hsc.ok hpr.2)
      · rw [eGw7, va_up_ne _ _ jt, eGw6, va_up_ne _ _ jt]; exact hFF j j0 j2 j3 j4 j5 j6 jt
    · refine lv_iconst (v := iI (0)) X.1 X.2.1 d_Ar_invert_144 (by decide) ?_
      exact w_zret X hr rfl hlk w ⟨G1, rfl, hW1, hFF, Or.inl ⟨by omega, rfl, by rw [hF t (by omega) (by omega) (by omega) (by omega) (by omega) (by omega), hF0 t (by omega) (by omega) (by omega) (by omega) (by omega)]⟩⟩ d_Ar_invert_145
