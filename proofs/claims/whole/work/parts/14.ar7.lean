section PB
variable {p : Program} {l : Launch} {e : Env} {R : Room} {s : State} {m : MethodId} {args : Array Value} {below : List Frame} {meth : Method} {c : Code} {H : Heap} {locs : List Loc} {cells slots : Nat} {Q : State → Prop} {D : va_G} {cs : Nat → ClassId} {A : Nat → Prop} {ad : Nat → Nat} {T : Nat}
variable {cc : ByteArray} {own : String} {pc : Nat} {ls : Array Slot} {rest : List Value}
theorem i_and1 (X : Cx p s m args c cc own) {a : Int} (ha : 0 ≤ a ∧ a < 2147483648) (hdg : decode cc pc = .ok (.iand, 1)) (kk : W p l e R s m args below meth c H locs cells slots Q (F0 m (pc + 1) ls (.int (iI (a % 2)) :: rest))) : W p l e R s m args below meth c H locs cells slots Q (F0 m pc ls (.int (iI 1) :: .int (iI a) :: rest)) := by
  obtain ⟨n, rfl⟩ := Int.eq_ofNat_of_zero_le ha.1
  refine lv_iand X.1 X.2.1 hdg ?_
  have h := pk_andN (n := n) (by omega) (m := 1) 1 (by decide)
  rw [iI_nI, iI_nI] at h
  rw [show iI 1 = (1 : Int32) from rfl, h]
  exact kk
theorem i_shr1 (X : Cx p s m args c cc own) {a : Int} (ha : 0 ≤ a ∧ a < 2147483648) (hdg : decode cc pc = .ok (.ishr, 1)) (kk : W p l e R s m args below meth c H locs cells slots Q (F0 m (pc + 1) ls (.int (iI (a / 2)) :: rest))) : W p l e R s m args below meth c H locs cells slots Q (F0 m pc ls (.int (iI 1) :: .int (iI a) :: rest)) := by
  obtain ⟨n, rfl⟩ := Int.eq_ofNat_of_zero_le ha.1
  refine lv_ishr X.1 X.2.1 hdg ?_
  have h := pk_shrN (n := n) (by omega) (iI 1 &&& 31) 1 (by decide)
  rw [iI_nI, iI_nI] at h
  rw [h]
  exact kk
end PB
theorem mulm_ok {cs : Nat → ClassId} {ad : Nat → Nat} {pr : Int} {inv : Nat → Int} {O : Nat → va_E} (hO : arO cs ad pr inv O) {A B M : Nat → Int} (hA : okp pr 25 A) (hB : okp pr 25 B) (hM : okp pr 25 M) (hd : 0 ≤ dg 300 M) : okp pr 25 (mulm pr inv A B M) ∧ okp pr 300 (dvm pr inv (prd pr A B) M).1 ∧ okp pr 300 (dvm pr inv (prd pr A B) M).2 := by
  have hpr := hO.2.2.1
  have hda := (hA.ok hpr.2).dlt 300
  have hdb := (hB.ok hpr.2).dlt 300
  have hdm := (hM.ok hpr.2).dlt 300
  have hP : okp pr 300 (prd pr A B) := prd_ok (by omega) hpr.2 hA hB (by omega) (by omega)
  have h := dvm_ok (inv := inv) (M := 300) (by omega) hP hM (by omega) (by omega) hpr.2 (by have := dg_lt 300 (prd pr A B); omega)
  exact ⟨dvm_ok25 hO hP hM (by omega) (by omega) hd (by omega), h.1, h.2⟩
theorem WF.mul {cs : Nat → ClassId} {ad : Nat → Nat} {pr : Int} {inv : Nat → Int} {O : Nat → va_E} (hO : arO cs ad pr inv O) {G : Nat → Nat → Int} (hW : WF G) {A B M : Nat → Int} (hA : okp pr 25 A) (hB : okp pr 25 B) (hM : okp pr 25 M) (hd : 0 ≤ dg 300 M) {t : Nat} (ht : 2 ≤ t) : WF (va_up (va_up (va_up G 0 (dvm pr inv (prd pr A B) M).2) 1 (dvm pr inv (prd pr A B) M).1) t (dvm pr inv (prd pr A B) M).1) := by
  have h := mulm_ok hO hA hB hM hd
  have hpr := hO.2.2.1
  exact ((hW.up (k := 0) (h.2.2.ok hpr.2)).up (k := 1) (h.2.1.ok hpr.2)).up (k := t) (by rw [wd_2 ht]; exact h.1.ok hpr.2)
/-- powers by squaring -/
def powL (pr : Int) (inv : Nat → Int) (M : Nat → Int) : Nat → Nat → (Nat → Int) → (Nat → Int) → Nat → Int
  | 0, _, U, _ => U
  | f + 1, n, U, S => if n = 0 then U else powL pr inv M f (n / 2) (if n % 2 = 1 then mulm pr inv U S M else U) (mulm pr inv S S M)
def oneP : Nat → Int := fun x => if x = 0 then 1 else 0
theorem oneP_ok {pr : Int} {N : Nat} (hp : 1 < pr) (hN : 0 < N) : okp pr N oneP := by
  refine ⟨fun x => ?_, fun x hx => ?_⟩
  · unfold oneP; split <;> omega
  · unfold oneP; rw [if_neg (by omega)]
def powP (pr : Int) (inv : Nat → Int) (A : Nat → Int) (n : Nat) (M : Nat → Int) : Nat → Int := powL pr inv M 31 n oneP A
section RA
variable {p : Program} {l : Launch} {e : Env} {s : State} {m : MethodId} {args : Array Value} {below : List Frame} {meth : Method} {c : Code} {H : Heap} {locs : List Loc} {Q : State → Prop} {D : va_G} {cs : Nat → ClassId} {A : Nat → Prop} {ad : Nat → Nat} {T : Nat} {O : Nat → va_E} {pr : Int} {inv : Nat → Int}
variable {t d : Nat} {G : Nat → Nat → Int}
theorem l_Ar_raise (X : Cx p s m args c b_Ar_raise RAr) (hml : c.maxLocals = 7) (hT : 132 ≤ T) (hO : arO cs ad pr inv O) (ht : 7 ≤ t ∧ t < 61) (hd : 7 ≤ d ∧ d < 61) (hdt : d ≠ t) (hM : okp pr 25 (G d)) (hdd : 0 ≤ dg 300 (G d)) {Z : Nat → Int}
    (K : ∀ (G1 : Nat → Nat → Int) (H : Heap) (locs : List Loc) (ls : Array Slot), Wd D cs A ad T s (mkV cs ad (rV G1) O) H locs → okp pr 25 Z → G1 t = Z → WF G1 → (∀ j, j ≠ 0 → j ≠ 1 → j ≠ 2 → j ≠ t → G1 j = G j) → W p l e { frames := 4, cells := 0, slots := 0, locals := 97 } s m args below meth c H locs 0 0 Q (F0 m 64 ls [])) :
    ∀ (f n : Nat) (G1 : Nat → Nat → Int) (H : Heap) (locs : List Loc) (ls : Array Slot), n < 2 ^ f → n < 2147483648 → okp pr 25 (G1 t) → okp pr 25 (G1 2) → powL pr inv (G d) f n (G1 t) (G1 2) = Z → WF G1 → (∀ j, j ≠ 0 → j ≠ 1 → j ≠ 2 → j ≠ t → G1 j = G j) → Wd D cs A ad T s (mkV cs ad (rV G1) O) H locs → lv_has ls 7 [(0, .ref (ad (123))), (1, .ref (ad (2 * t))), (4, .ref (ad (2 * d))), (5, .ref (ad (2 * 2))), (6, .int (iI (n)))] → W p l e { frames := 4, cells := 0, slots := 0, locals := 97 } s m args below meth c H locs 0 0 Q (F0 m 20 ls []) := by
  have hpr := hO.2.2.1
  intro f
  induction f with
  | zero =>
    intro n G1 H locs ls h1 h2 hU hS hz hW hF w hl
    refine lv_iload X.1 X.2.1 d_Ar_raise_20 (lv_at hl 4 rfl) ?_
    refine z_le (a := n) (tgt := 64) X (by omega) d_Ar_raise_22 (by decide) (fun h_22 => ?_) (fun h_22 => ?_)
    · exact K G1 H locs ls w (by rw [← hz]; exact hU) hz hW hF
    · exact absurd h_22 (by simp at h1; omega)
  | succ f ih =>
    intro n G1 H locs ls h1 h2 hU hS hz hW hF w hl
    have hGd : G1 d = G d := hF d (by omega) (by omega) (by omega) hdt
    unfold powL at hz
    have hn2 : n / 2 < 2 ^ f := by rw [Nat.pow_succ] at h1; omega
    refine lv_iload X.1 X.2.1 d_Ar_raise_20 (lv_at hl 4 rfl) ?_
    refine z_le (a := n) (tgt := 64) X (by omega) d_Ar_raise_22 (by decide) (fun h_22 => ?_) (fun h_22 => ?_)
    · rw [if_pos (by omega)] at hz
      exact K G1 H locs ls w (by rw [← hz]; exact hU) hz hW hF
    · refine lv_iload X.1 X.2.1 d_Ar_raise_25 (lv_at hl 4 rfl) ?_
      refine lv_iconst (v := iI (1)) X.1 X.2.1 d_Ar_raise_27 (by decide) ?_
      refine i_and1 (a := n) X (by omega) d_Ar_raise_28 ?_
      refine lv_iconst (v := iI (1)) X.1 X.2.1 d_Ar_raise_29 (by decide) ?_
      refine i_ne (a := n % 2) (b := 1) (tgt := 43) X (by omega) (by omega) d_Ar_raise_30 (by decide) (fun h_30 => ?_) (fun h_30 => ?_)
      · refine lv_aload_n X.1 X.2.1 d_Ar_raise_43 rfl (lv_at hl 0 rfl) ?_
        refine lv_aload X.1 X.2.1 d_Ar_raise_44 (lv_at hl 3 rfl) ?_
        refine lv_aload X.1 X.2.1 d_Ar_raise_46 (lv_at hl 3 rfl) ?_
        refine lv_aload X.1 X.2.1 d_Ar_raise_48 (lv_at hl 3 rfl) ?_
        refine lv_aload X.1 X.2.1 d_Ar_raise_50 (lv_at hl 2 rfl) ?_
        refine w_cVv (n := 4) (i := 123) (ci := 1) (As := [.ref (ad (2 * 2)), .ref (ad (2 * 2)), .ref (ad (2 * 2)), .ref (ad (2 * d))]) (rest := []) X w hml hl.1 (c_Ar_multiply hT (G := G1) hO (t := 2) (a := 2) (b := 2) (d := d) (by omega) (by omega) (by omega) (by omega) hW (by exact hS) (by exact hS) (by rw [hGd]; exact hM) (by rw [hGd]; exact hdd)) (by omega) (by rw [mkV_O (by decide)]; exact hO.1) rfl k_m_Ar_101 k_im_Ar_multiply k_se_Ar_multiply k_i_Ar k_co_Ar_multiply (by decide +kernel) rfl ⟨Nat.le_of_ble_eq_true rfl, Nat.le_of_ble_eq_true rfl⟩ ⟨rfl, rfl⟩ ⟨Nat.zero_le _, Nat.zero_le _⟩ rfl (Nat.le_of_ble_eq_true rfl) d_Ar_raise_52 (fun C' H locs hp w => ?_)
        subst hp
        obtain ⟨Gw1, eGw1⟩ : ∃ gg : Nat → Nat → Int, gg = va_up (va_up (va_up G1 0 (dvm pr inv (prd pr (G1 2) (G1 2)) (G1 d)).2) 1 (dvm pr inv (prd pr (G1 2) (G1 2)) (G1 d)).1) 2 (dvm pr inv (prd pr (G1 2) (G1 2)) (G1 d)).1 := ⟨_, rfl⟩
        rw [← eGw1] at w
        refine lv_iload X.1 X.2.1 d_Ar_raise_55 (lv_at hl 4 rfl) ?_
        refine lv_iconst (v := iI (1)) X.1 X.2.1 d_Ar_raise_57 (by decide) ?_
        refine i_shr1 (a := n) X (by omega) d_Ar_raise_58 ?_
        refine lv_istore (lv' := [(6, .int (iI (n / 2))), (0, .ref (ad (123))), (1, .ref (ad (2 * t))), (4, .ref (ad (2 * d))), (5, .ref (ad (2 * 2)))]) X.1 X.2.1 d_Ar_raise_59 hl (by decide) rfl (fun ls hl => ?_)
        refine lv_goto (tgt := 20) X.1 X.2.1 d_Ar_raise_61 (by decide) ?_
        rw [hGd] at eGw1
        have gt : Gw1 t = G1 t := by rw [eGw1, va_up_ne _ _ (by omega), va_up_ne _ _ (by omega), va_up_ne _ _ (by omega)]
        have gs : Gw1 2 = mulm pr inv (G1 2) (G1 2) (G d) := by rw [eGw1, va_up_self]; rfl
        have hq : (n : Int) / 2 = ((n / 2 : Nat) : Int) := by omega
        refine ih (n / 2) Gw1 H locs ls hn2 (by omega) (by rw [gt]; exact hU) (by rw [gs]; exact (mulm_ok hO hS hS hM hdd).1) ?_ (by rw [eGw1]; exact WF.mul hO hW hS hS hM hdd (by omega)) (fun j j0 j1 j2 jt => by rw [eGw1, va_up_ne _ _ j2, va_up_ne _ _ j1, va_up_ne _ _ j0]; exact hF j j0 j1 j2 jt) w (by rw [← hq]; exact lv_sub hl [1, 2, 3, 4, 0] rfl)
        rw [if_neg (by omega), if_neg (by omega)] at hz
        rw [gt, gs]; exact hz
      · refine lv_aload_n X.1 X.2.1 d_Ar_raise_33 rfl (lv_at hl 0 rfl) ?_
        refine lv_aload_n X.1 X.2.1 d_Ar_raise_34 rfl (lv_at hl 1 rfl) ?_
        refine lv_aload_n X.1 X.2.1 d_Ar_raise_35 rfl (lv_at hl 1 rfl) ?_
        refine lv_aload X.1 X.2.1 d_Ar_raise_36 (lv_at hl 3 rfl) ?_
        refine lv_aload X.1 X.2.1 d_Ar_raise_38 (lv_at hl 2 rfl) ?_
        refine w_cVv (n := 4) (i := 123) (ci := 1) (As := [.ref (ad (2 * t)), .ref (ad (2 * t)), .ref (ad (2 * 2)), .ref (ad (2 * d))]) (rest := []) X w hml hl.1 (c_Ar_multiply hT (G := G1) hO (t := t) (a := t) (b := 2) (d := d) (by omega) (by omega) (by omega) (by omega) hW hU hS (by rw [hGd]; exact hM) (by rw [hGd]; exact hdd)) (by omega) (by rw [mkV_O (by decide)]; exact hO.1) rfl k_m_Ar_101 k_im_Ar_multiply k_se_Ar_multiply k_i_Ar k_co_Ar_multiply (by decide +kernel) rfl ⟨Nat.le_of_ble_eq_true rfl, Nat.le_of_ble_eq_true rfl⟩ ⟨rfl, rfl⟩ ⟨Nat.zero_le _, Nat.zero_le _⟩ rfl (Nat.le_of_ble_eq_true rfl) d_Ar_raise_40 (fun C' H locs hp w => ?_)
        subst hp
        obtain ⟨Gw1, eGw1⟩ : ∃ gg : Nat → Nat → Int, gg = va_up (va_up (va_up G1 0 (dvm pr inv (prd pr (G1 t) (G1 2)) (G1 d)).2) 1 (dvm pr inv (prd pr (G1 t) (G1 2)) (G1 d)).1) t (dvm pr inv (prd pr (G1 t) (G1 2)) (G1 d)).1 := ⟨_, rfl⟩
        rw [← eGw1] at w
        rw [hGd] at eGw1
        have gt : Gw1 t = mulm pr inv (G1 t) (G1 2) (G d) := by rw [eGw1, va_up_self]; rfl
        have g2 : Gw1 2 = G1 2 := by rw [eGw1, va_up_ne _ _ (by omega), va_up_ne _ _ (by omega), va_up_ne _ _ (by omega)]
        have hgt : okp pr 25 (Gw1 t) := by rw [gt]; exact (mulm_ok hO hU hS hM hdd).1
        have hWg : WF Gw1 := by rw [eGw1]; exact WF.mul hO hW hU hS hM hdd (by omega)
        have hFg : ∀ j, j ≠ 0 → j ≠ 1 → j ≠ 2 → j ≠ t → Gw1 j = G j := fun j j0 j1 j2 jt => by rw [eGw1, va_up_ne _ _ jt, va_up_ne _ _ j1, va_up_ne _ _ j0]; exact hF j j0 j1 j2 jt
        refine lv_aload_n X.1 X.2.1 d_Ar_raise_43 rfl (lv_at hl 0 rfl) ?_
        refine lv_aload X.1 X.2.1 d_Ar_raise_44 (lv_at hl 3 rfl) ?_
        refine lv_aload X.1 X.2.1 d_Ar_raise_46 (lv_at hl 3 rfl) ?_
        refine lv_aload X.1 X.2.1 d_Ar_raise_48 (lv_at hl 3 rfl) ?_
        refine lv_aload X.1 X.2.1 d_Ar_raise_50 (lv_at hl 2 rfl) ?_
        refine w_cVv (n := 4) (i := 123) (ci := 1) (As := [.ref (ad (2 * 2)), .ref (ad (2 * 2)), .ref (ad (2 * 2)), .ref (ad (2 * d))]) (rest := []) X w hml hl.1 (c_Ar_multiply hT (G := Gw1) hO (t := 2) (a := 2) (b := 2) (d := d) (by omega) (by omega) (by omega) (by omega) hWg (by rw [g2]; exact hS) (by rw [g2]; exact hS) (by rw [hFg d (by omega) (by omega) (by omega) hdt]; exact hM) (by rw [hFg d (by omega) (by omega) (by omega) hdt]; exact hdd)) (by omega) (by rw [mkV_O (by decide)]; exact hO.1) rfl k_m_Ar_101 k_im_Ar_multiply k_se_Ar_multiply k_i_Ar k_co_Ar_multiply (by decide +kernel) rfl ⟨Nat.le_of_ble_eq_true rfl, Nat.le_of_ble_eq_true rfl⟩ ⟨rfl, rfl⟩ ⟨Nat.zero_le _, Nat.zero_le _⟩ rfl (Nat.le_of_ble_eq_true rfl) d_Ar_raise_52 (fun C' H locs hp w => ?_)
        subst hp
        obtain ⟨Gw2, eGw2⟩ : ∃ gg : Nat → Nat → Int, gg = va_up (va_up (va_up Gw1 0 (dvm pr inv (prd pr (Gw1 2) (Gw1 2)) (Gw1 d)).2) 1 (dvm pr inv (prd pr (Gw1 2) (Gw1 2)) (Gw1 d)).1) 2 (dvm pr inv (prd pr (Gw1 2) (Gw1 2)) (Gw1 d)).1 := ⟨_, rfl⟩
        rw [← eGw2] at w
        refine lv_iload X.1 X.2.1 d_Ar_raise_55 (lv_at hl 4 rfl) ?_
        refine lv_iconst (v := iI (1)) X.1 X.2.1 d_Ar_raise_57 (by decide) ?_
        refine i_shr1 (a := n) X (by omega) d_Ar_raise_58 ?_
        refine lv_istore (lv' := [(6, .int (iI (n / 2))), (0, .ref (ad (123))), (1, .ref (ad (2 * t))), (4, .ref (ad (2 * d))), (5, .ref (ad (2 * 2)))]) X.1 X.2.1 d_Ar_raise_59 hl (by decide) rfl (fun ls hl => ?_)
        refine lv_goto (tgt := 20) X.1 X.2.1 d_Ar_raise_61 (by decide) ?_
        have hGd2 : Gw1 d = G d := hFg d (by omega) (by omega) (by omega) hdt
        rw [hGd2, g2] at eGw2
        have gt2 : Gw2 t = mulm pr inv (G1 t) (G1 2) (G d) := by rw [eGw2, va_up_ne _ _ (by omega), va_up_ne _ _ (by omega), va_up_ne _ _ (by omega), gt]
        have gs : Gw2 2 = mulm pr inv (G1 2) (G1 2) (G d) := by rw [eGw2, va_up_self]; rfl
        have hq : (n : Int) / 2 = ((n / 2 : Nat) : Int) := by omega
        refine ih (n / 2) Gw2 H locs ls hn2 (by omega) (by rw [gt2, ← gt]; exact hgt) (by rw [gs]; exact (mulm_ok hO hS hS hM hdd).1) ?_ (by rw [eGw2]; exact WF.mul hO hWg hS hS hM hdd (by omega)) (fun j j0 j1 j2 jt => by rw [eGw2, va_up_ne _ _ j2, va_up_ne _ _ j1, va_up_ne _ _ j0]; exact hFg j j0 j1 j2 jt) w (by rw [← hq]; exact lv_sub hl [1, 2, 3, 4, 0] rfl)
        rw [if_neg (by omega), if_pos (by omega)] at hz
        rw [gt2, gs]; exact hz
end RA
theorem c_Ar_raise {l : Launch} {D : va_G} {cs : Nat → ClassId} {A : Nat → Prop} {ad : Nat → Nat} {T : Nat} (hT : 132 ≤ T) {G : Nat → Nat → Int} {O : Nat → va_E} {pr : Int} {inv : Nat → Int} (hO : arO cs ad pr inv O) {t a d n : Nat} (ht : 7 ≤ t ∧ t < 61) (ha : 7 ≤ a ∧ a < 61) (hd : 7 ≤ d ∧ d < 61) (hdt : d ≠ t) (hn : n < 2147483648) (hW : WF G) (hA : okp pr 25 (G a)) (hM : okp pr 25 (G d)) (hdd : 0 ≤ dg 300 (G d)) : Cv l y_Ar_raise ws_Ar_raise { frames := 4, cells := 0, slots := 0, locals := 97 } D cs A ad T [.ref (ad (123)), .ref (ad (2 * t)), .ref (ad (2 * a)), .int (iI (n)), .ref (ad (2 * d))] (mkV cs ad (rV G) O) (fun C' => ∃ G', C' = mkV cs ad (rV G') O ∧ WF G' ∧ G' t = powP pr inv (G a) n (G d) ∧ okp pr 25 (G' t) ∧ ∀ j, j ≠ 0 → j ≠ 1 → j ≠ 2 → j ≠ t → G' j = G j) := by
  refine w_bodyV (by decide) (Nat.le_of_ble_eq_true rfl) ?_
  intro p e s m below meth c X hr hlk hml w ls hl
  have hl : lv_has ls 7 [(0, .ref (ad (123))), (1, .ref (ad (2 * t))), (2, .ref (ad (2 * a))), (3, .int (iI (n))), (4, .ref (ad (2 * d)))] := hl
  have hpr := hO.2.2.1
  have wa := wd_2 (show 2 ≤ a by omega)
  have wt := wd_2 (show 2 ≤ t by omega)
  have w2 : wd 2 = 25 := rfl
  refine lv_aload_n X.1 X.2.1 d_Ar_raise_0 rfl (lv_at hl 0 rfl) ?_
  refine t_ar X hT w hO 4 (by decide) k_f_Ar_27 rfl d_Ar_raise_1 ?_
  refine lv_astore (lv' := [(5, .ref (ad (2 * 2))), (0, .ref (ad (123))), (1, .ref (ad (2 * t))), (2, .ref (ad (2 * a))), (3, .int (iI (n))), (4, .ref (ad (2 * d)))]) X.1 X.2.1 d_Ar_raise_4 hl (by decide) rfl (fun ls hl => ?_)
  refine lv_aload X.1 X.2.1 d_Ar_raise_6 (lv_at hl 0 rfl) ?_
  refine lv_aload_n X.1 X.2.1 d_Ar_raise_8 rfl (lv_at hl 3 rfl) ?_
  refine w_cVv (n := 1) (i := 2 * 2) (ci := 0) (As := [.ref (ad (2 * a))]) (rest := []) X w hml hl.1 (c_Po_copyFrom hT (G := G) (k := 2) (q := a) (by omega) (by omega) (by omega) (hW 2 (by omega)) (hW a (by omega)) (hA.ok hpr.2)) (by omega) (mkV_o (by omega)) rfl k_m_Ar_83 k_im_Po_copyFrom k_se_Po_copyFrom k_i_Po k_co_Po_copyFrom (by decide +kernel) rfl ⟨Nat.le_of_ble_eq_true rfl, Nat.le_of_ble_eq_true rfl⟩ ⟨rfl, rfl⟩ ⟨Nat.zero_le _, Nat.zero_le _⟩ rfl (Nat.le_of_ble_eq_true rfl) d_Ar_raise_9 (fun C' H locs hp w => ?_)
  subst hp
  obtain ⟨Gw1, eGw1⟩ : ∃ gg : Nat → Nat → Int, gg = va_up G 2 (G a) := ⟨_, rfl⟩
  rw [← eGw1] at w
  refine lv_aload_n X.1 X.2.1 d_Ar_raise_12 rfl (lv_at hl 2 rfl) ?_
  refine lv_iconst (v := iI (0)) X.1 X.2.1 d_Ar_raise_13 (by decide) ?_
  refine w_cVv (n := 1) (i := 2 * t) (ci := 0) (As := [.int (iI ((0 : Nat)))]) (rest := []) X w hml hl.1 (c_Po_becomePowerOfX hT (G := Gw1) (k := t) (i := 0) (by omega) (by omega) (by rw [eGw1, va_up_ne _ _ (by omega)]; exact hW t (by omega))) (by omega) (mkV_o (by omega)) rfl k_m_Ar_98 k_im_Po_becomePowerOfX k_se_Po_becomePowerOfX k_i_Po k_co_Po_becomePowerOfX (by decide +kernel) rfl ⟨Nat.le_of_ble_eq_true rfl, Nat.le_of_ble_eq_true rfl⟩ ⟨rfl, rfl⟩ ⟨Nat.zero_le _, Nat.zero_le _⟩ rfl (Nat.le_of_ble_eq_true rfl) d_Ar_raise_14 (fun C' H locs hp w => ?_)
  subst hp
  obtain ⟨Gw2, eGw2⟩ : ∃ gg : Nat → Nat → Int, gg = va_up Gw1 t (fun x => if x = 0 then 1 else 0) := ⟨_, rfl⟩
  rw [← eGw2] at w
  refine lv_iload_n X.1 X.2.1 d_Ar_raise_17 rfl (lv_at hl 4 rfl) ?_
  refine lv_istore (lv' := [(6, .int (iI (n))), (5, .ref (ad (2 * 2))), (0, .ref (ad (123))), (1, .ref (ad (2 * t))), (2, .ref (ad (2 * a))), (3, .int (iI (n))), (4, .ref (ad (2 * d)))]) X.1 X.2.1 d_Ar_raise_18 hl (by decide) rfl (fun ls hl => ?_)
  have ft : Gw2 t = oneP := by rw [eGw2, va_up_self]; rfl
  have f2 : Gw2 2 = G a := by rw [eGw2, va_up_ne _ _ (by omega), eGw1, va_up_self]
  have fd : Gw2 d = G d := by rw [eGw2, va_up_ne _ _ hdt, eGw1, va_up_ne _ _ (by omega)]
  have h1 : okp pr 25 oneP := oneP_ok (by omega) (by omega)
  refine l_Ar_raise (G := Gw2) (t := t) (d := d) (Z := powP pr inv (G a) n (G d)) X hml hT hO ht hd hdt (by rw [fd]; exact hM) (by rw [fd]; exact hdd) (fun G1 H locs ls w hZ hz hW1 hF => ?_) 31 n Gw2 _ _ _ (by omega) hn (by rw [ft]; exact h1) (by rw [f2]; exact hA) (by rw [ft, f2, fd]; rfl) ?_ (fun _ _ _ _ _ => rfl) w (lv_sub hl [2, 3, 6, 1, 0] rfl)
  · refine w_vret X hr hlk w ⟨G1, rfl, hW1, hz, by rw [hz]; exact hZ, fun j j0 j1 j2 jt => ?_⟩ d_Ar_raise_64
    rw [hF j j0 j1 j2 jt, eGw2, va_up_ne _ _ jt, eGw1, va_up_ne _ _ j2]
  · rw [eGw2, eGw1]; exact (hW.up (k := 2) (hA.ok hpr.2)).up (k := t) (by rw [wt]; exact h1.ok hpr.2)
