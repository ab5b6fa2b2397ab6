/-- A(x^n) -/
def fro (n : Nat) (A : Nat → Int) : Nat → Int := fun x => if x % n = 0 then A (x / n) else 0
def froL (n : Nat) (A : Nat → Int) (i : Nat) : Nat → Int := fun x => if x % n = 0 ∧ x / n < i then A (x / n) else 0
theorem froL_up {n i : Nat} {A : Nat → Int} (hn : 0 < n) : va_up (froL n A i) (i * n) (A i) = froL n A (i + 1) := by
  funext x
  by_cases h : x = i * n
  · subst h
    rw [va_up_self]
    unfold froL
    rw [Nat.mul_mod_left, Nat.mul_div_cancel _ hn, if_pos ⟨rfl, by omega⟩]
  · rw [va_up_ne _ _ h]
    unfold froL
    by_cases h1 : x % n = 0
    · have h2 : x / n * n = x := Nat.div_mul_cancel (Nat.dvd_of_mod_eq_zero h1)
      have h3 : x / n ≠ i := fun e => h (by rw [← e, h2])
      by_cases h4 : x / n < i
      · rw [if_pos ⟨h1, h4⟩, if_pos ⟨h1, by omega⟩]
      · rw [if_neg (fun e => h4 e.2), if_neg (fun e => by omega)]
    · rw [if_neg (fun e => h1 e.1), if_neg (fun e => h1 e.1)]
theorem froL_0 {n i : Nat} {A : Nat → Int} (hA : A i = 0) : froL n A i = froL n A (i + 1) := by
  funext x
  unfold froL
  by_cases h1 : x % n = 0
  · by_cases h3 : x / n = i
    · rw [if_neg (fun e => by omega), if_pos ⟨h1, by omega⟩, h3, hA]
    · by_cases h4 : x / n < i
      · rw [if_pos ⟨h1, h4⟩, if_pos ⟨h1, by omega⟩]
      · rw [if_neg (fun e => h4 e.2), if_neg (fun e => by omega)]
  · rw [if_neg (fun e => h1 e.1), if_neg (fun e => h1 e.1)]
theorem froL_ok {pr : Int} {n i N M : Nat} {A : Nat → Int} (hn : 0 < n) (hp : 0 < pr) (hA : okp pr M A) (h : ∀ j, j < i → A j ≠ 0 → j * n < N) : okp pr N (froL n A i) := by
  refine ⟨fun x => ?_, fun x hx => ?_⟩
  · unfold froL
    split
    · exact hA.1 _
    · exact ⟨Int.le_refl 0, hp⟩
  · unfold froL
    split
    · next h1 =>
      have h2 : x / n * n = x := Nat.div_mul_cancel (Nat.dvd_of_mod_eq_zero h1.1)
      by_cases h3 : A (x / n) = 0
      · exact h3
      · have := h _ h1.2 h3; omega
    · rfl
/-- a(x^p) modulo M -/
def frm (pr : Int) (inv : Nat → Int) (A M : Nat → Int) : Nat → Int := (dvm pr inv (fro pr.toNat A) M).1
section RP
variable {p : Program} {l : Launch} {e : Env} {s : State} {m : MethodId} {args : Array Value} {below : List Frame} {meth : Method} {c : Code} {H : Heap} {locs : List Loc} {Q : State → Prop} {D : va_G} {cs : Nat → ClassId} {A : Nat → Prop} {ad : Nat → Nat} {T : Nat} {O : Nat → va_E} {pr : Int} {inv : Nat → Int}
variable {k d : Nat} {G : Nat → Nat → Int}
theorem l_Ar_raiseToP (X : Cx p s m args c b_Ar_raiseToP RAr) (hml : c.maxLocals = 4) (hT : 132 ≤ T) (hO : arO cs ad pr inv O) (hk : 2 ≤ k ∧ k < 61) (hA : okp pr 25 (G k)) (hdk : dg 300 (G k) ≤ 23)
    (K : ∀ (H : Heap) (locs : List Loc) (ls : Array Slot), Wd D cs A ad T s (mkV cs ad (rV (va_up G 1 (fro pr.toNat (G k)))) O) H locs → okp pr 300 (fro pr.toNat (G k)) → lv_has ls 4 [(0, .ref (ad (123))), (1, .ref (ad (2 * k))), (2, .ref (ad (2 * d)))] → W p l e { frames := 3, cells := 0, slots := 0, locals := 73 } s m args below meth c H locs 0 0 Q (F0 m 51 ls [])) :
    ∀ (n i : Nat) (G1 : Nat → Nat → Int) (H : Heap) (locs : List Loc) (ls : Array Slot), dg 300 (G k) + 2 ≤ i + n → (i : Int) ≤ dg 300 (G k) + 1 → Wd D cs A ad T s (mkV cs ad (rV G1) O) H locs → G1 = va_up G 1 (froL pr.toNat (G k) i) → lv_has ls 4 [(0, .ref (ad (123))), (1, .ref (ad (2 * k))), (2, .ref (ad (2 * d))), (3, .int (iI (i)))] → W p l e { frames := 3, cells := 0, slots := 0, locals := 73 } s m args below meth c H locs 0 0 Q (F0 m 9 ls []) := by
  have hpr := hO.2.2.1
  have hAo := hA.ok hpr.2
  have wk := wd_2 hk.1
  have w1 : wd 1 = 300 := rfl
  have hd0 := dg_ge 300 (G k)
  have hmul : ∀ j : Nat, (j : Int) ≤ dg 300 (G k) → j * pr.toNat < 300 := fun j hj => by
    have := Nat.mul_le_mul (show j ≤ 23 by omega) (show pr.toNat ≤ 13 by omega)
    omega
  have hok : ∀ i : Nat, okp pr 300 (froL pr.toNat (G k) i) := fun i => froL_ok (by omega) (by omega) hA (fun j _ hj => by
    by_cases h : (j : Int) ≤ dg 300 (G k)
    · exact hmul j h
    · exact absurd (hAo.above (N := 300) (by omega) (by omega)) hj)
  intro n
  induction n with
  | zero => intro i G1 H locs ls h1 h2; omega
  | succ n ih =>
    intro i G1 H locs ls h1 h2 w eG hl
    have hGk : G1 k = G k := by rw [eG, va_up_ne _ _ (by omega)]
    have hG1 : G1 1 = froL pr.toNat (G k) i := by rw [eG, va_up_self]
    have hdG : dg 300 (G1 k) = dg 300 (G k) := by rw [hGk]
    have hki : G1 k i = G k i := by rw [hGk]
    have hai := hA.1 i
    have hpi : (i : Int) * pr = ((i * pr.toNat : Nat) : Int) := by
      rw [Int.natCast_mul, Int.toNat_of_nonneg (by omega)]
    refine lv_iload_n X.1 X.2.1 d_Ar_raiseToP_9 rfl (lv_at hl 3 rfl) ?_
    refine lv_aload_n X.1 X.2.1 d_Ar_raiseToP_10 rfl (lv_at hl 1 rfl) ?_
    refine g_deg (k := k) X hT w (by omega) k_f_Ar_52 d_Ar_raiseToP_11 ?_
    refine i_gt (a := i) (b := dg 300 (G1 k)) (tgt := 51) X (by omega) (by omega) d_Ar_raiseToP_14 (by decide) (fun h_14 => ?_) (fun h_14 => ?_)
    · have e1 : fro pr.toNat (G k) = froL pr.toNat (G k) i := by
        funext x
        unfold fro froL
        by_cases hx : x % pr.toNat = 0
        · rw [if_pos hx]
          by_cases h9 : x / pr.toNat < i
          · rw [if_pos ⟨hx, h9⟩]
          · rw [if_neg (fun e => h9 e.2)]; exact hAo.above (N := 300) (by omega) (by omega)
        · rw [if_neg hx, if_neg (fun e => hx e.1)]
      refine K H locs ls ?_ (by rw [e1]; exact hok i) (lv_sub hl [0, 1, 2] rfl)
      rw [e1, ← eG]
      exact w
    · refine lv_aload_n X.1 X.2.1 d_Ar_raiseToP_17 rfl (lv_at hl 1 rfl) ?_
      refine t_co (k := k) X hT w (by omega) k_f_Ar_55 d_Ar_raiseToP_18 ?_
      refine lv_iload_n X.1 X.2.1 d_Ar_raiseToP_21 rfl (lv_at hl 3 rfl) ?_
      refine g_ld (k := k) (z := i) X hT w (by omega) (i) (by omega) (by omega) d_Ar_raiseToP_22 ?_
      refine z_eq (a := G1 k i) (tgt := 45) X (by omega) d_Ar_raiseToP_23 (by decide) (fun h_23 => ?_) (fun h_23 => ?_)
      · refine i_inc (k := 3) (x := i) (lv' := [(3, .int (iI (i + 1))), (0, .ref (ad (123))), (1, .ref (ad (2 * k))), (2, .ref (ad (2 * d)))]) X d_Ar_raiseToP_45 hl rfl (by decide) rfl (fun ls hl => ?_)
        refine lv_goto (tgt := 9) X.1 X.2.1 d_Ar_raiseToP_48 (by decide) ?_
        refine ih (i + 1) _ H locs ls (by omega) (by omega) w ?_ (lv_sub hl [1, 2, 3, 0] rfl)
        rw [eG, froL_0 (show G k i = 0 by omega)]
      · refine lv_aload_n X.1 X.2.1 d_Ar_raiseToP_26 rfl (lv_at hl 0 rfl) ?_
        refine t_ar X hT w hO 3 (by decide) k_f_Ar_24 rfl d_Ar_raiseToP_27 ?_
        refine lv_iload_n X.1 X.2.1 d_Ar_raiseToP_30 rfl (lv_at hl 3 rfl) ?_
        refine lv_aload_n X.1 X.2.1 d_Ar_raiseToP_31 rfl (lv_at hl 0 rfl) ?_
        refine t_ar X hT w hO 0 (by decide) k_f_Ar_48 rfl d_Ar_raiseToP_32 ?_
        refine i_mul (a := i) (b := pr) X d_Ar_raiseToP_35 ?_
        rw [hpi]
        refine lv_aload_n X.1 X.2.1 d_Ar_raiseToP_36 rfl (lv_at hl 1 rfl) ?_
        refine t_co (k := k) X hT w (by omega) k_f_Ar_55 d_Ar_raiseToP_37 ?_
        refine lv_iload_n X.1 X.2.1 d_Ar_raiseToP_40 rfl (lv_at hl 3 rfl) ?_
        refine g_ld (k := k) (z := i) X hT w (by omega) (i) (by omega) (by omega) d_Ar_raiseToP_41 ?_
        refine w_cVv (n := 2) (i := 2 * 1) (ci := 0) (As := [.int (iI (((i * pr.toNat : Nat) : Int))), .int (iI (G1 k i))]) (rest := []) X w hml hl.1 (c_Po_put hT (G := G1) (k := 1) (i := i * pr.toNat) (v := G1 k i) (by omega) (hmul i (by omega)) (by omega) (by rw [hG1]; exact (hok i).ok hpr.2)) (by omega) (mkV_o (by omega)) rfl k_m_Ar_79 k_im_Po_put k_se_Po_put k_i_Po k_co_Po_put (by decide +kernel) rfl ⟨Nat.le_of_ble_eq_true rfl, Nat.le_of_ble_eq_true rfl⟩ ⟨rfl, rfl⟩ ⟨Nat.zero_le _, Nat.zero_le _⟩ rfl (Nat.le_of_ble_eq_true rfl) d_Ar_raiseToP_42 (fun C' H locs hp w => ?_)
        subst hp
        obtain ⟨Gw1, eGw1⟩ : ∃ gg : Nat → Nat → Int, gg = va_up G1 1 (va_up (G1 1) (i * pr.toNat) (G1 k i)) := ⟨_, rfl⟩
        rw [← eGw1] at w
        refine i_inc (k := 3) (x := i) (lv' := [(3, .int (iI (i + 1))), (0, .ref (ad (123))), (1, .ref (ad (2 * k))), (2, .ref (ad (2 * d)))]) X d_Ar_raiseToP_45 hl rfl (by decide) rfl (fun ls hl => ?_)
        refine lv_goto (tgt := 9) X.1 X.2.1 d_Ar_raiseToP_48 (by decide) ?_
        refine ih (i + 1) _ H locs ls (by omega) (by omega) w ?_ (lv_sub hl [1, 2, 3, 0] rfl)
        rw [eGw1, hG1, hki, froL_up (by omega), eG, va_uu]
end RP
theorem c_Ar_raiseToP {l : Launch} {D : va_G} {cs : Nat → ClassId} {A : Nat → Prop} {ad : Nat → Nat} {T : Nat} (hT : 132 ≤ T) {G : Nat → Nat → Int} {O : Nat → va_E} {pr : Int} {inv : Nat → Int} (hO : arO cs ad pr inv O) {k d : Nat} (hk : 2 ≤ k ∧ k < 61) (hd : 2 ≤ d ∧ d < 61) (hW : WF G) (hA : okp pr 25 (G k)) (hM : okp pr 25 (G d)) (hdk : dg 300 (G k) ≤ 23) (hdd : 0 ≤ dg 300 (G d)) : Cv l y_Ar_raiseToP ws_Ar_raiseToP { frames := 3, cells := 0, slots := 0, locals := 73 } D cs A ad T [.ref (ad (123)), .ref (ad (2 * k)), .ref (ad (2 * d))] (mkV cs ad (rV G) O) (fun C' => C' = mkV cs ad (rV (va_up (va_up (va_up G 0 (dvm pr inv (fro pr.toNat (G k)) (G d)).2) 1 (dvm pr inv (fro pr.toNat (G k)) (G d)).1) k (dvm pr inv (fro pr.toNat (G k)) (G d)).1)) O) := by
  refine w_bodyV (by decide) (Nat.le_of_ble_eq_true rfl) ?_
  intro p e s m below meth c X hr hlk hml w ls hl
  have hl : lv_has ls 4 [(0, .ref (ad (123))), (1, .ref (ad (2 * k))), (2, .ref (ad (2 * d)))] := hl
  have hpr := hO.2.2.1
  have hAo := hA.ok hpr.2
  have hd0 := dg_ge 300 (G k)
  have hdm := (hM.ok hpr.2).dlt 300
  have wk := wd_2 hk.1
  have wm := wd_2 hd.1
  have w0 : wd 0 = 300 := rfl
  have w1 : wd 1 = 300 := rfl
  refine lv_aload_n X.1 X.2.1 d_Ar_raiseToP_0 rfl (lv_at hl 0 rfl) ?_
  refine t_ar X hT w hO 3 (by decide) k_f_Ar_24 rfl d_Ar_raiseToP_1 ?_
  refine w_cVv (n := 0) (i := 2 * 1) (ci := 0) (As := []) (rest := []) X w hml hl.1 (c_Po_clear hT (G := G) (k := 1) (by omega) (hW 1 (by omega))) (by omega) (mkV_o (by omega)) rfl k_m_Ar_76 k_im_Po_clear k_se_Po_clear k_i_Po k_co_Po_clear (by decide +kernel) rfl ⟨Nat.le_of_ble_eq_true rfl, Nat.le_of_ble_eq_true rfl⟩ ⟨rfl, rfl⟩ ⟨Nat.zero_le _, Nat.zero_le _⟩ rfl (Nat.le_of_ble_eq_true rfl) d_Ar_raiseToP_4 (fun C' H locs hp w => ?_)
  subst hp
  obtain ⟨Gw1, eGw1⟩ : ∃ gg : Nat → Nat → Int, gg = va_up G 1 (fun _ => 0) := ⟨_, rfl⟩
  rw [← eGw1] at w
  refine lv_iconst (v := iI (0)) X.1 X.2.1 d_Ar_raiseToP_7 (by decide) ?_
  refine lv_istore_n (lv' := [(3, .int (iI (0))), (0, .ref (ad (123))), (1, .ref (ad (2 * k))), (2, .ref (ad (2 * d)))]) X.1 X.2.1 d_Ar_raiseToP_8 rfl hl (by decide) rfl (fun ls hl => ?_)
  have fk : Gw1 k = G k := by rw [eGw1, va_up_ne _ _ (by omega)]
  have fd : Gw1 d = G d := by rw [eGw1, va_up_ne _ _ (by omega)]
  refine l_Ar_raiseToP (G := Gw1) (k := k) (d := d) X hml hT hO hk (by rw [fk]; exact hA) (by rw [fk]; exact hdk) (fun H locs ls w hf hl => ?_) (dg 300 (G k) + 2).toNat 0 Gw1 _ _ _ (by rw [fk]; omega) (by rw [fk]; omega) w ?_ (lv_sub hl [1, 2, 3, 0] rfl)
  · rw [fk] at w hf
    have hR : okp pr 25 (dvm pr inv (fro pr.toNat (G k)) (G d)).1 := dvm_ok25 hO hf hM (by omega) (by omega) hdd (by omega)
    obtain ⟨G2, eG2⟩ : ∃ gg : Nat → Nat → Int, gg = va_up Gw1 1 (fro pr.toNat (G k)) := ⟨_, rfl⟩
    rw [← eG2] at w
    have g1 : G2 1 = fro pr.toNat (G k) := by rw [eG2, va_up_self]
    have gd : G2 d = G d := by rw [eG2, va_up_ne _ _ (by omega), fd]
    have gk : G2 k = G k := by rw [eG2, va_up_ne _ _ (by omega), fk]
    have g0 : G2 0 = G 0 := by rw [eG2, va_up_ne _ _ (by omega), eGw1, va_up_ne _ _ (by omega)]
    refine lv_aload_n X.1 X.2.1 d_Ar_raiseToP_51 rfl (lv_at hl 0 rfl) ?_
    refine lv_aload_n X.1 X.2.1 d_Ar_raiseToP_52 rfl (lv_at hl 0 rfl) ?_
    refine t_ar X hT w hO 3 (by decide) k_f_Ar_24 rfl d_Ar_raiseToP_53 ?_
    refine lv_aload_n X.1 X.2.1 d_Ar_raiseToP_56 rfl (lv_at hl 2 rfl) ?_
    refine lv_aload_n X.1 X.2.1 d_Ar_raiseToP_57 rfl (lv_at hl 0 rfl) ?_
    refine t_ar X hT w hO 1 (by decide) k_f_Ar_20 rfl d_Ar_raiseToP_58 ?_
    refine w_cVv (n := 3) (i := 123) (ci := 1) (As := [.ref (ad (2 * 1)), .ref (ad (2 * d)), .ref (ad (2 * 0))]) (rest := []) X w hml hl.1 (c_Ar_divide hT (G := G2) hO (k := 1) (q := d) (t := 0) (by omega) (by omega) (by omega) (by omega) (by omega) (by omega) (by rw [g1]; exact hf) (by rw [gd, wm]; exact hM) (by rw [g0]; exact hW 0 (by omega)) (by rw [g1, gd, w0]; have := dg_lt 300 (fro pr.toNat (G k)); omega)) (by omega) (by rw [mkV_O (by decide)]; exact hO.1) rfl k_m_Ar_87 k_im_Ar_divide k_se_Ar_divide k_i_Ar k_co_Ar_divide (by decide +kernel) rfl ⟨Nat.le_of_ble_eq_true rfl, Nat.le_of_ble_eq_true rfl⟩ ⟨rfl, rfl⟩ ⟨Nat.zero_le _, Nat.zero_le _⟩ rfl (Nat.le_of_ble_eq_true rfl) d_Ar_raiseToP_61 (fun C' H locs hp w => ?_)
    subst hp
    obtain ⟨Gw2, eGw2⟩ : ∃ gg : Nat → Nat → Int, gg = va_up (va_up G2 0 (dvm pr inv (G2 1) (G2 d)).2) 1 (dvm pr inv (G2 1) (G2 d)).1 := ⟨_, rfl⟩
    rw [← eGw2] at w
    rw [g1, gd] at eGw2
    have k1 : Gw2 1 = (dvm pr inv (fro pr.toNat (G k)) (G d)).1 := by rw [eGw2, va_up_self]
    have kt : Gw2 k = G k := by rw [eGw2, va_up_ne _ _ (by omega), va_up_ne _ _ (by omega), gk]
    refine lv_aload_n X.1 X.2.1 d_Ar_raiseToP_64 rfl (lv_at hl 1 rfl) ?_
    refine lv_aload_n X.1 X.2.1 d_Ar_raiseToP_65 rfl (lv_at hl 0 rfl) ?_
    refine t_ar X hT w hO 3 (by decide) k_f_Ar_24 rfl d_Ar_raiseToP_66 ?_
    refine w_cVv (n := 1) (i := 2 * k) (ci := 0) (As := [.ref (ad (2 * 1))]) (rest := []) X w hml hl.1 (c_Po_copyFrom hT (G := Gw2) (k := k) (q := 1) (by omega) (by omega) (by omega) (by rw [kt]; exact hW k (by omega)) (by rw [k1]; exact (hR.mono (by omega)).ok hpr.2) (by rw [k1, wk]; exact hR.ok hpr.2)) (by omega) (mkV_o (by omega)) rfl k_m_Ar_83 k_im_Po_copyFrom k_se_Po_copyFrom k_i_Po k_co_Po_copyFrom (by decide +kernel) rfl ⟨Nat.le_of_ble_eq_true rfl, Nat.le_of_ble_eq_true rfl⟩ ⟨rfl, rfl⟩ ⟨Nat.zero_le _, Nat.zero_le _⟩ rfl (Nat.le_of_ble_eq_true rfl) d_Ar_raiseToP_69 (fun C' H locs hp w => ?_)
    subst hp
    obtain ⟨Gw3, eGw3⟩ : ∃ gg : Nat → Nat → Int, gg = va_up Gw2 k (Gw2 1) := ⟨_, rfl⟩
    rw [← eGw3] at w
    refine w_vret X hr hlk w ?_ d_Ar_raiseToP_72
    congr 2
    rw [eGw3, k1, eGw2, eG2, eGw1]
    funext j
    simp only [va_up]
    repeat' (first | rfl | (exfalso; omega) | split)
  · rw [fk, eGw1, va_uu]
    congr 1
    funext x
    unfold froL
    rw [if_neg (fun e => Nat.not_lt_zero _ e.2)]
/-- how often B divides F (at most n times), and what is left -/
def tko (pr : Int) (inv : Nat → Int) (B : Nat → Int) : Nat → Nat → (Nat → Int) → Nat × (Nat → Int)
  | 0, i, F => (i, F)
  | n + 1, i, F => if 0 ≤ dg 300 (dvm pr inv F B).1 then (i, F) else tko pr inv B n (i + 1) (dvm pr inv F B).2
section TK
variable {p : Program} {l : Launch} {e : Env} {s : State} {m : MethodId} {args : Array Value} {below : List Frame} {meth : Method} {c : Code} {H : Heap} {locs : List Loc} {Q : State → Prop} {D : va_G} {cs : Nat → ClassId} {A : Nat → Prop} {ad : Nat → Nat} {T : Nat} {O : Nat → va_E} {pr : Int} {inv : Nat → Int}
variable {k q : Nat} {G : Nat → Nat → Int}
theorem l_Ar_takeOut {post : Int32 → (Nat → va_E) → Prop} (X : Cx p s m args c b_Ar_takeOut RAr) (hr : meth.sig.returnType = some .int) (hlk : meth.locks = false) (hml : c.maxLocals = 4) (hT : 132 ≤ T) (hO : arO cs ad pr inv O) (hk : 7 ≤ k ∧ k < 61) (hq : 7 ≤ q ∧ q < 61) (hqk : q ≠ k) (hB : okp pr 25 (G q)) (hdq : 0 ≤ dg 300 (G q)) {Z : Nat × (Nat → Int)}
    (hp : ∀ G1 : Nat → Nat → Int, WF G1 → G1 k = Z.2 → okp pr 25 Z.2 → (∀ j, j ≠ 2 → j ≠ 6 → j ≠ k → G1 j = G j) → post (iI (Z.1 : Int)) (mkV cs ad (rV G1) O)) :
    ∀ (n i : Nat) (G1 : Nat → Nat → Int) (H : Heap) (locs : List Loc) (ls : Array Slot), i + n = 24 → Wd D cs A ad T s (mkV cs ad (rV G1) O) H locs → okp pr 25 (G1 k) → tko pr inv (G q) n i (G1 k) = Z → WF G1 → (∀ j, j ≠ 2 → j ≠ 6 → j ≠ k → G1 j = G j) → lv_has ls 4 [(0, .ref (ad (123))), (1, .ref (ad (2 * k))), (2, .ref (ad (2 * q))), (3, .int (iI (i)))] → W p l e { frames := 3, cells := 0, slots := 0, locals := 73 } s m args below meth c H locs 0 0 (MQ below (va_Qi post (QW D cs ad T) A) args s 0 0 A) (F0 m 2 ls []) := by
  have hpr := hO.2.2.1
  have wk := wd_2 (show 2 ≤ k by omega)
  have wq := wd_2 (show 2 ≤ q by omega)
  have w2 : wd 2 = 25 := rfl
  have w6 : wd 6 = 25 := rfl
  have hdq2 := (hB.ok hpr.2).dlt 300
  intro n
  induction n with
  | zero =>
    intro i G1 H locs ls h1 w hA hz hW hF hl
    have hz : (i, G1 k) = Z := hz
    subst hz
    refine lv_iload_n X.1 X.2.1 d_Ar_takeOut_2 rfl (lv_at hl 3 rfl) ?_
    refine lv_bipush (v := iI (24)) X.1 X.2.1 d_Ar_takeOut_3 (by decide) ?_
    refine i_ge (a := i) (b := 24) (tgt := 55) X (by omega) (by omega) d_Ar_takeOut_5 (by decide) (fun h_5 => ?_) (fun h_5 => ?_)
    · refine lv_bipush (v := iI (24)) X.1 X.2.1 d_Ar_takeOut_55 (by decide) ?_
      have e9 : (24 : Int) = (i : Int) := by omega
      rw [e9]
      exact w_iret X hr hlk w (hp G1 hW rfl hA hF) d_Ar_takeOut_57
    · exact absurd h_5 (by omega)
  | succ n ih =>
    intro i G1 H locs ls h1 w hA hz hW hF hl
    have hGq : G1 q = G q := hF q (by omega) (by omega) hqk
    have hdk := (hA.ok hpr.2).dlt 300
    have hq2 := dvm_ok (inv := inv) (M := 25) (by omega) hA hB (by omega) (by omega) hpr.2 (by omega)
    unfold tko at hz
    refine lv_iload_n X.1 X.2.1 d_Ar_takeOut_2 rfl (lv_at hl 3 rfl) ?_
    refine lv_bipush (v := iI (24)) X.1 X.2.1 d_Ar_takeOut_3 (by decide) ?_
    refine i_ge (a := i) (b := 24) (tgt := 55) X (by omega) (by omega) d_Ar_takeOut_5 (by decide) (fun h_5 => ?_) (fun h_5 => ?_)
    · exact absurd h_5 (by omega)
    · refine lv_aload_n X.1 X.2.1 d_Ar_takeOut_8 rfl (lv_at hl 0 rfl) ?_
      refine t_ar X hT w hO 4 (by decide) k_f_Ar_27 rfl d_Ar_takeOut_9 ?_
      refine lv_aload_n X.1 X.2.1 d_Ar_takeOut_12 rfl (lv_at hl 1 rfl) ?_
      refine w_cVv (n := 1) (i := 2 * 2) (ci := 0) (As := [.ref (ad (2 * k))]) (rest := []) X w hml hl.1 (c_Po_copyFrom hT (G := G1) (k := 2) (q := k) (by omega) (by omega) (by omega) (hW 2 (by omega)) (hW k (by omega)) (hA.ok hpr.2)) (by omega) (mkV_o (by omega)) rfl k_m_Ar_83 k_im_Po_copyFrom k_se_Po_copyFrom k_i_Po k_co_Po_copyFrom (by decide +kernel) rfl ⟨Nat.le_of_ble_eq_true rfl, Nat.le_of_ble_eq_true rfl⟩ ⟨rfl, rfl⟩ ⟨Nat.zero_le _, Nat.zero_le _⟩ rfl (Nat.le_of_ble_eq_true rfl) d_Ar_takeOut_13 (fun C' H locs hp w => ?_)
      subst hp
      obtain ⟨Gw1, eGw1⟩ : ∃ gg : Nat → Nat → Int, gg = va_up G1 2 (G1 k) := ⟨_, rfl⟩
      rw [← eGw1] at w
      have f2 : Gw1 2 = G1 k := by rw [eGw1, va_up_self]
      have fq : Gw1 q = G q := by rw [eGw1, va_up_ne _ _ (by omega), hGq]
      refine lv_aload_n X.1 X.2.1 d_Ar_takeOut_16 rfl (lv_at hl 0 rfl) ?_
      refine lv_aload_n X.1 X.2.1 d_Ar_takeOut_17 rfl (lv_at hl 0 rfl) ?_
      refine t_ar X hT w hO 4 (by decide) k_f_Ar_27 rfl d_Ar_takeOut_18 ?_
      refine lv_aload_n X.1 X.2.1 d_Ar_takeOut_21 rfl (lv_at hl 2 rfl) ?_
      refine lv_aload_n X.1 X.2.1 d_Ar_takeOut_22 rfl (lv_at hl 0 rfl) ?_
      refine t_ar X hT w hO 8 (by decide) k_f_Ar_39 rfl d_Ar_takeOut_23 ?_
      refine w_cVv (n := 3) (i := 123) (ci := 1) (As := [.ref (ad (2 * 2)), .ref (ad (2 * q)), .ref (ad (2 * 6))]) (rest := []) X w hml hl.1 (c_Ar_divide hT (G := Gw1) hO (k := 2) (q := q) (t := 6) (by omega) (by omega) (by omega) (by omega) (by omega) (by omega) (by rw [f2]; exact hA) (by rw [fq, wq]; exact hB) (by rw [eGw1, va_up_ne _ _ (by omega)]; exact hW 6 (by omega)) (by rw [f2, fq, w6]; omega)) (by omega) (by rw [mkV_O (by decide)]; exact hO.1) rfl k_m_Ar_87 k_im_Ar_divide k_se_Ar_divide k_i_Ar k_co_Ar_divide (by decide +kernel) rfl ⟨Nat.le_of_ble_eq_true rfl, Nat.le_of_ble_eq_true rfl⟩ ⟨rfl, rfl⟩ ⟨Nat.zero_le _, Nat.zero_le _⟩ rfl (Nat.le_of_ble_eq_true rfl) d_Ar_takeOut_26 (fun C' H locs hp w => ?_)
      subst hp
      obtain ⟨Gw2, eGw2⟩ : ∃ gg : Nat → Nat → Int, gg = va_up (va_up Gw1 6 (dvm pr inv (Gw1 2) (Gw1 q)).2) 2 (dvm pr inv (Gw1 2) (Gw1 q)).1 := ⟨_, rfl⟩
      rw [← eGw2] at w
      rw [f2, fq] at eGw2
      have g2 : Gw2 2 = (dvm pr inv (G1 k) (G q)).1 := by rw [eGw2, va_up_self]
      have g6 : Gw2 6 = (dvm pr inv (G1 k) (G q)).2 := by rw [eGw2, va_up_ne _ _ (by omega), va_up_self]
      have gk : Gw2 k = G1 k := by rw [eGw2, va_up_ne _ _ (by omega), va_up_ne _ _ (by omega), eGw1, va_up_ne _ _ (by omega)]
      have hd2 : dg 300 (Gw2 2) = dg 300 (dvm pr inv (G1 k) (G q)).1 := by rw [g2]
      have hd3 := dg_ge 300 (dvm pr inv (G1 k) (G q)).1
      have hd4 := dg_lt 300 (dvm pr inv (G1 k) (G q)).1
      have hW2 : WF Gw2 := by rw [eGw2, eGw1]; exact ((hW.up (k := 2) (hA.ok hpr.2)).up (k := 6) (hq2.2.ok hpr.2)).up (k := 2) (hq2.1.ok hpr.2)
      have hF2 : ∀ j, j ≠ 2 → j ≠ 6 → Gw2 j = G1 j := fun j j2 j6 => by rw [eGw2, va_up_ne _ _ j2, va_up_ne _ _ j6, eGw1, va_up_ne _ _ j2]
      refine lv_aload_n X.1 X.2.1 d_Ar_takeOut_29 rfl (lv_at hl 0 rfl) ?_
      refine t_ar X hT w hO 4 (by decide) k_f_Ar_27 rfl d_Ar_takeOut_30 ?_
      refine g_deg (k := 2) X hT w (by omega) k_f_Ar_52 d_Ar_takeOut_33 ?_
      refine z_lt (a := dg 300 (Gw2 2)) (tgt := 41) X (by omega) d_Ar_takeOut_36 (by decide) (fun h_36 => ?_) (fun h_36 => ?_)
      · refine lv_aload_n X.1 X.2.1 d_Ar_takeOut_41 rfl (lv_at hl 1 rfl) ?_
        refine lv_aload_n X.1 X.2.1 d_Ar_takeOut_42 rfl (lv_at hl 0 rfl) ?_
        refine t_ar X hT w hO 8 (by decide) k_f_Ar_39 rfl d_Ar_takeOut_43 ?_
        refine w_cVv (n := 1) (i := 2 * k) (ci := 0) (As := [.ref (ad (2 * 6))]) (rest := []) X w hml hl.1 (c_Po_copyFrom hT (G := Gw2) (k := k) (q := 6) (by omega) (by omega) (by omega) (hW2 k (by omega)) (hW2 6 (by omega)) (by rw [g6, wk]; exact hq2.2.ok hpr.2)) (by omega) (mkV_o (by omega)) rfl k_m_Ar_83 k_im_Po_copyFrom k_se_Po_copyFrom k_i_Po k_co_Po_copyFrom (by decide +kernel) rfl ⟨Nat.le_of_ble_eq_true rfl, Nat.le_of_ble_eq_true rfl⟩ ⟨rfl, rfl⟩ ⟨Nat.zero_le _, Nat.zero_le _⟩ rfl (Nat.le_of_ble_eq_true rfl) d_Ar_takeOut_46 (fun C' H locs hp w => ?_)
        subst hp
        obtain ⟨Gw3, eGw3⟩ : ∃ gg : Nat → Nat → Int, gg = va_up Gw2 k (Gw2 6) := ⟨_, rfl⟩
        rw [← eGw3] at w
        refine i_inc (k := 3) (x := i) (lv' := [(3, .int (iI (i + 1))), (0, .ref (ad (123))), (1, .ref (ad (2 * k))), (2, .ref (ad (2 * q)))]) X d_Ar_takeOut_49 hl rfl (by decide) rfl (fun ls hl => ?_)
        refine lv_goto (tgt := 2) X.1 X.2.1 d_Ar_takeOut_52 (by decide) ?_
        rw [if_neg (by omega)] at hz
        have ek : Gw3 k = (dvm pr inv (G1 k) (G q)).2 := by rw [eGw3, va_up_self, g6]
        refine ih (i + 1) Gw3 H locs ls (by omega) w (by rw [ek]; exact hq2.2) (by rw [ek]; exact hz) (by rw [eGw3]; exact hW2.up (by rw [g6, wk]; exact hq2.2.ok hpr.2)) (fun j j2 j6 jk => by rw [eGw3, va_up_ne _ _ jk, hF2 j j2 j6]; exact hF j j2 j6 jk) (lv_sub hl [1, 2, 3, 0] rfl)
      · refine lv_iload_n X.1 X.2.1 d_Ar_takeOut_39 rfl (lv_at hl 3 rfl) ?_
        rw [if_pos (by omega)] at hz
        subst hz
        exact w_iret X hr hlk w (hp Gw2 hW2 gk hA (fun j j2 j6 jk => by rw [hF2 j j2 j6]; exact hF j j2 j6 jk)) d_Ar_takeOut_40
end TK
theorem c_Ar_takeOut {l : Launch} {D : va_G} {cs : Nat → ClassId} {A : Nat → Prop} {ad : Nat → Nat} {T : Nat} (hT : 132 ≤ T) {G : Nat → Nat → Int} {O : Nat → va_E} {pr : Int} {inv : Nat → Int} (hO : arO cs ad pr inv O) {k q : Nat} (hk : 7 ≤ k ∧ k < 61) (hq : 7 ≤ q ∧ q < 61) (hqk : q ≠ k) (hW : WF G) (hA : okp pr 25 (G k)) (hB : okp pr 25 (G q)) (hdq : 0 ≤ dg 300 (G q)) : Ci l y_Ar_takeOut ws_Ar_takeOut { frames := 3, cells := 0, slots := 0, locals := 73 } D cs A ad T [.ref (ad (123)), .ref (ad (2 * k)), .ref (ad (2 * q))] (mkV cs ad (rV G) O) (fun r C' => ∃ G', C' = mkV cs ad (rV G') O ∧ r = iI ((tko pr inv (G q) 24 0 (G k)).1 : Int) ∧ WF G' ∧ G' k = (tko pr inv (G q) 24 0 (G k)).2 ∧ okp pr 25 (G' k) ∧ ∀ j, j ≠ 2 → j ≠ 6 → j ≠ k → G' j = G j) := by
  refine w_bodyI (by decide) (Nat.le_of_ble_eq_true rfl) ?_
  intro p e s m below meth c X hr hlk hml w ls hl
  have hl : lv_has ls 4 [(0, .ref (ad (123))), (1, .ref (ad (2 * k))), (2, .ref (ad (2 * q)))] := hl
  refine lv_iconst (v := iI (0)) X.1 X.2.1 d_Ar_takeOut_0 (by decide) ?_
  refine lv_istore_n (lv' := [(3, .int (iI (0))), (0, .ref (ad (123))), (1, .ref (ad (2 * k))), (2, .ref (ad (2 * q)))]) X.1 X.2.1 d_Ar_takeOut_1 rfl hl (by decide) rfl (fun ls hl => ?_)
  exact l_Ar_takeOut (G := G) X hr hlk hml hT hO hk hq hqk hB hdq (Z := tko pr inv (G q) 24 0 (G k)) (fun G1 h1 h2 h3 h4 => ⟨G1, rfl, rfl, h1, h2, by rw [h2]; exact h3, h4⟩) 24 0 G _ _ _ (by omega) w hA rfl hW (fun _ _ _ _ => rfl) (lv_sub hl [1, 2, 3, 0] rfl)
