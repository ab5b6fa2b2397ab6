/-- the powers of X modulo M -/
def pwr (pr : Int) (inv : Nat → Int) (X M : Nat → Int) : Nat → Nat → Int
  | 0 => oneP
  | n + 1 => mulm pr inv X (pwr pr inv X M n) M
theorem pwr_ok {cs : Nat → ClassId} {ad : Nat → Nat} {pr : Int} {inv : Nat → Int} {O : Nat → va_E} (hO : arO cs ad pr inv O) {X M : Nat → Int} (hX : okp pr 25 X) (hM : okp pr 25 M) (hd : 0 ≤ dg 300 M) : ∀ n, okp pr 25 (pwr pr inv X M n)
  | 0 => oneP_ok (by have := hO.2.2.1; omega) (by omega)
  | n + 1 => (mulm_ok hO hX (pwr_ok hO hX hM hd n) hM hd).1
/-- the first j from 1 on at which P j is 1, or 0 -/
def shS (P : Nat → Nat → Int) : Nat → Nat → Int
  | _, 0 => 0
  | j, n + 1 => if 0 < j ∧ (dg 300 (P j) = 0 ∧ P j 0 = 1) then (j : Int) else shS P (j + 1) n
theorem if01 {c : Prop} [Decidable c] : (if c then (1 : Int32) else 0) = iI (if c then 1 else 0) := by split <;> rfl
theorem va_comm {α : Type} (f : Nat → α) {i j : Nat} (h : i ≠ j) (u v : α) : va_up (va_up f i u) j v = va_up (va_up f j v) i u := by
  funext k
  simp only [va_up]
  split
  · split
    · omega
    · rfl
  · rfl
section TS
variable {p : Program} {l : Launch} {e : Env} {s : State} {m : MethodId} {args : Array Value} {below : List Frame} {meth : Method} {c : Code} {H : Heap} {locs : List Loc} {Q : State → Prop} {D : va_G} {cs : Nat → ClassId} {A : Nat → Prop} {ad : Nat → Nat} {T : Nat} {O : Nat → va_E} {pr : Int} {inv : Nat → Int}
variable {d : Nat} {G : Nat → Nat → Int}
theorem l_Os_takeShortSteps {post : Int32 → (Nat → va_E) → Prop} (X : Cx p s m args c b_Os_takeShortSteps ROs) (hr : meth.sig.returnType = some .int) (hlk : meth.locks = false) (hml : c.maxLocals = 3) (hT : 132 ≤ T) (hO0 : arO cs ad pr inv O) (h128 : O 128 = .inr (3, osF ad)) (hd : 19 ≤ d ∧ d < 61) (hX : okp pr 25 (G 18)) (hM : okp pr 25 (G d)) (hdd : 0 ≤ dg 300 (G d)) {Z : Int}
    (hp : ∀ (G1 : Nat → Nat → Int) (lo1 hi1 : Nat → Int), WF G1 → okp pr 25 (G1 16) → (∀ i, i ≠ 0 → i ≠ 1 → i ≠ 16 → G1 i = G i) → (∀ i, i < 500 → lrg (lo1 i) ∧ lrg (hi1 i)) → (Z = 0 → G1 16 = (pwr pr inv (G 18) (G d)) 500 ∧ ∀ i, i < 500 → lo1 i = cod pr ((pwr pr inv (G 18) (G d)) i) 0 12 0 ∧ hi1 i = cod pr ((pwr pr inv (G 18) (G d)) i) 12 12 0) → post (iI Z) (mkV cs ad (rV G1) (va_up (va_up O 129 (aL cs 500 lo1)) 130 (aL cs 500 hi1)))) :
    ∀ (n j : Nat) (G1 : Nat → Nat → Int) (lo1 hi1 : Nat → Int) (H : Heap) (locs : List Loc) (ls : Array Slot), j + n = 500 → Wd D cs A ad T s (mkV cs ad (rV G1) (va_up (va_up O 129 (aL cs 500 lo1)) 130 (aL cs 500 hi1))) H locs → WF G1 → G1 16 = (pwr pr inv (G 18) (G d)) j → (∀ i, i ≠ 0 → i ≠ 1 → i ≠ 16 → G1 i = G i) → (∀ i, i < 500 → lrg (lo1 i) ∧ lrg (hi1 i)) → (∀ i, i < j → lo1 i = cod pr ((pwr pr inv (G 18) (G d)) i) 0 12 0 ∧ hi1 i = cod pr ((pwr pr inv (G 18) (G d)) i) 12 12 0) → shS (pwr pr inv (G 18) (G d)) j n = Z → lv_has ls 3 [(0, .ref (ad (128))), (1, .ref (ad (2 * d))), (2, .int (iI (j)))] → W p l e { frames := 4, cells := 0, slots := 0, locals := 97 } s m args below meth c H locs 0 0 (MQ below (va_Qi post (QW D cs ad T) A) args s 0 0 A) (F0 m 10 ls []) := by
  have hpr := hO0.2.2.1
  have hPo := pwr_ok hO0 hX hM hdd
  have w16 : wd 16 = 25 := rfl
  intro n
  induction n with
  | zero =>
    intro j G1 lo1 hi1 H locs ls h1 w hW hP hF hl1 hl2 hz hl
    have hz : 0 = Z := hz
    subst hz
    refine lv_iload_n X.1 X.2.1 d_Os_takeShortSteps_10 rfl (lv_at hl 2 rfl) ?_
    refine lv_sipush (v := iI (500)) X.1 X.2.1 d_Os_takeShortSteps_11 (by decide) ?_
    refine i_ge (a := j) (b := 500) (tgt := 82) X (by omega) (by omega) d_Os_takeShortSteps_14 (by decide) (fun h_14 => ?_) (fun h_14 => ?_)
    · refine lv_iconst (v := iI (0)) X.1 X.2.1 d_Os_takeShortSteps_82 (by decide) ?_
      exact w_iret X hr hlk w (hp G1 lo1 hi1 hW (by rw [hP]; exact hPo j) hF hl1 (fun _ => ⟨by rw [hP, show j = 500 by omega], fun i hi => hl2 i (by omega)⟩)) d_Os_takeShortSteps_83
    · exact absurd h_14 (by omega)
  | succ n ih =>
    intro j G1 lo1 hi1 H locs ls h1 w hW hP hF hl1 hl2 hz hl
    unfold shS at hz
    have hO : arO cs ad pr inv (va_up (va_up O 129 (aL cs 500 lo1)) 130 (aL cs 500 hi1)) := (hO0.up (by decide) (by decide)).up (by decide) (by decide)
    have hS : osO cs ad lo1 hi1 (va_up (va_up O 129 (aL cs 500 lo1)) 130 (aL cs 500 hi1)) := ⟨by rw [va_up_ne _ _ (by decide), va_up_ne _ _ (by decide)]; exact h128, by rw [va_up_ne _ _ (by decide), va_up_self], va_up_self _ _ _, hl1⟩
    have hGd : G1 d = G d := hF d (by omega) (by omega) (by omega)
    have hG18 : G1 18 = G 18 := hF 18 (by omega) (by omega) (by omega)
    have hok := hPo j
    have hc1 : lrg (cod pr (G1 16) 0 12 0) := by rw [hP]; exact cod_l (by omega) (hok.ok hpr.2).1 0
    have hc2 : lrg (cod pr (G1 16) 12 12 0) := by rw [hP]; exact cod_l (by omega) (hok.ok hpr.2).1 12
    have hw16 : ok 25 (G1 16) := hW 16 (by omega)
    refine lv_iload_n X.1 X.2.1 d_Os_takeShortSteps_10 rfl (lv_at hl 2 rfl) ?_
    refine lv_sipush (v := iI (500)) X.1 X.2.1 d_Os_takeShortSteps_11 (by decide) ?_
    refine i_ge (a := j) (b := 500) (tgt := 82) X (by omega) (by omega) d_Os_takeShortSteps_14 (by decide) (fun h_14 => ?_) (fun h_14 => ?_)
    · exact absurd h_14 (by omega)
    · refine lv_iload_n X.1 X.2.1 d_Os_takeShortSteps_17 rfl (lv_at hl 2 rfl) ?_
      refine z_le (a := j) (tgt := 33) X (by omega) d_Os_takeShortSteps_18 (by decide) (fun h_18 => ?_) (fun h_18 => ?_)
      · refine lv_aload_n X.1 X.2.1 d_Os_takeShortSteps_33 rfl (lv_at hl 0 rfl) ?_
        refine t_os X hT w hS 1 (by decide) k_f_Os_15 rfl d_Os_takeShortSteps_34 ?_
        refine lv_iload_n X.1 X.2.1 d_Os_takeShortSteps_37 rfl (lv_at hl 2 rfl) ?_
        refine lv_aload_n X.1 X.2.1 d_Os_takeShortSteps_38 rfl (lv_at hl 0 rfl) ?_
        refine lv_iconst (v := iI (0)) X.1 X.2.1 d_Os_takeShortSteps_39 (by decide) ?_
        refine w_cVl (n := 1) (i := 128) (ci := 3) (As := [.int (iI ((0 : Nat)))]) (rest := [.int (iI (j)), .ref (ad (129))]) X w hml hl.1 (c_Os_code hT hO hS (G := G1) (f := 0) (by omega) hw16) (by omega) (by rw [mkV_O (by decide)]; exact hS.1) rfl k_m_Os_55 k_im_Os_code k_se_Os_code k_i_Os k_co_Os_code (by decide +kernel) rfl ⟨Nat.le_of_ble_eq_true rfl, Nat.le_of_ble_eq_true rfl⟩ ⟨rfl, rfl⟩ ⟨Nat.zero_le _, Nat.zero_le _⟩ rfl (Nat.le_of_ble_eq_true rfl) d_Os_takeShortSteps_40 (fun r' C' H locs hp1 w => ?_)
        obtain ⟨rfl, rfl⟩ := hp1
        refine t_slo (z := j) (v := cod pr (G1 16) 0 12 0) X hT w hS j (by omega) (by omega) d_Os_takeShortSteps_43 (fun H locs w => ?_)
        have hl1a : ∀ i, i < 500 → lrg (va_up lo1 j (cod pr (G1 16) 0 12 0) i) := fun i hi => by
          by_cases e : i = j
          · subst e; rw [va_up_self]; exact hc1
          · rw [va_up_ne _ _ e]; exact (hl1 i hi).1
        have hS := hS.upl hl1a
        have hO := hO.up (i := 129) (x := aL cs 500 (va_up lo1 j (cod pr (G1 16) 0 12 0))) (by decide) (by decide)
        refine lv_aload_n X.1 X.2.1 d_Os_takeShortSteps_44 rfl (lv_at hl 0 rfl) ?_
        refine t_os X hT w hS 2 (by decide) k_f_Os_19 rfl d_Os_takeShortSteps_45 ?_
        refine lv_iload_n X.1 X.2.1 d_Os_takeShortSteps_48 rfl (lv_at hl 2 rfl) ?_
        refine lv_aload_n X.1 X.2.1 d_Os_takeShortSteps_49 rfl (lv_at hl 0 rfl) ?_
        refine lv_bipush (v := iI (12)) X.1 X.2.1 d_Os_takeShortSteps_50 (by decide) ?_
        refine w_cVl (n := 1) (i := 128) (ci := 3) (As := [.int (iI ((12 : Nat)))]) (rest := [.int (iI (j)), .ref (ad (130))]) X w hml hl.1 (c_Os_code hT hO hS (G := G1) (f := 12) (by omega) hw16) (by omega) (by rw [mkV_O (by decide)]; exact hS.1) rfl k_m_Os_55 k_im_Os_code k_se_Os_code k_i_Os k_co_Os_code (by decide +kernel) rfl ⟨Nat.le_of_ble_eq_true rfl, Nat.le_of_ble_eq_true rfl⟩ ⟨rfl, rfl⟩ ⟨Nat.zero_le _, Nat.zero_le _⟩ rfl (Nat.le_of_ble_eq_true rfl) d_Os_takeShortSteps_52 (fun r' C' H locs hp1 w => ?_)
        obtain ⟨rfl, rfl⟩ := hp1
        refine t_shi (z := j) (v := cod pr (G1 16) 12 12 0) X hT w hS j (by omega) (by omega) d_Os_takeShortSteps_55 (fun H locs w => ?_)
        have hl1b : ∀ i, i < 500 → lrg (va_up hi1 j (cod pr (G1 16) 12 12 0) i) := fun i hi => by
          by_cases e : i = j
          · subst e; rw [va_up_self]; exact hc2
          · rw [va_up_ne _ _ e]; exact (hl1 i hi).2
        have hS := hS.uph hl1b
        have hO := hO.up (i := 130) (x := aL cs 500 (va_up hi1 j (cod pr (G1 16) 12 12 0))) (by decide) (by decide)
        rw [va_comm _ (show (130 : Nat) ≠ 129 by decide), va_uu, va_uu] at w hO hS
        refine lv_aload_n X.1 X.2.1 d_Os_takeShortSteps_56 rfl (lv_at hl 0 rfl) ?_
        refine t_os X hT w hS 0 (by decide) k_f_Os_9 rfl d_Os_takeShortSteps_57 ?_
        refine lv_aload_n X.1 X.2.1 d_Os_takeShortSteps_60 rfl (lv_at hl 0 rfl) ?_
        refine t_os X hT w hS 3 (by decide) k_f_Os_27 rfl d_Os_takeShortSteps_61 ?_
        refine lv_aload_n X.1 X.2.1 d_Os_takeShortSteps_64 rfl (lv_at hl 0 rfl) ?_
        refine t_os X hT w hS 5 (by decide) k_f_Os_34 rfl d_Os_takeShortSteps_65 ?_
        refine lv_aload_n X.1 X.2.1 d_Os_takeShortSteps_68 rfl (lv_at hl 0 rfl) ?_
        refine t_os X hT w hS 3 (by decide) k_f_Os_27 rfl d_Os_takeShortSteps_69 ?_
        refine lv_aload_n X.1 X.2.1 d_Os_takeShortSteps_72 rfl (lv_at hl 1 rfl) ?_
        refine w_cVv (n := 4) (i := 123) (ci := 1) (As := [.ref (ad (2 * 16)), .ref (ad (2 * 18)), .ref (ad (2 * 16)), .ref (ad (2 * d))]) (rest := []) X w hml hl.1 (c_Ar_multiply hT (G := G1) hO (t := 16) (a := 18) (b := 16) (d := d) (by omega) (by omega) (by omega) (by omega) hW (by rw [hG18]; exact hX) (by rw [hP]; exact hok) (by rw [hGd]; exact hM) (by rw [hGd]; exact hdd)) (by omega) (by rw [mkV_O (by decide)]; exact hO.1) rfl k_m_Os_59 k_im_Ar_multiply k_se_Ar_multiply k_i_Ar k_co_Ar_multiply (by decide +kernel) rfl ⟨Nat.le_of_ble_eq_true rfl, Nat.le_of_ble_eq_true rfl⟩ ⟨rfl, rfl⟩ ⟨Nat.zero_le _, Nat.zero_le _⟩ rfl (Nat.le_of_ble_eq_true rfl) d_Os_takeShortSteps_73 (fun C' H locs hp1 w => ?_)
        subst hp1
        obtain ⟨Gw1, eGw1⟩ : ∃ gg : Nat → Nat → Int, gg = va_up (va_up (va_up G1 0 (dvm pr inv (prd pr (G1 18) (G1 16)) (G1 d)).2) 1 (dvm pr inv (prd pr (G1 18) (G1 16)) (G1 d)).1) 16 (dvm pr inv (prd pr (G1 18) (G1 16)) (G1 d)).1 := ⟨_, rfl⟩
        rw [← eGw1] at w
        refine i_inc (k := 2) (x := j) (lv' := [(2, .int (iI (j + 1))), (0, .ref (ad (128))), (1, .ref (ad (2 * d)))]) X d_Os_takeShortSteps_76 hl rfl (by decide) rfl (fun ls hl => ?_)
        refine lv_goto (tgt := 10) X.1 X.2.1 d_Os_takeShortSteps_79 (by decide) ?_
        rw [if_neg (fun e => absurd e.1 (by omega))] at hz
        rw [hGd, hG18, hP] at eGw1
        have gt : Gw1 16 = (pwr pr inv (G 18) (G d)) (j + 1) := by rw [eGw1, va_up_self]; rfl
        refine ih (j + 1) Gw1 _ _ H locs ls (by omega) w (by rw [eGw1]; exact WF.mul hO hW hX hok hM hdd (by omega)) gt (fun i i0 i1 i6 => by rw [eGw1, va_up_ne _ _ i6, va_up_ne _ _ i1, va_up_ne _ _ i0]; exact hF i i0 i1 i6) (fun i hi => ⟨hl1a i hi, hl1b i hi⟩) (fun i hi => ?_) hz (lv_sub hl [1, 2, 0] rfl)
        by_cases e : i = j
        · subst e; rw [va_up_self, va_up_self, hP]; exact ⟨rfl, rfl⟩
        · rw [va_up_ne _ _ e, va_up_ne _ _ e]; exact hl2 i (by omega)
      · refine lv_aload_n X.1 X.2.1 d_Os_takeShortSteps_21 rfl (lv_at hl 0 rfl) ?_
        refine t_os X hT w hS 3 (by decide) k_f_Os_27 rfl d_Os_takeShortSteps_22 ?_
        refine w_cVi (n := 0) (i := 2 * 16) (ci := 0) (As := []) (rest := []) X w hml hl.1 (c_Po_isOne hT (G := G1) (k := 16) (by omega) hw16) (by omega) (mkV_o (by omega)) rfl k_m_Os_51 k_im_Po_isOne k_se_Po_isOne k_i_Po k_co_Po_isOne (by decide +kernel) rfl ⟨Nat.le_of_ble_eq_true rfl, Nat.le_of_ble_eq_true rfl⟩ ⟨rfl, rfl⟩ ⟨Nat.zero_le _, Nat.zero_le _⟩ rfl (Nat.le_of_ble_eq_true rfl) d_Os_takeShortSteps_25 (fun r' C' H locs hp1 w => ?_)
        obtain ⟨rfl, rfl⟩ := hp1
        rw [if01]
        refine z_eq (a := if dg 300 (G1 16) = 0 ∧ G1 16 0 = 1 then 1 else 0) (tgt := 33) X (by split <;> omega) d_Os_takeShortSteps_28 (by decide) (fun h_28 => ?_) (fun h_28 => ?_)
        · refine lv_aload_n X.1 X.2.1 d_Os_takeShortSteps_33 rfl (lv_at hl 0 rfl) ?_
          refine t_os X hT w hS 1 (by decide) k_f_Os_15 rfl d_Os_takeShortSteps_34 ?_
          refine lv_iload_n X.1 X.2.1 d_Os_takeShortSteps_37 rfl (lv_at hl 2 rfl) ?_
          refine lv_aload_n X.1 X.2.1 d_Os_takeShortSteps_38 rfl (lv_at hl 0 rfl) ?_
          refine lv_iconst (v := iI (0)) X.1 X.2.1 d_Os_takeShortSteps_39 (by decide) ?_
          refine w_cVl (n := 1) (i := 128) (ci := 3) (As := [.int (iI ((0 : Nat)))]) (rest := [.int (iI (j)), .ref (ad (129))]) X w hml hl.1 (c_Os_code hT hO hS (G := G1) (f := 0) (by omega) hw16) (by omega) (by rw [mkV_O (by decide)]; exact hS.1) rfl k_m_Os_55 k_im_Os_code k_se_Os_code k_i_Os k_co_Os_code (by decide +kernel) rfl ⟨Nat.le_of_ble_eq_true rfl, Nat.le_of_ble_eq_true rfl⟩ ⟨rfl, rfl⟩ ⟨Nat.zero_le _, Nat.zero_le _⟩ rfl (Nat.le_of_ble_eq_true rfl) d_Os_takeShortSteps_40 (fun r' C' H locs hp1 w => ?_)
          obtain ⟨rfl, rfl⟩ := hp1
          refine t_slo (z := j) (v := cod pr (G1 16) 0 12 0) X hT w hS j (by omega) (by omega) d_Os_takeShortSteps_43 (fun H locs w => ?_)
          have hl1a : ∀ i, i < 500 → lrg (va_up lo1 j (cod pr (G1 16) 0 12 0) i) := fun i hi => by
            by_cases e : i = j
            · subst e; rw [va_up_self]; exact hc1
            · rw [va_up_ne _ _ e]; exact (hl1 i hi).1
          have hS := hS.upl hl1a
          have hO := hO.up (i := 129) (x := aL cs 500 (va_up lo1 j (cod pr (G1 16) 0 12 0))) (by decide) (by decide)
          refine lv_aload_n X.1 X.2.1 d_Os_takeShortSteps_44 rfl (lv_at hl 0 rfl) ?_
          refine t_os X hT w hS 2 (by decide) k_f_Os_19 rfl d_Os_takeShortSteps_45 ?_
          refine lv_iload_n X.1 X.2.1 d_Os_takeShortSteps_48 rfl (lv_at hl 2 rfl) ?_
          refine lv_aload_n X.1 X.2.1 d_Os_takeShortSteps_49 rfl (lv_at hl 0 rfl) ?_
          refine lv_bipush (v := iI (12)) X.1 X.2.1 d_Os_takeShortSteps_50 (by decide) ?_
          refine w_cVl (n := 1) (i := 128) (ci := 3) (As := [.int (iI ((12 : Nat)))]) (rest := [.int (iI (j)), .ref (ad (130))]) X w hml hl.1 (c_Os_code hT hO hS (G := G1) (f := 12) (by omega) hw16) (by omega) (by rw [mkV_O (by decide)]; exact hS.1) rfl k_m_Os_55 k_im_Os_code k_se_Os_code k_i_Os k_co_Os_code (by decide +kernel) rfl ⟨Nat.le_of_ble_eq_true rfl, Nat.le_of_ble_eq_true rfl⟩ ⟨rfl, rfl⟩ ⟨Nat.zero_le _, Nat.zero_le _⟩ rfl (Nat.le_of_ble_eq_true rfl) d_Os_takeShortSteps_52 (fun r' C' H locs hp1 w => ?_)
          obtain ⟨rfl, rfl⟩ := hp1
          refine t_shi (z := j) (v := cod pr (G1 16) 12 12 0) X hT w hS j (by omega) (by omega) d_Os_takeShortSteps_55 (fun H locs w => ?_)
          have hl1b : ∀ i, i < 500 → lrg (va_up hi1 j (cod pr (G1 16) 12 12 0) i) := fun i hi => by
            by_cases e : i = j
            · subst e; rw [va_up_self]; exact hc2
            · rw [va_up_ne _ _ e]; exact (hl1 i hi).2
          have hS := hS.uph hl1b
          have hO := hO.up (i := 130) (x := aL cs 500 (va_up hi1 j (cod pr (G1 16) 12 12 0))) (by decide) (by decide)
          rw [va_comm _ (show (130 : Nat) ≠ 129 by decide), va_uu, va_uu] at w hO hS
          refine lv_aload_n X.1 X.2.1 d_Os_takeShortSteps_56 rfl (lv_at hl 0 rfl) ?_
          refine t_os X hT w hS 0 (by decide) k_f_Os_9 rfl d_Os_takeShortSteps_57 ?_
          refine lv_aload_n X.1 X.2.1 d_Os_takeShortSteps_60 rfl (lv_at hl 0 rfl) ?_
          refine t_os X hT w hS 3 (by decide) k_f_Os_27 rfl d_Os_takeShortSteps_61 ?_
          refine lv_aload_n X.1 X.2.1 d_Os_takeShortSteps_64 rfl (lv_at hl 0 rfl) ?_
          refine t_os X hT w hS 5 (by decide) k_f_Os_34 rfl d_Os_takeShortSteps_65 ?_
          refine lv_aload_n X.1 X.2.1 d_Os_takeShortSteps_68 rfl (lv_at hl 0 rfl) ?_
          refine t_os X hT w hS 3 (by decide) k_f_Os_27 rfl d_Os_takeShortSteps_69 ?_
          refine lv_aload_n X.1 X.2.1 d_Os_takeShortSteps_72 rfl (lv_at hl 1 rfl) ?_
          refine w_cVv (n := 4) (i := 123) (ci := 1) (As := [.ref (ad (2 * 16)), .ref (ad (2 * 18)), .ref (ad (2 * 16)), .ref (ad (2 * d))]) (rest := []) X w hml hl.1 (c_Ar_multiply hT (G := G1) hO (t := 16) (a := 18) (b := 16) (d := d) (by omega) (by omega) (by omega) (by omega) hW (by rw [hG18]; exact hX) (by rw [hP]; exact hok) (by rw [hGd]; exact hM) (by rw [hGd]; exact hdd)) (by omega) (by rw [mkV_O (by decide)]; exact hO.1) rfl k_m_Os_59 k_im_Ar_multiply k_se_Ar_multiply k_i_Ar k_co_Ar_multiply (by decide +kernel) rfl ⟨Nat.le_of_ble_eq_true rfl, Nat.le_of_ble_eq_true rfl⟩ ⟨rfl, rfl⟩ ⟨Nat.zero_le _, Nat.zero_le _⟩ rfl (Nat.le_of_ble_eq_true rfl) d_Os_takeShortSteps_73 (fun C' H locs hp1 w => ?_)
          subst hp1
          obtain ⟨Gw1, eGw1⟩ : ∃ gg : Nat → Nat → Int, gg = va_up (va_up (va_up G1 0 (dvm pr inv (prd pr (G1 18) (G1 16)) (G1 d)).2) 1 (dvm pr inv (prd pr (G1 18) (G1 16)) (G1 d)).1) 16 (dvm pr inv (prd pr (G1 18) (G1 16)) (G1 d)).1 := ⟨_, rfl⟩
          rw [← eGw1] at w
          refine i_inc (k := 2) (x := j) (lv' := [(2, .int (iI (j + 1))), (0, .ref (ad (128))), (1, .ref (ad (2 * d)))]) X d_Os_takeShortSteps_76 hl rfl (by decide) rfl (fun ls hl => ?_)
          refine lv_goto (tgt := 10) X.1 X.2.1 d_Os_takeShortSteps_79 (by decide) ?_
          rw [if_neg (fun e => by rw [hP] at h_28; rw [if_pos e.2] at h_28; omega)] at hz
          rw [hGd, hG18, hP] at eGw1
          have gt : Gw1 16 = (pwr pr inv (G 18) (G d)) (j + 1) := by rw [eGw1, va_up_self]; rfl
          refine ih (j + 1) Gw1 _ _ H locs ls (by omega) w (by rw [eGw1]; exact WF.mul hO hW hX hok hM hdd (by omega)) gt (fun i i0 i1 i6 => by rw [eGw1, va_up_ne _ _ i6, va_up_ne _ _ i1, va_up_ne _ _ i0]; exact hF i i0 i1 i6) (fun i hi => ⟨hl1a i hi, hl1b i hi⟩) (fun i hi => ?_) hz (lv_sub hl [1, 2, 0] rfl)
          by_cases e : i = j
          · subst e; rw [va_up_self, va_up_self, hP]; exact ⟨rfl, rfl⟩
          · rw [va_up_ne _ _ e, va_up_ne _ _ e]; exact hl2 i (by omega)
        · refine lv_iload_n X.1 X.2.1 d_Os_takeShortSteps_31 rfl (lv_at hl 2 rfl) ?_
          rw [if_pos ⟨by omega, by rw [← hP]; by_cases e : dg 300 (G1 16) = 0 ∧ G1 16 0 = 1; exact e; exact absurd (if_neg e) h_28⟩] at hz
          subst hz
          exact w_iret X hr hlk w (hp G1 lo1 hi1 hW (by rw [hP]; exact hok) hF hl1 (fun h0 => absurd h0 (by omega))) d_Os_takeShortSteps_32
end TS
theorem c_Os_takeShortSteps {l : Launch} {D : va_G} {cs : Nat → ClassId} {A : Nat → Prop} {ad : Nat → Nat} {T : Nat} (hT : 132 ≤ T) {G : Nat → Nat → Int} {O : Nat → va_E} {pr : Int} {inv : Nat → Int} (hO : arO cs ad pr inv O) {lo hi : Nat → Int} (hS : osO cs ad lo hi O) {d : Nat} (hd : 19 ≤ d ∧ d < 61) (hW : WF G) (hX' : okp pr 25 (G 18)) (hM : okp pr 25 (G d)) (hdd : 0 ≤ dg 300 (G d)) : Ci l y_Os_takeShortSteps ws_Os_takeShortSteps { frames := 4, cells := 0, slots := 0, locals := 97 } D cs A ad T [.ref (ad (128)), .ref (ad (2 * d))] (mkV cs ad (rV G) O) (fun r C' => ∃ G' lo' hi', C' = mkV cs ad (rV G') (va_up (va_up O 129 (aL cs 500 lo')) 130 (aL cs 500 hi')) ∧ WF G' ∧ okp pr 25 (G' 16) ∧ (∀ i, i ≠ 0 → i ≠ 1 → i ≠ 16 → G' i = G i) ∧ (∀ i, i < 500 → lrg (lo' i) ∧ lrg (hi' i)) ∧ r = iI (shS (pwr pr inv (G 18) (G d)) 0 500) ∧ (shS (pwr pr inv (G 18) (G d)) 0 500 = 0 → G' 16 = (pwr pr inv (G 18) (G d)) 500 ∧ ∀ i, i < 500 → lo' i = cod pr ((pwr pr inv (G 18) (G d)) i) 0 12 0 ∧ hi' i = cod pr ((pwr pr inv (G 18) (G d)) i) 12 12 0)) := by
  refine w_bodyI (by decide) (Nat.le_of_ble_eq_true rfl) ?_
  intro p e s m below meth c X hr hlk hml w ls hl
  have hl : lv_has ls 3 [(0, .ref (ad (128))), (1, .ref (ad (2 * d)))] := hl
  have hpr := hO.2.2.1
  refine lv_aload_n X.1 X.2.1 d_Os_takeShortSteps_0 rfl (lv_at hl 0 rfl) ?_
  refine t_os X hT w hS 3 (by decide) k_f_Os_27 rfl d_Os_takeShortSteps_1 ?_
  refine lv_iconst (v := iI (0)) X.1 X.2.1 d_Os_takeShortSteps_4 (by decide) ?_
  refine w_cVv (n := 1) (i := 2 * 16) (ci := 0) (As := [.int (iI ((0 : Nat)))]) (rest := []) X w hml hl.1 (c_Po_becomePowerOfX hT (G := G) (k := 16) (i := 0) (by omega) (by decide) (hW 16 (by omega))) (by omega) (mkV_o (by omega)) rfl k_m_Os_37 k_im_Po_becomePowerOfX k_se_Po_becomePowerOfX k_i_Po k_co_Po_becomePowerOfX (by decide +kernel) rfl ⟨Nat.le_of_ble_eq_true rfl, Nat.le_of_ble_eq_true rfl⟩ ⟨rfl, rfl⟩ ⟨Nat.zero_le _, Nat.zero_le _⟩ rfl (Nat.le_of_ble_eq_true rfl) d_Os_takeShortSteps_5 (fun C' H locs hp w => ?_)
  subst hp
  obtain ⟨Gw1, eGw1⟩ : ∃ gg : Nat → Nat → Int, gg = va_up G 16 (fun x => if x = 0 then 1 else 0) := ⟨_, rfl⟩
  rw [← eGw1] at w
  refine lv_iconst (v := iI (0)) X.1 X.2.1 d_Os_takeShortSteps_8 (by decide) ?_
  refine lv_istore_n (lv' := [(2, .int (iI (0))), (0, .ref (ad (128))), (1, .ref (ad (2 * d)))]) X.1 X.2.1 d_Os_takeShortSteps_9 rfl hl (by decide) rfl (fun ls hl => ?_)
  have g16 : Gw1 16 = oneP := by rw [eGw1, va_up_self]; rfl
  have hFg : ∀ i, i ≠ 0 → i ≠ 1 → i ≠ 16 → Gw1 i = G i := fun i _ _ h => by rw [eGw1, va_up_ne _ _ h]
  have hgd : Gw1 d = G d := hFg d (by omega) (by omega) (by omega)
  have hg18 : Gw1 18 = G 18 := hFg 18 (by omega) (by omega) (by omega)
  have hone : okp pr 25 oneP := oneP_ok (by omega) (by omega)
  have eO : O = va_up (va_up O 129 (aL cs 500 lo)) 130 (aL cs 500 hi) := by rw [← hS.2.1, va_id, ← hS.2.2.1, va_id]
  rw [eO] at w
  refine l_Os_takeShortSteps (G := G) (d := d) X hr hlk hml hT hO hS.1 hd hX' hM hdd (Z := shS (pwr pr inv (G 18) (G d)) 0 500) (fun G1 lo1 hi1 a1 a2 a3 a4 a5 => ⟨G1, lo1, hi1, rfl, a1, a2, a3, a4, rfl, a5⟩) 500 0 Gw1 lo hi _ _ _ (by omega) w (by rw [eGw1]; exact hW.up (k := 16) (hone.ok hpr.2)) g16 hFg hS.2.2.2 (fun i hi => absurd hi (by omega)) rfl (lv_sub hl [1, 2, 0] rfl)
/-- the long steps: from the power F on, by the stride S -/
def loS (pr : Int) (inv : Nat → Int) (lo hi : Nat → Int) (S M : Nat → Int) : Nat → Nat → (Nat → Int) → Int
  | _, 0, _ => 0
  | i, n + 1, F => if 0 ≤ fss lo hi (cod pr F 0 12 0) (cod pr F 12 12 0) 0 500 then 500 * (i : Int) - fss lo hi (cod pr F 0 12 0) (cod pr F 12 12 0) 0 500 else loS pr inv lo hi S M (i + 1) n (mulm pr inv S F M)
theorem fss_rg (lo hi : Nat → Int) (a b : Int) : ∀ n i : Nat, -1 ≤ fss lo hi a b i n ∧ fss lo hi a b i n < i + n ∨ fss lo hi a b i n = -1
  | 0, i => Or.inr rfl
  | n + 1, i => by
    unfold fss
    split
    · omega
    · have := fss_rg lo hi a b n (i + 1); omega
section TL
variable {p : Program} {l : Launch} {e : Env} {s : State} {m : MethodId} {args : Array Value} {below : List Frame} {meth : Method} {c : Code} {H : Heap} {locs : List Loc} {Q : State → Prop} {D : va_G} {cs : Nat → ClassId} {A : Nat → Prop} {ad : Nat → Nat} {T : Nat} {O : Nat → va_E} {pr : Int} {inv : Nat → Int} {lo hi : Nat → Int}
variable {d : Nat} {G : Nat → Nat → Int}
theorem l_Os_takeLongSteps {post : Int32 → (Nat → va_E) → Prop} (X : Cx p s m args c b_Os_takeLongSteps ROs) (hr : meth.sig.returnType = some .int) (hlk : meth.locks = false) (hml : c.maxLocals = 4) (hT : 132 ≤ T) (hO : arO cs ad pr inv O) (hS : osO cs ad lo hi O) (hd : 19 ≤ d ∧ d < 61) (hX : okp pr 25 (G 17)) (hM : okp pr 25 (G d)) (hdd : 0 ≤ dg 300 (G d)) {Z : Int}
    (hp : ∀ (G1 : Nat → Nat → Int), WF G1 → (∀ i, i ≠ 0 → i ≠ 1 → i ≠ 16 → G1 i = G i) → post (iI Z) (mkV cs ad (rV G1) O)) :
    ∀ (n i : Nat) (G1 : Nat → Nat → Int) (H : Heap) (locs : List Loc) (ls : Array Slot), i + n = 201 → Wd D cs A ad T s (mkV cs ad (rV G1) O) H locs → WF G1 → okp pr 25 (G1 16) → (∀ i, i ≠ 0 → i ≠ 1 → i ≠ 16 → G1 i = G i) → loS pr inv lo hi (G 17) (G d) i n (G1 16) = Z → lv_has ls 4 [(0, .ref (ad (128))), (1, .ref (ad (2 * d))), (2, .int (iI (i)))] → W p l e { frames := 4, cells := 0, slots := 0, locals := 97 } s m args below meth c H locs 0 0 (MQ below (va_Qi post (QW D cs ad T) A) args s 0 0 A) (F0 m 13 ls []) := by
  have hpr := hO.2.2.1
  intro n
  induction n with
  | zero =>
    intro i G1 H locs ls h1 w hW h16 hF hz hl
    have hz : 0 = Z := hz
    subst hz
    refine lv_iload_n X.1 X.2.1 d_Os_takeLongSteps_13 rfl (lv_at hl 2 rfl) ?_
    refine lv_sipush (v := iI (200)) X.1 X.2.1 d_Os_takeLongSteps_14 (by decide) ?_
    refine i_gt (a := i) (b := 200) (tgt := 63) X (by omega) (by omega) d_Os_takeLongSteps_17 (by decide) (fun h_17 => ?_) (fun h_17 => ?_)
    · refine lv_iconst (v := iI (0)) X.1 X.2.1 d_Os_takeLongSteps_63 (by decide) ?_
      exact w_iret X hr hlk w (hp G1 hW hF) d_Os_takeLongSteps_64
    · exact absurd h_17 (by omega)
  | succ n ih =>
    intro i G1 H locs ls h1 w hW h16 hF hz hl
    have hGd : G1 d = G d := hF d (by omega) (by omega) (by omega)
    have hG17 : G1 17 = G 17 := hF 17 (by omega) (by omega) (by omega)
    unfold loS at hz
    obtain ⟨j, ej⟩ : ∃ j : Int, j = fss lo hi (cod pr (G1 16) 0 12 0) (cod pr (G1 16) 12 12 0) 0 500 := ⟨_, rfl⟩
    have hj := fss_rg lo hi (cod pr (G1 16) 0 12 0) (cod pr (G1 16) 12 12 0) 500 0
    rw [← ej] at hz hj
    refine lv_iload_n X.1 X.2.1 d_Os_takeLongSteps_13 rfl (lv_at hl 2 rfl) ?_
    refine lv_sipush (v := iI (200)) X.1 X.2.1 d_Os_takeLongSteps_14 (by decide) ?_
    refine i_gt (a := i) (b := 200) (tgt := 63) X (by omega) (by omega) d_Os_takeLongSteps_17 (by decide) (fun h_17 => ?_) (fun h_17 => ?_)
    · exact absurd h_17 (by omega)
    · refine lv_aload_n X.1 X.2.1 d_Os_takeLongSteps_20 rfl (lv_at hl 0 rfl) ?_
      refine w_cVi (n := 0) (i := 128) (ci := 3) (As := []) (rest := []) X w hml hl.1 (c_Os_findShortStep hT hO hS (G := G1) (h16.ok hpr.2)) (by omega) (by rw [mkV_O (by decide)]; exact hS.1) rfl k_m_Os_69 k_im_Os_findShortStep k_se_Os_findShortStep k_i_Os k_co_Os_findShortStep (by decide +kernel) rfl ⟨Nat.le_of_ble_eq_true rfl, Nat.le_of_ble_eq_true rfl⟩ ⟨rfl, rfl⟩ ⟨Nat.zero_le _, Nat.zero_le _⟩ rfl (Nat.le_of_ble_eq_true rfl) d_Os_takeLongSteps_21 (fun r' C' H locs hp1 w => ?_)
      obtain ⟨rfl, rfl⟩ := hp1
      rw [← ej]
      refine lv_istore_n (lv' := [(3, .int (iI (j))), (0, .ref (ad (128))), (1, .ref (ad (2 * d))), (2, .int (iI (i)))]) X.1 X.2.1 d_Os_takeLongSteps_24 rfl hl (by decide) rfl (fun ls hl => ?_)
      refine lv_iload_n X.1 X.2.1 d_Os_takeLongSteps_25 rfl (lv_at hl 0 rfl) ?_
      refine z_lt (a := j) (tgt := 37) X (by omega) d_Os_takeLongSteps_26 (by decide) (fun h_26 => ?_) (fun h_26 => ?_)
      · refine lv_aload_n X.1 X.2.1 d_Os_takeLongSteps_37 rfl (lv_at hl 1 rfl) ?_
        refine t_os X hT w hS 0 (by decide) k_f_Os_9 rfl d_Os_takeLongSteps_38 ?_
        refine lv_aload_n X.1 X.2.1 d_Os_takeLongSteps_41 rfl (lv_at hl 1 rfl) ?_
        refine t_os X hT w hS 3 (by decide) k_f_Os_27 rfl d_Os_takeLongSteps_42 ?_
        refine lv_aload_n X.1 X.2.1 d_Os_takeLongSteps_45 rfl (lv_at hl 1 rfl) ?_
        refine t_os X hT w hS 4 (by decide) k_f_Os_31 rfl d_Os_takeLongSteps_46 ?_
        refine lv_aload_n X.1 X.2.1 d_Os_takeLongSteps_49 rfl (lv_at hl 1 rfl) ?_
        refine t_os X hT w hS 3 (by decide) k_f_Os_27 rfl d_Os_takeLongSteps_50 ?_
        refine lv_aload_n X.1 X.2.1 d_Os_takeLongSteps_53 rfl (lv_at hl 2 rfl) ?_
        refine w_cVv (n := 4) (i := 123) (ci := 1) (As := [.ref (ad (2 * 16)), .ref (ad (2 * 17)), .ref (ad (2 * 16)), .ref (ad (2 * d))]) (rest := []) X w hml hl.1 (c_Ar_multiply hT (G := G1) hO (t := 16) (a := 17) (b := 16) (d := d) (by omega) (by omega) (by omega) (by omega) hW (by rw [hG17]; exact hX) h16 (by rw [hGd]; exact hM) (by rw [hGd]; exact hdd)) (by omega) (by rw [mkV_O (by decide)]; exact hO.1) rfl k_m_Os_59 k_im_Ar_multiply k_se_Ar_multiply k_i_Ar k_co_Ar_multiply (by decide +kernel) rfl ⟨Nat.le_of_ble_eq_true rfl, Nat.le_of_ble_eq_true rfl⟩ ⟨rfl, rfl⟩ ⟨Nat.zero_le _, Nat.zero_le _⟩ rfl (Nat.le_of_ble_eq_true rfl) d_Os_takeLongSteps_54 (fun C' H locs hp1 w => ?_)
        subst hp1
        obtain ⟨Gw1, eGw1⟩ : ∃ gg : Nat → Nat → Int, gg = va_up (va_up (va_up G1 0 (dvm pr inv (prd pr (G1 17) (G1 16)) (G1 d)).2) 1 (dvm pr inv (prd pr (G1 17) (G1 16)) (G1 d)).1) 16 (dvm pr inv (prd pr (G1 17) (G1 16)) (G1 d)).1 := ⟨_, rfl⟩
        rw [← eGw1] at w
        refine i_inc (k := 3) (x := i) (lv' := [(2, .int (iI (i + 1))), (3, .int (iI (j))), (0, .ref (ad (128))), (1, .ref (ad (2 * d)))]) X d_Os_takeLongSteps_57 hl rfl (by decide) rfl (fun ls hl => ?_)
        refine lv_goto (tgt := 13) X.1 X.2.1 d_Os_takeLongSteps_60 (by decide) ?_
        rw [if_neg (by omega)] at hz
        rw [hGd, hG17] at eGw1
        have gt : Gw1 16 = mulm pr inv (G 17) (G1 16) (G d) := by rw [eGw1, va_up_self]; rfl
        exact ih (i + 1) Gw1 H locs ls (by omega) w (by rw [eGw1]; exact WF.mul hO hW hX h16 hM hdd (by omega)) (by rw [gt]; exact (mulm_ok hO hX h16 hM hdd).1) (fun i i0 i1 i6 => by rw [eGw1, va_up_ne _ _ i6, va_up_ne _ _ i1, va_up_ne _ _ i0]; exact hF i i0 i1 i6) (by rw [gt]; exact hz) (lv_sub hl [2, 3, 0] rfl)
      · refine lv_sipush (v := iI (500)) X.1 X.2.1 d_Os_takeLongSteps_29 (by decide) ?_
        refine lv_iload_n X.1 X.2.1 d_Os_takeLongSteps_32 rfl (lv_at hl 3 rfl) ?_
        refine i_mul (a := 500) (b := i) X d_Os_takeLongSteps_33 ?_
        refine lv_iload_n X.1 X.2.1 d_Os_takeLongSteps_34 rfl (lv_at hl 0 rfl) ?_
        refine i_sub (a := 500 * i) (b := j) X d_Os_takeLongSteps_35 ?_
        rw [if_pos (by omega)] at hz
        subst hz
        exact w_iret X hr hlk w (hp G1 hW hF) d_Os_takeLongSteps_36
end TL
theorem c_Os_takeLongSteps {l : Launch} {D : va_G} {cs : Nat → ClassId} {A : Nat → Prop} {ad : Nat → Nat} {T : Nat} (hT : 132 ≤ T) {G : Nat → Nat → Int} {O : Nat → va_E} {pr : Int} {inv : Nat → Int} (hO : arO cs ad pr inv O) {lo hi : Nat → Int} (hS : osO cs ad lo hi O) {d : Nat} (hd : 19 ≤ d ∧ d < 61) (hW : WF G) (h16 : okp pr 25 (G 16)) (hM : okp pr 25 (G d)) (hdd : 0 ≤ dg 300 (G d)) : Ci l y_Os_takeLongSteps ws_Os_takeLongSteps { frames := 4, cells := 0, slots := 0, locals := 97 } D cs A ad T [.ref (ad (128)), .ref (ad (2 * d))] (mkV cs ad (rV G) O) (fun r C' => ∃ G', C' = mkV cs ad (rV G') O ∧ WF G' ∧ (∀ i, i ≠ 0 → i ≠ 1 → i ≠ 16 → i ≠ 17 → G' i = G i) ∧ r = iI (loS pr inv lo hi (G 16) (G d) 1 200 (G 16))) := by
  refine w_bodyI (by decide) (Nat.le_of_ble_eq_true rfl) ?_
  intro p e s m below meth c X hr hlk hml w ls hl
  have hl : lv_has ls 4 [(0, .ref (ad (128))), (1, .ref (ad (2 * d)))] := hl
  have hpr := hO.2.2.1
  refine lv_aload_n X.1 X.2.1 d_Os_takeLongSteps_0 rfl (lv_at hl 0 rfl) ?_
  refine t_os X hT w hS 4 (by decide) k_f_Os_31 rfl d_Os_takeLongSteps_1 ?_
  refine lv_aload_n X.1 X.2.1 d_Os_takeLongSteps_4 rfl (lv_at hl 0 rfl) ?_
  refine t_os X hT w hS 3 (by decide) k_f_Os_27 rfl d_Os_takeLongSteps_5 ?_
  refine w_cVv (n := 1) (i := 2 * 17) (ci := 0) (As := [.ref (ad (2 * 16))]) (rest := []) X w hml hl.1 (c_Po_copyFrom hT (G := G) (k := 17) (q := 16) (by omega) (by omega) (by omega) (hW 17 (by omega)) (hW 16 (by omega)) (h16.ok hpr.2)) (by omega) (mkV_o (by omega)) rfl k_m_Os_65 k_im_Po_copyFrom k_se_Po_copyFrom k_i_Po k_co_Po_copyFrom (by decide +kernel) rfl ⟨Nat.le_of_ble_eq_true rfl, Nat.le_of_ble_eq_true rfl⟩ ⟨rfl, rfl⟩ ⟨Nat.zero_le _, Nat.zero_le _⟩ rfl (Nat.le_of_ble_eq_true rfl) d_Os_takeLongSteps_8 (fun C' H locs hp w => ?_)
  subst hp
  obtain ⟨Gw1, eGw1⟩ : ∃ gg : Nat → Nat → Int, gg = va_up G 17 (G 16) := ⟨_, rfl⟩
  rw [← eGw1] at w
  refine lv_iconst (v := iI (1)) X.1 X.2.1 d_Os_takeLongSteps_11 (by decide) ?_
  refine lv_istore_n (lv' := [(2, .int (iI (1))), (0, .ref (ad (128))), (1, .ref (ad (2 * d)))]) X.1 X.2.1 d_Os_takeLongSteps_12 rfl hl (by decide) rfl (fun ls hl => ?_)
  have g17 : Gw1 17 = G 16 := by rw [eGw1, va_up_self]
  have g16 : Gw1 16 = G 16 := by rw [eGw1, va_up_ne _ _ (by omega)]
  have hgd : Gw1 d = G d := by rw [eGw1, va_up_ne _ _ (by omega)]
  exact l_Os_takeLongSteps (G := Gw1) (d := d) X hr hlk hml hT hO hS hd (by rw [g17]; exact h16) (by rw [hgd]; exact hM) (by rw [hgd]; exact hdd) (Z := (loS pr inv lo hi (G 16) (G d) 1 200 (G 16))) (fun G1 a1 a2 => ⟨G1, rfl, a1, fun i i0 i1 i6 i7 => by rw [a2 i i0 i1 i6, eGw1, va_up_ne _ _ i7], rfl⟩) 200 1 Gw1 _ _ _ (by omega) w (by rw [eGw1]; exact hW.up (k := 17) (h16.ok hpr.2)) (by rw [g16]; exact h16) (fun _ _ _ _ => rfl) (by rw [g17, g16, hgd]) (lv_sub hl [1, 2, 0] rfl)
theorem fss_congr {lo hi lo' hi' : Nat → Int} {a b : Int} : ∀ n i : Nat, (∀ j, j < i + n → lo j = lo' j ∧ hi j = hi' j) → fss lo hi a b i n = fss lo' hi' a b i n
  | 0, i, _ => rfl
  | n + 1, i, h => by
    unfold fss
    rw [(h i (by omega)).1, (h i (by omega)).2, fss_congr n (i + 1) (fun j hj => h j (by omega))]
theorem loS_congr {pr : Int} {inv lo hi lo' hi' S M : Nat → Int} (h : ∀ j, j < 500 → lo j = lo' j ∧ hi j = hi' j) : ∀ (n i : Nat) (F : Nat → Int), loS pr inv lo hi S M i n F = loS pr inv lo' hi' S M i n F
  | 0, _, _ => rfl
  | n + 1, i, F => by
    unfold loS
    rw [fss_congr 500 0 (fun j hj => h j (by omega)), loS_congr h n]
/-- the class's order -/
def ordC (pr : Int) (inv : Nat → Int) (X M : Nat → Int) : Int :=
  if M 0 = 0 then 0 else if 0 < shS (pwr pr inv X M) 0 500 then shS (pwr pr inv X M) 0 500 else loS pr inv (fun i => cod pr (pwr pr inv X M i) 0 12 0) (fun i => cod pr (pwr pr inv X M i) 12 12 0) (pwr pr inv X M 500) M 1 200 (pwr pr inv X M 500)
theorem shS_rg (P : Nat → Nat → Int) : ∀ n j : Nat, 0 ≤ shS P j n ∧ shS P j n ≤ j + n
  | 0, j => by simp [shS]
  | n + 1, j => by
    unfold shS
    split
    · omega
    · have := shS_rg P n (j + 1); omega
theorem c_Os_search {l : Launch} {D : va_G} {cs : Nat → ClassId} {A : Nat → Prop} {ad : Nat → Nat} {T : Nat} (hT : 132 ≤ T) {G : Nat → Nat → Int} {O : Nat → va_E} {pr : Int} {inv : Nat → Int} (hO : arO cs ad pr inv O) {lo hi : Nat → Int} (hS : osO cs ad lo hi O) {d : Nat} (hd : 19 ≤ d ∧ d < 61) (hW : WF G) (hX' : okp pr 25 (G 18)) (hM : okp pr 25 (G d)) (hdd : 0 ≤ dg 300 (G d)) : Ci l y_Os_search ws_Os_search { frames := 5, cells := 0, slots := 0, locals := 120 } D cs A ad T [.ref (ad (128)), .ref (ad (2 * d))] (mkV cs ad (rV G) O) (fun r C' => ∃ G' O' lo' hi', C' = mkV cs ad (rV G') O' ∧ WF G' ∧ (∀ i, i ≠ 0 → i ≠ 1 → i ≠ 16 → i ≠ 17 → G' i = G i) ∧ (∀ i, i ≠ 129 → i ≠ 130 → O' i = O i) ∧ osO cs ad lo' hi' O' ∧ r = iI (ordC pr inv (G 18) (G d))) := by
  refine w_bodyI (by decide) (Nat.le_of_ble_eq_true rfl) ?_
  intro p e s m below meth c X hr hlk hml w ls hl
  have hl : lv_has ls 3 [(0, .ref (ad (128))), (1, .ref (ad (2 * d)))] := hl
  have hpr := hO.2.2.1
  have hd0 := hM.1 0
  have wdd := wd_2 (show 2 ≤ d by omega)
  obtain ⟨sv, esv⟩ : ∃ sv : Int, sv = shS (pwr pr inv (G 18) (G d)) 0 500 := ⟨_, rfl⟩
  have hsr := shS_rg (pwr pr inv (G 18) (G d)) 500 0
  rw [← esv] at hsr
  refine lv_aload_n X.1 X.2.1 d_Os_search_0 rfl (lv_at hl 1 rfl) ?_
  refine t_co (k := d) X hT w (by omega) k_f_Os_40 d_Os_search_1 ?_
  refine lv_iconst (v := iI (0)) X.1 X.2.1 d_Os_search_4 (by decide) ?_
  refine g_ld (k := d) (z := 0) X hT w (by omega) (0) (by omega) (by omega) d_Os_search_5 ?_
  refine z_ne (a := G d 0) (tgt := 11) X (by omega) d_Os_search_6 (by decide) (fun h_6 => ?_) (fun h_6 => ?_)
  · refine lv_aload_n X.1 X.2.1 d_Os_search_11 rfl (lv_at hl 0 rfl) ?_
    refine lv_aload_n X.1 X.2.1 d_Os_search_12 rfl (lv_at hl 1 rfl) ?_
    refine w_cVi (n := 1) (i := 128) (ci := 3) (As := [.ref (ad (2 * d))]) (rest := []) X w hml hl.1 (c_Os_takeShortSteps hT hO hS (G := G) (d := d) hd hW hX' hM hdd) (by omega) (by rw [mkV_O (by decide)]; exact hS.1) rfl k_m_Os_44 k_im_Os_takeShortSteps k_se_Os_takeShortSteps k_i_Os k_co_Os_takeShortSteps (by decide +kernel) rfl ⟨Nat.le_of_ble_eq_true rfl, Nat.le_of_ble_eq_true rfl⟩ ⟨rfl, rfl⟩ ⟨Nat.zero_le _, Nat.zero_le _⟩ rfl (Nat.le_of_ble_eq_true rfl) d_Os_search_13 (fun r' C' H locs hp w => ?_)
    obtain ⟨G1, lo1, hi1, rfl, hW1, h16, hF1, hl1, rfl, hfull⟩ := hp
    rw [← esv] at hfull ⊢
    obtain ⟨O1, eO1⟩ : ∃ oo : Nat → va_E, oo = (va_up (va_up O 129 (aL cs 500 lo1)) 130 (aL cs 500 hi1)) := ⟨_, rfl⟩
    rw [← eO1] at w
    have hO1 : arO cs ad pr inv O1 := by rw [eO1]; exact (hO.up (by decide) (by decide)).up (by decide) (by decide)
    have hS1 : osO cs ad lo1 hi1 O1 := by rw [eO1]; exact ⟨by rw [va_up_ne _ _ (by decide), va_up_ne _ _ (by decide)]; exact hS.1, by rw [va_up_ne _ _ (by decide), va_up_self], va_up_self _ _ _, hl1⟩
    have hOf : ∀ i, i ≠ 129 → i ≠ 130 → O1 i = O i := fun i i1 i2 => by rw [eO1, va_up_ne _ _ i2, va_up_ne _ _ i1]
    have hd1 : G1 d = G d := hF1 d (by omega) (by omega) (by omega)
    refine lv_istore_n (lv' := [(2, .int (iI (sv))), (0, .ref (ad (128))), (1, .ref (ad (2 * d)))]) X.1 X.2.1 d_Os_search_16 rfl hl (by decide) rfl (fun ls hl => ?_)
    refine lv_iload_n X.1 X.2.1 d_Os_search_17 rfl (lv_at hl 0 rfl) ?_
    refine z_le (a := sv) (tgt := 25) X (by omega) d_Os_search_18 (by decide) (fun h_18 => ?_) (fun h_18 => ?_)
    · refine lv_aload_n X.1 X.2.1 d_Os_search_25 rfl (lv_at hl 1 rfl) ?_
      refine lv_aload_n X.1 X.2.1 d_Os_search_26 rfl (lv_at hl 2 rfl) ?_
      refine w_cVi (n := 1) (i := 128) (ci := 3) (As := [.ref (ad (2 * d))]) (rest := []) X w hml hl.1 (c_Os_takeLongSteps hT hO1 hS1 (G := G1) (d := d) hd hW1 h16 (by rw [hd1]; exact hM) (by rw [hd1]; exact hdd)) (by omega) (by rw [mkV_O (by decide)]; exact hS1.1) rfl k_m_Os_48 k_im_Os_takeLongSteps k_se_Os_takeLongSteps k_i_Os k_co_Os_takeLongSteps (by decide +kernel) rfl ⟨Nat.le_of_ble_eq_true rfl, Nat.le_of_ble_eq_true rfl⟩ ⟨rfl, rfl⟩ ⟨Nat.zero_le _, Nat.zero_le _⟩ rfl (Nat.le_of_ble_eq_true rfl) d_Os_search_27 (fun r' C' H locs hp w => ?_)
      obtain ⟨G2, rfl, hW2, hF2, rfl⟩ := hp
      refine w_iret X hr hlk w ⟨G2, O1, lo1, hi1, rfl, hW2, fun i i0 i1 i6 i7 => by rw [hF2 i i0 i1 i6 i7]; exact hF1 i i0 i1 i6, hOf, hS1, ?_⟩ d_Os_search_30
      obtain ⟨f1, f2⟩ := hfull (by omega)
      unfold ordC
      rw [← esv, if_neg (by omega), if_neg (by omega), f1, hd1, loS_congr f2]
    · refine lv_iload_n X.1 X.2.1 d_Os_search_21 rfl (lv_at hl 0 rfl) ?_
      refine lv_goto (tgt := 30) X.1 X.2.1 d_Os_search_22 (by decide) ?_
      refine w_iret X hr hlk w ⟨G1, O1, lo1, hi1, rfl, hW1, fun i i0 i1 i6 _ => hF1 i i0 i1 i6, hOf, hS1, ?_⟩ d_Os_search_30
      unfold ordC
      rw [← esv, if_neg (by omega), if_pos (by omega)]
  · refine lv_iconst (v := iI (0)) X.1 X.2.1 d_Os_search_9 (by decide) ?_
    refine w_iret X hr hlk w ⟨G, O, lo, hi, rfl, hW, fun _ _ _ _ _ => rfl, fun _ _ _ => rfl, hS, ?_⟩ d_Os_search_10
    unfold ordC
    rw [if_pos (by omega)]
