/-- x, as the class holds it -/
def xP : Nat → Int := fun x => if x = 1 then 1 else 0
theorem xP_ok {pr : Int} {N : Nat} (hp : 1 < pr) (hN : 1 < N) : okp pr N xP := by
  refine ⟨fun x => ?_, fun x hx => ?_⟩
  · unfold xP; split <;> omega
  · unfold xP; rw [if_neg (by omega)]
/-- x - v -/
def lnS (pr : Int) (v : Nat) : Nat → Int := va_up xP 0 ((pr - v) % pr)
theorem lnS_ok {pr : Int} {v : Nat} (hp : 1 < pr) : okp pr 2 (lnS pr v) := up_okp (xP_ok hp (by omega)) (by omega) ⟨Int.emod_nonneg _ (by omega), Int.emod_lt_of_pos _ (by omega)⟩
theorem lnS_dg {pr : Int} {v : Nat} : dg 300 (lnS pr v) = 1 := by
  refine dg_eq (by omega) (by omega) (fun x hx => ?_) (fun x hx _ => ?_)
  · unfold lnS
    rw [va_up_ne _ _ (by omega)]
    unfold xP
    rw [if_pos (by omega)]; decide
  · unfold lnS
    rw [va_up_ne _ _ (by omega)]
    unfold xP
    rw [if_neg (by omega)]
def mulN (pr : Int) (S : Nat → Int) : Nat → (Nat → Int) → Nat → Int
  | 0, U => U
  | n + 1, U => mulN pr S n (prd pr S U)
def linL (pr : Int) (inv : Nat → Int) : Nat → Nat → P2 → P2
  | _, 0, z => z
  | v, n + 1, z => linL pr inv (v + 1) n (mulN pr (lnS pr v) (tko pr inv (lnS pr v) 24 0 z.2).1 z.1, (tko pr inv (lnS pr v) 24 0 z.2).2)
theorem dvm_low {pr : Int} {inv A B : Nat → Int} (h : dg 300 A < dg 300 B) : (dvm pr inv A B).1 = A := by
  unfold dvm
  split
  · rfl
  · rw [show (dg 300 A - dg 300 B + 1).toNat = 0 by omega]; rfl
theorem tko_dg {cs : Nat → ClassId} {ad : Nat → Nat} {pr : Int} {inv : Nat → Int} {O : Nat → va_E} (hO : arO cs ad pr inv O) {S : Nat → Int} (hS : okp pr 25 S) (hd : dg 300 S = 1) : ∀ (n i : Nat) (F : Nat → Int), okp pr 25 F → 0 ≤ dg 300 F → okp pr 25 (tko pr inv S n i F).2 ∧ 0 ≤ dg 300 (tko pr inv S n i F).2 ∧ dg 300 (tko pr inv S n i F).2 + (tko pr inv S n i F).1 = dg 300 F + i ∧ i ≤ (tko pr inv S n i F).1 ∧ (tko pr inv S n i F).1 ≤ i + n
  | 0, i, F, hF, h0 => ⟨hF, h0, by show dg 300 F + (i : Int) = _; omega, Nat.le_refl _, by show i ≤ i + 0; omega⟩
  | n + 1, i, F, hF, h0 => by
    have hpr := hO.2.2.1
    have hdF := (hF.ok hpr.2).dlt 300
    unfold tko
    split
    · exact ⟨hF, h0, by show dg 300 F + (i : Int) = _; omega, Nat.le_refl _, by show i ≤ i + (n + 1); omega⟩
    · next hneg =>
      have h1 : 1 ≤ dg 300 F := by
        by_cases h : dg 300 F < dg 300 S
        · rw [dvm_low h] at hneg; omega
        · omega
      have hq := dvm_qdg hO hF hS (by omega) (by omega) (by omega) (by omega)
      have hq2 := dvm_ok (inv := inv) (M := 25) (by omega) hF hS (by omega) (by omega) hpr.2 (by omega)
      obtain ⟨a, b, c, d, f⟩ := tko_dg hO hS hd n (i + 1) (dvm pr inv F S).2 hq2.2 (by omega)
      exact ⟨a, b, by omega, by omega, by omega⟩
theorem prd_dg {pr : Int} {A B : Nat → Int} {n1 n2 : Nat} (hp : 0 < pr) (h13 : pr ≤ 13) (hA : okp pr n1 A) (hB : okp pr n2 B) (h2 : n2 ≤ 300) : dg 300 (prd pr A B) ≤ dg 300 A + dg 300 B ∨ dg 300 (prd pr A B) = -1 := by
  have h := prd_ok (N := (dg 300 A + dg 300 B + 1).toNat) hp h13 hA hB h2 (by omega)
  have := (h.ok h13).dlt 300
  have := dg_ge 300 (prd pr A B)
  omega
section CLL
variable {p : Program} {l : Launch} {e : Env} {s : State} {m : MethodId} {args : Array Value} {below : List Frame} {meth : Method} {c : Code} {H : Heap} {locs : List Loc} {Q : State → Prop} {D : va_G} {cs : Nat → ClassId} {A : Nat → Prop} {ad : Nat → Nat} {T : Nat} {O : Nat → va_E} {pr : Int} {inv : Nat → Int}
variable {t q : Nat} {G : Nat → Nat → Int} {n0 : Nat} {ph : Nat → Nat} {tm : Nat → Int}
theorem l_Cu_collectLinear_71 (X : Cx p s m args c b_Cu_collectLinear RCu) (hml : c.maxLocals = 6) (hT : 132 ≤ T) (hO : arO cs ad pr inv O) (hU : cuO cs ad n0 ph tm O) (ht : 16 ≤ t ∧ t < 37) (hq : 16 ≤ q ∧ q < 37) (htq : t ≠ q) {v f : Nat} (hf : f ≤ 24) {Z : Nat → Int}
    (KK : ∀ (G1 : Nat → Nat → Int) (H : Heap) (locs : List Loc) (ls : Array Slot), Wd D cs A ad T s (mkV cs ad (rV G1) O) H locs → WF G1 → G1 t = Z → okp pr 25 Z → G1 13 = lnS pr v → (∀ j, j ≠ 2 → j ≠ 6 → j ≠ 12 → j ≠ 13 → j ≠ t → G1 j = G j) → dg 300 Z + dg 300 (G1 q) ≤ 24 → G1 q = G q → lv_has ls 6 [(0, .ref (ad (125))), (1, .ref (ad (2 * t))), (2, .ref (ad (2 * q))), (3, .int (iI (v)))] → W p l e { frames := 4, cells := 0, slots := 0, locals := 96 } s m args below meth c H locs 0 0 Q (F0 m 113 ls [])) :
    ∀ (n i : Nat) (G1 : Nat → Nat → Int) (H : Heap) (locs : List Loc) (ls : Array Slot), i + n = f → mulN pr (lnS pr v) n (G1 t) = Z → Wd D cs A ad T s (mkV cs ad (rV G1) O) H locs → WF G1 → okp pr 25 (G1 t) → G1 13 = lnS pr v → dg 300 (G1 t) + dg 300 (G q) + n ≤ 24 → 0 ≤ dg 300 (G q) → (∀ j, j ≠ 2 → j ≠ 6 → j ≠ 12 → j ≠ 13 → j ≠ t → G1 j = G j) → lv_has ls 6 [(0, .ref (ad (125))), (1, .ref (ad (2 * t))), (2, .ref (ad (2 * q))), (3, .int (iI (v))), (4, .int (iI (f))), (5, .int (iI (i)))] → W p l e { frames := 4, cells := 0, slots := 0, locals := 96 } s m args below meth c H locs 0 0 Q (F0 m 71 ls []) := by
  have hpr := hO.2.2.1
  have wt := wd_2 (show 2 ≤ t by omega)
  have hln := lnS_ok (v := v) (show 1 < pr by omega)
  have hld := lnS_dg (pr := pr) (v := v)
  intro n
  induction n with
  | zero =>
    intro i G1 H locs ls h1 hz w hW hto h13 hdd hq0 hF hl
    have hz : G1 t = Z := hz
    have hGq : G1 q = G q := hF q (by omega) (by omega) (by omega) (by omega) (Ne.symm htq)
    refine lv_iload X.1 X.2.1 d_Cu_collectLinear_71 (lv_at hl 5 rfl) ?_
    refine lv_iload X.1 X.2.1 d_Cu_collectLinear_73 (lv_at hl 4 rfl) ?_
    refine i_ge (a := i) (b := f) (tgt := 113) X (by omega) (by omega) d_Cu_collectLinear_75 (by decide) (fun h_75 => ?_) (fun h_75 => ?_)
    · exact KK G1 H locs ls w hW hz (by rw [← hz]; exact hto) h13 hF (by rw [← hz, hGq]; omega) hGq (lv_sub hl [0, 1, 2, 3] rfl)
    · exact absurd h_75 (by omega)
  | succ n ih =>
    intro i G1 H locs ls h1 hz w hW hto h13 hdd hq0 hF hl
    have hPo : okp pr 25 (prd pr (lnS pr v) (G1 t)) := prd_ok (by omega) hpr.2 hln hto (by omega) (by omega)
    have hPd := prd_dg (show 0 < pr by omega) hpr.2 hln hto (by omega)
    have hdt := dg_ge 300 (G1 t)
    refine lv_iload X.1 X.2.1 d_Cu_collectLinear_71 (lv_at hl 5 rfl) ?_
    refine lv_iload X.1 X.2.1 d_Cu_collectLinear_73 (lv_at hl 4 rfl) ?_
    refine i_ge (a := i) (b := f) (tgt := 113) X (by omega) (by omega) d_Cu_collectLinear_75 (by decide) (fun h_75 => ?_) (fun h_75 => ?_)
    · exact absurd h_75 (by omega)
    · refine lv_aload_n X.1 X.2.1 d_Cu_collectLinear_78 rfl (lv_at hl 0 rfl) ?_
      refine t_cu X hT w hU 9 (by decide) k_f_Cu_48 rfl d_Cu_collectLinear_79 ?_
      refine lv_aload_n X.1 X.2.1 d_Cu_collectLinear_82 rfl (lv_at hl 1 rfl) ?_
      refine w_cVv (n := 1) (i := 2 * 12) (ci := 0) (As := [.ref (ad (2 * t))]) (rest := []) X w hml hl.1 (c_Po_copyFrom hT (G := G1) (k := 12) (q := t) (by omega) (by omega) (by omega) (hW 12 (by omega)) (hW t (by omega)) (hto.ok hpr.2)) (by omega) (mkV_o (by omega)) rfl k_m_Cu_66 k_im_Po_copyFrom k_se_Po_copyFrom k_i_Po k_co_Po_copyFrom (by decide +kernel) rfl ⟨Nat.le_of_ble_eq_true rfl, Nat.le_of_ble_eq_true rfl⟩ ⟨rfl, rfl⟩ ⟨Nat.zero_le _, Nat.zero_le _⟩ rfl (Nat.le_of_ble_eq_true rfl) d_Cu_collectLinear_83 (fun C' H locs hp w => ?_)
      subst hp
      obtain ⟨Gw1, eGw1⟩ : ∃ gg : Nat → Nat → Int, gg = va_up G1 12 (G1 t) := ⟨_, rfl⟩
      rw [← eGw1] at w
      have hW1 : WF Gw1 := by rw [eGw1]; exact hW.up (k := 12) (hto.ok hpr.2)
      refine lv_aload_n X.1 X.2.1 d_Cu_collectLinear_86 rfl (lv_at hl 1 rfl) ?_
      refine w_cVv (n := 0) (i := 2 * t) (ci := 0) (As := []) (rest := []) X w hml hl.1 (c_Po_clear hT (G := Gw1) (k := t) (by omega) (hW1 t (by omega))) (by omega) (mkV_o (by omega)) rfl k_m_Cu_102 k_im_Po_clear k_se_Po_clear k_i_Po k_co_Po_clear (by decide +kernel) rfl ⟨Nat.le_of_ble_eq_true rfl, Nat.le_of_ble_eq_true rfl⟩ ⟨rfl, rfl⟩ ⟨Nat.zero_le _, Nat.zero_le _⟩ rfl (Nat.le_of_ble_eq_true rfl) d_Cu_collectLinear_87 (fun C' H locs hp w => ?_)
      subst hp
      obtain ⟨Gw2, eGw2⟩ : ∃ gg : Nat → Nat → Int, gg = va_up Gw1 t (fun _ => 0) := ⟨_, rfl⟩
      rw [← eGw2] at w
      have hW2 : WF Gw2 := by rw [eGw2]; exact hW1.up (k := t) (ok_0 _)
      have ft : Gw2 t = fun _ => 0 := by rw [eGw2, va_up_self]
      have f12 : Gw2 12 = G1 t := by rw [eGw2, va_up_ne _ _ (by omega), eGw1, va_up_self]
      have f13 : Gw2 13 = lnS pr v := by rw [eGw2, va_up_ne _ _ (by omega), eGw1, va_up_ne _ _ (by omega), h13]
      refine lv_aload_n X.1 X.2.1 d_Cu_collectLinear_90 rfl (lv_at hl 0 rfl) ?_
      refine t_cu X hT w hU 3 (by decide) k_f_Cu_9 rfl d_Cu_collectLinear_91 ?_
      refine lv_aload_n X.1 X.2.1 d_Cu_collectLinear_94 rfl (lv_at hl 1 rfl) ?_
      refine lv_iconst (v := iI (1)) X.1 X.2.1 d_Cu_collectLinear_95 (by decide) ?_
      refine lv_aload_n X.1 X.2.1 d_Cu_collectLinear_96 rfl (lv_at hl 0 rfl) ?_
      refine t_cu X hT w hU 10 (by decide) k_f_Cu_51 rfl d_Cu_collectLinear_97 ?_
      refine lv_aload_n X.1 X.2.1 d_Cu_collectLinear_100 rfl (lv_at hl 0 rfl) ?_
      refine t_cu X hT w hU 9 (by decide) k_f_Cu_48 rfl d_Cu_collectLinear_101 ?_
      refine w_cVv (n := 4) (i := 123) (ci := 1) (As := [.ref (ad (2 * t)), .int (iI (1)), .ref (ad (2 * 13)), .ref (ad (2 * 12))]) (rest := []) X w hml hl.1 (c_Ar_addProduct hT (G := Gw2) hO (k := t) (q := 13) (r := 12) (f := 1) (by omega) (by omega) (by omega) (by omega) (by omega) (by rw [ft]; exact okp_0 _ (by omega)) (hW2 13 (by omega)) (hW2 12 (by omega)) (by omega) (by rw [f13, f12, wt]; omega)) (by omega) (by rw [mkV_O (by decide)]; exact hO.1) rfl k_m_Cu_105 k_im_Ar_addProduct k_se_Ar_addProduct k_i_Ar k_co_Ar_addProduct (by decide +kernel) rfl ⟨Nat.le_of_ble_eq_true rfl, Nat.le_of_ble_eq_true rfl⟩ ⟨rfl, rfl⟩ ⟨Nat.zero_le _, Nat.zero_le _⟩ rfl (Nat.le_of_ble_eq_true rfl) d_Cu_collectLinear_104 (fun C' H locs hp w => ?_)
      subst hp
      obtain ⟨Gw3, eGw3⟩ : ∃ gg : Nat → Nat → Int, gg = va_up Gw2 t (addP pr (Gw2 t) 1 (Gw2 13) (Gw2 12) (dg 300 (Gw2 13) + 1).toNat) := ⟨_, rfl⟩
      rw [← eGw3] at w
      refine i_inc (k := 5) (x := i) (lv' := [(5, .int (iI (i + 1))), (0, .ref (ad (125))), (1, .ref (ad (2 * t))), (2, .ref (ad (2 * q))), (3, .int (iI (v))), (4, .int (iI (f)))]) X d_Cu_collectLinear_107 hl rfl (by decide) rfl (fun ls hl => ?_)
      refine lv_goto (tgt := 71) X.1 X.2.1 d_Cu_collectLinear_110 (by decide) ?_
      rw [ft, f13, f12] at eGw3
      have gt : Gw3 t = prd pr (lnS pr v) (G1 t) := by rw [eGw3, va_up_self]; rfl
      have hPd2 : dg 300 (Gw3 t) = dg 300 (prd pr (lnS pr v) (G1 t)) := by rw [gt]
      exact ih (i + 1) Gw3 H locs ls (by omega) (by rw [gt]; exact hz) w (by rw [eGw3]; exact hW2.up (k := t) (by rw [wt]; exact hPo.ok hpr.2)) (by rw [gt]; exact hPo) (by rw [eGw3, va_up_ne _ _ (by omega), f13]) (by omega) hq0 (fun j j2 j6 j12 j13 jt => by rw [eGw3, va_up_ne _ _ jt, eGw2, va_up_ne _ _ jt, eGw1, va_up_ne _ _ j12]; exact hF j j2 j6 j12 j13 jt) (lv_sub hl [1, 2, 3, 4, 5, 0] rfl)
theorem l_Cu_collectLinear_7 (X : Cx p s m args c b_Cu_collectLinear RCu) (hml : c.maxLocals = 6) (hT : 132 ≤ T) (hO : arO cs ad pr inv O) (hU : cuO cs ad n0 ph tm O) (ht : 16 ≤ t ∧ t < 37) (hq : 16 ≤ q ∧ q < 37) (htq : t ≠ q) (hx : G 15 = xP) {Z : P2}
    (KK : ∀ (G1 : Nat → Nat → Int) (H : Heap) (locs : List Loc) (ls : Array Slot), Wd D cs A ad T s (mkV cs ad (rV G1) O) H locs → WF G1 → G1 t = Z.1 → okp pr 25 Z.1 → (∀ j, j ≠ 2 → j ≠ 6 → j ≠ 12 → j ≠ 13 → j ≠ t → j ≠ q → G1 j = G j) → W p l e { frames := 4, cells := 0, slots := 0, locals := 96 } s m args below meth c H locs 0 0 Q (F0 m 119 ls [])) :
    ∀ (n v : Nat) (G1 : Nat → Nat → Int) (H : Heap) (locs : List Loc) (ls : Array Slot), (v : Int) + n = pr → linL pr inv v n (G1 t, G1 q) = Z → Wd D cs A ad T s (mkV cs ad (rV G1) O) H locs → WF G1 → okp pr 25 (G1 t) → okp pr 25 (G1 q) → 0 ≤ dg 300 (G1 q) → dg 300 (G1 t) + dg 300 (G1 q) ≤ 24 → (∀ j, j ≠ 2 → j ≠ 6 → j ≠ 12 → j ≠ 13 → j ≠ t → j ≠ q → G1 j = G j) → lv_has ls 6 [(0, .ref (ad (125))), (1, .ref (ad (2 * t))), (2, .ref (ad (2 * q))), (3, .int (iI (v)))] → W p l e { frames := 4, cells := 0, slots := 0, locals := 96 } s m args below meth c H locs 0 0 Q (F0 m 7 ls []) := by
  have hpr := hO.2.2.1
  have wq := wd_2 (show 2 ≤ q by omega)
  intro n
  induction n with
  | zero =>
    intro v G1 H locs ls h1 hz w hW hto hqo hq0 hdd hF hl
    have hz : (G1 t, G1 q) = Z := hz
    subst hz
    refine lv_iload_n X.1 X.2.1 d_Cu_collectLinear_7 rfl (lv_at hl 3 rfl) ?_
    refine lv_aload_n X.1 X.2.1 d_Cu_collectLinear_8 rfl (lv_at hl 0 rfl) ?_
    refine t_cu X hT w hU 3 (by decide) k_f_Cu_9 rfl d_Cu_collectLinear_9 ?_
    refine t_ar X hT w hO 0 (by decide) k_f_Cu_91 rfl d_Cu_collectLinear_12 ?_
    refine i_ge (a := v) (b := pr) (tgt := 119) X (by omega) (by omega) d_Cu_collectLinear_15 (by decide) (fun h_15 => ?_) (fun h_15 => ?_)
    · exact KK G1 H locs ls w hW rfl hto hF
    · exact absurd h_15 (by omega)
  | succ n ih =>
    intro v G1 H locs ls h1 hz w hW hto hqo hq0 hdd hF hl
    have hGx : G1 15 = xP := by rw [hF 15 (by omega) (by omega) (by omega) (by omega) (by omega) (by omega), hx]
    have hln := lnS_ok (v := v) (show 1 < pr by omega)
    have hln25 := hln.mono (m := 25) (by omega)
    have hld := lnS_dg (pr := pr) (v := v)
    have hdq := (hqo.ok hpr.2).dlt 300
    obtain ⟨tz, etz⟩ : ∃ tz, tz = tko pr inv (lnS pr v) 24 0 (G1 q) := ⟨_, rfl⟩
    have htk := tko_dg hO hln25 hld 24 0 (G1 q) hqo hq0
    rw [← etz] at htk
    have hz : linL pr inv (v + 1) n (mulN pr (lnS pr v) tz.1 (G1 t), tz.2) = Z := by rw [etz]; exact hz
    refine lv_iload_n X.1 X.2.1 d_Cu_collectLinear_7 rfl (lv_at hl 3 rfl) ?_
    refine lv_aload_n X.1 X.2.1 d_Cu_collectLinear_8 rfl (lv_at hl 0 rfl) ?_
    refine t_cu X hT w hU 3 (by decide) k_f_Cu_9 rfl d_Cu_collectLinear_9 ?_
    refine t_ar X hT w hO 0 (by decide) k_f_Cu_91 rfl d_Cu_collectLinear_12 ?_
    refine i_ge (a := v) (b := pr) (tgt := 119) X (by omega) (by omega) d_Cu_collectLinear_15 (by decide) (fun h_15 => ?_) (fun h_15 => ?_)
    · exact absurd h_15 (by omega)
    · refine lv_aload_n X.1 X.2.1 d_Cu_collectLinear_18 rfl (lv_at hl 0 rfl) ?_
      refine t_cu X hT w hU 10 (by decide) k_f_Cu_51 rfl d_Cu_collectLinear_19 ?_
      refine lv_aload_n X.1 X.2.1 d_Cu_collectLinear_22 rfl (lv_at hl 0 rfl) ?_
      refine t_cu X hT w hU 12 (by decide) k_f_Cu_60 rfl d_Cu_collectLinear_23 ?_
      refine w_cVv (n := 1) (i := 2 * 13) (ci := 0) (As := [.ref (ad (2 * 15))]) (rest := []) X w hml hl.1 (c_Po_copyFrom hT (G := G1) (k := 13) (q := 15) (by omega) (by omega) (by omega) (hW 13 (by omega)) (hW 15 (by omega)) (by rw [hGx]; exact (xP_ok (pr := pr) (by omega) (by decide)).ok hpr.2)) (by omega) (mkV_o (by omega)) rfl k_m_Cu_66 k_im_Po_copyFrom k_se_Po_copyFrom k_i_Po k_co_Po_copyFrom (by decide +kernel) rfl ⟨Nat.le_of_ble_eq_true rfl, Nat.le_of_ble_eq_true rfl⟩ ⟨rfl, rfl⟩ ⟨Nat.zero_le _, Nat.zero_le _⟩ rfl (Nat.le_of_ble_eq_true rfl) d_Cu_collectLinear_26 (fun C' H locs hp w => ?_)
      subst hp
      obtain ⟨Gw1, eGw1⟩ : ∃ gg : Nat → Nat → Int, gg = va_up G1 13 (G1 15) := ⟨_, rfl⟩
      rw [← eGw1] at w
      rw [hGx] at eGw1
      have hW1 : WF Gw1 := by rw [eGw1]; exact hW.up (k := 13) ((xP_ok (pr := pr) (by omega) (by decide)).ok hpr.2)
      have f13 : Gw1 13 = xP := by rw [eGw1, va_up_self]
      refine lv_aload_n X.1 X.2.1 d_Cu_collectLinear_29 rfl (lv_at hl 0 rfl) ?_
      refine t_cu X hT w hU 10 (by decide) k_f_Cu_51 rfl d_Cu_collectLinear_30 ?_
      refine lv_iconst (v := iI (0)) X.1 X.2.1 d_Cu_collectLinear_33 (by decide) ?_
      refine lv_aload_n X.1 X.2.1 d_Cu_collectLinear_34 rfl (lv_at hl 0 rfl) ?_
      refine t_cu X hT w hU 3 (by decide) k_f_Cu_9 rfl d_Cu_collectLinear_35 ?_
      refine t_ar X hT w hO 0 (by decide) k_f_Cu_91 rfl d_Cu_collectLinear_38 ?_
      refine lv_iload_n X.1 X.2.1 d_Cu_collectLinear_41 rfl (lv_at hl 3 rfl) ?_
      refine i_sub (a := pr) (b := v) X d_Cu_collectLinear_42 ?_
      refine lv_aload_n X.1 X.2.1 d_Cu_collectLinear_43 rfl (lv_at hl 0 rfl) ?_
      refine t_cu X hT w hU 3 (by decide) k_f_Cu_9 rfl d_Cu_collectLinear_44 ?_
      refine t_ar X hT w hO 0 (by decide) k_f_Cu_91 rfl d_Cu_collectLinear_47 ?_
      refine i_rem (a := pr - v) (b := pr) X (by omega) (by omega) d_Cu_collectLinear_50 ?_
      refine w_cVv (n := 2) (i := 2 * 13) (ci := 0) (As := [.int (iI ((0 : Nat))), .int (iI ((pr - v) % pr))]) (rest := []) X w hml hl.1 (c_Po_put hT (G := Gw1) (k := 13) (i := 0) (v := (pr - v) % pr) (by omega) (by decide) ⟨Int.emod_nonneg _ (by omega), by have := Int.emod_lt_of_pos (pr - v) (show 0 < pr by omega); omega⟩ (hW1 13 (by omega))) (by omega) (mkV_o (by omega)) rfl k_m_Cu_94 k_im_Po_put k_se_Po_put k_i_Po k_co_Po_put (by decide +kernel) rfl ⟨Nat.le_of_ble_eq_true rfl, Nat.le_of_ble_eq_true rfl⟩ ⟨rfl, rfl⟩ ⟨Nat.zero_le _, Nat.zero_le _⟩ rfl (Nat.le_of_ble_eq_true rfl) d_Cu_collectLinear_51 (fun C' H locs hp w => ?_)
      subst hp
      obtain ⟨Gw2, eGw2⟩ : ∃ gg : Nat → Nat → Int, gg = va_up Gw1 13 (va_up (Gw1 13) 0 ((pr - v) % pr)) := ⟨_, rfl⟩
      rw [← eGw2] at w
      rw [f13] at eGw2
      have g13 : Gw2 13 = lnS pr v := by rw [eGw2, va_up_self]; rfl
      have hW2 : WF Gw2 := by rw [eGw2]; exact hW1.up (k := 13) (hln25.ok hpr.2)
      have hF2 : ∀ j, j ≠ 13 → Gw2 j = G1 j := fun j h => by rw [eGw2, va_up_ne _ _ h, eGw1, va_up_ne _ _ h]
      have gq : Gw2 q = G1 q := hF2 q (by omega)
      refine lv_aload_n X.1 X.2.1 d_Cu_collectLinear_54 rfl (lv_at hl 0 rfl) ?_
      refine t_cu X hT w hU 3 (by decide) k_f_Cu_9 rfl d_Cu_collectLinear_55 ?_
      refine lv_aload_n X.1 X.2.1 d_Cu_collectLinear_58 rfl (lv_at hl 2 rfl) ?_
      refine lv_aload_n X.1 X.2.1 d_Cu_collectLinear_59 rfl (lv_at hl 0 rfl) ?_
      refine t_cu X hT w hU 10 (by decide) k_f_Cu_51 rfl d_Cu_collectLinear_60 ?_
      refine w_cVi (n := 2) (i := 123) (ci := 1) (As := [.ref (ad (2 * q)), .ref (ad (2 * 13))]) (rest := []) X w hml hl.1 (c_Ar_takeOut hT (G := Gw2) hO (k := q) (q := 13) (by omega) (by omega) (by omega) hW2 (by rw [gq]; exact hqo) (by rw [g13]; exact hln25) (by rw [g13, hld]; omega)) (by omega) (by rw [mkV_O (by decide)]; exact hO.1) rfl k_m_Cu_98 k_im_Ar_takeOut k_se_Ar_takeOut k_i_Ar k_co_Ar_takeOut (by decide +kernel) rfl ⟨Nat.le_of_ble_eq_true rfl, Nat.le_of_ble_eq_true rfl⟩ ⟨rfl, rfl⟩ ⟨Nat.zero_le _, Nat.zero_le _⟩ rfl (Nat.le_of_ble_eq_true rfl) d_Cu_collectLinear_63 (fun r' C' H locs hp w => ?_)
      obtain ⟨G3, rfl, rfl, hW3, e3q, ok3q, hF3⟩ := hp
      rw [g13, gq, ← etz] at e3q ⊢
      have g3t : G3 t = G1 t := by rw [hF3 t (by omega) (by omega) htq, hF2 t (by omega)]
      have g313 : G3 13 = lnS pr v := by rw [hF3 13 (by omega) (by omega) (by omega), g13]
      refine lv_istore (lv' := [(4, .int (iI ((tz.1 : Int)))), (0, .ref (ad (125))), (1, .ref (ad (2 * t))), (2, .ref (ad (2 * q))), (3, .int (iI (v)))]) X.1 X.2.1 d_Cu_collectLinear_66 hl (by decide) rfl (fun ls hl => ?_)
      refine lv_iconst (v := iI (0)) X.1 X.2.1 d_Cu_collectLinear_68 (by decide) ?_
      refine lv_istore (lv' := [(5, .int (iI (0))), (4, .int (iI ((tz.1 : Int)))), (0, .ref (ad (125))), (1, .ref (ad (2 * t))), (2, .ref (ad (2 * q))), (3, .int (iI (v)))]) X.1 X.2.1 d_Cu_collectLinear_69 hl (by decide) rfl (fun ls hl => ?_)
      refine l_Cu_collectLinear_71 (G := G3) (t := t) (q := q) (v := v) (f := tz.1) (Z := mulN pr (lnS pr v) tz.1 (G1 t)) X hml hT hO hU ht hq htq (by omega) (fun G4 H locs ls w a1 a2 a3 a5 a6 a7 a8 hl => ?_) tz.1 0 G3 H locs ls (by omega) (by rw [g3t]) w hW3 (by rw [g3t]; exact hto) g313 (by rw [g3t, e3q]; omega) (by rw [e3q]; omega) (fun _ _ _ _ _ _ => rfl) (lv_sub hl [2, 3, 4, 5, 1, 0] rfl)
      refine i_inc (k := 3) (x := v) (lv' := [(3, .int (iI (v + 1))), (0, .ref (ad (125))), (1, .ref (ad (2 * t))), (2, .ref (ad (2 * q)))]) X d_Cu_collectLinear_113 hl rfl (by decide) rfl (fun ls hl => ?_)
      refine lv_goto (tgt := 7) X.1 X.2.1 d_Cu_collectLinear_116 (by decide) ?_
      exact ih (v + 1) G4 H locs ls (by omega) (by rw [a2, a8, e3q]; exact hz) w a1 (by rw [a2]; exact a3) (by rw [a8]; exact ok3q) (by rw [a8, e3q]; omega) (by rw [a2]; exact a7) (fun j j2 j6 j12 j13 jt jq => by rw [a6 j j2 j6 j12 j13 jt, hF3 j j2 j6 jq, hF2 j j13]; exact hF j j2 j6 j12 j13 jt jq) (lv_sub hl [1, 2, 3, 0] rfl)
end CLL
theorem c_Cu_collectLinear {l : Launch} {D : va_G} {cs : Nat → ClassId} {A : Nat → Prop} {ad : Nat → Nat} {T : Nat} (hT : 132 ≤ T) {G : Nat → Nat → Int} {O : Nat → va_E} {pr : Int} {inv : Nat → Int} (hO : arO cs ad pr inv O) {n : Nat} {ph : Nat → Nat} {tm : Nat → Int} (hU : cuO cs ad n ph tm O) {t q : Nat} (ht : 16 ≤ t ∧ t < 37) (hq : 16 ≤ q ∧ q < 37) (htq : t ≠ q) (hW : WF G) (hx : G 15 = xP) (hqo : okp pr 25 (G q)) (hq0 : 0 ≤ dg 300 (G q)) : Cv l y_Cu_collectLinear ws_Cu_collectLinear { frames := 4, cells := 0, slots := 0, locals := 96 } D cs A ad T [.ref (ad (125)), .ref (ad (2 * t)), .ref (ad (2 * q))] (mkV cs ad (rV G) O) (fun C' => ∃ G', C' = mkV cs ad (rV G') O ∧ WF G' ∧ G' t = (linL pr inv 0 pr.toNat (oneP, G q)).1 ∧ okp pr 25 (G' t) ∧ ∀ j, j ≠ 2 → j ≠ 6 → j ≠ 12 → j ≠ 13 → j ≠ t → j ≠ q → G' j = G j) := by
  refine w_bodyV (by decide) (Nat.le_of_ble_eq_true rfl) ?_
  intro p e s m below meth c X hr hlk hml w ls hl
  have hl : lv_has ls 6 [(0, .ref (ad (125))), (1, .ref (ad (2 * t))), (2, .ref (ad (2 * q)))] := hl
  have hpr := hO.2.2.1
  have wt := wd_2 (show 2 ≤ t by omega)
  have hdq := (hqo.ok hpr.2).dlt 300
  have hone : okp pr 1 oneP := oneP_ok (by omega) (by omega)
  have hd1 := (hone.ok hpr.2).dlt 300
  have hone25 := hone.mono (m := 25) (by omega)
  refine lv_aload_n X.1 X.2.1 d_Cu_collectLinear_0 rfl (lv_at hl 1 rfl) ?_
  refine lv_iconst (v := iI (0)) X.1 X.2.1 d_Cu_collectLinear_1 (by decide) ?_
  refine w_cVv (n := 1) (i := 2 * t) (ci := 0) (As := [.int (iI ((0 : Nat)))]) (rest := []) X w hml hl.1 (c_Po_becomePowerOfX hT (G := G) (k := t) (i := 0) (by omega) (by omega) (hW t (by omega))) (by omega) (mkV_o (by omega)) rfl k_m_Cu_57 k_im_Po_becomePowerOfX k_se_Po_becomePowerOfX k_i_Po k_co_Po_becomePowerOfX (by decide +kernel) rfl ⟨Nat.le_of_ble_eq_true rfl, Nat.le_of_ble_eq_true rfl⟩ ⟨rfl, rfl⟩ ⟨Nat.zero_le _, Nat.zero_le _⟩ rfl (Nat.le_of_ble_eq_true rfl) d_Cu_collectLinear_2 (fun C' H locs hp w => ?_)
  subst hp
  obtain ⟨Gw1, eGw1⟩ : ∃ gg : Nat → Nat → Int, gg = va_up G t (fun x => if x = 0 then 1 else 0) := ⟨_, rfl⟩
  rw [← eGw1] at w
  refine lv_iconst (v := iI (0)) X.1 X.2.1 d_Cu_collectLinear_5 (by decide) ?_
  refine lv_istore_n (lv' := [(3, .int (iI (0))), (0, .ref (ad (125))), (1, .ref (ad (2 * t))), (2, .ref (ad (2 * q)))]) X.1 X.2.1 d_Cu_collectLinear_6 rfl hl (by decide) rfl (fun ls hl => ?_)
  have gt : Gw1 t = oneP := by rw [eGw1, va_up_self]; rfl
  have gq : Gw1 q = G q := by rw [eGw1, va_up_ne _ _ (Ne.symm htq)]
  have hFw : ∀ j, j ≠ t → Gw1 j = G j := fun j h => by rw [eGw1, va_up_ne _ _ h]
  exact l_Cu_collectLinear_7 (G := Gw1) (t := t) (q := q) (Z := linL pr inv 0 pr.toNat (oneP, G q)) X hml hT hO hU ht hq htq (by rw [hFw 15 (by omega), hx]) (fun G2 H locs ls w a1 a2 a3 a4 => w_vret X hr hlk w ⟨G2, rfl, a1, a2, by rw [a2]; exact a3, fun j j2 j6 j12 j13 jt jq => by rw [a4 j j2 j6 j12 j13 jt jq, hFw j jt]⟩ d_Cu_collectLinear_119) pr.toNat 0 Gw1 _ _ _ (by omega) (by rw [gt, gq]) w (by rw [eGw1]; exact hW.up (k := t) (by rw [wt]; exact hone25.ok hpr.2)) (by rw [gt]; exact hone25) (by rw [gq]; exact hqo) (by rw [gq]; exact hq0) (by rw [gt, gq]; omega) (fun _ _ _ _ _ _ _ => rfl) (lv_sub hl [1, 2, 3, 0] rfl)
