/-- the degrees one after the other -/
def cutL (pr : Int) (inv : Nat → Int) (X On : Nat → Int) : Nat → Nat → KS → (Nat → Int) → (Nat → Int) → KS × (Nat → Int)
  | 0, _, K, R, _ => (K, R)
  | n + 1, d, K, R, I =>
    if 2 * (d : Int) ≤ dg 300 R then
      (if 0 < dg 300 (gcdP pr inv R (addS pr (frm pr inv I R) (pr - 1) 0 X)) then
        cutL pr inv X On n (d + 1) (tofK pr inv K.1 ((splK pr inv X On (gcdP pr inv R (addS pr (frm pr inv I R) (pr - 1) 0 X)) d K).1 - K.1) (splK pr inv X On (gcdP pr inv R (addS pr (frm pr inv I R) (pr - 1) 0 X)) d K) R).1 (tofK pr inv K.1 ((splK pr inv X On (gcdP pr inv R (addS pr (frm pr inv I R) (pr - 1) 0 X)) d K).1 - K.1) (splK pr inv X On (gcdP pr inv R (addS pr (frm pr inv I R) (pr - 1) 0 X)) d K) R).2 (frm pr inv I R)
      else cutL pr inv X On n (d + 1) K R (frm pr inv I R))
    else (K, R)
def endK (z : KS × (Nat → Int)) : KS := if 0 < dg 300 z.2 then appK z.1 z.2 1 else z.1
def cutC (pr : Int) (inv : Nat → Int) (X On : Nat → Int) (K : KS) (A : Nat → Int) : KS := srtK 1 ((endK (cutL pr inv X On 24 1 (0, K.2) (mon pr inv A) X)).1 - 1) (endK (cutL pr inv X On 24 1 (0, K.2) (mon pr inv A) X))
section CUT
variable {p : Program} {l : Launch} {e : Env} {s : State} {m : MethodId} {args : Array Value} {below : List Frame} {meth : Method} {c : Code} {H : Heap} {locs : List Loc} {Q : State → Prop} {D : va_G} {cs : Nat → ClassId} {A : Nat → Prop} {ad : Nat → Nat} {T : Nat} {O : Nat → va_E} {pr : Int} {inv : Nat → Int}
variable {G : Nat → Nat → Int}
theorem l_Cu_cut (X : Cx p s m args c b_Cu_cut RCu) (hml : c.maxLocals = 4) (hT : 132 ≤ T) (hO0 : arO cs ad pr inv O) (h14 : okp pr 25 (G 14)) (h15 : okp pr 25 (G 15)) {ph : Nat → Nat} {Z : KS × (Nat → Int)}
    (KK : ∀ (G1 : Nat → Nat → Int) (O1 : Nat → va_E) (H : Heap) (locs : List Loc) (ls : Array Slot), Wd D cs A ad T s (mkV cs ad (rV G1) O1) H locs → cuS pr cs ad G1 O1 Z.1 ph → WF G1 → (∀ j, 14 ≤ j → j < 37 → G1 j = G j) → cuFr O O1 → G1 7 = Z.2 → okp pr 25 Z.2 → lv_has ls 4 [(0, .ref (ad (125)))] → W p l e { frames := 6, cells := 0, slots := 0, locals := 149 } s m args below meth c H locs 0 0 Q (F0 m 95 ls [])) :
    ∀ (n b : Nat) (K : KS) (G1 : Nat → Nat → Int) (O1 : Nat → va_E) (H : Heap) (locs : List Loc) (ls : Array Slot), b + n = 25 → 1 ≤ b → okp pr 25 (G1 7) → okp pr 25 (G1 8) → dg 300 (G1 8) ≤ 23 → cutL pr inv (G 15) (G 14) n b K (G1 7) (G1 8) = Z → Wd D cs A ad T s (mkV cs ad (rV G1) O1) H locs → cuS pr cs ad G1 O1 K ph → WF G1 → (∀ j, 14 ≤ j → j < 37 → G1 j = G j) → cuFr O O1 → lv_has ls 4 [(0, .ref (ad (125))), (2, .int (iI (b)))] → W p l e { frames := 6, cells := 0, slots := 0, locals := 149 } s m args below meth c H locs 0 0 Q (F0 m 37 ls []) := by
  have hpr := hO0.2.2.1
  intro n
  induction n with
  | zero =>
    intro b K G1 O1 H locs ls h1 hb h7 h8 hd8 hz w hK hW hF hc hl
    have hU := hK.1
    have hz : (K, G1 7) = Z := hz
    subst hz
    refine lv_iload_n X.1 X.2.1 d_Cu_cut_37 rfl (lv_at hl 1 rfl) ?_
    refine lv_bipush (v := iI (24)) X.1 X.2.1 d_Cu_cut_38 (by decide) ?_
    refine i_gt (a := b) (b := 24) (tgt := 95) X (by omega) (by omega) d_Cu_cut_40 (by decide) (fun h_40 => ?_) (fun h_40 => ?_)
    · exact KK G1 O1 H locs ls w hK hW hF hc rfl h7 (lv_sub hl [0] rfl)
    · exact absurd h_40 (by omega)
  | succ n ih =>
    intro b K G1 O1 H locs ls h1 hb h7 h8 hd8 hz w hK hW hF hc hl
    have hU := hK.1
    have hn := hU.2.2.2.1
    have hO := hc.ar hO0
    have hG14 : G1 14 = G 14 := hF 14 (by omega) (by omega)
    have hG15 : G1 15 = G 15 := hF 15 (by omega) (by omega)
    have hd7 := (h7.ok hpr.2).dlt 300
    have hd70 := dg_ge 300 (G1 7)
    unfold cutL at hz
    refine lv_iload_n X.1 X.2.1 d_Cu_cut_37 rfl (lv_at hl 1 rfl) ?_
    refine lv_bipush (v := iI (24)) X.1 X.2.1 d_Cu_cut_38 (by decide) ?_
    refine i_gt (a := b) (b := 24) (tgt := 95) X (by omega) (by omega) d_Cu_cut_40 (by decide) (fun h_40 => ?_) (fun h_40 => ?_)
    · exact absurd h_40 (by omega)
    · refine lv_iconst (v := iI (2)) X.1 X.2.1 d_Cu_cut_43 (by decide) ?_
      refine lv_iload_n X.1 X.2.1 d_Cu_cut_44 rfl (lv_at hl 1 rfl) ?_
      refine i_mul (a := 2) (b := b) X d_Cu_cut_45 ?_
      refine lv_aload_n X.1 X.2.1 d_Cu_cut_46 rfl (lv_at hl 0 rfl) ?_
      refine t_cu X hT w hU 4 (by decide) k_f_Cu_32 rfl d_Cu_cut_47 ?_
      refine g_deg (k := 7) X hT w (by omega) k_f_Cu_63 d_Cu_cut_50 ?_
      refine i_gt (a := 2 * b) (b := dg 300 (G1 7)) (tgt := 95) X (by omega) (by omega) d_Cu_cut_53 (by decide) (fun h_53 => ?_) (fun h_53 => ?_)
      · rw [if_neg (by omega)] at hz
        subst hz
        exact KK G1 O1 H locs ls w hK hW hF hc rfl h7 (lv_sub hl [0] rfl)
      · refine lv_aload_n X.1 X.2.1 d_Cu_cut_56 rfl (lv_at hl 0 rfl) ?_
        refine lv_aload_n X.1 X.2.1 d_Cu_cut_57 rfl (lv_at hl 0 rfl) ?_
        refine t_cu X hT w hU 4 (by decide) k_f_Cu_32 rfl d_Cu_cut_58 ?_
        refine w_cVv (n := 1) (i := 125) (ci := 2) (As := [.ref (ad (2 * 7))]) (rest := []) X w hml hl.1 (c_Cu_gatherNextDegree hT (G := G1) hO hU (k := 7) (by omega) hW h8 hd8 h7 (by omega) (by rw [hG15]; exact h15)) (by omega) (by rw [mkV_O (by decide)]; exact hU.1) rfl k_m_Cu_70 k_im_Cu_gatherNextDegree k_se_Cu_gatherNextDegree k_i_Cu k_co_Cu_gatherNextDegree (by decide +kernel) rfl ⟨Nat.le_of_ble_eq_true rfl, Nat.le_of_ble_eq_true rfl⟩ ⟨rfl, rfl⟩ ⟨Nat.zero_le _, Nat.zero_le _⟩ rfl (Nat.le_of_ble_eq_true rfl) d_Cu_cut_61 (fun C' H locs hp w => ?_)
        obtain ⟨G2, rfl, hW2, e8, e9, ok8, d8, ok9, hF2⟩ := hp
        rw [hG15] at e9
        rw [if_pos (by omega), ← e9, ← e8] at hz
        have hd9 := (ok9.ok hpr.2).dlt 300
        have hd90 := dg_ge 300 (G2 9)
        have k7 : G2 7 = G1 7 := hF2 7 (by omega) (by omega) (by omega) (by omega) (by omega) (by omega) (by omega)
        have k14 : G2 14 = G 14 := by rw [hF2 14 (by omega) (by omega) (by omega) (by omega) (by omega) (by omega) (by omega), hG14]
        have k15 : G2 15 = G 15 := by rw [hF2 15 (by omega) (by omega) (by omega) (by omega) (by omega) (by omega) (by omega), hG15]
        have hK2 : cuS pr cs ad G2 O1 K ph := ⟨hU, fun i hi => by have := hU.2.2.2.2.1 i hi; rw [hF2 _ (by omega) (by omega) (by omega) (by omega) (by omega) (by omega) (by omega)]; exact hK.2.1 i hi, hK.2.2⟩
        refine lv_aload_n X.1 X.2.1 d_Cu_cut_64 rfl (lv_at hl 0 rfl) ?_
        refine t_cu X hT w hU 6 (by decide) k_f_Cu_39 rfl d_Cu_cut_65 ?_
        refine g_deg (k := 9) X hT w (by omega) k_f_Cu_63 d_Cu_cut_68 ?_
        refine z_le (a := dg 300 (G2 9)) (tgt := 89) X (by omega) d_Cu_cut_71 (by decide) (fun h_71 => ?_) (fun h_71 => ?_)
        · refine i_inc (k := 1) (x := b) (lv' := [(2, .int (iI (b + 1))), (0, .ref (ad (125)))]) X d_Cu_cut_89 hl rfl (by decide) rfl (fun ls hl => ?_)
          refine lv_goto (tgt := 37) X.1 X.2.1 d_Cu_cut_92 (by decide) ?_
          rw [if_neg (by omega)] at hz
          exact ih (b + 1) K G2 O1 H locs ls (by omega) (by omega) (by rw [k7]; exact h7) ok8 d8 (by rw [k7]; exact hz) w hK2 hW2 (fun j h1 h2 => by rw [hF2 j (by omega) (by omega) (by omega) (by omega) (by omega) (by omega) (by omega)]; exact hF j h1 h2) hc (lv_sub hl [1, 0] rfl)
        · refine lv_aload_n X.1 X.2.1 d_Cu_cut_74 rfl (lv_at hl 0 rfl) ?_
          refine t_cu X hT w hU 2 (by decide) k_f_Cu_28 rfl d_Cu_cut_75 ?_
          refine lv_istore_n (lv' := [(3, .int (iI ((K.1 : Nat)))), (0, .ref (ad (125))), (2, .int (iI (b)))]) X.1 X.2.1 d_Cu_cut_78 rfl hl (by decide) rfl (fun ls hl => ?_)
          refine lv_aload_n X.1 X.2.1 d_Cu_cut_79 rfl (lv_at hl 1 rfl) ?_
          refine lv_iload_n X.1 X.2.1 d_Cu_cut_80 rfl (lv_at hl 2 rfl) ?_
          refine w_cVv (n := 1) (i := 125) (ci := 2) (As := [.int (iI (b))]) (rest := []) X w hml hl.1 (c_Cu_split hT (G := G2) hO hK2 (g := b) (by omega) hW2 ok9 h_71 (by rw [k14]; exact h14) (by rw [k15]; exact h15)) (by omega) (by rw [mkV_O (by decide)]; exact hU.1) rfl k_m_Cu_78 k_im_Cu_split k_se_Cu_split k_i_Cu k_co_Cu_split (by decide +kernel) rfl ⟨Nat.le_of_ble_eq_true rfl, Nat.le_of_ble_eq_true rfl⟩ ⟨rfl, rfl⟩ ⟨Nat.zero_le _, Nat.zero_le _⟩ rfl (Nat.le_of_ble_eq_true rfl) d_Cu_cut_81 (fun C' H locs hp w => ?_)
          obtain ⟨G3, O3, rfl, hK3, hW3, hF3, hc3, hp3, hn3⟩ := hp
          rw [k14, k15] at hK3 hp3 hn3
          have hO3 := hc3.ar hO
          have m7 : G3 7 = G1 7 := by rw [hF3 7 (by omega) (by omega) (by omega) (by omega) (by omega) (by omega) (by omega) (by omega) (by omega), k7]
          have hU := hK3.1
          refine lv_aload_n X.1 X.2.1 d_Cu_cut_84 rfl (lv_at hl 1 rfl) ?_
          refine lv_iload_n X.1 X.2.1 d_Cu_cut_85 rfl (lv_at hl 0 rfl) ?_
          refine w_cVv (n := 1) (i := 125) (ci := 2) (As := [.int (iI ((K.1 : Nat)))]) (rest := []) X w hml hl.1 (c_Cu_takeOutFactors hT (G := G3) hO3 hK3 (f := K.1) hn3 (fun i h1 h2 => Int.le_of_lt (hp3 i h1 h2)) hW3 (by rw [m7]; exact h7)) (by omega) (by rw [mkV_O (by decide)]; exact hU.1) rfl k_m_Cu_81 k_im_Cu_takeOutFactors k_se_Cu_takeOutFactors k_i_Cu k_co_Cu_takeOutFactors (by decide +kernel) rfl ⟨Nat.le_of_ble_eq_true rfl, Nat.le_of_ble_eq_true rfl⟩ ⟨rfl, rfl⟩ ⟨Nat.zero_le _, Nat.zero_le _⟩ rfl (Nat.le_of_ble_eq_true rfl) d_Cu_cut_86 (fun C' H locs hp w => ?_)
          obtain ⟨G4, O4, rfl, hK4, hW4, e7, ok7, hF4, hc4⟩ := hp
          refine i_inc (k := 2) (x := b) (lv' := [(2, .int (iI (b + 1))), (3, .int (iI ((K.1 : Nat)))), (0, .ref (ad (125)))]) X d_Cu_cut_89 hl rfl (by decide) rfl (fun ls hl => ?_)
          refine lv_goto (tgt := 37) X.1 X.2.1 d_Cu_cut_92 (by decide) ?_
          rw [if_pos (by omega)] at hz
          rw [m7] at e7 hK4
          have m8 : G4 8 = G2 8 := by rw [hF4 8 (by omega) (by omega) (by omega), hF3 8 (by omega) (by omega) (by omega) (by omega) (by omega) (by omega) (by omega) (by omega) (by omega)]
          exact ih (b + 1) _ G4 O4 H locs ls (by omega) (by omega) ok7 (by rw [m8]; exact ok8) (by rw [m8]; exact d8) (by rw [m8, e7]; exact hz) w hK4 hW4 (fun j h1 h2 => by rw [hF4 j (by omega) (by omega) (by omega), hF3 j (by omega) (by omega) (by omega) (by omega) (by omega) (by omega) (by omega) (by omega) (by omega), hF2 j (by omega) (by omega) (by omega) (by omega) (by omega) (by omega) (by omega)]; exact hF j h1 h2) ((hc.tr hc3).tr hc4) (lv_sub hl [2, 0] rfl)
end CUT
theorem c_Cu_cut {l : Launch} {D : va_G} {cs : Nat → ClassId} {A : Nat → Prop} {ad : Nat → Nat} {T : Nat} (hT : 132 ≤ T) {G : Nat → Nat → Int} {O : Nat → va_E} {pr : Int} {inv : Nat → Int} (hO : arO cs ad pr inv O) {K : KS} {ph : Nat → Nat} (hK : cuS pr cs ad G O K ph) {k : Nat} (hk : 16 ≤ k ∧ k < 37) (hW : WF G) (hA : okp pr 25 (G k)) (h14 : okp pr 25 (G 14)) (h15 : okp pr 25 (G 15)) (hdx : dg 300 (G 15) ≤ 23) : Cv l y_Cu_cut ws_Cu_cut { frames := 6, cells := 0, slots := 0, locals := 149 } D cs A ad T [.ref (ad (125)), .ref (ad (2 * k))] (mkV cs ad (rV G) O) (fun C' => ∃ G' O' ph', C' = mkV cs ad (rV G') O' ∧ cuS pr cs ad G' O' (cutC pr inv (G 15) (G 14) K (G k)) ph' ∧ WF G' ∧ (∀ j, 14 ≤ j → j < 37 → G' j = G j) ∧ cuFr O O') := by
  refine w_bodyV (by decide) (Nat.le_of_ble_eq_true rfl) ?_
  intro p e s m below meth c X hr hlk hml w ls hl
  have hl : lv_has ls 4 [(0, .ref (ad (125))), (1, .ref (ad (2 * k)))] := hl
  have hpr := hO.2.2.1
  have hU := hK.1
  have wk := wd_2 (show 2 ≤ k by omega)
  have hO0 := hO
  refine lv_aload_n X.1 X.2.1 d_Cu_cut_0 rfl (lv_at hl 0 rfl) ?_
  refine lv_iconst (v := iI (0)) X.1 X.2.1 d_Cu_cut_1 (by decide) ?_
  refine t_ps (z := 0) X hT w hU 0 rfl k_f_Cu_28 d_Cu_cut_2 (fun H locs w => ?_)
  obtain ⟨O1, eO1⟩ : ∃ oo : Nat → va_E, oo = va_up O 125 (.inr (2, cuF ad 0)) := ⟨_, rfl⟩
  rw [← eO1] at w
  have hU : cuO cs ad 0 ph K.2.2 O1 := by rw [eO1]; exact hU.size (by omega)
  have hc1 : cuFr O O1 := by rw [eO1]; exact cuFr.up (Or.inl rfl)
  have hO := hc1.ar hO
  refine lv_aload_n X.1 X.2.1 d_Cu_cut_5 rfl (lv_at hl 0 rfl) ?_
  refine t_cu X hT w hU 4 (by decide) k_f_Cu_32 rfl d_Cu_cut_6 ?_
  refine lv_aload_n X.1 X.2.1 d_Cu_cut_9 rfl (lv_at hl 1 rfl) ?_
  refine w_cVv (n := 1) (i := 2 * 7) (ci := 0) (As := [.ref (ad (2 * k))]) (rest := []) X w hml hl.1 (c_Po_copyFrom hT (G := G) (k := 7) (q := k) (by omega) (by omega) (by omega) (hW 7 (by omega)) (hW k (by omega)) (hA.ok hpr.2)) (by omega) (mkV_o (by omega)) rfl k_m_Cu_66 k_im_Po_copyFrom k_se_Po_copyFrom k_i_Po k_co_Po_copyFrom (by decide +kernel) rfl ⟨Nat.le_of_ble_eq_true rfl, Nat.le_of_ble_eq_true rfl⟩ ⟨rfl, rfl⟩ ⟨Nat.zero_le _, Nat.zero_le _⟩ rfl (Nat.le_of_ble_eq_true rfl) d_Cu_cut_10 (fun C' H locs hp w => ?_)
  subst hp
  obtain ⟨Gw1, eGw1⟩ : ∃ gg : Nat → Nat → Int, gg = va_up G 7 (G k) := ⟨_, rfl⟩
  rw [← eGw1] at w
  have hW1 : WF Gw1 := by rw [eGw1]; exact hW.up (k := 7) (hA.ok hpr.2)
  have f7 : Gw1 7 = G k := by rw [eGw1, va_up_self]
  refine lv_aload_n X.1 X.2.1 d_Cu_cut_13 rfl (lv_at hl 0 rfl) ?_
  refine t_cu X hT w hU 3 (by decide) k_f_Cu_9 rfl d_Cu_cut_14 ?_
  refine lv_aload_n X.1 X.2.1 d_Cu_cut_17 rfl (lv_at hl 0 rfl) ?_
  refine t_cu X hT w hU 4 (by decide) k_f_Cu_32 rfl d_Cu_cut_18 ?_
  refine w_cVv (n := 1) (i := 123) (ci := 1) (As := [.ref (ad (2 * 7))]) (rest := []) X w hml hl.1 (c_Ar_makeMonic hT (G := Gw1) hO (k := 7) (by omega) (by rw [f7]; exact hA)) (by omega) (by rw [mkV_O (by decide)]; exact hO.1) rfl k_m_Cu_73 k_im_Ar_makeMonic k_se_Ar_makeMonic k_i_Ar k_co_Ar_makeMonic (by decide +kernel) rfl ⟨Nat.le_of_ble_eq_true rfl, Nat.le_of_ble_eq_true rfl⟩ ⟨rfl, rfl⟩ ⟨Nat.zero_le _, Nat.zero_le _⟩ rfl (Nat.le_of_ble_eq_true rfl) d_Cu_cut_21 (fun C' H locs hp w => ?_)
  subst hp
  obtain ⟨Gw2, eGw2⟩ : ∃ gg : Nat → Nat → Int, gg = va_up Gw1 7 (mon pr inv (Gw1 7)) := ⟨_, rfl⟩
  rw [← eGw2] at w
  rw [f7] at eGw2
  have hmo := mon_ok (inv := inv) (show 0 < pr by omega) hA
  have hW2 : WF Gw2 := by rw [eGw2]; exact hW1.up (k := 7) (hmo.ok hpr.2)
  have f15 : Gw2 15 = G 15 := by rw [eGw2, va_up_ne _ _ (by omega), eGw1, va_up_ne _ _ (by omega)]
  refine lv_aload_n X.1 X.2.1 d_Cu_cut_24 rfl (lv_at hl 0 rfl) ?_
  refine t_cu X hT w hU 5 (by decide) k_f_Cu_36 rfl d_Cu_cut_25 ?_
  refine lv_aload_n X.1 X.2.1 d_Cu_cut_28 rfl (lv_at hl 0 rfl) ?_
  refine t_cu X hT w hU 12 (by decide) k_f_Cu_60 rfl d_Cu_cut_29 ?_
  refine w_cVv (n := 1) (i := 2 * 8) (ci := 0) (As := [.ref (ad (2 * 15))]) (rest := []) X w hml hl.1 (c_Po_copyFrom hT (G := Gw2) (k := 8) (q := 15) (by omega) (by omega) (by omega) (hW2 8 (by omega)) (hW2 15 (by omega)) (by rw [f15]; exact h15.ok hpr.2)) (by omega) (mkV_o (by omega)) rfl k_m_Cu_66 k_im_Po_copyFrom k_se_Po_copyFrom k_i_Po k_co_Po_copyFrom (by decide +kernel) rfl ⟨Nat.le_of_ble_eq_true rfl, Nat.le_of_ble_eq_true rfl⟩ ⟨rfl, rfl⟩ ⟨Nat.zero_le _, Nat.zero_le _⟩ rfl (Nat.le_of_ble_eq_true rfl) d_Cu_cut_32 (fun C' H locs hp w => ?_)
  subst hp
  obtain ⟨Gw3, eGw3⟩ : ∃ gg : Nat → Nat → Int, gg = va_up Gw2 8 (Gw2 15) := ⟨_, rfl⟩
  rw [← eGw3] at w
  refine lv_iconst (v := iI (1)) X.1 X.2.1 d_Cu_cut_35 (by decide) ?_
  refine lv_istore_n (lv' := [(2, .int (iI (1))), (0, .ref (ad (125))), (1, .ref (ad (2 * k)))]) X.1 X.2.1 d_Cu_cut_36 rfl hl (by decide) rfl (fun ls hl => ?_)
  rw [f15] at eGw3
  have k8 : Gw3 8 = G 15 := by rw [eGw3, va_up_self]
  have k7 : Gw3 7 = mon pr inv (G k) := by rw [eGw3, va_up_ne _ _ (by omega), eGw2, va_up_self]
  have hFw : ∀ j, 14 ≤ j → Gw3 j = G j := fun j h => by rw [eGw3, va_up_ne _ _ (by omega), eGw2, va_up_ne _ _ (by omega), eGw1, va_up_ne _ _ (by omega)]
  have hKw : cuS pr cs ad Gw3 O1 (0, K.2) ph := ⟨hU, fun i hi => by have := hU.2.2.2.2.1 i hi; rw [hFw _ (by omega)]; exact hK.2.1 i hi, fun i hi => absurd hi (Nat.not_lt_zero _)⟩
  obtain ⟨Z, eZ⟩ : ∃ Z, Z = cutL pr inv (G 15) (G 14) 24 1 (0, K.2) (mon pr inv (G k)) (G 15) := ⟨_, rfl⟩
  refine l_Cu_cut (G := G) (O := O) (ph := ph) (Z := Z) X hml hT hO0 h14 h15 (fun G2 O2 H locs ls w hK2 hW2 hF2 hc2 e7 ok7 hl => ?_) 24 1 (0, K.2) Gw3 O1 _ _ _ (by omega) (by omega) (by rw [k7]; exact hmo) (by rw [k8]; exact h15) (by rw [k8]; exact hdx) (by rw [k7, k8, eZ]) w hKw (by rw [eGw3]; exact hW2.up (k := 8) (h15.ok hpr.2)) (fun j h1 _ => hFw j h1) hc1 (lv_sub hl [1, 0] rfl)
  have hO2 := hc2.ar hO0
  have hU2 := hK2.1
  have hd2 := (ok7.ok hpr.2).dlt 300
  have hd20 := dg_ge 300 Z.2
  have hdG7 : dg 300 (G2 7) = dg 300 Z.2 := by rw [e7]
  refine lv_aload_n X.1 X.2.1 d_Cu_cut_95 rfl (lv_at hl 0 rfl) ?_
  refine t_cu X hT w hU2 4 (by decide) k_f_Cu_32 rfl d_Cu_cut_96 ?_
  refine g_deg (k := 7) X hT w (by omega) k_f_Cu_63 d_Cu_cut_99 ?_
  refine z_le (a := dg 300 (G2 7)) (tgt := 114) X (by omega) d_Cu_cut_102 (by decide) (fun h_102 => ?_) (fun h_102 => ?_)
  · refine lv_aload_n X.1 X.2.1 d_Cu_cut_114 rfl (lv_at hl 0 rfl) ?_
    have eK : Z.1 = endK Z := by unfold endK; rw [if_neg (by omega)]
    have hK2e : cuS pr cs ad G2 O2 (endK Z) ph := by rw [← eK]; exact hK2
    refine w_cVv (n := 0) (i := 125) (ci := 2) (As := []) (rest := []) X w hml hl.1 (c_Cu_sort hT (G := G2) hO2 (K := endK Z) hK2e hW2) (by omega) (by rw [mkV_O (by decide)]; exact hU2.1) rfl k_m_Cu_88 k_im_Cu_sort k_se_Cu_sort k_i_Cu k_co_Cu_sort (by decide +kernel) rfl ⟨Nat.le_of_ble_eq_true rfl, Nat.le_of_ble_eq_true rfl⟩ ⟨rfl, rfl⟩ ⟨Nat.zero_le _, Nat.zero_le _⟩ rfl (Nat.le_of_ble_eq_true rfl) d_Cu_cut_115 (fun C' H locs hp w => ?_)
    obtain ⟨G4, O4, ph4, rfl, hK4, hW4, hF4, hc4⟩ := hp
    exact w_vret X hr hlk w ⟨G4, O4, ph4, rfl, by rw [eZ] at hK4; exact hK4, hW4, fun j h1 h2 => by rw [hF4 j h2]; exact hF2 j h1 h2, hc2.tr hc4⟩ d_Cu_cut_118
  · refine lv_aload_n X.1 X.2.1 d_Cu_cut_105 rfl (lv_at hl 0 rfl) ?_
    refine lv_aload_n X.1 X.2.1 d_Cu_cut_106 rfl (lv_at hl 0 rfl) ?_
    refine t_cu X hT w hU2 4 (by decide) k_f_Cu_32 rfl d_Cu_cut_107 ?_
    refine lv_iconst (v := iI (1)) X.1 X.2.1 d_Cu_cut_110 (by decide) ?_
    refine w_cVv (n := 2) (i := 125) (ci := 2) (As := [.ref (ad (2 * 7)), .int (iI (1))]) (rest := []) X w hml hl.1 (c_Cu_append hT (G := G2) hO2 hK2 (k := 7) (v := 1) (by omega) hW2 (by rw [e7]; exact ok7)) (by omega) (by rw [mkV_O (by decide)]; exact hU2.1) rfl k_m_Cu_84 k_im_Cu_append k_se_Cu_append k_i_Cu k_co_Cu_append (by decide +kernel) rfl ⟨Nat.le_of_ble_eq_true rfl, Nat.le_of_ble_eq_true rfl⟩ ⟨rfl, rfl⟩ ⟨Nat.zero_le _, Nat.zero_le _⟩ rfl (Nat.le_of_ble_eq_true rfl) d_Cu_cut_111 (fun C' H locs hp w => ?_)
    obtain ⟨G3, O3, rfl, hK3, hW3, hF3, hc3⟩ := hp
    have eK : appK Z.1 (G2 7) 1 = endK Z := by unfold endK; rw [if_pos (by omega), e7]
    rw [eK] at hK3
    have hU3 := hK3.1
    refine lv_aload_n X.1 X.2.1 d_Cu_cut_114 rfl (lv_at hl 0 rfl) ?_
    refine w_cVv (n := 0) (i := 125) (ci := 2) (As := []) (rest := []) X w hml hl.1 (c_Cu_sort hT (G := G3) (hc3.ar hO2) hK3 hW3) (by omega) (by rw [mkV_O (by decide)]; exact hU3.1) rfl k_m_Cu_88 k_im_Cu_sort k_se_Cu_sort k_i_Cu k_co_Cu_sort (by decide +kernel) rfl ⟨Nat.le_of_ble_eq_true rfl, Nat.le_of_ble_eq_true rfl⟩ ⟨rfl, rfl⟩ ⟨Nat.zero_le _, Nat.zero_le _⟩ rfl (Nat.le_of_ble_eq_true rfl) d_Cu_cut_115 (fun C' H locs hp w => ?_)
    obtain ⟨G4, O4, ph4, rfl, hK4, hW4, hF4, hc4⟩ := hp
    exact w_vret X hr hlk w ⟨G4, O4, ph4, rfl, by rw [eZ] at hK4; exact hK4, hW4, fun j h1 h2 => by rw [hF4 j h2, hF3 j h2]; exact hF2 j h1 h2, (hc2.tr hc3).tr hc4⟩ d_Cu_cut_118
