/-- a trace: S, the last image; its sum -/
def trL (pr : Int) (inv : Nat → Int) (M : Nat → Int) : Nat → P2 → P2
  | 0, z => z
  | n + 1, z => trL pr inv M n (frm pr inv z.1 M, addS pr z.2 1 0 (frm pr inv z.1 M))
section FT
variable {p : Program} {l : Launch} {e : Env} {s : State} {m : MethodId} {args : Array Value} {below : List Frame} {meth : Method} {c : Code} {H : Heap} {locs : List Loc} {Q : State → Prop} {D : va_G} {cs : Nat → ClassId} {A : Nat → Prop} {ad : Nat → Nat} {T : Nat} {O : Nat → va_E} {pr : Int} {inv : Nat → Int}
variable {g : Nat} {G : Nat → Nat → Int} {n : Nat} {ph : Nat → Nat} {tm : Nat → Int}
theorem l_Cu_findTrace (X : Cx p s m args c b_Cu_findTrace RCu) (hml : c.maxLocals = 3) (hT : 132 ≤ T) (hO : arO cs ad pr inv O) (hU : cuO cs ad n ph tm O) (h9 : okp pr 25 (G 9)) (hd9 : 0 ≤ dg 300 (G 9)) (hg : g ≤ 24) {Z : P2}
    (KK : ∀ (G1 : Nat → Nat → Int) (H : Heap) (locs : List Loc) (ls : Array Slot), Wd D cs A ad T s (mkV cs ad (rV G1) O) H locs → WF G1 → G1 11 = Z.2 → okp pr 25 Z.2 → (∀ j, j ≠ 0 → j ≠ 1 → j ≠ 11 → j ≠ 13 → G1 j = G j) → W p l e { frames := 4, cells := 0, slots := 0, locals := 96 } s m args below meth c H locs 0 0 Q (F0 m 67 ls [])) :
    ∀ (q i : Nat) (G1 : Nat → Nat → Int) (H : Heap) (locs : List Loc) (ls : Array Slot), (i + q = g ∨ (q = 0 ∧ i = 1 ∧ g ≤ 1)) → Wd D cs A ad T s (mkV cs ad (rV G1) O) H locs → WF G1 → okp pr 25 (G1 13) → dg 300 (G1 13) ≤ 23 → okp pr 25 (G1 11) → (∀ j, j ≠ 0 → j ≠ 1 → j ≠ 11 → j ≠ 13 → G1 j = G j) → trL pr inv (G 9) q (G1 13, G1 11) = Z → lv_has ls 3 [(0, .ref (ad (125))), (1, .int (iI (g))), (2, .int (iI (i)))] → W p l e { frames := 4, cells := 0, slots := 0, locals := 96 } s m args below meth c H locs 0 0 Q (F0 m 24 ls []) := by
  have hpr := hO.2.2.1
  have hdm := (h9.ok hpr.2).dlt 300
  intro q
  induction q with
  | zero =>
    intro i G1 H locs ls h1 w hW h13 hd13 h11 hF hz hl
    have hz : (G1 13, G1 11) = Z := hz
    subst hz
    refine lv_iload_n X.1 X.2.1 d_Cu_findTrace_24 rfl (lv_at hl 2 rfl) ?_
    refine lv_iload_n X.1 X.2.1 d_Cu_findTrace_25 rfl (lv_at hl 1 rfl) ?_
    refine i_ge (a := i) (b := g) (tgt := 67) X (by omega) (by omega) d_Cu_findTrace_26 (by decide) (fun h_26 => ?_) (fun h_26 => ?_)
    · exact KK G1 H locs ls w hW rfl h11 hF
    · exact absurd h_26 (by omega)
  | succ q ih =>
    intro i G1 H locs ls h1 w hW h13 hd13 h11 hF hz hl
    have hG9 : G1 9 = G 9 := hF 9 (by omega) (by omega) (by omega) (by omega)
    have hfr := frm_ok hO h13 h9 hd13 hd9
    have hI := hfr.1.mono (m := 25) (by omega)
    have hdI := (hfr.1.ok hpr.2).dlt 300
    have hSc : okp pr 25 (addS pr (G1 11) 1 0 (frm pr inv (G1 13) (G 9))) := addS_ok (by omega) h11 (fun x hx' => (hI.ok hpr.2).above (N := 300) (by omega) (by omega))
    refine lv_iload_n X.1 X.2.1 d_Cu_findTrace_24 rfl (lv_at hl 2 rfl) ?_
    refine lv_iload_n X.1 X.2.1 d_Cu_findTrace_25 rfl (lv_at hl 1 rfl) ?_
    refine i_ge (a := i) (b := g) (tgt := 67) X (by omega) (by omega) d_Cu_findTrace_26 (by decide) (fun h_26 => ?_) (fun h_26 => ?_)
    · exact absurd h_26 (by omega)
    · refine lv_aload_n X.1 X.2.1 d_Cu_findTrace_29 rfl (lv_at hl 0 rfl) ?_
      refine t_cu X hT w hU 3 (by decide) k_f_Cu_9 rfl d_Cu_findTrace_30 ?_
      refine lv_aload_n X.1 X.2.1 d_Cu_findTrace_33 rfl (lv_at hl 0 rfl) ?_
      refine t_cu X hT w hU 10 (by decide) k_f_Cu_51 rfl d_Cu_findTrace_34 ?_
      refine lv_aload_n X.1 X.2.1 d_Cu_findTrace_37 rfl (lv_at hl 0 rfl) ?_
      refine t_cu X hT w hU 6 (by decide) k_f_Cu_39 rfl d_Cu_findTrace_38 ?_
      refine w_cVv (n := 2) (i := 123) (ci := 1) (As := [.ref (ad (2 * 13)), .ref (ad (2 * 9))]) (rest := []) X w hml hl.1 (c_Ar_raiseToP hT (G := G1) hO (k := 13) (d := 9) (by omega) (by omega) hW h13 (by rw [hG9]; exact h9) hd13 (by rw [hG9]; exact hd9)) (by omega) (by rw [mkV_O (by decide)]; exact hO.1) rfl k_m_Cu_109 k_im_Ar_raiseToP k_se_Ar_raiseToP k_i_Ar k_co_Ar_raiseToP (by decide +kernel) rfl ⟨Nat.le_of_ble_eq_true rfl, Nat.le_of_ble_eq_true rfl⟩ ⟨rfl, rfl⟩ ⟨Nat.zero_le _, Nat.zero_le _⟩ rfl (Nat.le_of_ble_eq_true rfl) d_Cu_findTrace_41 (fun C' H locs hp w => ?_)
      subst hp
      obtain ⟨Gw1, eGw1⟩ : ∃ gg : Nat → Nat → Int, gg = va_up (va_up (va_up G1 0 (dvm pr inv (fro pr.toNat (G1 13)) (G1 9)).2) 1 (dvm pr inv (fro pr.toNat (G1 13)) (G1 9)).1) 13 (dvm pr inv (fro pr.toNat (G1 13)) (G1 9)).1 := ⟨_, rfl⟩
      rw [← eGw1] at w
      rw [hG9] at eGw1
      have hW1 : WF Gw1 := by rw [eGw1]; exact WF.fro hO hW h13 h9 hd13 hd9 (by omega)
      have f13 : Gw1 13 = frm pr inv (G1 13) (G 9) := by rw [eGw1, va_up_self]; rfl
      have f11 : Gw1 11 = G1 11 := by rw [eGw1, va_up_ne _ _ (by omega), va_up_ne _ _ (by omega), va_up_ne _ _ (by omega)]
      refine lv_aload_n X.1 X.2.1 d_Cu_findTrace_44 rfl (lv_at hl 0 rfl) ?_
      refine t_cu X hT w hU 3 (by decide) k_f_Cu_9 rfl d_Cu_findTrace_45 ?_
      refine lv_aload_n X.1 X.2.1 d_Cu_findTrace_48 rfl (lv_at hl 0 rfl) ?_
      refine t_cu X hT w hU 8 (by decide) k_f_Cu_45 rfl d_Cu_findTrace_49 ?_
      refine lv_iconst (v := iI (1)) X.1 X.2.1 d_Cu_findTrace_52 (by decide) ?_
      refine lv_iconst (v := iI (0)) X.1 X.2.1 d_Cu_findTrace_53 (by decide) ?_
      refine lv_aload_n X.1 X.2.1 d_Cu_findTrace_54 rfl (lv_at hl 0 rfl) ?_
      refine t_cu X hT w hU 10 (by decide) k_f_Cu_51 rfl d_Cu_findTrace_55 ?_
      refine w_cVv (n := 4) (i := 123) (ci := 1) (As := [.ref (ad (2 * 11)), .int (iI (1)), .int (iI ((0 : Nat))), .ref (ad (2 * 13))]) (rest := []) X w hml hl.1 (c_Ar_addShifted hT (G := Gw1) hO (k := 11) (q := 13) (t := 0) (f := 1) (by omega) (by omega) (by omega) (by rw [f11]; exact h11) (hW1 13 (by omega)) (by omega) (by rw [f13]; show _ < (25 : Int); omega)) (by omega) (by rw [mkV_O (by decide)]; exact hO.1) rfl k_m_Cu_113 k_im_Ar_addShifted k_se_Ar_addShifted k_i_Ar k_co_Ar_addShifted (by decide +kernel) rfl ⟨Nat.le_of_ble_eq_true rfl, Nat.le_of_ble_eq_true rfl⟩ ⟨rfl, rfl⟩ ⟨Nat.zero_le _, Nat.zero_le _⟩ rfl (Nat.le_of_ble_eq_true rfl) d_Cu_findTrace_58 (fun C' H locs hp w => ?_)
      subst hp
      obtain ⟨Gw2, eGw2⟩ : ∃ gg : Nat → Nat → Int, gg = va_up Gw1 11 (addS pr (Gw1 11) 1 0 (Gw1 13)) := ⟨_, rfl⟩
      rw [← eGw2] at w
      refine i_inc (k := 2) (x := i) (lv' := [(2, .int (iI (i + 1))), (0, .ref (ad (125))), (1, .int (iI (g)))]) X d_Cu_findTrace_61 hl rfl (by decide) rfl (fun ls hl => ?_)
      refine lv_goto (tgt := 24) X.1 X.2.1 d_Cu_findTrace_64 (by decide) ?_
      rw [f13, f11] at eGw2
      have g13 : Gw2 13 = frm pr inv (G1 13) (G 9) := by rw [eGw2, va_up_ne _ _ (by omega), f13]
      have g11 : Gw2 11 = addS pr (G1 11) 1 0 (frm pr inv (G1 13) (G 9)) := by rw [eGw2, va_up_self]
      exact ih (i + 1) Gw2 H locs ls (by omega) w (by rw [eGw2]; exact hW1.up (k := 11) (hSc.ok hpr.2)) (by rw [g13]; exact hI) (by rw [g13]; omega) (by rw [g11]; exact hSc) (fun j j0 j1 j11 j13 => by rw [eGw2, va_up_ne _ _ j11, eGw1, va_up_ne _ _ j13, va_up_ne _ _ j1, va_up_ne _ _ j0]; exact hF j j0 j1 j11 j13) (by rw [g13, g11]; exact hz) (lv_sub hl [1, 2, 0] rfl)
end FT
theorem c_Cu_findTrace {l : Launch} {D : va_G} {cs : Nat → ClassId} {A : Nat → Prop} {ad : Nat → Nat} {T : Nat} (hT : 132 ≤ T) {G : Nat → Nat → Int} {O : Nat → va_E} {pr : Int} {inv : Nat → Int} (hO : arO cs ad pr inv O) {n : Nat} {ph : Nat → Nat} {tm : Nat → Int} (hU : cuO cs ad n ph tm O) {g : Nat} (hg : g ≤ 24) (hW : WF G) (h10 : okp pr 25 (G 10)) (hd10 : dg 300 (G 10) ≤ 23) (h9 : okp pr 25 (G 9)) (hd9 : 0 ≤ dg 300 (G 9)) : Cv l y_Cu_findTrace ws_Cu_findTrace { frames := 4, cells := 0, slots := 0, locals := 96 } D cs A ad T [.ref (ad (125)), .int (iI (g))] (mkV cs ad (rV G) O) (fun C' => ∃ G', C' = mkV cs ad (rV G') O ∧ WF G' ∧ G' 11 = (trL pr inv (G 9) (g - 1) (G 10, G 10)).2 ∧ okp pr 25 (G' 11) ∧ ∀ j, j ≠ 0 → j ≠ 1 → j ≠ 11 → j ≠ 13 → G' j = G j) := by
  refine w_bodyV (by decide) (Nat.le_of_ble_eq_true rfl) ?_
  intro p e s m below meth c X hr hlk hml w ls hl
  have hl : lv_has ls 3 [(0, .ref (ad (125))), (1, .int (iI (g)))] := hl
  have hpr := hO.2.2.1
  refine lv_aload_n X.1 X.2.1 d_Cu_findTrace_0 rfl (lv_at hl 0 rfl) ?_
  refine t_cu X hT w hU 10 (by decide) k_f_Cu_51 rfl d_Cu_findTrace_1 ?_
  refine lv_aload_n X.1 X.2.1 d_Cu_findTrace_4 rfl (lv_at hl 0 rfl) ?_
  refine t_cu X hT w hU 7 (by decide) k_f_Cu_42 rfl d_Cu_findTrace_5 ?_
  refine w_cVv (n := 1) (i := 2 * 13) (ci := 0) (As := [.ref (ad (2 * 10))]) (rest := []) X w hml hl.1 (c_Po_copyFrom hT (G := G) (k := 13) (q := 10) (by omega) (by omega) (by omega) (hW 13 (by omega)) (hW 10 (by omega)) (h10.ok hpr.2)) (by omega) (mkV_o (by omega)) rfl k_m_Cu_66 k_im_Po_copyFrom k_se_Po_copyFrom k_i_Po k_co_Po_copyFrom (by decide +kernel) rfl ⟨Nat.le_of_ble_eq_true rfl, Nat.le_of_ble_eq_true rfl⟩ ⟨rfl, rfl⟩ ⟨Nat.zero_le _, Nat.zero_le _⟩ rfl (Nat.le_of_ble_eq_true rfl) d_Cu_findTrace_8 (fun C' H locs hp w => ?_)
  subst hp
  obtain ⟨Gw1, eGw1⟩ : ∃ gg : Nat → Nat → Int, gg = va_up G 13 (G 10) := ⟨_, rfl⟩
  rw [← eGw1] at w
  have hW1 : WF Gw1 := by rw [eGw1]; exact hW.up (k := 13) (h10.ok hpr.2)
  have f10 : Gw1 10 = G 10 := by rw [eGw1, va_up_ne _ _ (by omega)]
  refine lv_aload_n X.1 X.2.1 d_Cu_findTrace_11 rfl (lv_at hl 0 rfl) ?_
  refine t_cu X hT w hU 8 (by decide) k_f_Cu_45 rfl d_Cu_findTrace_12 ?_
  refine lv_aload_n X.1 X.2.1 d_Cu_findTrace_15 rfl (lv_at hl 0 rfl) ?_
  refine t_cu X hT w hU 7 (by decide) k_f_Cu_42 rfl d_Cu_findTrace_16 ?_
  refine w_cVv (n := 1) (i := 2 * 11) (ci := 0) (As := [.ref (ad (2 * 10))]) (rest := []) X w hml hl.1 (c_Po_copyFrom hT (G := Gw1) (k := 11) (q := 10) (by omega) (by omega) (by omega) (hW1 11 (by omega)) (hW1 10 (by omega)) (by rw [f10]; exact h10.ok hpr.2)) (by omega) (mkV_o (by omega)) rfl k_m_Cu_66 k_im_Po_copyFrom k_se_Po_copyFrom k_i_Po k_co_Po_copyFrom (by decide +kernel) rfl ⟨Nat.le_of_ble_eq_true rfl, Nat.le_of_ble_eq_true rfl⟩ ⟨rfl, rfl⟩ ⟨Nat.zero_le _, Nat.zero_le _⟩ rfl (Nat.le_of_ble_eq_true rfl) d_Cu_findTrace_19 (fun C' H locs hp w => ?_)
  subst hp
  obtain ⟨Gw2, eGw2⟩ : ∃ gg : Nat → Nat → Int, gg = va_up Gw1 11 (Gw1 10) := ⟨_, rfl⟩
  rw [← eGw2] at w
  rw [f10] at eGw2
  have hW2 : WF Gw2 := by rw [eGw2]; exact hW1.up (k := 11) (h10.ok hpr.2)
  have g11 : Gw2 11 = G 10 := by rw [eGw2, va_up_self]
  have g13 : Gw2 13 = G 10 := by rw [eGw2, va_up_ne _ _ (by omega), eGw1, va_up_self]
  refine lv_iconst (v := iI (1)) X.1 X.2.1 d_Cu_findTrace_22 (by decide) ?_
  refine lv_istore_n (lv' := [(2, .int (iI (1))), (0, .ref (ad (125))), (1, .int (iI (g)))]) X.1 X.2.1 d_Cu_findTrace_23 rfl hl (by decide) rfl (fun ls hl => ?_)
  have hF0 : ∀ j, j ≠ 0 → j ≠ 1 → j ≠ 11 → j ≠ 13 → Gw2 j = G j := fun j _ _ j11 j13 => by rw [eGw2, va_up_ne _ _ j11, eGw1, va_up_ne _ _ j13]
  exact l_Cu_findTrace (G := G) (g := g) (Z := trL pr inv (G 9) (g - 1) (G 10, G 10)) X hml hT hO hU h9 hd9 hg (fun G1 H locs ls w a1 a2 a3 a4 => w_vret X hr hlk w ⟨G1, rfl, a1, a2, by rw [a2]; exact a3, a4⟩ d_Cu_findTrace_67) (g - 1) 1 Gw2 _ _ _ (by omega) w hW2 (by rw [g13]; exact h10) (by rw [g13]; exact hd10) (by rw [g11]; exact h10) hF0 (by rw [g13, g11]) (lv_sub hl [1, 2, 0] rfl)
/-- the factor at the place k is cut by the values of a trace, from v on -/
def sbC (pr : Int) (inv : Nat → Int) (Tr On : Nat → Int) (k v : Nat) (K : KS) : Nat → Int := gcdP pr inv (K.2.1 k) (addS pr Tr (pr - v) 0 On)
def sbS (pr : Int) (inv : Nat → Int) (Tr On : Nat → Int) (k v : Nat) (K : KS) : KS :=
  if 0 < dg 300 (sbC pr inv Tr On k v K) ∧ dg 300 (sbC pr inv Tr On k v K) < dg 300 (K.2.1 k) then appK (K.1, va_up K.2.1 k (dvm pr inv (K.2.1 k) (sbC pr inv Tr On k v K)).2, K.2.2) (sbC pr inv Tr On k v K) 0 else K
def sbV (pr : Int) (inv : Nat → Int) (Tr On : Nat → Int) (g k : Nat) : Nat → Nat → KS → KS
  | _, 0, K => K
  | v, n + 1, K => if (g : Int) < dg 300 (K.2.1 k) then sbV pr inv Tr On g k (v + 1) n (sbS pr inv Tr On k v K) else K
def sbK (pr : Int) (inv : Nat → Int) (Tr On : Nat → Int) (g : Nat) : Nat → Nat → KS → KS
  | _, 0, K => K
  | k, n + 1, K => sbK pr inv Tr On g (k + 1) n (sbV pr inv Tr On g k 0 pr.toNat K)
theorem appK_n (K : KS) (F : Nat → Int) (v : Int) : K.1 ≤ (appK K F v).1 ∧ ((appK K F v).1 ≤ 24 ∨ (appK K F v).1 = K.1) := by
  unfold appK
  split
  · show K.1 ≤ K.1 + 1 ∧ (K.1 + 1 ≤ 24 ∨ _); omega
  · omega
theorem sbS_n {pr : Int} {inv Tr On : Nat → Int} {k v : Nat} {K : KS} : K.1 ≤ (sbS pr inv Tr On k v K).1 := by
  unfold sbS
  split
  · exact (appK_n (K.1, va_up K.2.1 k (dvm pr inv (K.2.1 k) (sbC pr inv Tr On k v K)).2, K.2.2) _ _).1
  · exact Nat.le_refl _
theorem sbV_n {pr : Int} {inv Tr On : Nat → Int} {g k : Nat} : ∀ (n v : Nat) (K : KS), K.1 ≤ (sbV pr inv Tr On g k v n K).1
  | 0, _, _ => Nat.le_refl _
  | n + 1, v, K => by
    unfold sbV
    split
    · exact Nat.le_trans sbS_n (sbV_n n (v + 1) _)
    · exact Nat.le_refl _
section SB
variable {p : Program} {l : Launch} {e : Env} {s : State} {m : MethodId} {args : Array Value} {below : List Frame} {meth : Method} {c : Code} {H : Heap} {locs : List Loc} {Q : State → Prop} {D : va_G} {cs : Nat → ClassId} {A : Nat → Prop} {ad : Nat → Nat} {T : Nat} {O : Nat → va_E} {pr : Int} {inv : Nat → Int}
variable {g : Nat} {G : Nat → Nat → Int}
theorem l_Cu_splitByTrace_17 (X : Cx p s m args c b_Cu_splitByTrace RCu) (hml : c.maxLocals = 6) (hT : 132 ≤ T) (hO0 : arO cs ad pr inv O) (h11 : okp pr 25 (G 11)) (h14 : okp pr 25 (G 14)) (hg : g ≤ 24) {f b k : Nat} (hb : k < b ∧ b ≤ 24) {ph : Nat → Nat} {Z : KS}
    (KK : ∀ (G1 : Nat → Nat → Int) (O1 : Nat → va_E) (H : Heap) (locs : List Loc) (ls : Array Slot), Wd D cs A ad T s (mkV cs ad (rV G1) O1) H locs → cuS pr cs ad G1 O1 Z ph → WF G1 → (∀ j, j < 37 → j ≠ 0 → j ≠ 2 → j ≠ 3 → j ≠ 12 → j ≠ 13 → G1 j = G j) → cuFr O O1 → lv_has ls 6 [(0, .ref (ad (125))), (1, .int (iI (f))), (2, .int (iI (g))), (3, .int (iI (b))), (4, .int (iI (k)))] → W p l e { frames := 4, cells := 0, slots := 0, locals := 100 } s m args below meth c H locs 0 0 Q (F0 m 183 ls [])) :
    ∀ (n v : Nat) (K : KS) (G1 : Nat → Nat → Int) (O1 : Nat → va_E) (H : Heap) (locs : List Loc) (ls : Array Slot), (v : Int) + n = pr → b ≤ K.1 → sbV pr inv (G 11) (G 14) g k v n K = Z → Wd D cs A ad T s (mkV cs ad (rV G1) O1) H locs → cuS pr cs ad G1 O1 K ph → WF G1 → (∀ j, j < 37 → j ≠ 0 → j ≠ 2 → j ≠ 3 → j ≠ 12 → j ≠ 13 → G1 j = G j) → cuFr O O1 → lv_has ls 6 [(0, .ref (ad (125))), (1, .int (iI (f))), (2, .int (iI (g))), (3, .int (iI (b))), (4, .int (iI (k))), (5, .int (iI (v)))] → W p l e { frames := 4, cells := 0, slots := 0, locals := 100 } s m args below meth c H locs 0 0 Q (F0 m 17 ls []) := by
  have hpr := hO0.2.2.1
  have hd14 := (h14.ok hpr.2).dlt 300
  intro n
  induction n with
  | zero =>
    intro v K G1 O1 H locs ls h1 hbK hz w hK hW hF hc hl
    have hU := hK.1
    have hO := hc.ar hO0
    have hz : K = Z := hz
    subst hz
    refine lv_iload X.1 X.2.1 d_Cu_splitByTrace_17 (lv_at hl 5 rfl) ?_
    refine lv_aload_n X.1 X.2.1 d_Cu_splitByTrace_19 rfl (lv_at hl 0 rfl) ?_
    refine t_cu X hT w hU 3 (by decide) k_f_Cu_9 rfl d_Cu_splitByTrace_20 ?_
    refine t_ar X hT w hO 0 (by decide) k_f_Cu_91 rfl d_Cu_splitByTrace_23 ?_
    refine i_ge (a := v) (b := pr) (tgt := 183) X (by omega) (by omega) d_Cu_splitByTrace_26 (by decide) (fun h_26 => ?_) (fun h_26 => ?_)
    · exact KK G1 O1 H locs ls w hK hW hF hc (lv_sub hl [0, 1, 2, 3, 4] rfl)
    · exact absurd h_26 (by omega)
  | succ n ih =>
    intro v K G1 O1 H locs ls h1 hbK hz w hK hW hF hc hl
    have hU := hK.1
    have hO := hc.ar hO0
    have hn := hU.2.2.2.1
    have hpk := hU.2.2.2.2.1 k (by omega)
    have hgk := hK.2.1 k (by omega)
    have hokk := hK.2.2 k (by omega)
    have hdk := (hokk.ok hpr.2).dlt 300
    have hdk0 := dg_ge 300 (K.2.1 k)
    have hdG : dg 300 (G1 (ph k)) = dg 300 (K.2.1 k) := by rw [hgk]
    have wp := wd_2 (show 2 ≤ ph k by omega)
    have hG11 : G1 11 = G 11 := hF 11 (by omega) (by omega) (by omega) (by omega) (by omega) (by omega)
    have hG14 : G1 14 = G 14 := hF 14 (by omega) (by omega) (by omega) (by omega) (by omega) (by omega)
    have hSc : okp pr 25 (addS pr (G 11) (pr - v) 0 (G 14)) := addS_ok (by omega) h11 (fun x hx' => (h14.ok hpr.2).above (N := 300) (by omega) (by omega))
    unfold sbV at hz
    refine lv_iload X.1 X.2.1 d_Cu_splitByTrace_17 (lv_at hl 5 rfl) ?_
    refine lv_aload_n X.1 X.2.1 d_Cu_splitByTrace_19 rfl (lv_at hl 0 rfl) ?_
    refine t_cu X hT w hU 3 (by decide) k_f_Cu_9 rfl d_Cu_splitByTrace_20 ?_
    refine t_ar X hT w hO 0 (by decide) k_f_Cu_91 rfl d_Cu_splitByTrace_23 ?_
    refine i_ge (a := v) (b := pr) (tgt := 183) X (by omega) (by omega) d_Cu_splitByTrace_26 (by decide) (fun h_26 => ?_) (fun h_26 => ?_)
    · exact absurd h_26 (by omega)
    · refine lv_aload_n X.1 X.2.1 d_Cu_splitByTrace_29 rfl (lv_at hl 0 rfl) ?_
      refine t_cu X hT w hU 0 (by decide) k_f_Cu_17 rfl d_Cu_splitByTrace_30 ?_
      refine lv_iload X.1 X.2.1 d_Cu_splitByTrace_33 (lv_at hl 4 rfl) ?_
      refine t_fa (z := k) X hT w hU k rfl (by omega) d_Cu_splitByTrace_35 ?_
      refine g_deg (k := ph k) X hT w (by omega) k_f_Cu_63 d_Cu_splitByTrace_36 ?_
      refine lv_iload_n X.1 X.2.1 d_Cu_splitByTrace_39 rfl (lv_at hl 2 rfl) ?_
      refine i_le (a := dg 300 (G1 (ph k))) (b := g) (tgt := 183) X (by omega) (by omega) d_Cu_splitByTrace_40 (by decide) (fun h_40 => ?_) (fun h_40 => ?_)
      · rw [if_neg (by omega)] at hz
        subst hz
        exact KK G1 O1 H locs ls w hK hW hF hc (lv_sub hl [0, 1, 2, 3, 4] rfl)
      · refine lv_aload_n X.1 X.2.1 d_Cu_splitByTrace_43 rfl (lv_at hl 0 rfl) ?_
        refine t_cu X hT w hU 10 (by decide) k_f_Cu_51 rfl d_Cu_splitByTrace_44 ?_
        refine lv_aload_n X.1 X.2.1 d_Cu_splitByTrace_47 rfl (lv_at hl 0 rfl) ?_
        refine t_cu X hT w hU 8 (by decide) k_f_Cu_45 rfl d_Cu_splitByTrace_48 ?_
        refine w_cVv (n := 1) (i := 2 * 13) (ci := 0) (As := [.ref (ad (2 * 11))]) (rest := []) X w hml hl.1 (c_Po_copyFrom hT (G := G1) (k := 13) (q := 11) (by omega) (by omega) (by omega) (hW 13 (by omega)) (hW 11 (by omega)) (by rw [hG11]; exact h11.ok hpr.2)) (by omega) (mkV_o (by omega)) rfl k_m_Cu_66 k_im_Po_copyFrom k_se_Po_copyFrom k_i_Po k_co_Po_copyFrom (by decide +kernel) rfl ⟨Nat.le_of_ble_eq_true rfl, Nat.le_of_ble_eq_true rfl⟩ ⟨rfl, rfl⟩ ⟨Nat.zero_le _, Nat.zero_le _⟩ rfl (Nat.le_of_ble_eq_true rfl) d_Cu_splitByTrace_51 (fun C' H locs hp w => ?_)
        subst hp
        obtain ⟨Gw1, eGw1⟩ : ∃ gg : Nat → Nat → Int, gg = va_up G1 13 (G1 11) := ⟨_, rfl⟩
        rw [← eGw1] at w
        rw [hG11] at eGw1
        have hW1 : WF Gw1 := by rw [eGw1]; exact hW.up (k := 13) (h11.ok hpr.2)
        have f13 : Gw1 13 = G 11 := by rw [eGw1, va_up_self]
        have f14 : Gw1 14 = G 14 := by rw [eGw1, va_up_ne _ _ (by omega), hG14]
        refine lv_aload_n X.1 X.2.1 d_Cu_splitByTrace_54 rfl (lv_at hl 0 rfl) ?_
        refine t_cu X hT w hU 3 (by decide) k_f_Cu_9 rfl d_Cu_splitByTrace_55 ?_
        refine lv_aload_n X.1 X.2.1 d_Cu_splitByTrace_58 rfl (lv_at hl 0 rfl) ?_
        refine t_cu X hT w hU 10 (by decide) k_f_Cu_51 rfl d_Cu_splitByTrace_59 ?_
        refine lv_aload_n X.1 X.2.1 d_Cu_splitByTrace_62 rfl (lv_at hl 0 rfl) ?_
        refine t_cu X hT w hU 3 (by decide) k_f_Cu_9 rfl d_Cu_splitByTrace_63 ?_
        refine t_ar X hT w hO 0 (by decide) k_f_Cu_91 rfl d_Cu_splitByTrace_66 ?_
        refine lv_iload X.1 X.2.1 d_Cu_splitByTrace_69 (lv_at hl 5 rfl) ?_
        refine i_sub (a := pr) (b := v) X d_Cu_splitByTrace_71 ?_
        refine lv_iconst (v := iI (0)) X.1 X.2.1 d_Cu_splitByTrace_72 (by decide) ?_
        refine lv_aload_n X.1 X.2.1 d_Cu_splitByTrace_73 rfl (lv_at hl 0 rfl) ?_
        refine t_cu X hT w hU 11 (by decide) k_f_Cu_54 rfl d_Cu_splitByTrace_74 ?_
        refine w_cVv (n := 4) (i := 123) (ci := 1) (As := [.ref (ad (2 * 13)), .int (iI (pr - v)), .int (iI ((0 : Nat))), .ref (ad (2 * 14))]) (rest := []) X w hml hl.1 (c_Ar_addShifted hT (G := Gw1) hO (k := 13) (q := 14) (t := 0) (f := pr - v) (by omega) (by omega) (by omega) (by rw [f13]; exact h11) (hW1 14 (by omega)) (by omega) (by rw [f14]; show _ < (25 : Int); omega)) (by omega) (by rw [mkV_O (by decide)]; exact hO.1) rfl k_m_Cu_113 k_im_Ar_addShifted k_se_Ar_addShifted k_i_Ar k_co_Ar_addShifted (by decide +kernel) rfl ⟨Nat.le_of_ble_eq_true rfl, Nat.le_of_ble_eq_true rfl⟩ ⟨rfl, rfl⟩ ⟨Nat.zero_le _, Nat.zero_le _⟩ rfl (Nat.le_of_ble_eq_true rfl) d_Cu_splitByTrace_77 (fun C' H locs hp w => ?_)
        subst hp
        obtain ⟨Gw2, eGw2⟩ : ∃ gg : Nat → Nat → Int, gg = va_up Gw1 13 (addS pr (Gw1 13) (pr - v) 0 (Gw1 14)) := ⟨_, rfl⟩
        rw [← eGw2] at w
        rw [f13, f14] at eGw2
        have hW2 : WF Gw2 := by rw [eGw2]; exact hW1.up (k := 13) (hSc.ok hpr.2)
        have g13 : Gw2 13 = addS pr (G 11) (pr - v) 0 (G 14) := by rw [eGw2, va_up_self]
        have gpk : Gw2 (ph k) = K.2.1 k := by rw [eGw2, va_up_ne _ _ (by omega), eGw1, va_up_ne _ _ (by omega), hgk]
        refine lv_aload_n X.1 X.2.1 d_Cu_splitByTrace_80 rfl (lv_at hl 0 rfl) ?_
        refine t_cu X hT w hU 3 (by decide) k_f_Cu_9 rfl d_Cu_splitByTrace_81 ?_
        refine lv_aload_n X.1 X.2.1 d_Cu_splitByTrace_84 rfl (lv_at hl 0 rfl) ?_
        refine t_cu X hT w hU 9 (by decide) k_f_Cu_48 rfl d_Cu_splitByTrace_85 ?_
        refine lv_aload_n X.1 X.2.1 d_Cu_splitByTrace_88 rfl (lv_at hl 0 rfl) ?_
        refine t_cu X hT w hU 0 (by decide) k_f_Cu_17 rfl d_Cu_splitByTrace_89 ?_
        refine lv_iload X.1 X.2.1 d_Cu_splitByTrace_92 (lv_at hl 4 rfl) ?_
        refine t_fa (z := k) X hT w hU k rfl (by omega) d_Cu_splitByTrace_94 ?_
        refine lv_aload_n X.1 X.2.1 d_Cu_splitByTrace_95 rfl (lv_at hl 0 rfl) ?_
        refine t_cu X hT w hU 10 (by decide) k_f_Cu_51 rfl d_Cu_splitByTrace_96 ?_
        refine w_cVv (n := 3) (i := 123) (ci := 1) (As := [.ref (ad (2 * 12)), .ref (ad (2 * (ph k))), .ref (ad (2 * 13))]) (rest := []) X w hml hl.1 (c_Ar_findCommonDivisor hT (G := Gw2) hO (t := 12) (a := ph k) (b := 13) (by omega) (by omega) (by omega) hW2 (by rw [gpk]; exact hokk) (by rw [g13]; exact hSc)) (by omega) (by rw [mkV_O (by decide)]; exact hO.1) rfl k_m_Cu_117 k_im_Ar_findCommonDivisor k_se_Ar_findCommonDivisor k_i_Ar k_co_Ar_findCommonDivisor (by decide +kernel) rfl ⟨Nat.le_of_ble_eq_true rfl, Nat.le_of_ble_eq_true rfl⟩ ⟨rfl, rfl⟩ ⟨Nat.zero_le _, Nat.zero_le _⟩ rfl (Nat.le_of_ble_eq_true rfl) d_Cu_splitByTrace_99 (fun C' H locs hp w => ?_)
        obtain ⟨G3, rfl, hW3, h312, ok12, hF3⟩ := hp
        rw [gpk, g13] at h312
        obtain ⟨CC, eCC⟩ : ∃ CC, CC = sbC pr inv (G 11) (G 14) k v K := ⟨_, rfl⟩
        have h312 : G3 12 = CC := by rw [h312, eCC]; rfl
        have g3k : G3 (ph k) = K.2.1 k := by rw [hF3 _ (by omega) (by omega) (by omega) (by omega), gpk]
        have hd12 : dg 300 (G3 12) = dg 300 CC := by rw [h312]
        have hd3k : dg 300 (G3 (ph k)) = dg 300 (K.2.1 k) := by rw [g3k]
        have okC : okp pr 25 CC := by rw [← h312]; exact ok12
        have hdC := (okC.ok hpr.2).dlt 300
        have hdC0 := dg_ge 300 CC
        have hdC1 := dg_lt 300 (K.2.1 k)
        have hF3b : ∀ j, j < 61 → j ≠ 0 → j ≠ 2 → j ≠ 3 → j ≠ 12 → j ≠ 13 → G3 j = G1 j := fun j _ j0 j2 j3 j12 j13 => by rw [hF3 j j0 j2 j3 j12, eGw2, va_up_ne _ _ j13, eGw1, va_up_ne _ _ j13]
        have hK3 : cuS pr cs ad G3 O1 K ph := ⟨hU, fun i hi => by have := hU.2.2.2.2.1 i hi; rw [hF3b _ (by omega) (by omega) (by omega) (by omega) (by omega) (by omega)]; exact hK.2.1 i hi, hK.2.2⟩
        refine lv_aload_n X.1 X.2.1 d_Cu_splitByTrace_102 rfl (lv_at hl 0 rfl) ?_
        refine t_cu X hT w hU 9 (by decide) k_f_Cu_48 rfl d_Cu_splitByTrace_103 ?_
        refine g_deg (k := 12) X hT w (by omega) k_f_Cu_63 d_Cu_splitByTrace_106 ?_
        refine z_le (a := dg 300 (G3 12)) (tgt := 177) X (by omega) d_Cu_splitByTrace_109 (by decide) (fun h_109 => ?_) (fun h_109 => ?_)
        · refine i_inc (k := 5) (x := v) (lv' := [(5, .int (iI (v + 1))), (0, .ref (ad (125))), (1, .int (iI (f))), (2, .int (iI (g))), (3, .int (iI (b))), (4, .int (iI (k)))]) X d_Cu_splitByTrace_177 hl rfl (by decide) rfl (fun ls hl => ?_)
          refine lv_goto (tgt := 17) X.1 X.2.1 d_Cu_splitByTrace_180 (by decide) ?_
          rw [if_pos (by omega)] at hz
          have e1 : sbS pr inv (G 11) (G 14) k v K = K := by unfold sbS; rw [← eCC, if_neg (fun h => by omega)]
          rw [e1] at hz
          exact ih (v + 1) K G3 O1 H locs ls (by omega) hbK hz w hK3 hW3 (fun j hj j0 j2 j3 j12 j13 => by rw [hF3b j (by omega) j0 j2 j3 j12 j13]; exact hF j hj j0 j2 j3 j12 j13) hc (lv_sub hl [1, 2, 3, 4, 5, 0] rfl)
        · refine lv_aload_n X.1 X.2.1 d_Cu_splitByTrace_112 rfl (lv_at hl 0 rfl) ?_
          refine t_cu X hT w hU 9 (by decide) k_f_Cu_48 rfl d_Cu_splitByTrace_113 ?_
          refine g_deg (k := 12) X hT w (by omega) k_f_Cu_63 d_Cu_splitByTrace_116 ?_
          refine lv_aload_n X.1 X.2.1 d_Cu_splitByTrace_119 rfl (lv_at hl 0 rfl) ?_
          refine t_cu X hT w hU 0 (by decide) k_f_Cu_17 rfl d_Cu_splitByTrace_120 ?_
          refine lv_iload X.1 X.2.1 d_Cu_splitByTrace_123 (lv_at hl 4 rfl) ?_
          refine t_fa (z := k) X hT w hU k rfl (by omega) d_Cu_splitByTrace_125 ?_
          refine g_deg (k := ph k) X hT w (by omega) k_f_Cu_63 d_Cu_splitByTrace_126 ?_
          refine i_ge (a := dg 300 (G3 12)) (b := dg 300 (G3 (ph k))) (tgt := 177) X (by omega) (by omega) d_Cu_splitByTrace_129 (by decide) (fun h_129 => ?_) (fun h_129 => ?_)
          · refine i_inc (k := 5) (x := v) (lv' := [(5, .int (iI (v + 1))), (0, .ref (ad (125))), (1, .int (iI (f))), (2, .int (iI (g))), (3, .int (iI (b))), (4, .int (iI (k)))]) X d_Cu_splitByTrace_177 hl rfl (by decide) rfl (fun ls hl => ?_)
            refine lv_goto (tgt := 17) X.1 X.2.1 d_Cu_splitByTrace_180 (by decide) ?_
            rw [if_pos (by omega)] at hz
            have e1 : sbS pr inv (G 11) (G 14) k v K = K := by unfold sbS; rw [← eCC, if_neg (fun h => by omega)]
            rw [e1] at hz
            exact ih (v + 1) K G3 O1 H locs ls (by omega) hbK hz w hK3 hW3 (fun j hj j0 j2 j3 j12 j13 => by rw [hF3b j (by omega) j0 j2 j3 j12 j13]; exact hF j hj j0 j2 j3 j12 j13) hc (lv_sub hl [1, 2, 3, 4, 5, 0] rfl)
          · refine lv_aload_n X.1 X.2.1 d_Cu_splitByTrace_132 rfl (lv_at hl 0 rfl) ?_
            refine t_cu X hT w hU 10 (by decide) k_f_Cu_51 rfl d_Cu_splitByTrace_133 ?_
            refine lv_aload_n X.1 X.2.1 d_Cu_splitByTrace_136 rfl (lv_at hl 0 rfl) ?_
            refine t_cu X hT w hU 0 (by decide) k_f_Cu_17 rfl d_Cu_splitByTrace_137 ?_
            refine lv_iload X.1 X.2.1 d_Cu_splitByTrace_140 (lv_at hl 4 rfl) ?_
            refine t_fa (z := k) X hT w hU k rfl (by omega) d_Cu_splitByTrace_142 ?_
            refine w_cVv (n := 1) (i := 2 * 13) (ci := 0) (As := [.ref (ad (2 * (ph k)))]) (rest := []) X w hml hl.1 (c_Po_copyFrom hT (G := G3) (k := 13) (q := ph k) (by omega) (by omega) (by omega) (hW3 13 (by omega)) (hW3 _ (by omega)) (by rw [g3k]; exact hokk.ok hpr.2)) (by omega) (mkV_o (by omega)) rfl k_m_Cu_66 k_im_Po_copyFrom k_se_Po_copyFrom k_i_Po k_co_Po_copyFrom (by decide +kernel) rfl ⟨Nat.le_of_ble_eq_true rfl, Nat.le_of_ble_eq_true rfl⟩ ⟨rfl, rfl⟩ ⟨Nat.zero_le _, Nat.zero_le _⟩ rfl (Nat.le_of_ble_eq_true rfl) d_Cu_splitByTrace_143 (fun C' H locs hp w => ?_)
            subst hp
            obtain ⟨Gw3, eGw3⟩ : ∃ gg : Nat → Nat → Int, gg = va_up G3 13 (G3 (ph k)) := ⟨_, rfl⟩
            rw [← eGw3] at w
            rw [g3k] at eGw3
            have hW4 : WF Gw3 := by rw [eGw3]; exact hW3.up (k := 13) (hokk.ok hpr.2)
            have i13 : Gw3 13 = K.2.1 k := by rw [eGw3, va_up_self]
            have i12 : Gw3 12 = CC := by rw [eGw3, va_up_ne _ _ (by omega), h312]
            have hq := dvm_ok (inv := inv) (M := 25) (by omega) hokk okC (by omega) (by omega) hpr.2 (by omega)
            refine lv_aload_n X.1 X.2.1 d_Cu_splitByTrace_146 rfl (lv_at hl 0 rfl) ?_
            refine t_cu X hT w hU 3 (by decide) k_f_Cu_9 rfl d_Cu_splitByTrace_147 ?_
            refine lv_aload_n X.1 X.2.1 d_Cu_splitByTrace_150 rfl (lv_at hl 0 rfl) ?_
            refine t_cu X hT w hU 10 (by decide) k_f_Cu_51 rfl d_Cu_splitByTrace_151 ?_
            refine lv_aload_n X.1 X.2.1 d_Cu_splitByTrace_154 rfl (lv_at hl 0 rfl) ?_
            refine t_cu X hT w hU 9 (by decide) k_f_Cu_48 rfl d_Cu_splitByTrace_155 ?_
            refine lv_aload_n X.1 X.2.1 d_Cu_splitByTrace_158 rfl (lv_at hl 0 rfl) ?_
            refine t_cu X hT w hU 0 (by decide) k_f_Cu_17 rfl d_Cu_splitByTrace_159 ?_
            refine lv_iload X.1 X.2.1 d_Cu_splitByTrace_162 (lv_at hl 4 rfl) ?_
            refine t_fa (z := k) X hT w hU k rfl (by omega) d_Cu_splitByTrace_164 ?_
            refine w_cVv (n := 3) (i := 123) (ci := 1) (As := [.ref (ad (2 * 13)), .ref (ad (2 * 12)), .ref (ad (2 * (ph k)))]) (rest := []) X w hml hl.1 (c_Ar_divide hT (G := Gw3) hO (k := 13) (q := 12) (t := ph k) (by omega) (by omega) (by omega) (by omega) (by omega) (by omega) (by rw [i13]; exact hokk) (by rw [i12]; exact okC) (hW4 _ (by omega)) (by rw [i13, i12, wp]; omega)) (by omega) (by rw [mkV_O (by decide)]; exact hO.1) rfl k_m_Cu_131 k_im_Ar_divide k_se_Ar_divide k_i_Ar k_co_Ar_divide (by decide +kernel) rfl ⟨Nat.le_of_ble_eq_true rfl, Nat.le_of_ble_eq_true rfl⟩ ⟨rfl, rfl⟩ ⟨Nat.zero_le _, Nat.zero_le _⟩ rfl (Nat.le_of_ble_eq_true rfl) d_Cu_splitByTrace_165 (fun C' H locs hp w => ?_)
            subst hp
            obtain ⟨Gw4, eGw4⟩ : ∃ gg : Nat → Nat → Int, gg = va_up (va_up Gw3 (ph k) (dvm pr inv (Gw3 13) (Gw3 12)).2) 13 (dvm pr inv (Gw3 13) (Gw3 12)).1 := ⟨_, rfl⟩
            rw [← eGw4] at w
            rw [i13, i12] at eGw4
            have hW5 : WF Gw4 := by rw [eGw4]; exact (hW4.up (k := ph k) (by rw [wp]; exact hq.2.ok hpr.2)).up (k := 13) (hq.1.ok hpr.2)
            have j12 : Gw4 12 = CC := by rw [eGw4, va_up_ne _ _ (by omega), va_up_ne _ _ (by omega), i12]
            have hK4 : cuS pr cs ad Gw4 O1 (K.1, va_up K.2.1 k (dvm pr inv (K.2.1 k) CC).2, K.2.2) ph := by
              refine ⟨hU, fun i hi => ?_, fun i hi => ?_⟩
              · have hpi := hU.2.2.2.2.1 i hi
                show Gw4 (ph i) = va_up K.2.1 k _ i
                rw [eGw4, va_up_ne _ _ (by omega)]
                by_cases e1 : i = k
                · rw [e1, va_up_self, va_up_self]
                · rw [va_up_ne _ _ e1, va_up_ne _ _ (fun h => e1 (hU.2.2.2.2.2 i k hi (by omega) h)), eGw3, va_up_ne _ _ (by omega), hF3b _ (by omega) (by omega) (by omega) (by omega) (by omega) (by omega)]; exact hK.2.1 i hi
              · show okp pr 25 (va_up K.2.1 k _ i)
                by_cases e1 : i = k
                · rw [e1, va_up_self]; exact hq.2
                · rw [va_up_ne _ _ e1]; exact hK.2.2 i hi
            refine lv_aload_n X.1 X.2.1 d_Cu_splitByTrace_168 rfl (lv_at hl 0 rfl) ?_
            refine lv_aload_n X.1 X.2.1 d_Cu_splitByTrace_169 rfl (lv_at hl 0 rfl) ?_
            refine t_cu X hT w hU 9 (by decide) k_f_Cu_48 rfl d_Cu_splitByTrace_170 ?_
            refine lv_iconst (v := iI (0)) X.1 X.2.1 d_Cu_splitByTrace_173 (by decide) ?_
            refine w_cVv (n := 2) (i := 125) (ci := 2) (As := [.ref (ad (2 * 12)), .int (iI (0))]) (rest := []) X w hml hl.1 (c_Cu_append hT (G := Gw4) hO hK4 (k := 12) (v := 0) (by omega) hW5 (by rw [j12]; exact okC)) (by omega) (by rw [mkV_O (by decide)]; exact hU.1) rfl k_m_Cu_84 k_im_Cu_append k_se_Cu_append k_i_Cu k_co_Cu_append (by decide +kernel) rfl ⟨Nat.le_of_ble_eq_true rfl, Nat.le_of_ble_eq_true rfl⟩ ⟨rfl, rfl⟩ ⟨Nat.zero_le _, Nat.zero_le _⟩ rfl (Nat.le_of_ble_eq_true rfl) d_Cu_splitByTrace_174 (fun C' H locs hp w => ?_)
            obtain ⟨G6, O6, rfl, hK6, hW6, hF6, hc6⟩ := hp
            refine i_inc (k := 5) (x := v) (lv' := [(5, .int (iI (v + 1))), (0, .ref (ad (125))), (1, .int (iI (f))), (2, .int (iI (g))), (3, .int (iI (b))), (4, .int (iI (k)))]) X d_Cu_splitByTrace_177 hl rfl (by decide) rfl (fun ls hl => ?_)
            refine lv_goto (tgt := 17) X.1 X.2.1 d_Cu_splitByTrace_180 (by decide) ?_
            rw [if_pos (by omega)] at hz
            have e1 : sbS pr inv (G 11) (G 14) k v K = appK (K.1, va_up K.2.1 k (dvm pr inv (K.2.1 k) CC).2, K.2.2) CC 0 := by unfold sbS; rw [← eCC, if_pos ⟨by omega, by omega⟩]
            rw [e1] at hz
            rw [j12] at hK6
            exact ih (v + 1) (appK (K.1, va_up K.2.1 k (dvm pr inv (K.2.1 k) CC).2, K.2.2) CC 0) G6 O6 H locs ls (by omega) (Nat.le_trans hbK (appK_n (K.1, va_up K.2.1 k (dvm pr inv (K.2.1 k) CC).2, K.2.2) CC 0).1) hz w hK6 hW6 (fun j hj j0 j2 j3 j12 j13 => by rw [hF6 j hj, eGw4, va_up_ne _ _ j13, va_up_ne _ _ (by omega), eGw3, va_up_ne _ _ j13, hF3b j (by omega) j0 j2 j3 j12 j13]; exact hF j hj j0 j2 j3 j12 j13) (hc.tr hc6) (lv_sub hl [1, 2, 3, 4, 5, 0] rfl)
theorem l_Cu_splitByTrace_8 (X : Cx p s m args c b_Cu_splitByTrace RCu) (hml : c.maxLocals = 6) (hT : 132 ≤ T) (hO0 : arO cs ad pr inv O) (h11 : okp pr 25 (G 11)) (h14 : okp pr 25 (G 14)) (hg : g ≤ 24) {f b : Nat} (hb : b ≤ 24) {ph : Nat → Nat} {Z : KS}
    (KK : ∀ (G1 : Nat → Nat → Int) (O1 : Nat → va_E) (H : Heap) (locs : List Loc) (ls : Array Slot), Wd D cs A ad T s (mkV cs ad (rV G1) O1) H locs → cuS pr cs ad G1 O1 Z ph → WF G1 → (∀ j, j < 37 → j ≠ 0 → j ≠ 2 → j ≠ 3 → j ≠ 12 → j ≠ 13 → G1 j = G j) → cuFr O O1 → W p l e { frames := 4, cells := 0, slots := 0, locals := 100 } s m args below meth c H locs 0 0 Q (F0 m 189 ls [])) :
    ∀ (n k : Nat) (K : KS) (G1 : Nat → Nat → Int) (O1 : Nat → va_E) (H : Heap) (locs : List Loc) (ls : Array Slot), (k + n = b ∨ (n = 0 ∧ b ≤ k ∧ k ≤ 24)) → b ≤ K.1 → sbK pr inv (G 11) (G 14) g k n K = Z → Wd D cs A ad T s (mkV cs ad (rV G1) O1) H locs → cuS pr cs ad G1 O1 K ph → WF G1 → (∀ j, j < 37 → j ≠ 0 → j ≠ 2 → j ≠ 3 → j ≠ 12 → j ≠ 13 → G1 j = G j) → cuFr O O1 → lv_has ls 6 [(0, .ref (ad (125))), (1, .int (iI (f))), (2, .int (iI (g))), (3, .int (iI (b))), (4, .int (iI (k)))] → W p l e { frames := 4, cells := 0, slots := 0, locals := 100 } s m args below meth c H locs 0 0 Q (F0 m 8 ls []) := by
  have hpr := hO0.2.2.1
  intro n
  induction n with
  | zero =>
    intro k K G1 O1 H locs ls h1 hbK hz w hK hW hF hc hl
    have hz : K = Z := hz
    subst hz
    refine lv_iload X.1 X.2.1 d_Cu_splitByTrace_8 (lv_at hl 4 rfl) ?_
    refine lv_iload_n X.1 X.2.1 d_Cu_splitByTrace_10 rfl (lv_at hl 3 rfl) ?_
    refine i_ge (a := k) (b := b) (tgt := 189) X (by omega) (by omega) d_Cu_splitByTrace_11 (by decide) (fun h_11 => ?_) (fun h_11 => ?_)
    · exact KK G1 O1 H locs ls w hK hW hF hc
    · exact absurd h_11 (by omega)
  | succ n ih =>
    intro k K G1 O1 H locs ls h1 hbK hz w hK hW hF hc hl
    refine lv_iload X.1 X.2.1 d_Cu_splitByTrace_8 (lv_at hl 4 rfl) ?_
    refine lv_iload_n X.1 X.2.1 d_Cu_splitByTrace_10 rfl (lv_at hl 3 rfl) ?_
    refine i_ge (a := k) (b := b) (tgt := 189) X (by omega) (by omega) d_Cu_splitByTrace_11 (by decide) (fun h_11 => ?_) (fun h_11 => ?_)
    · exact absurd h_11 (by omega)
    · refine lv_iconst (v := iI (0)) X.1 X.2.1 d_Cu_splitByTrace_14 (by decide) ?_
      refine lv_istore (lv' := [(5, .int (iI (0))), (0, .ref (ad (125))), (1, .int (iI (f))), (2, .int (iI (g))), (3, .int (iI (b))), (4, .int (iI (k)))]) X.1 X.2.1 d_Cu_splitByTrace_15 hl (by decide) rfl (fun ls hl => ?_)
      refine l_Cu_splitByTrace_17 (G := G) (O := O) (g := g) (f := f) (b := b) (k := k) (ph := ph) (Z := sbV pr inv (G 11) (G 14) g k 0 pr.toNat K) X hml hT hO0 h11 h14 hg (by omega) (fun G2 O2 H locs ls w a1 a2 a3 a4 hl => ?_) pr.toNat 0 K G1 O1 H locs ls (by omega) hbK rfl w hK hW hF hc (lv_sub hl [1, 2, 3, 4, 5, 0] rfl)
      refine i_inc (k := 4) (x := k) (lv' := [(4, .int (iI (k + 1))), (0, .ref (ad (125))), (1, .int (iI (f))), (2, .int (iI (g))), (3, .int (iI (b)))]) X d_Cu_splitByTrace_183 hl rfl (by decide) rfl (fun ls hl => ?_)
      refine lv_goto (tgt := 8) X.1 X.2.1 d_Cu_splitByTrace_186 (by decide) ?_
      exact ih (k + 1) _ G2 O2 H locs ls (by omega) (Nat.le_trans hbK (sbV_n _ _ _)) hz w a1 a2 a3 a4 (lv_sub hl [1, 2, 3, 4, 0] rfl)
end SB
theorem c_Cu_splitByTrace {l : Launch} {D : va_G} {cs : Nat → ClassId} {A : Nat → Prop} {ad : Nat → Nat} {T : Nat} (hT : 132 ≤ T) {G : Nat → Nat → Int} {O : Nat → va_E} {pr : Int} {inv : Nat → Int} (hO : arO cs ad pr inv O) {K : KS} {ph : Nat → Nat} (hK : cuS pr cs ad G O K ph) {f g : Nat} (hf : f ≤ K.1) (hg : g ≤ 24) (hW : WF G) (h11 : okp pr 25 (G 11)) (h14 : okp pr 25 (G 14)) : Cv l y_Cu_splitByTrace ws_Cu_splitByTrace { frames := 4, cells := 0, slots := 0, locals := 100 } D cs A ad T [.ref (ad (125)), .int (iI (f)), .int (iI (g))] (mkV cs ad (rV G) O) (fun C' => ∃ G' O', C' = mkV cs ad (rV G') O' ∧ cuS pr cs ad G' O' (sbK pr inv (G 11) (G 14) g f (K.1 - f) K) ph ∧ WF G' ∧ (∀ j, j < 37 → j ≠ 0 → j ≠ 2 → j ≠ 3 → j ≠ 12 → j ≠ 13 → G' j = G j) ∧ cuFr O O') := by
  refine w_bodyV (by decide) (Nat.le_of_ble_eq_true rfl) ?_
  intro p e s m below meth c X hr hlk hml w ls hl
  have hl : lv_has ls 6 [(0, .ref (ad (125))), (1, .int (iI (f))), (2, .int (iI (g)))] := hl
  have hn := hK.1.2.2.2.1
  have hU := hK.1
  refine lv_aload_n X.1 X.2.1 d_Cu_splitByTrace_0 rfl (lv_at hl 0 rfl) ?_
  refine t_cu X hT w hU 2 (by decide) k_f_Cu_28 rfl d_Cu_splitByTrace_1 ?_
  refine lv_istore_n (lv' := [(3, .int (iI ((K.1 : Nat)))), (0, .ref (ad (125))), (1, .int (iI (f))), (2, .int (iI (g)))]) X.1 X.2.1 d_Cu_splitByTrace_4 rfl hl (by decide) rfl (fun ls hl => ?_)
  refine lv_iload_n X.1 X.2.1 d_Cu_splitByTrace_5 rfl (lv_at hl 2 rfl) ?_
  refine lv_istore (lv' := [(4, .int (iI (f))), (3, .int (iI ((K.1 : Nat)))), (0, .ref (ad (125))), (1, .int (iI (f))), (2, .int (iI (g)))]) X.1 X.2.1 d_Cu_splitByTrace_6 hl (by decide) rfl (fun ls hl => ?_)
  exact l_Cu_splitByTrace_8 (G := G) (O := O) (g := g) (f := f) (b := K.1) (ph := ph) (Z := (sbK pr inv (G 11) (G 14) g f (K.1 - f) K)) X hml hT hO h11 h14 hg hn (fun G2 O2 H locs ls w a1 a2 a3 a4 => w_vret X hr hlk w ⟨G2, O2, rfl, a1, a2, a3, a4⟩ d_Cu_splitByTrace_189) (K.1 - f) f K G O _ _ _ (by omega) (Nat.le_refl _) rfl w hK hW (fun _ _ _ _ _ _ _ => rfl) cuFr.rf (lv_sub hl [2, 3, 4, 1, 0] rfl)
