/-- each factor from k on is taken out of R as often as it goes -/
def tofK (pr : Int) (inv : Nat → Int) : Nat → Nat → KS → (Nat → Int) → KS × (Nat → Int)
  | _, 0, K, R => (K, R)
  | k, n + 1, K, R => tofK pr inv (k + 1) n (K.1, K.2.1, va_up K.2.2 k ((tko pr inv (K.2.1 k) 24 0 R).1 : Int)) (tko pr inv (K.2.1 k) 24 0 R).2
section TO
variable {p : Program} {l : Launch} {e : Env} {s : State} {m : MethodId} {args : Array Value} {below : List Frame} {meth : Method} {c : Code} {H : Heap} {locs : List Loc} {Q : State → Prop} {D : va_G} {cs : Nat → ClassId} {A : Nat → Prop} {ad : Nat → Nat} {T : Nat} {O : Nat → va_E} {pr : Int} {inv : Nat → Int}
variable {G : Nat → Nat → Int}
theorem l_Cu_takeOutFactors (X : Cx p s m args c b_Cu_takeOutFactors RCu) (hml : c.maxLocals = 3) (hT : 132 ≤ T) (hO0 : arO cs ad pr inv O) {ph : Nat → Nat} {Z : KS × (Nat → Int)}
    (KK : ∀ (G1 : Nat → Nat → Int) (O1 : Nat → va_E) (H : Heap) (locs : List Loc) (ls : Array Slot), Wd D cs A ad T s (mkV cs ad (rV G1) O1) H locs → cuS pr cs ad G1 O1 Z.1 ph → WF G1 → G1 7 = Z.2 → okp pr 25 Z.2 → (∀ j, j ≠ 2 → j ≠ 6 → j ≠ 7 → G1 j = G j) → cuFr O O1 → W p l e { frames := 4, cells := 0, slots := 0, locals := 96 } s m args below meth c H locs 0 0 Q (F0 m 39 ls [])) :
    ∀ (n k : Nat) (K : KS) (G1 : Nat → Nat → Int) (O1 : Nat → va_E) (H : Heap) (locs : List Loc) (ls : Array Slot), (k + n = K.1 ∨ (n = 0 ∧ K.1 ≤ k ∧ k ≤ 24)) → tofK pr inv k n K (G1 7) = Z → (∀ i, k ≤ i → i < K.1 → 0 ≤ dg 300 (K.2.1 i)) → okp pr 25 (G1 7) → Wd D cs A ad T s (mkV cs ad (rV G1) O1) H locs → cuS pr cs ad G1 O1 K ph → WF G1 → (∀ j, j ≠ 2 → j ≠ 6 → j ≠ 7 → G1 j = G j) → cuFr O O1 → lv_has ls 3 [(0, .ref (ad (125))), (2, .int (iI (k)))] → W p l e { frames := 4, cells := 0, slots := 0, locals := 96 } s m args below meth c H locs 0 0 Q (F0 m 2 ls []) := by
  intro n
  induction n with
  | zero =>
    intro k K G1 O1 H locs ls h1 hz hnz hR w hK hW hF hc hl
    have hU := hK.1
    have hn := hU.2.2.2.1
    have hz : (K, G1 7) = Z := hz
    subst hz
    refine lv_iload_n X.1 X.2.1 d_Cu_takeOutFactors_2 rfl (lv_at hl 1 rfl) ?_
    refine lv_aload_n X.1 X.2.1 d_Cu_takeOutFactors_3 rfl (lv_at hl 0 rfl) ?_
    refine t_cu X hT w hU 2 (by decide) k_f_Cu_28 rfl d_Cu_takeOutFactors_4 ?_
    refine i_ge (a := k) (b := (K.1 : Nat)) (tgt := 39) X (by omega) (by omega) d_Cu_takeOutFactors_7 (by decide) (fun h_7 => ?_) (fun h_7 => ?_)
    · exact KK G1 O1 H locs ls w hK hW rfl hR hF hc
    · exact absurd h_7 (by omega)
  | succ n ih =>
    intro k K G1 O1 H locs ls h1 hz hnz hR w hK hW hF hc hl
    have hU := hK.1
    have hn := hU.2.2.2.1
    have hp1 := hU.2.2.2.2.1 k (by omega)
    have hg1 := hK.2.1 k (by omega)
    have hok := hK.2.2 k (by omega)
    have hO := hc.ar hO0
    refine lv_iload_n X.1 X.2.1 d_Cu_takeOutFactors_2 rfl (lv_at hl 1 rfl) ?_
    refine lv_aload_n X.1 X.2.1 d_Cu_takeOutFactors_3 rfl (lv_at hl 0 rfl) ?_
    refine t_cu X hT w hU 2 (by decide) k_f_Cu_28 rfl d_Cu_takeOutFactors_4 ?_
    refine i_ge (a := k) (b := (K.1 : Nat)) (tgt := 39) X (by omega) (by omega) d_Cu_takeOutFactors_7 (by decide) (fun h_7 => ?_) (fun h_7 => ?_)
    · exact absurd h_7 (by omega)
    · refine lv_aload_n X.1 X.2.1 d_Cu_takeOutFactors_10 rfl (lv_at hl 0 rfl) ?_
      refine t_cu X hT w hU 1 (by decide) k_f_Cu_21 rfl d_Cu_takeOutFactors_11 ?_
      refine lv_iload_n X.1 X.2.1 d_Cu_takeOutFactors_14 rfl (lv_at hl 1 rfl) ?_
      refine lv_aload_n X.1 X.2.1 d_Cu_takeOutFactors_15 rfl (lv_at hl 0 rfl) ?_
      refine t_cu X hT w hU 3 (by decide) k_f_Cu_9 rfl d_Cu_takeOutFactors_16 ?_
      refine lv_aload_n X.1 X.2.1 d_Cu_takeOutFactors_19 rfl (lv_at hl 0 rfl) ?_
      refine t_cu X hT w hU 4 (by decide) k_f_Cu_32 rfl d_Cu_takeOutFactors_20 ?_
      refine lv_aload_n X.1 X.2.1 d_Cu_takeOutFactors_23 rfl (lv_at hl 0 rfl) ?_
      refine t_cu X hT w hU 0 (by decide) k_f_Cu_17 rfl d_Cu_takeOutFactors_24 ?_
      refine lv_iload_n X.1 X.2.1 d_Cu_takeOutFactors_27 rfl (lv_at hl 1 rfl) ?_
      refine t_fa (z := k) X hT w hU k rfl (by omega) d_Cu_takeOutFactors_28 ?_
      refine w_cVi (n := 2) (i := 123) (ci := 1) (As := [.ref (ad (2 * 7)), .ref (ad (2 * (ph k)))]) (rest := [.int (iI (k)), .ref (ad (127))]) X w hml hl.1 (c_Ar_takeOut hT (G := G1) hO (k := 7) (q := ph k) (by omega) (by omega) (by omega) hW hR (by rw [hg1]; exact hok) (by rw [hg1]; exact hnz k (Nat.le_refl _) (by omega))) (by omega) (by rw [mkV_O (by decide)]; exact hO.1) rfl k_m_Cu_98 k_im_Ar_takeOut k_se_Ar_takeOut k_i_Ar k_co_Ar_takeOut (by decide +kernel) rfl ⟨Nat.le_of_ble_eq_true rfl, Nat.le_of_ble_eq_true rfl⟩ ⟨rfl, rfl⟩ ⟨Nat.zero_le _, Nat.zero_le _⟩ rfl (Nat.le_of_ble_eq_true rfl) d_Cu_takeOutFactors_29 (fun r' C' H locs hp w => ?_)
      obtain ⟨G2, rfl, rfl, hW2, h7, hok7, hF2⟩ := hp
      rw [hg1] at h7 ⊢
      refine t_ts (z := k) (v := ((tko pr inv (K.2.1 k) 24 0 (G1 7)).1 : Int)) X hT w hU k rfl (by omega) d_Cu_takeOutFactors_32 (fun H locs w => ?_)
      refine i_inc (k := 1) (x := k) (lv' := [(2, .int (iI (k + 1))), (0, .ref (ad (125)))]) X d_Cu_takeOutFactors_33 hl rfl (by decide) rfl (fun ls hl => ?_)
      refine lv_goto (tgt := 2) X.1 X.2.1 d_Cu_takeOutFactors_36 (by decide) ?_
      refine ih (k + 1) (K.1, K.2.1, va_up K.2.2 k ((tko pr inv (K.2.1 k) 24 0 (G1 7)).1 : Int)) G2 _ H locs ls (by show k + 1 + n = K.1 ∨ _; omega) (by rw [h7]; exact hz) (fun i h2 h3 => hnz i (by omega) h3) hok7 w ⟨hU.time, fun i hi => ?_, hK.2.2⟩ hW2 (fun j j2 j6 j7 => by rw [hF2 j j2 j6 j7]; exact hF j j2 j6 j7) (hc.tr (cuFr.up (Or.inr (Or.inr rfl)))) (lv_sub hl [1, 0] rfl)
      have := hU.2.2.2.2.1 i hi
      rw [hF2 (ph i) (by omega) (by omega) (by omega)]
      exact hK.2.1 i hi
end TO
theorem c_Cu_takeOutFactors {l : Launch} {D : va_G} {cs : Nat → ClassId} {A : Nat → Prop} {ad : Nat → Nat} {T : Nat} (hT : 132 ≤ T) {G : Nat → Nat → Int} {O : Nat → va_E} {pr : Int} {inv : Nat → Int} (hO : arO cs ad pr inv O) {K : KS} {ph : Nat → Nat} (hK : cuS pr cs ad G O K ph) {f : Nat} (hf : f ≤ K.1) (hnz : ∀ i, f ≤ i → i < K.1 → 0 ≤ dg 300 (K.2.1 i)) (hW : WF G) (hR : okp pr 25 (G 7)) : Cv l y_Cu_takeOutFactors ws_Cu_takeOutFactors { frames := 4, cells := 0, slots := 0, locals := 96 } D cs A ad T [.ref (ad (125)), .int (iI (f))] (mkV cs ad (rV G) O) (fun C' => ∃ G' O', C' = mkV cs ad (rV G') O' ∧ cuS pr cs ad G' O' (tofK pr inv f (K.1 - f) K (G 7)).1 ph ∧ WF G' ∧ G' 7 = (tofK pr inv f (K.1 - f) K (G 7)).2 ∧ okp pr 25 (G' 7) ∧ (∀ j, j ≠ 2 → j ≠ 6 → j ≠ 7 → G' j = G j) ∧ cuFr O O') := by
  refine w_bodyV (by decide) (Nat.le_of_ble_eq_true rfl) ?_
  intro p e s m below meth c X hr hlk hml w ls hl
  have hl : lv_has ls 3 [(0, .ref (ad (125))), (1, .int (iI (f)))] := hl
  have hn := hK.1.2.2.2.1
  refine lv_iload_n X.1 X.2.1 d_Cu_takeOutFactors_0 rfl (lv_at hl 1 rfl) ?_
  refine lv_istore_n (lv' := [(2, .int (iI (f))), (0, .ref (ad (125))), (1, .int (iI (f)))]) X.1 X.2.1 d_Cu_takeOutFactors_1 rfl hl (by decide) rfl (fun ls hl => ?_)
  exact l_Cu_takeOutFactors (G := G) (O := O) (ph := ph) (Z := (tofK pr inv f (K.1 - f) K (G 7))) X hml hT hO (fun G2 O2 H locs ls w a1 a2 a3 a4 a5 a6 => w_vret X hr hlk w ⟨G2, O2, rfl, a1, a2, a3, by rw [a3]; exact a4, a5, a6⟩ d_Cu_takeOutFactors_39) (K.1 - f) f K G O _ _ _ (by omega) rfl hnz hR w hK hW (fun _ _ _ _ => rfl) cuFr.rf (lv_sub hl [1, 0] rfl)
theorem frm_ok {cs : Nat → ClassId} {ad : Nat → Nat} {pr : Int} {inv : Nat → Int} {O : Nat → va_E} (hO : arO cs ad pr inv O) {A M : Nat → Int} (hA : okp pr 25 A) (hM : okp pr 25 M) (hdA : dg 300 A ≤ 23) (hd : 0 ≤ dg 300 M) : okp pr (dg 300 M).toNat (frm pr inv A M) ∧ okp pr 300 (dvm pr inv (fro pr.toNat A) M).1 ∧ okp pr 300 (dvm pr inv (fro pr.toNat A) M).2 := by
  have hpr := hO.2.2.1
  have hAo := hA.ok hpr.2
  have hd0 := dg_ge 300 A
  have hP : okp pr 300 (fro pr.toNat A) := by
    have e1 : fro pr.toNat A = froL pr.toNat A 24 := by
      funext x
      unfold fro froL
      by_cases hx : x % pr.toNat = 0
      · rw [if_pos hx]
        by_cases h9 : x / pr.toNat < 24
        · rw [if_pos ⟨hx, h9⟩]
        · rw [if_neg (fun e => h9 e.2)]; exact hAo.above (N := 300) (by omega) (by omega)
      · rw [if_neg hx, if_neg (fun e => hx e.1)]
    rw [e1]
    refine froL_ok (by omega) (by omega) hA (fun j hj _ => ?_)
    have := Nat.mul_le_mul (show j ≤ 23 by omega) (show pr.toNat ≤ 13 by omega)
    omega
  have h := dvm_ok (inv := inv) (M := 300) (by omega) hP hM (by omega) (by omega) hpr.2 (by have := dg_lt 300 (fro pr.toNat A); omega)
  exact ⟨dvm_ok25 hO hP hM (by omega) (by omega) hd (by omega), h.1, h.2⟩
theorem WF.fro {cs : Nat → ClassId} {ad : Nat → Nat} {pr : Int} {inv : Nat → Int} {O : Nat → va_E} (hO : arO cs ad pr inv O) {G : Nat → Nat → Int} (hW : WF G) {A M : Nat → Int} (hA : okp pr 25 A) (hM : okp pr 25 M) (hdA : dg 300 A ≤ 23) (hd : 0 ≤ dg 300 M) {t : Nat} (ht : 2 ≤ t) : WF (va_up (va_up (va_up G 0 (dvm pr inv (fro pr.toNat A) M).2) 1 (dvm pr inv (fro pr.toNat A) M).1) t (dvm pr inv (fro pr.toNat A) M).1) := by
  have h := frm_ok hO hA hM hdA hd
  have hpr := hO.2.2.1
  have hdm := (hM.ok hpr.2).dlt 300
  exact ((hW.up (k := 0) (h.2.2.ok hpr.2)).up (k := 1) (h.2.1.ok hpr.2)).up (k := t) (by rw [wd_2 ht]; exact (h.1.mono (by omega)).ok hpr.2)
theorem c_Cu_gatherNextDegree {l : Launch} {D : va_G} {cs : Nat → ClassId} {A : Nat → Prop} {ad : Nat → Nat} {T : Nat} (hT : 132 ≤ T) {G : Nat → Nat → Int} {O : Nat → va_E} {pr : Int} {inv : Nat → Int} (hO : arO cs ad pr inv O) {n : Nat} {ph : Nat → Nat} {tm : Nat → Int} (hU : cuO cs ad n ph tm O) {k : Nat} (hk : (k = 7 ∨ 16 ≤ k) ∧ k < 61) (hW : WF G) (h8 : okp pr 25 (G 8)) (hd8 : dg 300 (G 8) ≤ 23) (hA : okp pr 25 (G k)) (hdk : 0 ≤ dg 300 (G k)) (hx : okp pr 25 (G 15)) : Cv l y_Cu_gatherNextDegree ws_Cu_gatherNextDegree { frames := 4, cells := 0, slots := 0, locals := 100 } D cs A ad T [.ref (ad (125)), .ref (ad (2 * k))] (mkV cs ad (rV G) O) (fun C' => ∃ G', C' = mkV cs ad (rV G') O ∧ WF G' ∧ G' 8 = (frm pr inv (G 8) (G k)) ∧ G' 9 = (gcdP pr inv (G k) (addS pr (frm pr inv (G 8) (G k)) (pr - 1) 0 (G 15))) ∧ okp pr 25 (G' 8) ∧ dg 300 (G' 8) ≤ 23 ∧ okp pr 25 (G' 9) ∧ ∀ j, j ≠ 0 → j ≠ 1 → j ≠ 2 → j ≠ 3 → j ≠ 8 → j ≠ 9 → j ≠ 13 → G' j = G j) := by
  refine w_bodyV (by decide) (Nat.le_of_ble_eq_true rfl) ?_
  intro p e s m below meth c X hr hlk hml w ls hl
  have hl : lv_has ls 2 [(0, .ref (ad (125))), (1, .ref (ad (2 * k)))] := hl
  have hpr := hO.2.2.1
  have wk := wd_2 (show 2 ≤ k by omega)
  have hdm := (hA.ok hpr.2).dlt 300
  have hfr := frm_ok hO h8 hA hd8 hdk
  have hI := hfr.1.mono (m := 25) (by omega)
  have hdI := (hfr.1.ok hpr.2).dlt 300
  have hdx := (hx.ok hpr.2).dlt 300
  have hSc : okp pr 25 (addS pr (frm pr inv (G 8) (G k)) (pr - 1) 0 (G 15)) := addS_ok (by omega) hI (fun x hx' => (hx.ok hpr.2).above (N := 300) (by omega) (by omega))
  refine lv_aload_n X.1 X.2.1 d_Cu_gatherNextDegree_0 rfl (lv_at hl 0 rfl) ?_
  refine t_cu X hT w hU 3 (by decide) k_f_Cu_9 rfl d_Cu_gatherNextDegree_1 ?_
  refine lv_aload_n X.1 X.2.1 d_Cu_gatherNextDegree_4 rfl (lv_at hl 0 rfl) ?_
  refine t_cu X hT w hU 5 (by decide) k_f_Cu_36 rfl d_Cu_gatherNextDegree_5 ?_
  refine lv_aload_n X.1 X.2.1 d_Cu_gatherNextDegree_8 rfl (lv_at hl 1 rfl) ?_
  refine w_cVv (n := 2) (i := 123) (ci := 1) (As := [.ref (ad (2 * 8)), .ref (ad (2 * k))]) (rest := []) X w hml hl.1 (c_Ar_raiseToP hT (G := G) hO (k := 8) (d := k) (by omega) (by omega) hW h8 hA hd8 hdk) (by omega) (by rw [mkV_O (by decide)]; exact hO.1) rfl k_m_Cu_109 k_im_Ar_raiseToP k_se_Ar_raiseToP k_i_Ar k_co_Ar_raiseToP (by decide +kernel) rfl ⟨Nat.le_of_ble_eq_true rfl, Nat.le_of_ble_eq_true rfl⟩ ⟨rfl, rfl⟩ ⟨Nat.zero_le _, Nat.zero_le _⟩ rfl (Nat.le_of_ble_eq_true rfl) d_Cu_gatherNextDegree_9 (fun C' H locs hp w => ?_)
  subst hp
  obtain ⟨Gw1, eGw1⟩ : ∃ gg : Nat → Nat → Int, gg = va_up (va_up (va_up G 0 (dvm pr inv (fro pr.toNat (G 8)) (G k)).2) 1 (dvm pr inv (fro pr.toNat (G 8)) (G k)).1) 8 (dvm pr inv (fro pr.toNat (G 8)) (G k)).1 := ⟨_, rfl⟩
  rw [← eGw1] at w
  have hW1 : WF Gw1 := by rw [eGw1]; exact WF.fro hO hW h8 hA hd8 hdk (by omega)
  have f8 : Gw1 8 = (frm pr inv (G 8) (G k)) := by rw [eGw1, va_up_self]; rfl
  have hF1 : ∀ j, j ≠ 0 → j ≠ 1 → j ≠ 8 → Gw1 j = G j := fun j j0 j1 j8 => by rw [eGw1, va_up_ne _ _ j8, va_up_ne _ _ j1, va_up_ne _ _ j0]
  refine lv_aload_n X.1 X.2.1 d_Cu_gatherNextDegree_12 rfl (lv_at hl 0 rfl) ?_
  refine t_cu X hT w hU 10 (by decide) k_f_Cu_51 rfl d_Cu_gatherNextDegree_13 ?_
  refine lv_aload_n X.1 X.2.1 d_Cu_gatherNextDegree_16 rfl (lv_at hl 0 rfl) ?_
  refine t_cu X hT w hU 5 (by decide) k_f_Cu_36 rfl d_Cu_gatherNextDegree_17 ?_
  refine w_cVv (n := 1) (i := 2 * 13) (ci := 0) (As := [.ref (ad (2 * 8))]) (rest := []) X w hml hl.1 (c_Po_copyFrom hT (G := Gw1) (k := 13) (q := 8) (by omega) (by omega) (by omega) (hW1 13 (by omega)) (hW1 8 (by omega)) (by rw [f8]; exact hI.ok hpr.2)) (by omega) (mkV_o (by omega)) rfl k_m_Cu_66 k_im_Po_copyFrom k_se_Po_copyFrom k_i_Po k_co_Po_copyFrom (by decide +kernel) rfl ⟨Nat.le_of_ble_eq_true rfl, Nat.le_of_ble_eq_true rfl⟩ ⟨rfl, rfl⟩ ⟨Nat.zero_le _, Nat.zero_le _⟩ rfl (Nat.le_of_ble_eq_true rfl) d_Cu_gatherNextDegree_20 (fun C' H locs hp w => ?_)
  subst hp
  obtain ⟨Gw2, eGw2⟩ : ∃ gg : Nat → Nat → Int, gg = va_up Gw1 13 (Gw1 8) := ⟨_, rfl⟩
  rw [← eGw2] at w
  rw [f8] at eGw2
  have hW2 : WF Gw2 := by rw [eGw2]; exact hW1.up (k := 13) (hI.ok hpr.2)
  have f13 : Gw2 13 = (frm pr inv (G 8) (G k)) := by rw [eGw2, va_up_self]
  have f15 : Gw2 15 = G 15 := by rw [eGw2, va_up_ne _ _ (by omega), hF1 15 (by omega) (by omega) (by omega)]
  refine lv_aload_n X.1 X.2.1 d_Cu_gatherNextDegree_23 rfl (lv_at hl 0 rfl) ?_
  refine t_cu X hT w hU 3 (by decide) k_f_Cu_9 rfl d_Cu_gatherNextDegree_24 ?_
  refine lv_aload_n X.1 X.2.1 d_Cu_gatherNextDegree_27 rfl (lv_at hl 0 rfl) ?_
  refine t_cu X hT w hU 10 (by decide) k_f_Cu_51 rfl d_Cu_gatherNextDegree_28 ?_
  refine lv_aload_n X.1 X.2.1 d_Cu_gatherNextDegree_31 rfl (lv_at hl 0 rfl) ?_
  refine t_cu X hT w hU 3 (by decide) k_f_Cu_9 rfl d_Cu_gatherNextDegree_32 ?_
  refine t_ar X hT w hO 0 (by decide) k_f_Cu_91 rfl d_Cu_gatherNextDegree_35 ?_
  refine lv_iconst (v := iI (1)) X.1 X.2.1 d_Cu_gatherNextDegree_38 (by decide) ?_
  refine i_sub (a := pr) (b := 1) X d_Cu_gatherNextDegree_39 ?_
  refine lv_iconst (v := iI (0)) X.1 X.2.1 d_Cu_gatherNextDegree_40 (by decide) ?_
  refine lv_aload_n X.1 X.2.1 d_Cu_gatherNextDegree_41 rfl (lv_at hl 0 rfl) ?_
  refine t_cu X hT w hU 12 (by decide) k_f_Cu_60 rfl d_Cu_gatherNextDegree_42 ?_
  refine w_cVv (n := 4) (i := 123) (ci := 1) (As := [.ref (ad (2 * 13)), .int (iI (pr - 1)), .int (iI ((0 : Nat))), .ref (ad (2 * 15))]) (rest := []) X w hml hl.1 (c_Ar_addShifted hT (G := Gw2) hO (k := 13) (q := 15) (t := 0) (f := pr - 1) (by omega) (by omega) (by omega) (by rw [f13]; exact hI) (hW2 15 (by omega)) (by omega) (by rw [f15]; show _ < (25 : Int); omega)) (by omega) (by rw [mkV_O (by decide)]; exact hO.1) rfl k_m_Cu_113 k_im_Ar_addShifted k_se_Ar_addShifted k_i_Ar k_co_Ar_addShifted (by decide +kernel) rfl ⟨Nat.le_of_ble_eq_true rfl, Nat.le_of_ble_eq_true rfl⟩ ⟨rfl, rfl⟩ ⟨Nat.zero_le _, Nat.zero_le _⟩ rfl (Nat.le_of_ble_eq_true rfl) d_Cu_gatherNextDegree_45 (fun C' H locs hp w => ?_)
  subst hp
  obtain ⟨Gw3, eGw3⟩ : ∃ gg : Nat → Nat → Int, gg = va_up Gw2 13 (addS pr (Gw2 13) (pr - 1) 0 (Gw2 15)) := ⟨_, rfl⟩
  rw [← eGw3] at w
  rw [f13, f15] at eGw3
  have hW3 : WF Gw3 := by rw [eGw3]; exact hW2.up (k := 13) (hSc.ok hpr.2)
  have g13 : Gw3 13 = addS pr (frm pr inv (G 8) (G k)) (pr - 1) 0 (G 15) := by rw [eGw3, va_up_self]
  have gk : Gw3 k = G k := by rw [eGw3, va_up_ne _ _ (by omega), eGw2, va_up_ne _ _ (by omega), hF1 k (by omega) (by omega) (by omega)]
  refine lv_aload_n X.1 X.2.1 d_Cu_gatherNextDegree_48 rfl (lv_at hl 0 rfl) ?_
  refine t_cu X hT w hU 3 (by decide) k_f_Cu_9 rfl d_Cu_gatherNextDegree_49 ?_
  refine lv_aload_n X.1 X.2.1 d_Cu_gatherNextDegree_52 rfl (lv_at hl 0 rfl) ?_
  refine t_cu X hT w hU 6 (by decide) k_f_Cu_39 rfl d_Cu_gatherNextDegree_53 ?_
  refine lv_aload_n X.1 X.2.1 d_Cu_gatherNextDegree_56 rfl (lv_at hl 1 rfl) ?_
  refine lv_aload_n X.1 X.2.1 d_Cu_gatherNextDegree_57 rfl (lv_at hl 0 rfl) ?_
  refine t_cu X hT w hU 10 (by decide) k_f_Cu_51 rfl d_Cu_gatherNextDegree_58 ?_
  refine w_cVv (n := 3) (i := 123) (ci := 1) (As := [.ref (ad (2 * 9)), .ref (ad (2 * k)), .ref (ad (2 * 13))]) (rest := []) X w hml hl.1 (c_Ar_findCommonDivisor hT (G := Gw3) hO (t := 9) (a := k) (b := 13) (by omega) (by omega) (by omega) hW3 (by rw [gk]; exact hA) (by rw [g13]; exact hSc)) (by omega) (by rw [mkV_O (by decide)]; exact hO.1) rfl k_m_Cu_117 k_im_Ar_findCommonDivisor k_se_Ar_findCommonDivisor k_i_Ar k_co_Ar_findCommonDivisor (by decide +kernel) rfl ⟨Nat.le_of_ble_eq_true rfl, Nat.le_of_ble_eq_true rfl⟩ ⟨rfl, rfl⟩ ⟨Nat.zero_le _, Nat.zero_le _⟩ rfl (Nat.le_of_ble_eq_true rfl) d_Cu_gatherNextDegree_61 (fun C' H locs hp w => ?_)
  obtain ⟨G4, rfl, hW4, h49, hok9, hF4⟩ := hp
  have g8 : G4 8 = (frm pr inv (G 8) (G k)) := by rw [hF4 8 (by omega) (by omega) (by omega) (by omega), eGw3, va_up_ne _ _ (by omega), eGw2, va_up_ne _ _ (by omega), f8]
  refine w_vret X hr hlk w ⟨G4, rfl, hW4, g8, by rw [h49, gk, g13], by rw [g8]; exact hI, by rw [g8]; omega, hok9, fun j j0 j1 j2 j3 j8 j9 j13 => ?_⟩ d_Cu_gatherNextDegree_64
  rw [hF4 j j0 j2 j3 j9, eGw3, va_up_ne _ _ j13, eGw2, va_up_ne _ _ j13, hF1 j j0 j1 j8]
/-- no factor of at most half the degree -/
def cbc (pr : Int) (inv : Nat → Int) (A X : Nat → Int) : Nat → Nat → (Nat → Int) → Bool
  | 0, _, _ => true
  | n + 1, d, I => if 2 * (d : Int) ≤ dg 300 A then (if 0 < dg 300 (gcdP pr inv A (addS pr (frm pr inv I A) (pr - 1) 0 X)) then false else cbc pr inv A X n (d + 1) (frm pr inv I A)) else true
def irrC (pr : Int) (inv : Nat → Int) (A X : Nat → Int) : Bool := if dg 300 A < 1 then false else cbc pr inv A X 13 1 X
section CC
variable {p : Program} {l : Launch} {e : Env} {s : State} {m : MethodId} {args : Array Value} {below : List Frame} {meth : Method} {c : Code} {H : Heap} {locs : List Loc} {Q : State → Prop} {D : va_G} {cs : Nat → ClassId} {A : Nat → Prop} {ad : Nat → Nat} {T : Nat} {O : Nat → va_E} {pr : Int} {inv : Nat → Int}
variable {k : Nat} {G : Nat → Nat → Int} {n : Nat} {ph : Nat → Nat} {tm : Nat → Int}
theorem l_Cu_cannotBeCut {post : Int32 → (Nat → va_E) → Prop} (X : Cx p s m args c b_Cu_cannotBeCut RCu) (hr : meth.sig.returnType = some .boolean) (hlk : meth.locks = false) (hml : c.maxLocals = 3) (hT : 132 ≤ T) (hO : arO cs ad pr inv O) (hU : cuO cs ad n ph tm O) (hk : 16 ≤ k ∧ k < 61) (hA : okp pr 25 (G k)) (hdk : 0 ≤ dg 300 (G k)) (hx : okp pr 25 (G 15)) {Z : Bool}
    (hp : ∀ G1 : Nat → Nat → Int, WF G1 → (∀ j, j ≠ 0 → j ≠ 1 → j ≠ 2 → j ≠ 3 → j ≠ 8 → j ≠ 9 → j ≠ 13 → G1 j = G j) → post (bI Z) (mkV cs ad (rV G1) O)) :
    ∀ (q b : Nat) (G1 : Nat → Nat → Int) (H : Heap) (locs : List Loc) (ls : Array Slot), b + q = 14 → Wd D cs A ad T s (mkV cs ad (rV G1) O) H locs → WF G1 → okp pr 25 (G1 8) → dg 300 (G1 8) ≤ 23 → (∀ j, j ≠ 0 → j ≠ 1 → j ≠ 2 → j ≠ 3 → j ≠ 8 → j ≠ 9 → j ≠ 13 → G1 j = G j) → cbc pr inv (G k) (G 15) q b (G1 8) = Z → lv_has ls 3 [(0, .ref (ad (125))), (1, .ref (ad (2 * k))), (2, .int (iI (b)))] → W p l e { frames := 5, cells := 0, slots := 0, locals := 121 } s m args below meth c H locs 0 0 (MQ below (va_Qi post (QW D cs ad T) A) args s 0 0 A) (F0 m 23 ls []) := by
  have hpr := hO.2.2.1
  have hdk2 := (hA.ok hpr.2).dlt 300
  intro q
  induction q with
  | zero =>
    intro b G1 H locs ls h1 w hW h8 hd8 hF hz hl
    have hz : true = Z := hz
    subst hz
    have hGk : dg 300 (G1 k) = dg 300 (G k) := by rw [hF k (by omega) (by omega) (by omega) (by omega) (by omega) (by omega) (by omega)]
    refine lv_iconst (v := iI (2)) X.1 X.2.1 d_Cu_cannotBeCut_23 (by decide) ?_
    refine lv_iload_n X.1 X.2.1 d_Cu_cannotBeCut_24 rfl (lv_at hl 2 rfl) ?_
    refine i_mul (a := 2) (b := b) X d_Cu_cannotBeCut_25 ?_
    refine lv_aload_n X.1 X.2.1 d_Cu_cannotBeCut_26 rfl (lv_at hl 1 rfl) ?_
    refine g_deg (k := k) X hT w (by omega) k_f_Cu_63 d_Cu_cannotBeCut_27 ?_
    refine i_gt (a := 2 * b) (b := dg 300 (G1 k)) (tgt := 56) X (by omega) (by omega) d_Cu_cannotBeCut_30 (by decide) (fun h_30 => ?_) (fun h_30 => ?_)
    · refine lv_iconst (v := iI (1)) X.1 X.2.1 d_Cu_cannotBeCut_56 (by decide) ?_
      exact w_zret X hr rfl hlk w (hp G1 hW hF) d_Cu_cannotBeCut_57
    · exact absurd h_30 (by omega)
  | succ q ih =>
    intro b G1 H locs ls h1 w hW h8 hd8 hF hz hl
    have hGk0 : G1 k = G k := hF k (by omega) (by omega) (by omega) (by omega) (by omega) (by omega) (by omega)
    have hGx : G1 15 = G 15 := hF 15 (by omega) (by omega) (by omega) (by omega) (by omega) (by omega) (by omega)
    have hGk : dg 300 (G1 k) = dg 300 (G k) := by rw [hGk0]
    unfold cbc at hz
    refine lv_iconst (v := iI (2)) X.1 X.2.1 d_Cu_cannotBeCut_23 (by decide) ?_
    refine lv_iload_n X.1 X.2.1 d_Cu_cannotBeCut_24 rfl (lv_at hl 2 rfl) ?_
    refine i_mul (a := 2) (b := b) X d_Cu_cannotBeCut_25 ?_
    refine lv_aload_n X.1 X.2.1 d_Cu_cannotBeCut_26 rfl (lv_at hl 1 rfl) ?_
    refine g_deg (k := k) X hT w (by omega) k_f_Cu_63 d_Cu_cannotBeCut_27 ?_
    refine i_gt (a := 2 * b) (b := dg 300 (G1 k)) (tgt := 56) X (by omega) (by omega) d_Cu_cannotBeCut_30 (by decide) (fun h_30 => ?_) (fun h_30 => ?_)
    · refine lv_iconst (v := iI (1)) X.1 X.2.1 d_Cu_cannotBeCut_56 (by decide) ?_
      rw [if_neg (by omega)] at hz
      subst hz
      exact w_zret X hr rfl hlk w (hp G1 hW hF) d_Cu_cannotBeCut_57
    · refine lv_aload_n X.1 X.2.1 d_Cu_cannotBeCut_33 rfl (lv_at hl 0 rfl) ?_
      refine lv_aload_n X.1 X.2.1 d_Cu_cannotBeCut_34 rfl (lv_at hl 1 rfl) ?_
      refine w_cVv (n := 1) (i := 125) (ci := 2) (As := [.ref (ad (2 * k))]) (rest := []) X w hml hl.1 (c_Cu_gatherNextDegree hT (G := G1) hO hU (k := k) (by omega) hW h8 hd8 (by rw [hGk0]; exact hA) (by omega) (by rw [hGx]; exact hx)) (by omega) (by rw [mkV_O (by decide)]; exact hU.1) rfl k_m_Cu_70 k_im_Cu_gatherNextDegree k_se_Cu_gatherNextDegree k_i_Cu k_co_Cu_gatherNextDegree (by decide +kernel) rfl ⟨Nat.le_of_ble_eq_true rfl, Nat.le_of_ble_eq_true rfl⟩ ⟨rfl, rfl⟩ ⟨Nat.zero_le _, Nat.zero_le _⟩ rfl (Nat.le_of_ble_eq_true rfl) d_Cu_cannotBeCut_35 (fun C' H locs hp1 w => ?_)
      obtain ⟨G2, rfl, hW2, e8, e9, ok8, d8, ok9, hF2⟩ := hp1
      rw [hGk0, hGx] at e9
      rw [hGk0] at e8
      rw [if_pos (by omega), ← e9, ← e8] at hz
      have hd9 := (ok9.ok hpr.2).dlt 300
      have hd90 := dg_ge 300 (G2 9)
      refine lv_aload_n X.1 X.2.1 d_Cu_cannotBeCut_38 rfl (lv_at hl 0 rfl) ?_
      refine t_cu X hT w hU 6 (by decide) k_f_Cu_39 rfl d_Cu_cannotBeCut_39 ?_
      refine g_deg (k := 9) X hT w (by omega) k_f_Cu_63 d_Cu_cannotBeCut_42 ?_
      refine z_le (a := dg 300 (G2 9)) (tgt := 50) X (by omega) d_Cu_cannotBeCut_45 (by decide) (fun h_45 => ?_) (fun h_45 => ?_)
      · refine i_inc (k := 2) (x := b) (lv' := [(2, .int (iI (b + 1))), (0, .ref (ad (125))), (1, .ref (ad (2 * k)))]) X d_Cu_cannotBeCut_50 hl rfl (by decide) rfl (fun ls hl => ?_)
        refine lv_goto (tgt := 23) X.1 X.2.1 d_Cu_cannotBeCut_53 (by decide) ?_
        rw [if_neg (by omega)] at hz
        exact ih (b + 1) G2 H locs ls (by omega) w hW2 ok8 d8 (fun j j0 j1 j2 j3 j8 j9 j13 => by rw [hF2 j j0 j1 j2 j3 j8 j9 j13]; exact hF j j0 j1 j2 j3 j8 j9 j13) hz (lv_sub hl [1, 2, 0] rfl)
      · refine lv_iconst (v := iI (0)) X.1 X.2.1 d_Cu_cannotBeCut_48 (by decide) ?_
        rw [if_pos h_45] at hz
        subst hz
        exact w_zret X hr rfl hlk w (hp G2 hW2 (fun j j0 j1 j2 j3 j8 j9 j13 => by rw [hF2 j j0 j1 j2 j3 j8 j9 j13]; exact hF j j0 j1 j2 j3 j8 j9 j13)) d_Cu_cannotBeCut_49
end CC
theorem c_Cu_cannotBeCut {l : Launch} {D : va_G} {cs : Nat → ClassId} {A : Nat → Prop} {ad : Nat → Nat} {T : Nat} (hT : 132 ≤ T) {G : Nat → Nat → Int} {O : Nat → va_E} {pr : Int} {inv : Nat → Int} (hO : arO cs ad pr inv O) {n : Nat} {ph : Nat → Nat} {tm : Nat → Int} (hU : cuO cs ad n ph tm O) {k : Nat} (hk : 16 ≤ k ∧ k < 61) (hW : WF G) (hA : okp pr 25 (G k)) (hx : okp pr 25 (G 15)) (hdx : dg 300 (G 15) ≤ 23) : Ci l y_Cu_cannotBeCut ws_Cu_cannotBeCut { frames := 5, cells := 0, slots := 0, locals := 121 } D cs A ad T [.ref (ad (125)), .ref (ad (2 * k))] (mkV cs ad (rV G) O) (fun r C' => ∃ G', C' = mkV cs ad (rV G') O ∧ WF G' ∧ (∀ j, j ≠ 0 → j ≠ 1 → j ≠ 2 → j ≠ 3 → j ≠ 8 → j ≠ 9 → j ≠ 13 → G' j = G j) ∧ r = bI (irrC pr inv (G k) (G 15))) := by
  refine w_bodyI (by decide) (Nat.le_of_ble_eq_true rfl) ?_
  intro p e s m below meth c X hr hlk hml w ls hl
  have hl : lv_has ls 3 [(0, .ref (ad (125))), (1, .ref (ad (2 * k)))] := hl
  have hpr := hO.2.2.1
  have hdk2 := (hA.ok hpr.2).dlt 300
  have hdk0 := dg_ge 300 (G k)
  refine lv_aload_n X.1 X.2.1 d_Cu_cannotBeCut_0 rfl (lv_at hl 1 rfl) ?_
  refine g_deg (k := k) X hT w (by omega) k_f_Cu_63 d_Cu_cannotBeCut_1 ?_
  refine lv_iconst (v := iI (1)) X.1 X.2.1 d_Cu_cannotBeCut_4 (by decide) ?_
  refine i_ge (a := dg 300 (G k)) (b := 1) (tgt := 10) X (by omega) (by omega) d_Cu_cannotBeCut_5 (by decide) (fun h_5 => ?_) (fun h_5 => ?_)
  · refine lv_aload_n X.1 X.2.1 d_Cu_cannotBeCut_10 rfl (lv_at hl 0 rfl) ?_
    refine t_cu X hT w hU 5 (by decide) k_f_Cu_36 rfl d_Cu_cannotBeCut_11 ?_
    refine lv_aload_n X.1 X.2.1 d_Cu_cannotBeCut_14 rfl (lv_at hl 0 rfl) ?_
    refine t_cu X hT w hU 12 (by decide) k_f_Cu_60 rfl d_Cu_cannotBeCut_15 ?_
    refine w_cVv (n := 1) (i := 2 * 8) (ci := 0) (As := [.ref (ad (2 * 15))]) (rest := []) X w hml hl.1 (c_Po_copyFrom hT (G := G) (k := 8) (q := 15) (by omega) (by omega) (by omega) (hW 8 (by omega)) (hW 15 (by omega)) (hx.ok hpr.2)) (by omega) (mkV_o (by omega)) rfl k_m_Cu_66 k_im_Po_copyFrom k_se_Po_copyFrom k_i_Po k_co_Po_copyFrom (by decide +kernel) rfl ⟨Nat.le_of_ble_eq_true rfl, Nat.le_of_ble_eq_true rfl⟩ ⟨rfl, rfl⟩ ⟨Nat.zero_le _, Nat.zero_le _⟩ rfl (Nat.le_of_ble_eq_true rfl) d_Cu_cannotBeCut_18 (fun C' H locs hp w => ?_)
    subst hp
    obtain ⟨Gw1, eGw1⟩ : ∃ gg : Nat → Nat → Int, gg = va_up G 8 (G 15) := ⟨_, rfl⟩
    rw [← eGw1] at w
    refine lv_iconst (v := iI (1)) X.1 X.2.1 d_Cu_cannotBeCut_21 (by decide) ?_
    refine lv_istore_n (lv' := [(2, .int (iI (1))), (0, .ref (ad (125))), (1, .ref (ad (2 * k)))]) X.1 X.2.1 d_Cu_cannotBeCut_22 rfl hl (by decide) rfl (fun ls hl => ?_)
    have g8 : Gw1 8 = G 15 := by rw [eGw1, va_up_self]
    exact l_Cu_cannotBeCut (G := G) (k := k) (Z := irrC pr inv (G k) (G 15)) X hr hlk hml hT hO hU hk hA (by omega) hx (fun G1 a1 a2 => ⟨G1, rfl, a1, a2, rfl⟩) 13 1 Gw1 _ _ _ (by omega) w (by rw [eGw1]; exact hW.up (k := 8) (hx.ok hpr.2)) (by rw [g8]; exact hx) (by rw [g8]; exact hdx) (fun j _ _ _ _ j8 _ _ => by rw [eGw1, va_up_ne _ _ j8]) (by rw [g8]; unfold irrC; rw [if_neg (by omega)]) (lv_sub hl [1, 2, 0] rfl)
  · refine lv_iconst (v := iI (0)) X.1 X.2.1 d_Cu_cannotBeCut_8 (by decide) ?_
    exact w_zret X hr rfl hlk w ⟨G, rfl, hW, fun _ _ _ _ _ _ _ _ => rfl, by unfold irrC; rw [if_pos (by omega)]; rfl⟩ d_Cu_cannotBeCut_9
