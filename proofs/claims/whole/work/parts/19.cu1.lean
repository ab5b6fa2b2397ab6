/-! Cutter: its object at the place 125, the factors' array at 126, how often each at 127. K: how many, the factors, how often -/
abbrev KS : Type := Nat × (Nat → Nat → Int) × (Nat → Int)
def cuF (ad : Nat → Nat) (n : Nat) : List Value := [.ref (ad 126), .ref (ad 127), .int (iI (n : Int)), .ref (ad 123), .ref (ad (2 * 7)), .ref (ad (2 * 8)), .ref (ad (2 * 9)), .ref (ad (2 * 10)), .ref (ad (2 * 11)), .ref (ad (2 * 12)), .ref (ad (2 * 13)), .ref (ad (2 * 14)), .ref (ad (2 * 15))]
def aQ (cs : Nat → ClassId) (ad : Nat → Nat) (n : Nat) (ph : Nat → Nat) : va_E := .inl (cs 2, n, .inr (.inr (.inr (.inr (fun i => some (ad (2 * ph i)))))))
def cuO (cs : Nat → ClassId) (ad : Nat → Nat) (n : Nat) (ph : Nat → Nat) (tm : Nat → Int) (O : Nat → va_E) : Prop := O 125 = .inr (2, cuF ad n) ∧ O 126 = aQ cs ad 24 ph ∧ O 127 = aI cs 24 tm ∧ n ≤ 24 ∧ (∀ i, i < 24 → 37 ≤ ph i ∧ ph i < 61) ∧ ∀ i j, i < 24 → j < 24 → ph i = ph j → i = j
def cuS (pr : Int) (cs : Nat → ClassId) (ad : Nat → Nat) (G : Nat → Nat → Int) (O : Nat → va_E) (K : KS) (ph : Nat → Nat) : Prop := cuO cs ad K.1 ph K.2.2 O ∧ (∀ i, i < 24 → G (ph i) = K.2.1 i) ∧ ∀ i, i < K.1 → okp pr 25 (K.2.1 i)
section CT
variable {p : Program} {l : Launch} {e : Env} {R : Room} {s : State} {m : MethodId} {args : Array Value} {below : List Frame} {meth : Method} {c : Code} {H : Heap} {locs : List Loc} {cells slots : Nat} {Q : State → Prop} {D : va_G} {cs : Nat → ClassId} {A : Nat → Prop} {ad : Nat → Nat} {T : Nat}
variable {cc : ByteArray} {own : String} {pc : Nat} {ls : Array Slot} {rest st : List Value} {V : Nat → PV} {O : Nat → va_E} {n : Nat} {ph : Nat → Nat} {tm : Nat → Int}
theorem t_cu {index : Nat} (X : Cx p s m args c cc own) (hT : 132 ≤ T) (w : Wd D cs A ad T s (mkV cs ad V O) H locs) (hU : cuO cs ad n ph tm O) (k : Nat) (hk : k < 13) (hlink : Cond.fieldLink own index (FCu k).1 (FCu k).2.1 (FCu k).2.2.1 ∈ TB) {v : Value} (hv : (cuF ad n)[k]? = some v) (hdg : decode cc pc = .ok (.getfield index, 3))
    (kk : W p l e R s m args below meth c H locs cells slots Q (F0 m (pc + 3) ls (v :: rest))) : W p l e R s m args below meth c H locs cells slots Q (F0 m pc ls (.ref (ad 125) :: rest)) :=
  w_get X w (Nat.lt_of_lt_of_le (by decide) hT) (by rw [mkV_O (by decide)]; exact hU.1) (ci := 2) rfl k_l_Cu k hk hlink hv hdg kk
theorem t_fa {z : Int} (X : Cx p s m args c cc own) (hT : 132 ≤ T) (w : Wd D cs A ad T s (mkV cs ad V O) H locs) (hU : cuO cs ad n ph tm O) (j : Nat) (hz : z = (j : Int)) (hj : j < 24) (hdg : decode cc pc = .ok (.aaload, 1))
    (kk : W p l e R s m args below meth c H locs cells slots Q (F0 m (pc + 1) ls (.ref (ad (2 * ph j)) :: rest))) : W p l e R s m args below meth c H locs cells slots Q (F0 m pc ls (.int (iI z) :: .ref (ad 126) :: rest)) := by
  subst hz
  refine va_aldq (C := RPo) X.1 X.2.1 w.1 w.2.2.2.1 126 2 (by rw [vW_get (Nat.lt_of_lt_of_le (by decide) hT), mkV_O (by decide), hU.2.1]; rfl) rfl (iI_in hj (by decide)) hdg ?_
  rw [iI_clamp (by omega)]
  exact kk
theorem t_fl (X : Cx p s m args c cc own) (hT : 132 ≤ T) (w : Wd D cs A ad T s (mkV cs ad V O) H locs) (hU : cuO cs ad n ph tm O) (hdg : decode cc pc = .ok (.arraylength, 1))
    (kk : W p l e R s m args below meth c H locs cells slots Q (F0 m (pc + 1) ls (.int (iI 24) :: rest))) : W p l e R s m args below meth c H locs cells slots Q (F0 m pc ls (.ref (ad 126) :: rest)) :=
  va_alen (v := iI 24) X.1 X.2.1 w.1 w.2.2.2.1 126 2 (by rw [vW_get (Nat.lt_of_lt_of_le (by decide) hT), mkV_O (by decide), hU.2.1]; rfl) rfl rfl hdg kk
theorem t_fs {z : Int} (X : Cx p s m args c cc own) (hT : 132 ≤ T) (w : Wd D cs A ad T s (mkV cs ad V O) H locs) (hU : cuO cs ad n ph tm O) (j : Nat) (hz : z = (j : Int)) (hj : j < 24) {k : Nat} (hk : k < 61) (hdg : decode cc pc = .ok (.aastore, 1))
    (kk : ∀ (H1 : Heap) (locs1 : List Loc), Wd D cs A ad T s (mkV cs ad V (va_up O 126 (aQ cs ad 24 (va_up ph j k)))) H1 locs1 → W p l e R s m args below meth c H1 locs1 cells slots Q (F0 m (pc + 1) ls rest)) : W p l e R s m args below meth c H locs cells slots Q (F0 m pc ls (.ref (ad (2 * k)) :: .int (iI z) :: .ref (ad 126) :: rest)) := by
  subst hz
  refine va_astq X.1 X.2.1 w.1 w.2.2.2.1 (w.2.1.va _) w.2.2.2.2 126 2 (2 * k) 0 (r := (RPo, FPo, 2)) (by rw [vW_get (Nat.lt_of_lt_of_le (by decide) hT), mkV_O (by decide), hU.2.1]; rfl) rfl (by rw [vW_get (Nat.lt_of_lt_of_le (by omega) hT), mkV_o hk]; rfl) rfl (iI_in hj (by decide)) hdg (fun H1 locs1 h1 _ h3 => kk H1 locs1 ⟨w.1, w.2.1, w.2.2.1, ?_, h3⟩)
  rw [vW_set, iI_clamp (by omega), mkV_sO (by decide)] at h1
  have e : (fun i => some (ad (2 * va_up ph j k i))) = va_up (fun i => some (ad (2 * ph i))) j (some (ad (2 * k))) := by
    funext i
    unfold va_up
    split <;> rfl
  unfold aQ
  rw [e]
  exact h1
theorem t_tm {z : Int} (X : Cx p s m args c cc own) (hT : 132 ≤ T) (w : Wd D cs A ad T s (mkV cs ad V O) H locs) (hU : cuO cs ad n ph tm O) (j : Nat) (hz : z = (j : Int)) (hj : j < 24) (hdg : decode cc pc = .ok (.iaload, 1))
    (kk : W p l e R s m args below meth c H locs cells slots Q (F0 m (pc + 1) ls (.int (iI (tm j)) :: rest))) : W p l e R s m args below meth c H locs cells slots Q (F0 m pc ls (.int (iI z) :: .ref (ad 127) :: rest)) :=
  w_ild X w (Nat.lt_of_lt_of_le (by decide) hT) (by rw [mkV_O (by decide)]; exact hU.2.2.1) j hz hj (by decide) hdg kk
theorem t_ts {z v : Int} (X : Cx p s m args c cc own) (hT : 132 ≤ T) (w : Wd D cs A ad T s (mkV cs ad V O) H locs) (hU : cuO cs ad n ph tm O) (j : Nat) (hz : z = (j : Int)) (hj : j < 24) (hdg : decode cc pc = .ok (.iastore, 1))
    (kk : ∀ (H1 : Heap) (locs1 : List Loc), Wd D cs A ad T s (mkV cs ad V (va_up O 127 (aI cs 24 (va_up tm j v)))) H1 locs1 → W p l e R s m args below meth c H1 locs1 cells slots Q (F0 m (pc + 1) ls rest)) : W p l e R s m args below meth c H locs cells slots Q (F0 m pc ls (.int (iI v) :: .int (iI z) :: .ref (ad 127) :: rest)) :=
  w_ist X w (Nat.lt_of_lt_of_le (by decide) hT) (by rw [mkV_O (by decide)]; exact hU.2.2.1) j hz hj (by decide) hdg (fun H1 locs1 h => kk H1 locs1 (by rw [mkV_sO (by decide)] at h; exact h))
theorem t_ps {index : Nat} {z : Int} (X : Cx p s m args c cc own) (hT : 132 ≤ T) (w : Wd D cs A ad T s (mkV cs ad V O) H locs) (hU : cuO cs ad n ph tm O) (k : Nat) (hz : z = (k : Int)) (hlink : Cond.fieldLink own index "FieldFactors$Cutter" "size" "I" ∈ TB) (hdg : decode cc pc = .ok (.putfield index, 3))
    (kk : ∀ (H1 : Heap) (locs1 : List Loc), Wd D cs A ad T s (mkV cs ad V (va_up O 125 (.inr (2, cuF ad k)))) H1 locs1 → W p l e R s m args below meth c H1 locs1 cells slots Q (F0 m (pc + 3) ls rest)) : W p l e R s m args below meth c H locs cells slots Q (F0 m pc ls (.int (iI z) :: .ref (ad 125) :: rest)) := by
  subst hz
  exact w_put X w (Nat.lt_of_lt_of_le (by decide) hT) (by rw [mkV_O (by decide)]; exact hU.1) (ci := 2) rfl k_l_Cu tCu tyCu nCu 2 (by decide) hlink rfl rfl rfl (Nat.le_of_ble_eq_true rfl) hdg (fun H1 locs1 h => kk H1 locs1 (by rw [mkV_sO (by decide)] at h; exact h))
end CT
theorem cuO.size {cs : Nat → ClassId} {ad : Nat → Nat} {n k : Nat} {ph : Nat → Nat} {tm : Nat → Int} {O : Nat → va_E} (h : cuO cs ad n ph tm O) (hk : k ≤ 24) : cuO cs ad k ph tm (va_up O 125 (.inr (2, cuF ad k))) := ⟨va_up_self _ _ _, by rw [va_up_ne _ _ (by decide)]; exact h.2.1, by rw [va_up_ne _ _ (by decide)]; exact h.2.2.1, hk, h.2.2.2.2⟩
theorem cuO.time {cs : Nat → ClassId} {ad : Nat → Nat} {n : Nat} {ph : Nat → Nat} {tm tm' : Nat → Int} {O : Nat → va_E} (h : cuO cs ad n ph tm O) : cuO cs ad n ph tm' (va_up O 127 (aI cs 24 tm')) := ⟨by rw [va_up_ne _ _ (by decide)]; exact h.1, by rw [va_up_ne _ _ (by decide)]; exact h.2.1, va_up_self _ _ _, h.2.2.2⟩
theorem cuO.same {cs : Nat → ClassId} {ad : Nat → Nat} {n : Nat} {ph : Nat → Nat} {tm : Nat → Int} {O O' : Nat → va_E} (h : cuO cs ad n ph tm O) (h1 : O' 125 = O 125) (h2 : O' 126 = O 126) (h3 : O' 127 = O 127) : cuO cs ad n ph tm O' := ⟨by rw [h1]; exact h.1, by rw [h2]; exact h.2.1, by rw [h3]; exact h.2.2.1, h.2.2.2⟩
theorem arO.same {cs : Nat → ClassId} {ad : Nat → Nat} {pr : Int} {inv : Nat → Int} {O O' : Nat → va_E} (hO : arO cs ad pr inv O) (h1 : O' 123 = O 123) (h2 : O' 124 = O 124) : arO cs ad pr inv O' := ⟨by rw [h1]; exact hO.1, by rw [h2]; exact hO.2.1, hO.2.2⟩
/-- what of the other cells a Cutter's method leaves alone -/
def cuFr (O O' : Nat → va_E) : Prop := ∀ i, i ≠ 125 → i ≠ 126 → i ≠ 127 → O' i = O i
theorem cuFr.rf {O : Nat → va_E} : cuFr O O := fun _ _ _ _ => rfl
theorem cuFr.tr {O O' O'' : Nat → va_E} (h : cuFr O O') (g : cuFr O' O'') : cuFr O O'' := fun i a b c => (g i a b c).trans (h i a b c)
theorem cuFr.up {O : Nat → va_E} {i : Nat} {x : va_E} (h : i = 125 ∨ i = 126 ∨ i = 127) : cuFr O (va_up O i x) := fun j a b c => va_up_ne _ _ (by omega)
theorem cuFr.ar {cs : Nat → ClassId} {ad : Nat → Nat} {pr : Int} {inv : Nat → Int} {O O' : Nat → va_E} (h : cuFr O O') (hO : arO cs ad pr inv O) : arO cs ad pr inv O' := hO.same (h 123 (by decide) (by decide) (by decide)) (h 124 (by decide) (by decide) (by decide))
def appK (K : KS) (F : Nat → Int) (v : Int) : KS := if K.1 < 24 then (K.1 + 1, va_up K.2.1 K.1 F, va_up K.2.2 K.1 v) else K
theorem c_Cu_forget {l : Launch} {D : va_G} {cs : Nat → ClassId} {A : Nat → Prop} {ad : Nat → Nat} {T : Nat} (hT : 132 ≤ T) {G : Nat → Nat → Int} {O : Nat → va_E} {pr : Int} {inv : Nat → Int} (hO : arO cs ad pr inv O) {K : KS} {ph : Nat → Nat} (hK : cuS pr cs ad G O K ph) (hW : WF G) : Cv l y_Cu_forget ws_Cu_forget { frames := 0, cells := 0, slots := 0, locals := 0 } D cs A ad T [.ref (ad (125))] (mkV cs ad (rV G) O) (fun C' => ∃ G' O', C' = mkV cs ad (rV G') O' ∧ cuS pr cs ad G' O' (0, K.2) ph ∧ WF G' ∧ (∀ j, j < 61 → G' j = G j) ∧ cuFr O O') := by
  refine w_bodyV (by decide) (Nat.le_of_ble_eq_true rfl) ?_
  intro p e s m below meth c X hr hlk hml w ls hl
  have hl : lv_has ls 1 [(0, .ref (ad (125)))] := hl
  have hU := hK.1
  refine lv_aload_n X.1 X.2.1 d_Cu_forget_0 rfl (lv_at hl 0 rfl) ?_
  refine lv_iconst (v := iI (0)) X.1 X.2.1 d_Cu_forget_1 (by decide) ?_
  refine t_ps (z := 0) X hT w hU 0 (by omega) k_f_Cu_28 d_Cu_forget_2 (fun H locs w => ?_)
  exact w_vret X hr hlk w ⟨G, _, rfl, ⟨hU.size (by omega), hK.2.1, fun i hi => absurd hi (Nat.not_lt_zero _)⟩, hW, fun _ _ => rfl, cuFr.up (Or.inl rfl)⟩ d_Cu_forget_5
theorem c_Cu_append {l : Launch} {D : va_G} {cs : Nat → ClassId} {A : Nat → Prop} {ad : Nat → Nat} {T : Nat} (hT : 132 ≤ T) {G : Nat → Nat → Int} {O : Nat → va_E} {pr : Int} {inv : Nat → Int} (hO : arO cs ad pr inv O) {K : KS} {ph : Nat → Nat} (hK : cuS pr cs ad G O K ph) {k : Nat} {v : Int} (hk : 7 ≤ k ∧ k < 37) (hW : WF G) (hA : okp pr 25 (G k)) : Cv l y_Cu_append ws_Cu_append { frames := 1, cells := 0, slots := 0, locals := 22 } D cs A ad T [.ref (ad (125)), .ref (ad (2 * k)), .int (iI (v))] (mkV cs ad (rV G) O) (fun C' => ∃ G' O', C' = mkV cs ad (rV G') O' ∧ cuS pr cs ad G' O' (appK K (G k) v) ph ∧ WF G' ∧ (∀ j, j < 37 → G' j = G j) ∧ cuFr O O') := by
  refine w_bodyV (by decide) (Nat.le_of_ble_eq_true rfl) ?_
  intro p e s m below meth c X hr hlk hml w ls hl
  have hl : lv_has ls 3 [(0, .ref (ad (125))), (1, .ref (ad (2 * k))), (2, .int (iI (v)))] := hl
  have hU := hK.1
  have hpr := hO.2.2.1
  have hn := hU.2.2.2.1
  have wk := wd_2 (show 2 ≤ k by omega)
  refine lv_aload_n X.1 X.2.1 d_Cu_append_0 rfl (lv_at hl 0 rfl) ?_
  refine t_cu X hT w hU 2 (by decide) k_f_Cu_28 rfl d_Cu_append_1 ?_
  refine lv_aload_n X.1 X.2.1 d_Cu_append_4 rfl (lv_at hl 0 rfl) ?_
  refine t_cu X hT w hU 0 (by decide) k_f_Cu_17 rfl d_Cu_append_5 ?_
  refine t_fl X hT w hU d_Cu_append_8 ?_
  refine i_ge (a := (K.1 : Nat)) (b := 24) (tgt := 45) X (by omega) (by omega) d_Cu_append_9 (by decide) (fun h_9 => ?_) (fun h_9 => ?_)
  · refine w_vret X hr hlk w ⟨G, O, rfl, ?_, hW, fun _ _ => rfl, cuFr.rf⟩ d_Cu_append_45
    unfold appK
    rw [if_neg (by omega)]
    exact hK
  · have hlt : K.1 < 24 := by omega
    have hph := hU.2.2.2.2.1 K.1 hlt
    have wp := wd_2 (show 2 ≤ ph K.1 by omega)
    refine lv_aload_n X.1 X.2.1 d_Cu_append_12 rfl (lv_at hl 0 rfl) ?_
    refine t_cu X hT w hU 0 (by decide) k_f_Cu_17 rfl d_Cu_append_13 ?_
    refine lv_aload_n X.1 X.2.1 d_Cu_append_16 rfl (lv_at hl 0 rfl) ?_
    refine t_cu X hT w hU 2 (by decide) k_f_Cu_28 rfl d_Cu_append_17 ?_
    refine t_fa (z := (K.1 : Nat)) X hT w hU (K.1) rfl (by omega) d_Cu_append_20 ?_
    refine lv_aload_n X.1 X.2.1 d_Cu_append_21 rfl (lv_at hl 1 rfl) ?_
    refine w_cVv (n := 1) (i := 2 * (ph K.1)) (ci := 0) (As := [.ref (ad (2 * k))]) (rest := []) X w hml hl.1 (c_Po_copyFrom hT (G := G) (k := ph K.1) (q := k) (by omega) (by omega) (by omega) (hW _ (by omega)) (hW k (by omega)) (by rw [wp]; exact hA.ok hpr.2)) (by omega) (mkV_o (by omega)) rfl k_m_Cu_66 k_im_Po_copyFrom k_se_Po_copyFrom k_i_Po k_co_Po_copyFrom (by decide +kernel) rfl ⟨Nat.le_of_ble_eq_true rfl, Nat.le_of_ble_eq_true rfl⟩ ⟨rfl, rfl⟩ ⟨Nat.zero_le _, Nat.zero_le _⟩ rfl (Nat.le_of_ble_eq_true rfl) d_Cu_append_22 (fun C' H locs hp w => ?_)
    subst hp
    obtain ⟨Gw1, eGw1⟩ : ∃ gg : Nat → Nat → Int, gg = va_up G (ph K.1) (G k) := ⟨_, rfl⟩
    rw [← eGw1] at w
    refine lv_aload_n X.1 X.2.1 d_Cu_append_25 rfl (lv_at hl 0 rfl) ?_
    refine t_cu X hT w hU 1 (by decide) k_f_Cu_21 rfl d_Cu_append_26 ?_
    refine lv_aload_n X.1 X.2.1 d_Cu_append_29 rfl (lv_at hl 0 rfl) ?_
    refine t_cu X hT w hU 2 (by decide) k_f_Cu_28 rfl d_Cu_append_30 ?_
    refine lv_iload_n X.1 X.2.1 d_Cu_append_33 rfl (lv_at hl 2 rfl) ?_
    refine t_ts (z := (K.1 : Nat)) (v := v) X hT w hU K.1 rfl (by omega) d_Cu_append_34 (fun H locs w => ?_)
    have hU := hU.time (tm' := va_up K.2.2 K.1 v)
    refine lv_aload_n X.1 X.2.1 d_Cu_append_35 rfl (lv_at hl 0 rfl) ?_
    refine lv_dup X.1 X.2.1 d_Cu_append_36 rfl ?_
    refine t_cu X hT w hU 2 (by decide) k_f_Cu_28 rfl d_Cu_append_37 ?_
    refine lv_iconst (v := iI (1)) X.1 X.2.1 d_Cu_append_40 (by decide) ?_
    refine i_add (a := (K.1 : Nat)) (b := 1) X d_Cu_append_41 ?_
    refine t_ps (z := (K.1 : Nat) + 1) X hT w hU (K.1 + 1) (by omega) k_f_Cu_28 d_Cu_append_42 (fun H locs w => ?_)
    refine w_vret X hr hlk w ⟨Gw1, _, rfl, ?_, by rw [eGw1]; exact hW.up (by rw [wp]; exact hA.ok hpr.2), fun j hj => by rw [eGw1, va_up_ne _ _ (by omega)], (cuFr.up (Or.inr (Or.inr rfl))).tr (cuFr.up (Or.inl rfl))⟩ d_Cu_append_45
    unfold appK
    rw [if_pos (by omega)]
    refine ⟨hU.size (by omega), fun i hi => ?_, fun i hi => ?_⟩
    · show Gw1 (ph i) = va_up K.2.1 K.1 (G k) i
      rw [eGw1]
      by_cases e : i = K.1
      · rw [e, va_up_self, va_up_self]
      · rw [va_up_ne _ _ e, va_up_ne _ _ (fun h => e (hU.2.2.2.2.2 i K.1 hi (by omega) h))]; exact hK.2.1 i hi
    · show okp pr 25 (va_up K.2.1 K.1 (G k) i)
      have hi : i < K.1 + 1 := hi
      by_cases e : i = K.1
      · rw [e, va_up_self]; exact hA
      · rw [va_up_ne _ _ e]; exact hK.2.2 i (by omega)
