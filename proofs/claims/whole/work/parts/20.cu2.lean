def swpK (K : KS) (i k : Nat) : KS := (K.1, va_up (va_up K.2.1 i (K.2.1 k)) k (K.2.1 i), va_up (va_up K.2.2 i (K.2.2 k)) k (K.2.2 i))
section C0
variable {p : Program} {l : Launch} {e : Env} {R : Room} {s : State} {m : MethodId} {args : Array Value} {below : List Frame} {meth : Method} {c : Code} {H : Heap} {locs : List Loc} {cells slots : Nat} {Q : State → Prop} {D : va_G} {cs : Nat → ClassId} {A : Nat → Prop} {ad : Nat → Nat} {T : Nat}
variable {cc : ByteArray} {own : String} {pc : Nat} {ls : Array Slot} {rest st : List Value} {V : Nat → PV} {O : Nat → va_E} {n : Nat} {ph : Nat → Nat} {tm : Nat → Int}
theorem s_cu {index : Nat} (X : Cx p s m args c cc own) (hT : 132 ≤ T) (w : Wd D cs A ad T s (mkV cs ad V O) H locs) (hU : O 125 = .inr (2, cuF ad n)) (k : Nat) (hk : k < 13) (hlink : Cond.fieldLink own index (FCu k).1 (FCu k).2.1 (FCu k).2.2.1 ∈ TB) {v : Value} (hv : (cuF ad n)[k]? = some v) (hdg : decode cc pc = .ok (.getfield index, 3))
    (kk : W p l e R s m args below meth c H locs cells slots Q (F0 m (pc + 3) ls (v :: rest))) : W p l e R s m args below meth c H locs cells slots Q (F0 m pc ls (.ref (ad 125) :: rest)) :=
  w_get X w (Nat.lt_of_lt_of_le (by decide) hT) (by rw [mkV_O (by decide)]; exact hU) (ci := 2) rfl k_l_Cu k hk hlink hv hdg kk
theorem s_fa {z : Int} (X : Cx p s m args c cc own) (hT : 132 ≤ T) (w : Wd D cs A ad T s (mkV cs ad V O) H locs) (hU : O 126 = aQ cs ad 24 ph) (j : Nat) (hz : z = (j : Int)) (hj : j < 24) (hdg : decode cc pc = .ok (.aaload, 1))
    (kk : W p l e R s m args below meth c H locs cells slots Q (F0 m (pc + 1) ls (.ref (ad (2 * ph j)) :: rest))) : W p l e R s m args below meth c H locs cells slots Q (F0 m pc ls (.int (iI z) :: .ref (ad 126) :: rest)) := by
  subst hz
  refine va_aldq (C := RPo) X.1 X.2.1 w.1 w.2.2.2.1 126 2 (by rw [vW_get (Nat.lt_of_lt_of_le (by decide) hT), mkV_O (by decide), hU]; rfl) rfl (iI_in hj (by decide)) hdg ?_
  rw [iI_clamp (by omega)]
  exact kk
theorem s_fs {z : Int} (X : Cx p s m args c cc own) (hT : 132 ≤ T) (w : Wd D cs A ad T s (mkV cs ad V O) H locs) (hU : O 126 = aQ cs ad 24 ph) (j : Nat) (hz : z = (j : Int)) (hj : j < 24) {k : Nat} (hk : k < 61) (hdg : decode cc pc = .ok (.aastore, 1))
    (kk : ∀ (H1 : Heap) (locs1 : List Loc), Wd D cs A ad T s (mkV cs ad V (va_up O 126 (aQ cs ad 24 (va_up ph j k)))) H1 locs1 → W p l e R s m args below meth c H1 locs1 cells slots Q (F0 m (pc + 1) ls rest)) : W p l e R s m args below meth c H locs cells slots Q (F0 m pc ls (.ref (ad (2 * k)) :: .int (iI z) :: .ref (ad 126) :: rest)) := by
  subst hz
  refine va_astq X.1 X.2.1 w.1 w.2.2.2.1 (w.2.1.va _) w.2.2.2.2 126 2 (2 * k) 0 (r := (RPo, FPo, 2)) (by rw [vW_get (Nat.lt_of_lt_of_le (by decide) hT), mkV_O (by decide), hU]; rfl) rfl (by rw [vW_get (Nat.lt_of_lt_of_le (by omega) hT), mkV_o hk]; rfl) rfl (iI_in hj (by decide)) hdg (fun H1 locs1 h1 _ h3 => kk H1 locs1 ⟨w.1, w.2.1, w.2.2.1, ?_, h3⟩)
  rw [vW_set, iI_clamp (by omega), mkV_sO (by decide)] at h1
  have e : (fun i => some (ad (2 * va_up ph j k i))) = va_up (fun i => some (ad (2 * ph i))) j (some (ad (2 * k))) := by
    funext i
    unfold va_up
    split <;> rfl
  unfold aQ
  rw [e]
  exact h1
theorem s_tm {z : Int} (X : Cx p s m args c cc own) (hT : 132 ≤ T) (w : Wd D cs A ad T s (mkV cs ad V O) H locs) (hU : O 127 = aI cs 24 tm) (j : Nat) (hz : z = (j : Int)) (hj : j < 24) (hdg : decode cc pc = .ok (.iaload, 1))
    (kk : W p l e R s m args below meth c H locs cells slots Q (F0 m (pc + 1) ls (.int (iI (tm j)) :: rest))) : W p l e R s m args below meth c H locs cells slots Q (F0 m pc ls (.int (iI z) :: .ref (ad 127) :: rest)) :=
  w_ild X w (Nat.lt_of_lt_of_le (by decide) hT) (by rw [mkV_O (by decide)]; exact hU) j hz hj (by decide) hdg kk
theorem s_ts {z v : Int} (X : Cx p s m args c cc own) (hT : 132 ≤ T) (w : Wd D cs A ad T s (mkV cs ad V O) H locs) (hU : O 127 = aI cs 24 tm) (j : Nat) (hz : z = (j : Int)) (hj : j < 24) (hdg : decode cc pc = .ok (.iastore, 1))
    (kk : ∀ (H1 : Heap) (locs1 : List Loc), Wd D cs A ad T s (mkV cs ad V (va_up O 127 (aI cs 24 (va_up tm j v)))) H1 locs1 → W p l e R s m args below meth c H1 locs1 cells slots Q (F0 m (pc + 1) ls rest)) : W p l e R s m args below meth c H locs cells slots Q (F0 m pc ls (.int (iI v) :: .int (iI z) :: .ref (ad 127) :: rest)) :=
  w_ist X w (Nat.lt_of_lt_of_le (by decide) hT) (by rw [mkV_O (by decide)]; exact hU) j hz hj (by decide) hdg (fun H1 locs1 h => kk H1 locs1 (by rw [mkV_sO (by decide)] at h; exact h))
end C0
theorem c_Cu_swap {l : Launch} {D : va_G} {cs : Nat → ClassId} {A : Nat → Prop} {ad : Nat → Nat} {T : Nat} (hT : 132 ≤ T) {G : Nat → Nat → Int} {O : Nat → va_E} {pr : Int} {inv : Nat → Int} (hO : arO cs ad pr inv O) {K : KS} {ph : Nat → Nat} (hK : cuS pr cs ad G O K ph) {i k : Nat} (hi : i < 24) (hk : k < 24) (hik : i ≠ k) (hb : i < K.1 ∧ k < K.1) (hW : WF G) : Cv l y_Cu_swap ws_Cu_swap { frames := 0, cells := 0, slots := 0, locals := 0 } D cs A ad T [.ref (ad (125)), .int (iI (i)), .int (iI (k))] (mkV cs ad (rV G) O) (fun C' => ∃ G' O' ph', C' = mkV cs ad (rV G') O' ∧ cuS pr cs ad G' O' (swpK K i k) ph' ∧ WF G' ∧ (∀ j, j < 61 → G' j = G j) ∧ cuFr O O') := by
  refine w_bodyV (by decide) (Nat.le_of_ble_eq_true rfl) ?_
  intro p e s m below meth c X hr hlk hml w ls hl
  have hl : lv_has ls 5 [(0, .ref (ad (125))), (1, .int (iI (i))), (2, .int (iI (k)))] := hl
  have hU := hK.1
  have hi2 := hU.2.2.2.2.1 i hi
  have hk2 := hU.2.2.2.2.1 k hk
  have h5 := hU.1
  have h6 := hU.2.1
  have h7 := hU.2.2.1
  refine lv_aload_n X.1 X.2.1 d_Cu_swap_0 rfl (lv_at hl 0 rfl) ?_
  refine s_cu X hT w h5 0 (by decide) k_f_Cu_17 rfl d_Cu_swap_1 ?_
  refine lv_iload_n X.1 X.2.1 d_Cu_swap_4 rfl (lv_at hl 1 rfl) ?_
  refine s_fa (z := i) X hT w h6 i rfl (by omega) d_Cu_swap_5 ?_
  refine lv_astore_n (lv' := [(3, .ref (ad (2 * (ph i)))), (0, .ref (ad (125))), (1, .int (iI (i))), (2, .int (iI (k)))]) X.1 X.2.1 d_Cu_swap_6 rfl hl (by decide) rfl (fun ls hl => ?_)
  refine lv_aload_n X.1 X.2.1 d_Cu_swap_7 rfl (lv_at hl 1 rfl) ?_
  refine s_cu X hT w h5 0 (by decide) k_f_Cu_17 rfl d_Cu_swap_8 ?_
  refine lv_iload_n X.1 X.2.1 d_Cu_swap_11 rfl (lv_at hl 2 rfl) ?_
  refine lv_aload_n X.1 X.2.1 d_Cu_swap_12 rfl (lv_at hl 1 rfl) ?_
  refine s_cu X hT w h5 0 (by decide) k_f_Cu_17 rfl d_Cu_swap_13 ?_
  refine lv_iload_n X.1 X.2.1 d_Cu_swap_16 rfl (lv_at hl 3 rfl) ?_
  refine s_fa (z := k) X hT w h6 k rfl (by omega) d_Cu_swap_17 ?_
  refine s_fs (z := i) (k := ph k) X hT w h6 i rfl (by omega) (by omega) d_Cu_swap_18 (fun H locs w => ?_)
  have h5 := (va_up_ne O (aQ cs ad 24 (va_up ph i (ph k))) (show (125 : Nat) ≠ 126 by decide)).trans h5
  have h7 := (va_up_ne O (aQ cs ad 24 (va_up ph i (ph k))) (show (127 : Nat) ≠ 126 by decide)).trans h7
  have h6 : va_up O 126 (aQ cs ad 24 (va_up ph i (ph k))) 126 = aQ cs ad 24 (va_up ph i (ph k)) := va_up_self _ _ _
  refine lv_aload_n X.1 X.2.1 d_Cu_swap_19 rfl (lv_at hl 1 rfl) ?_
  refine s_cu X hT w h5 0 (by decide) k_f_Cu_17 rfl d_Cu_swap_20 ?_
  refine lv_iload_n X.1 X.2.1 d_Cu_swap_23 rfl (lv_at hl 3 rfl) ?_
  refine lv_aload_n X.1 X.2.1 d_Cu_swap_24 rfl (lv_at hl 0 rfl) ?_
  refine s_fs (z := k) (k := ph i) X hT w h6 k rfl (by omega) (by omega) d_Cu_swap_25 (fun H locs w => ?_)
  have h5 := (va_up_ne (va_up O 126 (aQ cs ad 24 (va_up ph i (ph k)))) (aQ cs ad 24 (va_up (va_up ph i (ph k)) k (ph i))) (show (125 : Nat) ≠ 126 by decide)).trans h5
  have h7 := (va_up_ne (va_up O 126 (aQ cs ad 24 (va_up ph i (ph k)))) (aQ cs ad 24 (va_up (va_up ph i (ph k)) k (ph i))) (show (127 : Nat) ≠ 126 by decide)).trans h7
  have h6 : va_up (va_up O 126 (aQ cs ad 24 (va_up ph i (ph k)))) 126 (aQ cs ad 24 (va_up (va_up ph i (ph k)) k (ph i))) 126 = aQ cs ad 24 (va_up (va_up ph i (ph k)) k (ph i)) := va_up_self _ _ _
  refine lv_aload_n X.1 X.2.1 d_Cu_swap_26 rfl (lv_at hl 1 rfl) ?_
  refine s_cu X hT w h5 1 (by decide) k_f_Cu_21 rfl d_Cu_swap_27 ?_
  refine lv_iload_n X.1 X.2.1 d_Cu_swap_30 rfl (lv_at hl 2 rfl) ?_
  refine s_tm (z := i) X hT w h7 i rfl (by omega) d_Cu_swap_31 ?_
  refine lv_istore (lv' := [(4, .int (iI (K.2.2 i))), (3, .ref (ad (2 * (ph i)))), (0, .ref (ad (125))), (1, .int (iI (i))), (2, .int (iI (k)))]) X.1 X.2.1 d_Cu_swap_32 hl (by decide) rfl (fun ls hl => ?_)
  refine lv_aload_n X.1 X.2.1 d_Cu_swap_34 rfl (lv_at hl 2 rfl) ?_
  refine s_cu X hT w h5 1 (by decide) k_f_Cu_21 rfl d_Cu_swap_35 ?_
  refine lv_iload_n X.1 X.2.1 d_Cu_swap_38 rfl (lv_at hl 3 rfl) ?_
  refine lv_aload_n X.1 X.2.1 d_Cu_swap_39 rfl (lv_at hl 2 rfl) ?_
  refine s_cu X hT w h5 1 (by decide) k_f_Cu_21 rfl d_Cu_swap_40 ?_
  refine lv_iload_n X.1 X.2.1 d_Cu_swap_43 rfl (lv_at hl 4 rfl) ?_
  refine s_tm (z := k) X hT w h7 k rfl (by omega) d_Cu_swap_44 ?_
  refine s_ts (z := i) (v := K.2.2 k) X hT w h7 i rfl (by omega) d_Cu_swap_45 (fun H locs w => ?_)
  have h5 := (va_up_ne (va_up (va_up O 126 (aQ cs ad 24 (va_up ph i (ph k)))) 126 (aQ cs ad 24 (va_up (va_up ph i (ph k)) k (ph i)))) (aI cs 24 (va_up K.2.2 i (K.2.2 k))) (show (125 : Nat) ≠ 127 by decide)).trans h5
  have h6 := (va_up_ne (va_up (va_up O 126 (aQ cs ad 24 (va_up ph i (ph k)))) 126 (aQ cs ad 24 (va_up (va_up ph i (ph k)) k (ph i)))) (aI cs 24 (va_up K.2.2 i (K.2.2 k))) (show (126 : Nat) ≠ 127 by decide)).trans h6
  have h7 : va_up (va_up (va_up O 126 (aQ cs ad 24 (va_up ph i (ph k)))) 126 (aQ cs ad 24 (va_up (va_up ph i (ph k)) k (ph i)))) 127 (aI cs 24 (va_up K.2.2 i (K.2.2 k))) 127 = aI cs 24 (va_up K.2.2 i (K.2.2 k)) := va_up_self _ _ _
  refine lv_aload_n X.1 X.2.1 d_Cu_swap_46 rfl (lv_at hl 2 rfl) ?_
  refine s_cu X hT w h5 1 (by decide) k_f_Cu_21 rfl d_Cu_swap_47 ?_
  refine lv_iload_n X.1 X.2.1 d_Cu_swap_50 rfl (lv_at hl 4 rfl) ?_
  refine lv_iload X.1 X.2.1 d_Cu_swap_51 (lv_at hl 0 rfl) ?_
  refine s_ts (z := k) (v := K.2.2 i) X hT w h7 k rfl (by omega) d_Cu_swap_53 (fun H locs w => ?_)
  have h5 := (va_up_ne (va_up (va_up (va_up O 126 (aQ cs ad 24 (va_up ph i (ph k)))) 126 (aQ cs ad 24 (va_up (va_up ph i (ph k)) k (ph i)))) 127 (aI cs 24 (va_up K.2.2 i (K.2.2 k)))) (aI cs 24 (va_up (va_up K.2.2 i (K.2.2 k)) k (K.2.2 i))) (show (125 : Nat) ≠ 127 by decide)).trans h5
  have h6 := (va_up_ne (va_up (va_up (va_up O 126 (aQ cs ad 24 (va_up ph i (ph k)))) 126 (aQ cs ad 24 (va_up (va_up ph i (ph k)) k (ph i)))) 127 (aI cs 24 (va_up K.2.2 i (K.2.2 k)))) (aI cs 24 (va_up (va_up K.2.2 i (K.2.2 k)) k (K.2.2 i))) (show (126 : Nat) ≠ 127 by decide)).trans h6
  have h7 : va_up (va_up (va_up (va_up O 126 (aQ cs ad 24 (va_up ph i (ph k)))) 126 (aQ cs ad 24 (va_up (va_up ph i (ph k)) k (ph i)))) 127 (aI cs 24 (va_up K.2.2 i (K.2.2 k)))) 127 (aI cs 24 (va_up (va_up K.2.2 i (K.2.2 k)) k (K.2.2 i))) 127 = aI cs 24 (va_up (va_up K.2.2 i (K.2.2 k)) k (K.2.2 i)) := va_up_self _ _ _
  refine w_vret X hr hlk w ⟨G, _, va_up (va_up ph i (ph k)) k (ph i), rfl, ⟨⟨h5, h6, h7, hU.2.2.2.1, fun j hj => ?_, fun a b ha hb2 e => ?_⟩, fun j hj => ?_, fun j hj => ?_⟩, hW, fun _ _ => rfl, fun j j5 j6 j7 => ?_⟩ d_Cu_swap_54
  · by_cases e1 : j = k
    · rw [e1, va_up_self]; exact hi2
    · rw [va_up_ne _ _ e1]
      by_cases e2 : j = i
      · rw [e2, va_up_self]; exact hk2
      · rw [va_up_ne _ _ e2]; exact hU.2.2.2.2.1 j hj
  · have inj := hU.2.2.2.2.2
    have key : ∀ x, va_up (va_up ph i (ph k)) k (ph i) x = ph (if x = k then i else if x = i then k else x) := by
      intro x
      unfold va_up
      split
      · rfl
      · split <;> rfl
    rw [key a, key b] at e
    have := inj _ _ (by split; omega; split <;> omega) (by split; omega; split <;> omega) e
    split at this <;> split at this <;> (try split at this) <;> (try split at this) <;> omega
  · show G (va_up (va_up ph i (ph k)) k (ph i) j) = va_up (va_up K.2.1 i (K.2.1 k)) k (K.2.1 i) j
    by_cases e1 : j = k
    · rw [e1, va_up_self, va_up_self]; exact hK.2.1 i hi
    · rw [va_up_ne _ _ e1, va_up_ne _ _ e1]
      by_cases e2 : j = i
      · rw [e2, va_up_self, va_up_self]; exact hK.2.1 k hk
      · rw [va_up_ne _ _ e2, va_up_ne _ _ e2]; exact hK.2.1 j hj
  · show okp pr 25 (va_up (va_up K.2.1 i (K.2.1 k)) k (K.2.1 i) j)
    have hj : j < K.1 := hj
    by_cases e1 : j = k
    · rw [e1, va_up_self]; exact hK.2.2 i hb.1
    · rw [va_up_ne _ _ e1]
      by_cases e2 : j = i
      · rw [e2, va_up_self]; exact hK.2.2 k hb.2
      · rw [va_up_ne _ _ e2]; exact hK.2.2 j hj
  · rw [va_up_ne _ _ j7, va_up_ne _ _ j7, va_up_ne _ _ j6, va_up_ne _ _ j6]
/-- the factor at the place k goes down as long as it comes before the one below it -/
def insK : Nat → KS → KS
  | 0, K => K
  | k + 1, K => if bef (K.2.1 (k + 1)) (K.2.1 k) then insK k (swpK K (k + 1) k) else K
def srtK : Nat → Nat → KS → KS
  | _, 0, K => K
  | i, n + 1, K => srtK (i + 1) n (insK i K)
theorem bI_i {b : Bool} : bI b = iI (if b then 1 else 0) := by cases b <;> rfl
theorem insK_n : ∀ (k : Nat) (K : KS), (insK k K).1 = K.1
  | 0, _ => rfl
  | k + 1, K => by
    unfold insK
    split
    · rw [insK_n k]; rfl
    · rfl
section SO
variable {p : Program} {l : Launch} {e : Env} {s : State} {m : MethodId} {args : Array Value} {below : List Frame} {meth : Method} {c : Code} {H : Heap} {locs : List Loc} {Q : State → Prop} {D : va_G} {cs : Nat → ClassId} {A : Nat → Prop} {ad : Nat → Nat} {T : Nat} {O : Nat → va_E} {pr : Int} {inv : Nat → Int}
variable {G : Nat → Nat → Int}
theorem l_Cu_sort_12 (X : Cx p s m args c b_Cu_sort RCu) (hml : c.maxLocals = 3) (hT : 132 ≤ T) (hO0 : arO cs ad pr inv O) {i : Nat} {Z : KS}
    (KK : (∀ (G1 : Nat → Nat → Int) (O1 : Nat → va_E) (ph1 : Nat → Nat) (H : Heap) (locs : List Loc) (ls : Array Slot), Wd D cs A ad T s (mkV cs ad (rV G1) O1) H locs → cuS pr cs ad G1 O1 Z ph1 → WF G1 → (∀ j, j < 37 → G1 j = G j) → cuFr O O1 → lv_has ls 3 [(0, .ref (ad (125))), (1, .int (iI (i)))] → W p l e { frames := 1, cells := 0, slots := 0, locals := 24 } s m args below meth c H locs 0 0 Q (F0 m 50 ls []))) :
    ∀ (k : Nat) (K : KS) (G1 : Nat → Nat → Int) (O1 : Nat → va_E) (ph1 : Nat → Nat) (H : Heap) (locs : List Loc) (ls : Array Slot), k < K.1 → insK k K = Z → Wd D cs A ad T s (mkV cs ad (rV G1) O1) H locs → cuS pr cs ad G1 O1 K ph1 → WF G1 → (∀ j, j < 37 → G1 j = G j) → cuFr O O1 → lv_has ls 3 [(0, .ref (ad (125))), (1, .int (iI (i))), (2, .int (iI (k)))] → W p l e { frames := 1, cells := 0, slots := 0, locals := 24 } s m args below meth c H locs 0 0 Q (F0 m 12 ls []) := by
  intro k
  induction k with
  | zero =>
    intro K G1 O1 ph1 H locs ls hk hz w hK hW hF hc hl
    have hU := hK.1
    have hn := hU.2.2.2.1
    have hz : K = Z := hz
    subst hz
    refine lv_iload_n X.1 X.2.1 d_Cu_sort_12 rfl (lv_at hl 2 rfl) ?_
    refine z_le (a := ((0 : Nat) : Int)) (tgt := 50) X (by omega) d_Cu_sort_13 (by decide) (fun h_13 => ?_) (fun h_13 => ?_)
    · exact KK G1 O1 ph1 H locs ls w hK hW hF hc (lv_sub hl [0, 1] rfl)
    · exact absurd h_13 (by omega)
  | succ k ih =>
    intro K G1 O1 ph1 H locs ls hk hz w hK hW hF hc hl
    have hU := hK.1
    have hn := hU.2.2.2.1
    have hp1 := hU.2.2.2.2.1 (k + 1) (by omega)
    have hp2 := hU.2.2.2.2.1 k (by omega)
    have hg1 := hK.2.1 (k + 1) (by omega)
    have hg2 := hK.2.1 k (by omega)
    unfold insK at hz
    refine lv_iload_n X.1 X.2.1 d_Cu_sort_12 rfl (lv_at hl 2 rfl) ?_
    refine z_le (a := ((k + 1 : Nat) : Int)) (tgt := 50) X (by omega) d_Cu_sort_13 (by decide) (fun h_13 => ?_) (fun h_13 => ?_)
    · exact absurd h_13 (by omega)
    · refine lv_aload_n X.1 X.2.1 d_Cu_sort_16 rfl (lv_at hl 0 rfl) ?_
      refine t_cu X hT w hU 0 (by decide) k_f_Cu_17 rfl d_Cu_sort_17 ?_
      refine lv_iload_n X.1 X.2.1 d_Cu_sort_20 rfl (lv_at hl 2 rfl) ?_
      refine t_fa (z := ((k + 1 : Nat) : Int)) X hT w hU (k + 1) (by omega) (by omega) d_Cu_sort_21 ?_
      refine lv_aload_n X.1 X.2.1 d_Cu_sort_22 rfl (lv_at hl 0 rfl) ?_
      refine t_cu X hT w hU 0 (by decide) k_f_Cu_17 rfl d_Cu_sort_23 ?_
      refine lv_iload_n X.1 X.2.1 d_Cu_sort_26 rfl (lv_at hl 2 rfl) ?_
      refine lv_iconst (v := iI (1)) X.1 X.2.1 d_Cu_sort_27 (by decide) ?_
      refine i_sub (a := ((k + 1 : Nat) : Int)) (b := 1) X d_Cu_sort_28 ?_
      refine t_fa (z := ((k + 1 : Nat) : Int) - 1) X hT w hU (k) (by omega) (by omega) d_Cu_sort_29 ?_
      refine w_cVi (n := 1) (i := 2 * (ph1 (k + 1))) (ci := 0) (As := [.ref (ad (2 * (ph1 k)))]) (rest := []) X w hml hl.1 (c_Po_comesBefore hT (G := G1) (k := ph1 (k + 1)) (q := ph1 k) (by omega) (by omega) (hW _ (by omega)) (hW _ (by omega))) (by omega) (mkV_o (by omega)) rfl k_m_Cu_134 k_im_Po_comesBefore k_se_Po_comesBefore k_i_Po k_co_Po_comesBefore (by decide +kernel) rfl ⟨Nat.le_of_ble_eq_true rfl, Nat.le_of_ble_eq_true rfl⟩ ⟨rfl, rfl⟩ ⟨Nat.zero_le _, Nat.zero_le _⟩ rfl (Nat.le_of_ble_eq_true rfl) d_Cu_sort_30 (fun r' C' H locs hp w => ?_)
      obtain ⟨rfl, rfl⟩ := hp
      rw [hg1, hg2, bI_i]
      refine z_eq (a := if bef (K.2.1 (k + 1)) (K.2.1 k) then 1 else 0) (tgt := 50) X (by split <;> omega) d_Cu_sort_33 (by decide) (fun h_33 => ?_) (fun h_33 => ?_)
      · rw [if_neg (by split at h_33 <;> first | omega | assumption)] at hz
        subst hz
        exact KK G1 O1 ph1 H locs ls w hK hW hF hc (lv_sub hl [0, 1] rfl)
      · refine lv_aload_n X.1 X.2.1 d_Cu_sort_36 rfl (lv_at hl 0 rfl) ?_
        refine lv_iload_n X.1 X.2.1 d_Cu_sort_37 rfl (lv_at hl 2 rfl) ?_
        refine lv_iload_n X.1 X.2.1 d_Cu_sort_38 rfl (lv_at hl 2 rfl) ?_
        refine lv_iconst (v := iI (1)) X.1 X.2.1 d_Cu_sort_39 (by decide) ?_
        refine i_sub (a := ((k + 1 : Nat) : Int)) (b := 1) X d_Cu_sort_40 ?_
        rw [show ((k + 1 : Nat) : Int) - 1 = (k : Int) by omega]
        refine w_cVv (n := 2) (i := 125) (ci := 2) (As := [.int (iI ((k + 1 : Nat))), .int (iI (k))]) (rest := []) X w hml hl.1 (c_Cu_swap hT (G := G1) (hc.ar hO0) hK (i := k + 1) (k := k) (by omega) (by omega) (by omega) (by omega) hW) (by omega) (by rw [mkV_O (by decide)]; exact hU.1) rfl k_m_Cu_138 k_im_Cu_swap k_se_Cu_swap k_i_Cu k_co_Cu_swap (by decide +kernel) rfl ⟨Nat.le_of_ble_eq_true rfl, Nat.le_of_ble_eq_true rfl⟩ ⟨rfl, rfl⟩ ⟨Nat.zero_le _, Nat.zero_le _⟩ rfl (Nat.le_of_ble_eq_true rfl) d_Cu_sort_41 (fun C' H locs hp w => ?_)
        obtain ⟨G2, O2, ph2, rfl, hK2, hW2, hF2, hc2⟩ := hp
        refine i_inc (k := 2) (x := ((k + 1 : Nat) : Int)) (lv' := [(2, .int (iI (((k + 1 : Nat) : Int) + (-1)))), (0, .ref (ad (125))), (1, .int (iI (i)))]) X d_Cu_sort_44 hl rfl (by decide) rfl (fun ls hl => ?_)
        refine lv_goto (tgt := 12) X.1 X.2.1 d_Cu_sort_47 (by decide) ?_
        rw [if_pos (by split at h_33 <;> first | omega | assumption)] at hz
        refine ih (swpK K (k + 1) k) G2 O2 ph2 H locs ls (by show k < K.1; omega) hz w hK2 hW2 (fun j hj => by rw [hF2 j (by omega)]; exact hF j hj) (hc.tr hc2) ?_
        rw [show (k : Int) = ((k + 1 : Nat) : Int) + (-1) by omega]
        exact (lv_sub hl [1, 2, 0] rfl)
theorem l_Cu_sort_2 (X : Cx p s m args c b_Cu_sort RCu) (hml : c.maxLocals = 3) (hT : 132 ≤ T) (hO0 : arO cs ad pr inv O) {Z : KS}
    (KK : (∀ (G1 : Nat → Nat → Int) (O1 : Nat → va_E) (ph1 : Nat → Nat) (H : Heap) (locs : List Loc) (ls : Array Slot), Wd D cs A ad T s (mkV cs ad (rV G1) O1) H locs → cuS pr cs ad G1 O1 Z ph1 → WF G1 → (∀ j, j < 37 → G1 j = G j) → cuFr O O1 → lv_has ls 3 [(0, .ref (ad (125)))] → W p l e { frames := 1, cells := 0, slots := 0, locals := 24 } s m args below meth c H locs 0 0 Q (F0 m 56 ls []))) :
    ∀ (n i : Nat) (K : KS) (G1 : Nat → Nat → Int) (O1 : Nat → va_E) (ph1 : Nat → Nat) (H : Heap) (locs : List Loc) (ls : Array Slot), i + n = K.1 ∨ (n = 0 ∧ K.1 ≤ i) → i < 2147483647 → srtK i n K = Z → Wd D cs A ad T s (mkV cs ad (rV G1) O1) H locs → cuS pr cs ad G1 O1 K ph1 → WF G1 → (∀ j, j < 37 → G1 j = G j) → cuFr O O1 → lv_has ls 3 [(0, .ref (ad (125))), (1, .int (iI (i)))] → W p l e { frames := 1, cells := 0, slots := 0, locals := 24 } s m args below meth c H locs 0 0 Q (F0 m 2 ls []) := by
  intro n
  induction n with
  | zero =>
    intro i K G1 O1 ph1 H locs ls h1 h2 hz w hK hW hF hc hl
    have hU := hK.1
    have hn := hU.2.2.2.1
    have hz : K = Z := hz
    subst hz
    refine lv_iload_n X.1 X.2.1 d_Cu_sort_2 rfl (lv_at hl 1 rfl) ?_
    refine lv_aload_n X.1 X.2.1 d_Cu_sort_3 rfl (lv_at hl 0 rfl) ?_
    refine t_cu X hT w hU 2 (by decide) k_f_Cu_28 rfl d_Cu_sort_4 ?_
    refine i_ge (a := i) (b := (K.1 : Nat)) (tgt := 56) X (by omega) (by omega) d_Cu_sort_7 (by decide) (fun h_7 => ?_) (fun h_7 => ?_)
    · exact KK G1 O1 ph1 H locs ls w hK hW hF hc (lv_sub hl [0] rfl)
    · exact absurd h_7 (by omega)
  | succ n ih =>
    intro i K G1 O1 ph1 H locs ls h1 h2 hz w hK hW hF hc hl
    have hU := hK.1
    have hn := hU.2.2.2.1
    refine lv_iload_n X.1 X.2.1 d_Cu_sort_2 rfl (lv_at hl 1 rfl) ?_
    refine lv_aload_n X.1 X.2.1 d_Cu_sort_3 rfl (lv_at hl 0 rfl) ?_
    refine t_cu X hT w hU 2 (by decide) k_f_Cu_28 rfl d_Cu_sort_4 ?_
    refine i_ge (a := i) (b := (K.1 : Nat)) (tgt := 56) X (by omega) (by omega) d_Cu_sort_7 (by decide) (fun h_7 => ?_) (fun h_7 => ?_)
    · exact absurd h_7 (by omega)
    · refine lv_iload_n X.1 X.2.1 d_Cu_sort_10 rfl (lv_at hl 1 rfl) ?_
      refine lv_istore_n (lv' := [(2, .int (iI (i))), (0, .ref (ad (125))), (1, .int (iI (i)))]) X.1 X.2.1 d_Cu_sort_11 rfl hl (by decide) rfl (fun ls hl => ?_)
      refine l_Cu_sort_12 (G := G) (O := O) (i := i) (Z := insK i K) X hml hT hO0 (fun G2 O2 ph2 H locs ls w hK2 hW2 hF2 hc2 hl => ?_) i K G1 O1 ph1 H locs ls (by omega) rfl w hK hW hF hc (lv_sub hl [1, 2, 0] rfl)
      refine i_inc (k := 1) (x := i) (lv' := [(1, .int (iI (i + 1))), (0, .ref (ad (125)))]) X d_Cu_sort_50 hl rfl (by decide) rfl (fun ls hl => ?_)
      refine lv_goto (tgt := 2) X.1 X.2.1 d_Cu_sort_53 (by decide) ?_
      exact ih (i + 1) (insK i K) G2 O2 ph2 H locs ls (by rw [insK_n]; omega) (by omega) hz w hK2 hW2 hF2 hc2 (lv_sub hl [1, 0] rfl)
end SO
theorem c_Cu_sort {l : Launch} {D : va_G} {cs : Nat → ClassId} {A : Nat → Prop} {ad : Nat → Nat} {T : Nat} (hT : 132 ≤ T) {G : Nat → Nat → Int} {O : Nat → va_E} {pr : Int} {inv : Nat → Int} (hO : arO cs ad pr inv O) {K : KS} {ph : Nat → Nat} (hK : cuS pr cs ad G O K ph) (hW : WF G) : Cv l y_Cu_sort ws_Cu_sort { frames := 1, cells := 0, slots := 0, locals := 24 } D cs A ad T [.ref (ad (125))] (mkV cs ad (rV G) O) (fun C' => ∃ G' O' ph', C' = mkV cs ad (rV G') O' ∧ cuS pr cs ad G' O' (srtK 1 (K.1 - 1) K) ph' ∧ WF G' ∧ (∀ j, j < 37 → G' j = G j) ∧ cuFr O O') := by
  refine w_bodyV (by decide) (Nat.le_of_ble_eq_true rfl) ?_
  intro p e s m below meth c X hr hlk hml w ls hl
  have hl : lv_has ls 3 [(0, .ref (ad (125)))] := hl
  refine lv_iconst (v := iI (1)) X.1 X.2.1 d_Cu_sort_0 (by decide) ?_
  refine lv_istore_n (lv' := [(1, .int (iI (1))), (0, .ref (ad (125)))]) X.1 X.2.1 d_Cu_sort_1 rfl hl (by decide) rfl (fun ls hl => ?_)
  exact l_Cu_sort_2 (G := G) (O := O) (Z := srtK 1 (K.1 - 1) K) X hml hT hO (fun G2 O2 ph2 H locs ls w hK2 hW2 hF2 hc2 hl => w_vret X hr hlk w ⟨G2, O2, ph2, rfl, hK2, hW2, hF2, hc2⟩ d_Cu_sort_56) (K.1 - 1) 1 K G O ph _ _ _ (by omega) (by omega) rfl w hK hW (fun _ _ => rfl) cuFr.rf (lv_sub hl [1, 0] rfl)
