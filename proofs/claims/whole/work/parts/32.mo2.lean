section MT
variable {p : Program} {l : Launch} {e : Env} {s : State} {m : MethodId} {args : Array Value} {below : List Frame} {meth : Method} {c : Code} {H : Heap} {locs : List Loc} {Q : State → Prop} {D : va_G} {cs : Nat → ClassId} {A : Nat → Prop} {ad : Nat → Nat} {T : Nat} {B : Nat → va_E} {th pr fc : Int}
variable {a b : Nat} {M : Nat → Nat → Int}
theorem l_Mo_times_30 (X : Cx p s m args c b_Mo_times RMo) (hT : 213 ≤ T) (hB : moO cs ad th pr fc B) (hpr : 2 ≤ pr ∧ pr ≤ 13) (ha : a < 50 ∧ a ≠ 43) (hb : b < 50 ∧ b ≠ 43) (hA : okp pr 50 (M a)) (hBo : okp pr 50 (M b)) {F : Nat → Int} (hF : okp pr 50 F) {i : Nat} (hi : (i : Int) ≤ dg 300 (M a)) (hd : dg 300 (M a) + dg 300 (M b) < 50)
    (K : ∀ (M1 : Nat → Nat → Int) (H : Heap) (locs : List Loc) (ls : Array Slot), Wd D cs A ad T s (mkR cs M1 B) H locs → M1 43 = addS pr F (M a i) i (M b) → (∀ r, r ≠ 43 → M1 r = M r) → lv_has ls 7 [(0, .ref (ad (132))), (1, .ref (ad (138 + a))), (2, .ref (ad (138 + b))), (3, .int (iI (dg 300 (M a)))), (4, .int (iI (dg 300 (M b)))), (5, .int (iI (i)))] → W p l e { frames := 1, cells := 0, slots := 0, locals := 21 } s m args below meth c H locs 0 0 Q (F0 m 78 ls [])) :
    ∀ (n j : Nat) (M1 : Nat → Nat → Int) (H : Heap) (locs : List Loc) (ls : Array Slot), dg 300 (M b) + 2 ≤ j + n → (j : Int) ≤ dg 300 (M b) + 1 → Wd D cs A ad T s (mkR cs M1 B) H locs → (∀ x, M1 43 x = if i ≤ x ∧ x < i + j then (F x + M a i * M b (x - i)) % pr else F x) → (∀ r, r ≠ 43 → M1 r = M r) → lv_has ls 7 [(0, .ref (ad (132))), (1, .ref (ad (138 + a))), (2, .ref (ad (138 + b))), (3, .int (iI (dg 300 (M a)))), (4, .int (iI (dg 300 (M b)))), (5, .int (iI (i))), (6, .int (iI (j)))] → W p l e { frames := 1, cells := 0, slots := 0, locals := 21 } s m args below meth c H locs 0 0 Q (F0 m 30 ls []) := by
  have hdb := (hBo.ok hpr.2).dlt 300
  have hdb0 := dg_ge 300 (M b)
  intro n
  induction n with
  | zero => intro j M1 H locs ls h1 h2; omega
  | succ n ih =>
    intro j M1 H locs ls h1 h2 w hM1 hM2 hl
    have e1 : M1 a = M a := hM2 a ha.2
    have e2 : M1 b = M b := hM2 b hb.2
    have ea : M1 a i = M a i := by rw [e1]
    have eb : M1 b j = M b j := by rw [e2]
    have ex := hM1 (i + j)
    rw [if_neg (by omega)] at ex
    have r1 := hA.1 i
    have r2 := hBo.1 j
    have r3 := hF.1 (i + j)
    have hm : 0 ≤ M1 a i * M1 b j ∧ M1 a i * M1 b j ≤ 169 := by
      rw [ea, eb]
      exact ⟨Int.mul_nonneg r1.1 r2.1, by have := Int.mul_le_mul (show M a i ≤ 13 by omega) (show M b j ≤ 13 by omega) r2.1 (by decide); omega⟩
    refine lv_iload X.1 X.2.1 d_Mo_times_30 (lv_at hl 6 rfl) ?_
    refine lv_iload X.1 X.2.1 d_Mo_times_32 (lv_at hl 4 rfl) ?_
    refine i_gt (a := j) (b := dg 300 (M b)) (tgt := 78) X (by omega) (by omega) d_Mo_times_34 (by decide) (fun h_34 => ?_) (fun h_34 => ?_)
    · refine K M1 H locs ls w (funext fun x => ?_) hM2 (lv_sub hl [0, 1, 2, 3, 4, 5] rfl)
      rw [hM1 x]
      unfold addS
      by_cases hx : x < i
      · rw [if_neg (by omega), if_pos hx]
      · rw [if_neg hx]
        by_cases hx2 : x < i + j
        · rw [if_pos (by omega)]
        · have r4 := hF.1 x
          rw [if_neg (by omega), (hBo.ok hpr.2).above (N := 300) (by omega) (by omega), Int.mul_zero, Int.add_zero, Int.emod_eq_of_lt r4.1 r4.2]
    · refine lv_aload_n X.1 X.2.1 d_Mo_times_37 rfl (lv_at hl 0 rfl) ?_
      refine m_get X hT w hB 8 (by decide) k_f_Mo_37 rfl d_Mo_times_38 ?_
      refine lv_iload X.1 X.2.1 d_Mo_times_41 (lv_at hl 5 rfl) ?_
      refine lv_iload X.1 X.2.1 d_Mo_times_43 (lv_at hl 6 rfl) ?_
      refine i_add (a := i) (b := j) X d_Mo_times_45 ?_
      refine lv_aload_n X.1 X.2.1 d_Mo_times_46 rfl (lv_at hl 0 rfl) ?_
      refine m_get X hT w hB 8 (by decide) k_f_Mo_37 rfl d_Mo_times_47 ?_
      refine lv_iload X.1 X.2.1 d_Mo_times_50 (lv_at hl 5 rfl) ?_
      refine lv_iload X.1 X.2.1 d_Mo_times_52 (lv_at hl 6 rfl) ?_
      refine i_add (a := i) (b := j) X d_Mo_times_54 ?_
      refine m_ld (r := 43) (z := i + j) X hT w (by omega) (i + j) (by omega) (by omega) d_Mo_times_55 ?_
      refine lv_aload_n X.1 X.2.1 d_Mo_times_56 rfl (lv_at hl 1 rfl) ?_
      refine lv_iload X.1 X.2.1 d_Mo_times_57 (lv_at hl 5 rfl) ?_
      refine m_ld (r := a) (z := i) X hT w (by omega) (i) (by omega) (by omega) d_Mo_times_59 ?_
      refine lv_aload_n X.1 X.2.1 d_Mo_times_60 rfl (lv_at hl 2 rfl) ?_
      refine lv_iload X.1 X.2.1 d_Mo_times_61 (lv_at hl 6 rfl) ?_
      refine m_ld (r := b) (z := j) X hT w (by omega) (j) (by omega) (by omega) d_Mo_times_63 ?_
      refine i_mul (a := M1 a i) (b := M1 b j) X d_Mo_times_64 ?_
      refine i_add (a := M1 43 (i + j)) (b := (M1 a i) * (M1 b j)) X d_Mo_times_65 ?_
      refine lv_aload_n X.1 X.2.1 d_Mo_times_66 rfl (lv_at hl 0 rfl) ?_
      refine m_get X hT w hB 1 (by decide) k_f_Mo_13 rfl d_Mo_times_67 ?_
      refine i_rem (a := (M1 43 (i + j)) + ((M1 a i) * (M1 b j))) (b := pr) X (by omega) (by omega) d_Mo_times_70 ?_
      refine m_st (r := 43) (z := i + j) (v := ((M1 43 (i + j)) + ((M1 a i) * (M1 b j))) % pr) X hT w (by omega) (i + j) (by omega) (by omega) d_Mo_times_71 (fun H locs w => ?_)
      obtain ⟨Mw1, eMw1⟩ : ∃ mm : Nat → Nat → Int, mm = va_up M1 43 (va_up (M1 43) (i + j) (((M1 43 (i + j)) + ((M1 a i) * (M1 b j))) % pr)) := ⟨_, rfl⟩
      rw [← eMw1] at w
      refine i_inc (k := 6) (x := j) (lv' := [(6, .int (iI (j + 1))), (0, .ref (ad (132))), (1, .ref (ad (138 + a))), (2, .ref (ad (138 + b))), (3, .int (iI (dg 300 (M a)))), (4, .int (iI (dg 300 (M b)))), (5, .int (iI (i)))]) X d_Mo_times_72 hl rfl (by decide) rfl (fun ls hl => ?_)
      refine lv_goto (tgt := 30) X.1 X.2.1 d_Mo_times_75 (by decide) ?_
      have hu : ∀ x, Mw1 43 x = if i ≤ x ∧ x < i + (j + 1) then (F x + M a i * M b (x - i)) % pr else F x := by
        intro x
        rw [eMw1, va_up_self]
        by_cases e9 : x = i + j
        · subst e9; rw [va_up_self, ex, ea, eb, if_pos (by omega), show i + j - i = j by omega]
        · rw [va_up_ne _ _ e9, hM1 x]; split <;> split <;> first | rfl | (exfalso; omega)
      exact ih (j + 1) Mw1 H locs ls (by omega) (by omega) w hu (fun r hr9 => by rw [eMw1, va_up_ne _ _ hr9]; exact hM2 r hr9) (lv_sub hl [1, 2, 3, 4, 5, 6, 0] rfl)
theorem l_Mo_times_21 (X : Cx p s m args c b_Mo_times RMo) (hT : 213 ≤ T) (hB : moO cs ad th pr fc B) (hpr : 2 ≤ pr ∧ pr ≤ 13) (ha : a < 50 ∧ a ≠ 43) (hb : b < 50 ∧ b ≠ 43) (hA : okp pr 50 (M a)) (hBo : okp pr 50 (M b)) (hd : dg 300 (M a) + dg 300 (M b) < 50)
    (K : ∀ (M1 : Nat → Nat → Int) (H : Heap) (locs : List Loc) (ls : Array Slot), Wd D cs A ad T s (mkR cs M1 B) H locs → M1 43 = prd pr (M a) (M b) → (∀ r, r ≠ 43 → M1 r = M r) → W p l e { frames := 1, cells := 0, slots := 0, locals := 21 } s m args below meth c H locs 0 0 Q (F0 m 84 ls [])) :
    ∀ (n i : Nat) (M1 : Nat → Nat → Int) (H : Heap) (locs : List Loc) (ls : Array Slot), dg 300 (M a) + 2 ≤ i + n → (i : Int) ≤ dg 300 (M a) + 1 → Wd D cs A ad T s (mkR cs M1 B) H locs → M1 43 = addP pr (fun _ => 0) 1 (M a) (M b) i → (∀ r, r ≠ 43 → M1 r = M r) → lv_has ls 7 [(0, .ref (ad (132))), (1, .ref (ad (138 + a))), (2, .ref (ad (138 + b))), (3, .int (iI (dg 300 (M a)))), (4, .int (iI (dg 300 (M b)))), (5, .int (iI (i)))] → W p l e { frames := 1, cells := 0, slots := 0, locals := 21 } s m args below meth c H locs 0 0 Q (F0 m 21 ls []) := by
  have hdb := (hBo.ok hpr.2).dlt 300
  have hda := (hA.ok hpr.2).dlt 300
  have hda0 := dg_ge 300 (M a)
  have hdb0 := dg_ge 300 (M b)
  intro n
  induction n with
  | zero => intro i M1 H locs ls h1 h2; omega
  | succ n ih =>
    intro i M1 H locs ls h1 h2 w hM1 hM2 hl
    refine lv_iload X.1 X.2.1 d_Mo_times_21 (lv_at hl 5 rfl) ?_
    refine lv_iload_n X.1 X.2.1 d_Mo_times_23 rfl (lv_at hl 3 rfl) ?_
    refine i_gt (a := i) (b := dg 300 (M a)) (tgt := 84) X (by omega) (by omega) d_Mo_times_24 (by decide) (fun h_24 => ?_) (fun h_24 => ?_)
    · refine K M1 H locs ls w ?_ hM2
      rw [hM1]
      unfold prd
      rw [show (dg 300 (M a) + 1).toNat = i by omega]
    · refine lv_iconst (v := iI (0)) X.1 X.2.1 d_Mo_times_27 (by decide) ?_
      refine lv_istore (lv' := [(6, .int (iI (0))), (0, .ref (ad (132))), (1, .ref (ad (138 + a))), (2, .ref (ad (138 + b))), (3, .int (iI (dg 300 (M a)))), (4, .int (iI (dg 300 (M b)))), (5, .int (iI (i)))]) X.1 X.2.1 d_Mo_times_28 hl (by decide) rfl (fun ls hl => ?_)
      refine l_Mo_times_30 (M := M) (F := addP pr (fun _ => 0) 1 (M a) (M b) i) (i := i) X hT hB hpr ha hb hA hBo (addP_ok (by omega) (okp_0 _ (by omega)) i (fun q x hq hx => (hBo.ok hpr.2).above (N := 300) (by omega) (by omega))) (by omega) hd (fun M2 H locs ls w g1 g2 hl => ?_) (dg 300 (M b) + 2).toNat 0 M1 H locs ls (by omega) (by omega) w (fun x => by rw [if_neg (by omega), hM1]) hM2 (lv_sub hl [1, 2, 3, 4, 5, 6, 0] rfl)
      refine i_inc (k := 5) (x := i) (lv' := [(5, .int (iI (i + 1))), (0, .ref (ad (132))), (1, .ref (ad (138 + a))), (2, .ref (ad (138 + b))), (3, .int (iI (dg 300 (M a)))), (4, .int (iI (dg 300 (M b))))]) X d_Mo_times_78 hl rfl (by decide) rfl (fun ls hl => ?_)
      refine lv_goto (tgt := 21) X.1 X.2.1 d_Mo_times_81 (by decide) ?_
      refine ih (i + 1) M2 H locs ls (by omega) (by omega) w ?_ (fun r hr9 => by rw [g2 r hr9]) (lv_sub hl [1, 2, 3, 4, 5, 0] rfl)
      rw [g1]
      show addS pr _ (M a i) i (M b) = addS pr _ (1 * M a i) i (M b)
      rw [Int.one_mul]
end MT
theorem c_Mo_times {l : Launch} {D : va_G} {cs : Nat → ClassId} {A : Nat → Prop} {ad : Nat → Nat} {T : Nat} (hT : 213 ≤ T) {M : Nat → Nat → Int} {B : Nat → va_E} {th pr fc : Int} (hB : moO cs ad th pr fc B) {a b : Nat} (hpr : 2 ≤ pr ∧ pr ≤ 13) (ha : a < 50 ∧ a ≠ 43) (hb : b < 50 ∧ b ≠ 43) (hW : WR M) (hA : okp pr 50 (M a)) (hBo : okp pr 50 (M b)) (hd : dg 300 (M a) + dg 300 (M b) < 50) : Cv l y_Mo_times ws_Mo_times { frames := 1, cells := 0, slots := 0, locals := 21 } D cs A ad T [.ref (ad (132)), .ref (ad (138 + a)), .ref (ad (138 + b))] (mkR cs M B) (fun C' => C' = mkR cs (va_up M 43 (prd pr (M a) (M b))) B) := by
  refine w_bodyV (by decide) (Nat.le_of_ble_eq_true rfl) ?_
  intro p e s m below meth c X hr hlk hml w ls hl
  have hl : lv_has ls 7 [(0, .ref (ad (132))), (1, .ref (ad (138 + a))), (2, .ref (ad (138 + b)))] := hl
  have hdb0 := dg_ge 300 (M b)
  have hda0 := dg_ge 300 (M a)
  refine lv_aload_n X.1 X.2.1 d_Mo_times_0 rfl (lv_at hl 0 rfl) ?_
  refine m_get X hT w hB 8 (by decide) k_f_Mo_37 rfl d_Mo_times_1 ?_
  refine w_cSv (n := 1) (As := [.ref (ad (138 + 43))]) (rest := []) X w hml hl.1 (c_Mo_clear hT (M := M) (B := B) (a := 43) (by omega) hW) k_m_Mo_69 k_st_Mo_clear k_i_Mo k_co_Mo_clear (by decide +kernel) rfl ⟨Nat.le_of_ble_eq_true rfl, Nat.le_of_ble_eq_true rfl⟩ ⟨rfl, rfl⟩ ⟨Nat.zero_le _, Nat.zero_le _⟩ rfl (Nat.le_of_ble_eq_true rfl) d_Mo_times_4 (fun C' H locs hp w => ?_)
  subst hp
  obtain ⟨Mw1, eMw1⟩ : ∃ mm : Nat → Nat → Int, mm = va_up M 43 (fun _ => 0) := ⟨_, rfl⟩
  rw [← eMw1] at w
  have fa : Mw1 a = M a := by rw [eMw1, va_up_ne _ _ ha.2]
  have fb : Mw1 b = M b := by rw [eMw1, va_up_ne _ _ hb.2]
  refine lv_aload_n X.1 X.2.1 d_Mo_times_7 rfl (lv_at hl 1 rfl) ?_
  refine w_cSi (n := 1) (As := [.ref (ad (138 + a))]) (rest := []) X w hml hl.1 (c_Mo_degree hT (M := Mw1) (B := B) (a := a) ha.1 (by rw [fa]; exact hA.ok hpr.2)) k_m_Mo_80 k_st_Mo_degree k_i_Mo k_co_Mo_degree (by decide +kernel) rfl ⟨Nat.le_of_ble_eq_true rfl, Nat.le_of_ble_eq_true rfl⟩ ⟨rfl, rfl⟩ ⟨Nat.zero_le _, Nat.zero_le _⟩ rfl (Nat.le_of_ble_eq_true rfl) d_Mo_times_8 (fun r' C' H locs hp w => ?_)
  obtain ⟨rfl, rfl⟩ := hp
  rw [fa]
  refine lv_istore_n (lv' := [(3, .int (iI (dg 300 (M a)))), (0, .ref (ad (132))), (1, .ref (ad (138 + a))), (2, .ref (ad (138 + b)))]) X.1 X.2.1 d_Mo_times_11 rfl hl (by decide) rfl (fun ls hl => ?_)
  refine lv_aload_n X.1 X.2.1 d_Mo_times_12 rfl (lv_at hl 3 rfl) ?_
  refine w_cSi (n := 1) (As := [.ref (ad (138 + b))]) (rest := []) X w hml hl.1 (c_Mo_degree hT (M := Mw1) (B := B) (a := b) hb.1 (by rw [fb]; exact hBo.ok hpr.2)) k_m_Mo_80 k_st_Mo_degree k_i_Mo k_co_Mo_degree (by decide +kernel) rfl ⟨Nat.le_of_ble_eq_true rfl, Nat.le_of_ble_eq_true rfl⟩ ⟨rfl, rfl⟩ ⟨Nat.zero_le _, Nat.zero_le _⟩ rfl (Nat.le_of_ble_eq_true rfl) d_Mo_times_13 (fun r' C' H locs hp w => ?_)
  obtain ⟨rfl, rfl⟩ := hp
  rw [fb]
  refine lv_istore (lv' := [(4, .int (iI (dg 300 (M b)))), (3, .int (iI (dg 300 (M a)))), (0, .ref (ad (132))), (1, .ref (ad (138 + a))), (2, .ref (ad (138 + b)))]) X.1 X.2.1 d_Mo_times_16 hl (by decide) rfl (fun ls hl => ?_)
  refine lv_iconst (v := iI (0)) X.1 X.2.1 d_Mo_times_18 (by decide) ?_
  refine lv_istore (lv' := [(5, .int (iI (0))), (4, .int (iI (dg 300 (M b)))), (3, .int (iI (dg 300 (M a)))), (0, .ref (ad (132))), (1, .ref (ad (138 + a))), (2, .ref (ad (138 + b)))]) X.1 X.2.1 d_Mo_times_19 hl (by decide) rfl (fun ls hl => ?_)
  refine l_Mo_times_21 (M := M) (a := a) (b := b) X hT hB hpr ha hb hA hBo hd (fun M2 H locs ls w g1 g2 => ?_) (dg 300 (M a) + 2).toNat 0 Mw1 _ _ _ (by omega) (by omega) w (by rw [eMw1, va_up_self]; rfl) (fun r hr9 => by rw [eMw1, va_up_ne _ _ hr9]) (lv_sub hl [3, 4, 5, 2, 1, 0] rfl)
  refine w_vret X hr hlk w ?_ d_Mo_times_84
  congr 1
  funext r
  by_cases e9 : r = 43
  · rw [e9, va_up_self, g1]
  · rw [va_up_ne _ _ e9, g2 r e9]
theorem sub_emod_fix {r q b pr : Int} : (r - q * b) % pr = (r + (pr - q) * b) % pr := by
  have h : r + (pr - q) * b = r - q * b + pr * b := by grind
  rw [h, Int.add_mul_emod_self_left]
section MD
variable {p : Program} {l : Launch} {e : Env} {s : State} {m : MethodId} {args : Array Value} {below : List Frame} {meth : Method} {c : Code} {H : Heap} {locs : List Loc} {Q : State → Prop} {D : va_G} {cs : Nat → ClassId} {A : Nat → Prop} {ad : Nat → Nat} {T : Nat} {B : Nat → va_E} {th pr fc : Int}
variable {b : Nat} {M : Nat → Nat → Int}
theorem l_Mo_divided_72 (X : Cx p s m args c b_Mo_divided RMo) (hml : c.maxLocals = 8) (hT : 213 ≤ T) (hB : moO cs ad th pr fc B) (hpr : 2 ≤ pr ∧ pr ≤ 13) (hb : b < 50 ∧ b ≠ 41 ∧ b ≠ 42) (hBo : okp pr 50 (M b)) {F : Nat → Int} (hF : okp pr 50 F) {e0 sh : Nat} (he : dg 300 (M b) = e0) (hsh : e0 + sh < 50) {u q : Int} (hq : 0 ≤ q ∧ q < pr)
    (K : ∀ (M1 : Nat → Nat → Int) (H : Heap) (locs : List Loc) (ls : Array Slot), Wd D cs A ad T s (mkR cs M1 B) H locs → M1 42 = addS pr F (pr - q) sh (M b) → (∀ r, r ≠ 42 → M1 r = M r) → lv_has ls 8 [(0, .ref (ad (132))), (2, .ref (ad (138 + b))), (3, .int (iI (e0))), (4, .int (iI (u))), (5, .int (iI ((e0 + sh : Nat))))] → W p l e { frames := 1, cells := 0, slots := 0, locals := 22 } s m args below meth c H locs 0 0 Q (F0 m 120 ls [])) :
    ∀ (n i : Nat) (M1 : Nat → Nat → Int) (H : Heap) (locs : List Loc) (ls : Array Slot), i + n = e0 + 1 → Wd D cs A ad T s (mkR cs M1 B) H locs → (∀ x, M1 42 x = if sh ≤ x ∧ x < sh + i then (F x + (pr - q) * M b (x - sh)) % pr else F x) → (∀ r, r ≠ 42 → M1 r = M r) → lv_has ls 8 [(0, .ref (ad (132))), (2, .ref (ad (138 + b))), (3, .int (iI (e0))), (4, .int (iI (u))), (5, .int (iI ((e0 + sh : Nat)))), (6, .int (iI (q))), (7, .int (iI (i)))] → W p l e { frames := 1, cells := 0, slots := 0, locals := 22 } s m args below meth c H locs 0 0 Q (F0 m 72 ls []) := by
  intro n
  induction n with
  | zero =>
    intro i M1 H locs ls h1 w hM1 hM2 hl
    refine lv_iload X.1 X.2.1 d_Mo_divided_72 (lv_at hl 6 rfl) ?_
    refine lv_iload_n X.1 X.2.1 d_Mo_divided_74 rfl (lv_at hl 2 rfl) ?_
    refine i_gt (a := i) (b := e0) (tgt := 120) X (by omega) (by omega) d_Mo_divided_75 (by decide) (fun h_75 => ?_) (fun h_75 => ?_)
    · refine K M1 H locs ls w (funext fun x => ?_) hM2 (lv_sub hl [0, 1, 2, 3, 4] rfl)
      rw [hM1 x]
      unfold addS
      by_cases hx : x < sh
      · rw [if_neg (by omega), if_pos hx]
      · rw [if_neg hx]
        by_cases hx2 : x < sh + i
        · rw [if_pos (by omega)]
        · have r4 := hF.1 x
          rw [if_neg (by omega), (hBo.ok hpr.2).above (N := 300) (by omega) (by omega), Int.mul_zero, Int.add_zero, Int.emod_eq_of_lt r4.1 r4.2]
    · exact absurd h_75 (by omega)
  | succ n ih =>
    intro i M1 H locs ls h1 w hM1 hM2 hl
    have e2 : M1 b = M b := hM2 b hb.2.2
    have eb : M1 b i = M b i := by rw [e2]
    have ex := hM1 (sh + i)
    rw [if_neg (by omega)] at ex
    have r2 := hBo.1 i
    have r3 := hF.1 (sh + i)
    have hm : 0 ≤ q * M1 b i ∧ q * M1 b i ≤ 169 := by
      rw [eb]
      exact ⟨Int.mul_nonneg hq.1 r2.1, by have := Int.mul_le_mul (show q ≤ 13 by omega) (show M b i ≤ 13 by omega) r2.1 (by decide); omega⟩
    refine lv_iload X.1 X.2.1 d_Mo_divided_72 (lv_at hl 6 rfl) ?_
    refine lv_iload_n X.1 X.2.1 d_Mo_divided_74 rfl (lv_at hl 2 rfl) ?_
    refine i_gt (a := i) (b := e0) (tgt := 120) X (by omega) (by omega) d_Mo_divided_75 (by decide) (fun h_75 => ?_) (fun h_75 => ?_)
    · exact absurd h_75 (by omega)
    · refine lv_aload_n X.1 X.2.1 d_Mo_divided_78 rfl (lv_at hl 0 rfl) ?_
      refine m_get X hT w hB 7 (by decide) k_f_Mo_34 rfl d_Mo_divided_79 ?_
      refine lv_iload X.1 X.2.1 d_Mo_divided_82 (lv_at hl 4 rfl) ?_
      refine lv_iload_n X.1 X.2.1 d_Mo_divided_84 rfl (lv_at hl 2 rfl) ?_
      refine i_sub (a := (e0 + sh : Nat)) (b := e0) X d_Mo_divided_85 ?_
      refine lv_iload X.1 X.2.1 d_Mo_divided_86 (lv_at hl 6 rfl) ?_
      refine i_add (a := (e0 + sh : Nat) - e0) (b := i) X d_Mo_divided_88 ?_
      refine lv_aload_n X.1 X.2.1 d_Mo_divided_89 rfl (lv_at hl 0 rfl) ?_
      refine lv_aload_n X.1 X.2.1 d_Mo_divided_90 rfl (lv_at hl 0 rfl) ?_
      refine m_get X hT w hB 7 (by decide) k_f_Mo_34 rfl d_Mo_divided_91 ?_
      refine lv_iload X.1 X.2.1 d_Mo_divided_94 (lv_at hl 4 rfl) ?_
      refine lv_iload_n X.1 X.2.1 d_Mo_divided_96 rfl (lv_at hl 2 rfl) ?_
      refine i_sub (a := (e0 + sh : Nat)) (b := e0) X d_Mo_divided_97 ?_
      refine lv_iload X.1 X.2.1 d_Mo_divided_98 (lv_at hl 6 rfl) ?_
      refine i_add (a := (e0 + sh : Nat) - e0) (b := i) X d_Mo_divided_100 ?_
      refine m_ld (r := 42) (z := ((e0 + sh : Nat) - e0) + i) X hT w (by omega) (sh + i) (by omega) (by omega) d_Mo_divided_101 ?_
      refine lv_iload X.1 X.2.1 d_Mo_divided_102 (lv_at hl 5 rfl) ?_
      refine lv_aload_n X.1 X.2.1 d_Mo_divided_104 rfl (lv_at hl 1 rfl) ?_
      refine lv_iload X.1 X.2.1 d_Mo_divided_105 (lv_at hl 6 rfl) ?_
      refine m_ld (r := b) (z := i) X hT w (by omega) (i) (by omega) (by omega) d_Mo_divided_107 ?_
      refine i_mul (a := q) (b := M1 b i) X d_Mo_divided_108 ?_
      refine i_sub (a := M1 42 (sh + i)) (b := q * (M1 b i)) X d_Mo_divided_109 ?_
      refine w_cVi (n := 1) (i := 132) (ci := 5) (As := [.int (iI ((M1 42 (sh + i)) - (q * (M1 b i))))]) (rest := [.int (iI (((e0 + sh : Nat) - e0) + i)), .ref (ad (138 + 42))]) X w hml hl.1 (c_Mo_inField hT (M := M1) hB (v := M1 42 (sh + i) - (q * M1 b i)) (by omega) hpr) (by omega) (by rw [mkR_B (by decide)]; exact hB.1) rfl k_m_Mo_77 k_im_Mo_inField k_se_Mo_inField k_i_Mo k_co_Mo_inField (by decide +kernel) rfl ⟨Nat.le_of_ble_eq_true rfl, Nat.le_of_ble_eq_true rfl⟩ ⟨rfl, rfl⟩ ⟨Nat.zero_le _, Nat.zero_le _⟩ rfl (Nat.le_of_ble_eq_true rfl) d_Mo_divided_110 (fun r' C' H locs hp w => ?_)
      obtain ⟨rfl, rfl⟩ := hp
      refine m_st (r := 42) (z := ((e0 + sh : Nat) - e0) + i) (v := (M1 42 (sh + i) - (q * M1 b i)) % pr) X hT w (by omega) (sh + i) (by omega) (by omega) d_Mo_divided_113 (fun H locs w => ?_)
      obtain ⟨Mw1, eMw1⟩ : ∃ mm : Nat → Nat → Int, mm = va_up M1 42 (va_up (M1 42) (sh + i) ((M1 42 (sh + i) - (q * M1 b i)) % pr)) := ⟨_, rfl⟩
      rw [← eMw1] at w
      refine i_inc (k := 6) (x := i) (lv' := [(7, .int (iI (i + 1))), (0, .ref (ad (132))), (2, .ref (ad (138 + b))), (3, .int (iI (e0))), (4, .int (iI (u))), (5, .int (iI ((e0 + sh : Nat)))), (6, .int (iI (q)))]) X d_Mo_divided_114 hl rfl (by decide) rfl (fun ls hl => ?_)
      refine lv_goto (tgt := 72) X.1 X.2.1 d_Mo_divided_117 (by decide) ?_
      have hu : ∀ x, Mw1 42 x = if sh ≤ x ∧ x < sh + (i + 1) then (F x + (pr - q) * M b (x - sh)) % pr else F x := by
        intro x
        rw [eMw1, va_up_self]
        by_cases e9 : x = sh + i
        · subst e9; rw [va_up_self, ex, eb, if_pos (by omega), show sh + i - sh = i by omega]; exact sub_emod_fix
        · rw [va_up_ne _ _ e9, hM1 x]; split <;> split <;> first | rfl | (exfalso; omega)
      exact ih (i + 1) Mw1 H locs ls (by omega) w hu (fun r hr9 => by rw [eMw1, va_up_ne _ _ hr9]; exact hM2 r hr9) (lv_sub hl [1, 2, 3, 4, 5, 6, 0] rfl)
theorem l_Mo_divided_35 (X : Cx p s m args c b_Mo_divided RMo) (hml : c.maxLocals = 8) (hT : 213 ≤ T) (hB : moO cs ad th pr fc B) (hpr : 2 ≤ pr ∧ pr ≤ 13) (hb : b < 50 ∧ b ≠ 41 ∧ b ≠ 42) (hBo : okp pr 50 (M b)) {e0 : Nat} (he : dg 300 (M b) = e0) {u : Int} (hu : 0 ≤ u ∧ u ≤ 13) {Z : P2}
    (K : ∀ (M1 : Nat → Nat → Int) (H : Heap) (locs : List Loc) (ls : Array Slot), Wd D cs A ad T s (mkR cs M1 B) H locs → M1 42 = Z.1 → M1 41 = Z.2 → (∀ r, r ≠ 41 → r ≠ 42 → M1 r = M r) → W p l e { frames := 1, cells := 0, slots := 0, locals := 22 } s m args below meth c H locs 0 0 Q (F0 m 126 ls [])) :
    ∀ (n : Nat) (M1 : Nat → Nat → Int) (H : Heap) (locs : List Loc) (ls : Array Slot), e0 + n ≤ 50 → Wd D cs A ad T s (mkR cs M1 B) H locs → okp pr 50 (M1 42) → (∀ x, x < n → M1 41 x = 0) → divL pr u (M b) e0 n (M1 42, M1 41) = Z → (∀ r, r ≠ 41 → r ≠ 42 → M1 r = M r) → lv_has ls 8 [(0, .ref (ad (132))), (2, .ref (ad (138 + b))), (3, .int (iI (e0))), (4, .int (iI (u))), (5, .int (iI (((e0 + n : Nat) : Int) - 1)))] → W p l e { frames := 1, cells := 0, slots := 0, locals := 22 } s m args below meth c H locs 0 0 Q (F0 m 35 ls []) := by
  intro n
  induction n with
  | zero =>
    intro M1 H locs ls h1 w h42 h41 hz hM2 hl
    have hz : (M1 42, M1 41) = Z := hz
    subst hz
    refine lv_iload X.1 X.2.1 d_Mo_divided_35 (lv_at hl 4 rfl) ?_
    refine lv_iload_n X.1 X.2.1 d_Mo_divided_37 rfl (lv_at hl 2 rfl) ?_
    refine i_lt (a := ((e0 + 0 : Nat) : Int) - 1) (b := e0) (tgt := 126) X (by omega) (by omega) d_Mo_divided_38 (by decide) (fun h_38 => ?_) (fun h_38 => ?_)
    · exact K M1 H locs ls w rfl rfl hM2
    · exact absurd h_38 (by omega)
  | succ n ih =>
    intro M1 H locs ls h1 w h42 h41 hz hM2 hl
    have r1 := h42.1 (n + e0)
    have hm : 0 ≤ M1 42 (n + e0) * u ∧ M1 42 (n + e0) * u ≤ 169 := ⟨Int.mul_nonneg r1.1 hu.1, by have := Int.mul_le_mul (show M1 42 (n + e0) ≤ 13 by omega) hu.2 hu.1 (by decide); omega⟩
    obtain ⟨g, hg⟩ : ∃ g : Int, g = M1 42 (n + e0) * u % pr := ⟨_, rfl⟩
    have hgr : 0 ≤ g ∧ g < pr := by rw [hg]; exact ⟨Int.emod_nonneg _ (by omega), Int.emod_lt_of_pos _ (by omega)⟩
    have hz : divL pr u (M b) e0 n (divS pr u (M b) e0 (M1 42, M1 41) n) = Z := hz
    have hS : divS pr u (M b) e0 (M1 42, M1 41) n = (addS pr (M1 42) (pr - g) n (M b), va_up (M1 41) n g) := by
      unfold divS
      rw [← hg]
      split
      · next h0 =>
        rw [h0, Int.sub_zero]
        refine Prod.ext ?_ ?_
        · funext x
          show M1 42 x = addS pr (M1 42) pr n (M b) x
          have r4 := h42.1 x
          unfold addS
          split
          · rfl
          · rw [Int.add_mul_emod_self_left, Int.emod_eq_of_lt r4.1 r4.2]
        · show M1 41 = va_up (M1 41) n 0
          rw [← h41 n (by omega), va_id]
      · rfl
    rw [hS] at hz
    refine lv_iload X.1 X.2.1 d_Mo_divided_35 (lv_at hl 4 rfl) ?_
    refine lv_iload_n X.1 X.2.1 d_Mo_divided_37 rfl (lv_at hl 2 rfl) ?_
    refine i_lt (a := ((e0 + (n + 1) : Nat) : Int) - 1) (b := e0) (tgt := 126) X (by omega) (by omega) d_Mo_divided_38 (by decide) (fun h_38 => ?_) (fun h_38 => ?_)
    · exact absurd h_38 (by omega)
    · refine lv_aload_n X.1 X.2.1 d_Mo_divided_41 rfl (lv_at hl 0 rfl) ?_
      refine m_get X hT w hB 7 (by decide) k_f_Mo_34 rfl d_Mo_divided_42 ?_
      refine lv_iload X.1 X.2.1 d_Mo_divided_45 (lv_at hl 4 rfl) ?_
      refine m_ld (r := 42) (z := ((e0 + (n + 1) : Nat) : Int) - 1) X hT w (by omega) (n + e0) (by omega) (by omega) d_Mo_divided_47 ?_
      refine lv_iload X.1 X.2.1 d_Mo_divided_48 (lv_at hl 3 rfl) ?_
      refine i_mul (a := M1 42 (n + e0)) (b := u) X d_Mo_divided_50 ?_
      refine lv_aload_n X.1 X.2.1 d_Mo_divided_51 rfl (lv_at hl 0 rfl) ?_
      refine m_get X hT w hB 1 (by decide) k_f_Mo_13 rfl d_Mo_divided_52 ?_
      refine i_rem (a := (M1 42 (n + e0)) * u) (b := pr) X (by omega) (by omega) d_Mo_divided_55 ?_
      rw [← hg]
      refine lv_istore (lv' := [(6, .int (iI (g))), (0, .ref (ad (132))), (2, .ref (ad (138 + b))), (3, .int (iI (e0))), (4, .int (iI (u))), (5, .int (iI (((e0 + (n + 1) : Nat) : Int) - 1)))]) X.1 X.2.1 d_Mo_divided_56 hl (by decide) rfl (fun ls hl => ?_)
      refine lv_aload_n X.1 X.2.1 d_Mo_divided_58 rfl (lv_at hl 1 rfl) ?_
      refine m_get X hT w hB 6 (by decide) k_f_Mo_31 rfl d_Mo_divided_59 ?_
      refine lv_iload X.1 X.2.1 d_Mo_divided_62 (lv_at hl 5 rfl) ?_
      refine lv_iload_n X.1 X.2.1 d_Mo_divided_64 rfl (lv_at hl 3 rfl) ?_
      refine i_sub (a := ((e0 + (n + 1) : Nat) : Int) - 1) (b := e0) X d_Mo_divided_65 ?_
      refine lv_iload X.1 X.2.1 d_Mo_divided_66 (lv_at hl 0 rfl) ?_
      refine m_st (r := 41) (z := (((e0 + (n + 1) : Nat) : Int) - 1) - e0) (v := g) X hT w (by omega) (n) (by omega) (by omega) d_Mo_divided_68 (fun H locs w => ?_)
      obtain ⟨Mw1, eMw1⟩ : ∃ mm : Nat → Nat → Int, mm = va_up M1 41 (va_up (M1 41) n (g)) := ⟨_, rfl⟩
      rw [← eMw1] at w
      refine lv_iconst (v := iI (0)) X.1 X.2.1 d_Mo_divided_69 (by decide) ?_
      refine lv_istore (lv' := [(7, .int (iI (0))), (6, .int (iI (g))), (0, .ref (ad (132))), (2, .ref (ad (138 + b))), (3, .int (iI (e0))), (4, .int (iI (u))), (5, .int (iI (((e0 + (n + 1) : Nat) : Int) - 1)))]) X.1 X.2.1 d_Mo_divided_70 hl (by decide) rfl (fun ls hl => ?_)
      have f42 : Mw1 42 = M1 42 := by rw [eMw1, va_up_ne _ _ (by omega)]
      have fbb : Mw1 b = M b := by rw [eMw1, va_up_ne _ _ hb.2.1]; exact hM2 b hb.2.1 hb.2.2
      refine l_Mo_divided_72 (M := Mw1) (b := b) (F := M1 42) (e0 := e0) (sh := n) (u := u) (q := g) X hml hT hB hpr hb (by rw [fbb]; exact hBo) h42 (by rw [fbb]; exact he) (by omega) hgr (fun M3 H locs ls w g1 g2 hl => ?_) (e0 + 1) 0 Mw1 H locs ls (by omega) w (fun x => by rw [if_neg (by omega), f42]) (fun _ _ => rfl) (by rw [show ((e0 + n : Nat) : Int) = ((e0 + (n + 1) : Nat) : Int) - 1 by omega]; exact (lv_sub hl [2, 3, 4, 5, 6, 1, 0] rfl))
      rw [fbb] at g1
      refine i_inc (k := 4) (x := (e0 + n : Nat)) (lv' := [(5, .int (iI ((e0 + n : Nat) + (-1)))), (0, .ref (ad (132))), (2, .ref (ad (138 + b))), (3, .int (iI (e0))), (4, .int (iI (u)))]) X d_Mo_divided_120 hl rfl (by decide) rfl (fun ls hl => ?_)
      refine lv_goto (tgt := 35) X.1 X.2.1 d_Mo_divided_123 (by decide) ?_
      refine ih M3 H locs ls (by omega) w (by rw [g1]; exact addS_ok (by omega) h42 (fun x hx => (hBo.ok hpr.2).above (N := 300) (by omega) (by omega))) (fun x hx => ?_) ?_ (fun r h8 h9 => by rw [g2 r h9, eMw1, va_up_ne _ _ h8]; exact hM2 r h8 h9) ?_
      · rw [g2 41 (by omega), eMw1, va_up_self, va_up_ne _ _ (by omega)]; exact h41 x (by omega)
      · rw [g1, g2 41 (by omega), eMw1, va_up_self]; exact hz
      · rw [show ((e0 + n : Nat) : Int) - 1 = ((e0 + n : Nat) : Int) + (-1) by omega]; exact (lv_sub hl [1, 2, 3, 4, 0] rfl)
end MD
theorem c_Mo_divided {l : Launch} {D : va_G} {cs : Nat → ClassId} {A : Nat → Prop} {ad : Nat → Nat} {T : Nat} (hT : 213 ≤ T) {M : Nat → Nat → Int} {B : Nat → va_E} {th pr fc : Int} (hB : moO cs ad th pr fc B) {inv : Nat → Int} (hI : invP pr inv) {a b : Nat} (ha : a < 50 ∧ a ≠ 41 ∧ a ≠ 42) (hb : b < 50 ∧ b ≠ 41 ∧ b ≠ 42) (hW : WR M) (hA : okp pr 50 (M a)) (hBo : okp pr 50 (M b)) (hd : 0 ≤ dg 300 (M b)) : Cv l y_Mo_divided ws_Mo_divided { frames := 1, cells := 0, slots := 0, locals := 22 } D cs A ad T [.ref (ad (132)), .ref (ad (138 + a)), .ref (ad (138 + b))] (mkR cs M B) (fun C' => C' = mkR cs (va_up (va_up M 41 (dvm pr inv (M a) (M b)).2) 42 (dvm pr inv (M a) (M b)).1) B) := by
  refine w_bodyV (by decide) (Nat.le_of_ble_eq_true rfl) ?_
  intro p e s m below meth c X hr hlk hml w ls hl
  have hl : lv_has ls 8 [(0, .ref (ad (132))), (1, .ref (ad (138 + a))), (2, .ref (ad (138 + b)))] := hl
  have hpr := hI.1
  have hda0 := dg_ge 300 (M a)
  have hda := (hA.ok hpr.2).dlt 300
  have hdb := (hBo.ok hpr.2).dlt 300
  have hld := hBo.lead hd
  have hiv := hI.inv hld
  obtain ⟨e0, he⟩ := Int.eq_ofNat_of_zero_le hd
  obtain ⟨u, eu⟩ : ∃ u : Int, u = inv (M b (dg 300 (M b)).toNat).toNat := ⟨_, rfl⟩
  rw [← eu] at hiv
  rw [he, show ((e0 : Nat) : Int).toNat = e0 by omega] at hld hiv eu
  refine lv_aload_n X.1 X.2.1 d_Mo_divided_0 rfl (lv_at hl 1 rfl) ?_
  refine lv_aload_n X.1 X.2.1 d_Mo_divided_1 rfl (lv_at hl 0 rfl) ?_
  refine m_get X hT w hB 7 (by decide) k_f_Mo_34 rfl d_Mo_divided_2 ?_
  refine w_cSv (n := 2) (As := [.ref (ad (138 + a)), .ref (ad (138 + 42))]) (rest := []) X w hml hl.1 (c_Mo_copy hT (M := M) (B := B) (a := a) (b := 42) ha.1 (by omega) hW) k_m_Mo_84 k_st_Mo_copy k_i_Mo k_co_Mo_copy (by decide +kernel) rfl ⟨Nat.le_of_ble_eq_true rfl, Nat.le_of_ble_eq_true rfl⟩ ⟨rfl, rfl⟩ ⟨Nat.zero_le _, Nat.zero_le _⟩ rfl (Nat.le_of_ble_eq_true rfl) d_Mo_divided_5 (fun C' H locs hp w => ?_)
  subst hp
  obtain ⟨Mw1, eMw1⟩ : ∃ mm : Nat → Nat → Int, mm = va_up M 42 (M a) := ⟨_, rfl⟩
  rw [← eMw1] at w
  have hW1 : WR Mw1 := by rw [eMw1]; exact hW.up (hA.ok hpr.2)
  refine lv_aload_n X.1 X.2.1 d_Mo_divided_8 rfl (lv_at hl 0 rfl) ?_
  refine m_get X hT w hB 6 (by decide) k_f_Mo_31 rfl d_Mo_divided_9 ?_
  refine w_cSv (n := 1) (As := [.ref (ad (138 + 41))]) (rest := []) X w hml hl.1 (c_Mo_clear hT (M := Mw1) (B := B) (a := 41) (by omega) hW1) k_m_Mo_69 k_st_Mo_clear k_i_Mo k_co_Mo_clear (by decide +kernel) rfl ⟨Nat.le_of_ble_eq_true rfl, Nat.le_of_ble_eq_true rfl⟩ ⟨rfl, rfl⟩ ⟨Nat.zero_le _, Nat.zero_le _⟩ rfl (Nat.le_of_ble_eq_true rfl) d_Mo_divided_12 (fun C' H locs hp w => ?_)
  subst hp
  obtain ⟨Mw2, eMw2⟩ : ∃ mm : Nat → Nat → Int, mm = va_up Mw1 41 (fun _ => 0) := ⟨_, rfl⟩
  rw [← eMw2] at w
  have hFw : ∀ r, r ≠ 41 → r ≠ 42 → Mw2 r = M r := fun r h8 h9 => by rw [eMw2, va_up_ne _ _ h8, eMw1, va_up_ne _ _ h9]
  have fa : Mw2 a = M a := hFw a ha.2.1 ha.2.2
  have fb : Mw2 b = M b := hFw b hb.2.1 hb.2.2
  have f42 : Mw2 42 = M a := by rw [eMw2, va_up_ne _ _ (by omega), eMw1, va_up_self]
  have f41 : Mw2 41 = fun _ => 0 := by rw [eMw2, va_up_self]
  have fbe : Mw2 b e0 = M b e0 := by rw [fb]
  refine lv_aload_n X.1 X.2.1 d_Mo_divided_15 rfl (lv_at hl 2 rfl) ?_
  refine w_cSi (n := 1) (As := [.ref (ad (138 + b))]) (rest := []) X w hml hl.1 (c_Mo_degree hT (M := Mw2) (B := B) (a := b) hb.1 (by rw [fb]; exact hBo.ok hpr.2)) k_m_Mo_80 k_st_Mo_degree k_i_Mo k_co_Mo_degree (by decide +kernel) rfl ⟨Nat.le_of_ble_eq_true rfl, Nat.le_of_ble_eq_true rfl⟩ ⟨rfl, rfl⟩ ⟨Nat.zero_le _, Nat.zero_le _⟩ rfl (Nat.le_of_ble_eq_true rfl) d_Mo_divided_16 (fun r' C' H locs hp w => ?_)
  obtain ⟨rfl, rfl⟩ := hp
  rw [fb, he]
  refine lv_istore_n (lv' := [(3, .int (iI (e0))), (0, .ref (ad (132))), (1, .ref (ad (138 + a))), (2, .ref (ad (138 + b)))]) X.1 X.2.1 d_Mo_divided_19 rfl hl (by decide) rfl (fun ls hl => ?_)
  refine lv_aload_n X.1 X.2.1 d_Mo_divided_20 rfl (lv_at hl 1 rfl) ?_
  refine lv_aload_n X.1 X.2.1 d_Mo_divided_21 rfl (lv_at hl 3 rfl) ?_
  refine lv_iload_n X.1 X.2.1 d_Mo_divided_22 rfl (lv_at hl 0 rfl) ?_
  refine m_ld (r := b) (z := e0) X hT w (by omega) (e0) (by omega) (by omega) d_Mo_divided_23 ?_
  refine w_cVi (n := 1) (i := 132) (ci := 5) (As := [.int (iI (Mw2 b e0))]) (rest := []) X w hml hl.1 (c_Mo_under hT (M := Mw2) hB (v := Mw2 b e0) (iv := u) hpr (by rw [fbe]; exact hld) (by rw [fbe]; exact hiv)) (by omega) (by rw [mkR_B (by decide)]; exact hB.1) rfl k_m_Mo_88 k_im_Mo_under k_se_Mo_under k_i_Mo k_co_Mo_under (by decide +kernel) rfl ⟨Nat.le_of_ble_eq_true rfl, Nat.le_of_ble_eq_true rfl⟩ ⟨rfl, rfl⟩ ⟨Nat.zero_le _, Nat.zero_le _⟩ rfl (Nat.le_of_ble_eq_true rfl) d_Mo_divided_24 (fun r' C' H locs hp w => ?_)
  obtain ⟨rfl, rfl⟩ := hp
  refine lv_istore (lv' := [(4, .int (iI (u))), (3, .int (iI (e0))), (0, .ref (ad (132))), (1, .ref (ad (138 + a))), (2, .ref (ad (138 + b)))]) X.1 X.2.1 d_Mo_divided_27 hl (by decide) rfl (fun ls hl => ?_)
  refine lv_aload_n X.1 X.2.1 d_Mo_divided_29 rfl (lv_at hl 3 rfl) ?_
  refine w_cSi (n := 1) (As := [.ref (ad (138 + a))]) (rest := []) X w hml hl.1 (c_Mo_degree hT (M := Mw2) (B := B) (a := a) ha.1 (by rw [fa]; exact hA.ok hpr.2)) k_m_Mo_80 k_st_Mo_degree k_i_Mo k_co_Mo_degree (by decide +kernel) rfl ⟨Nat.le_of_ble_eq_true rfl, Nat.le_of_ble_eq_true rfl⟩ ⟨rfl, rfl⟩ ⟨Nat.zero_le _, Nat.zero_le _⟩ rfl (Nat.le_of_ble_eq_true rfl) d_Mo_divided_30 (fun r' C' H locs hp w => ?_)
  obtain ⟨rfl, rfl⟩ := hp
  rw [fa]
  refine lv_istore (lv' := [(5, .int (iI (dg 300 (M a)))), (4, .int (iI (u))), (3, .int (iI (e0))), (0, .ref (ad (132))), (1, .ref (ad (138 + a))), (2, .ref (ad (138 + b)))]) X.1 X.2.1 d_Mo_divided_33 hl (by decide) rfl (fun ls hl => ?_)
  by_cases h9 : (e0 : Int) ≤ dg 300 (M a) + 1
  · refine l_Mo_divided_35 (M := Mw2) (b := b) (e0 := e0) (u := u) (Z := dvm pr inv (M a) (M b)) X hml hT hB hpr hb (by rw [fb]; exact hBo) (by rw [fb]; exact he) (by omega) (fun M3 H locs ls w g1 g2 g3 => ?_) (dg 300 (M a) + 1 - e0).toNat Mw2 _ _ _ (by omega) w (by rw [f42]; exact hA) (fun x _ => by rw [f41]) ?_ (fun _ _ _ => rfl) (by rw [show ((e0 + (dg 300 (M a) + 1 - e0).toNat : Nat) : Int) - 1 = dg 300 (M a) by omega]; exact (lv_sub hl [3, 5, 2, 1, 0] rfl))
    · refine w_vret X hr hlk w ?_ d_Mo_divided_126
      congr 1
      funext r
      simp only [va_up]
      by_cases e42 : r = 42
      · rw [if_pos e42, e42, g1]
      · rw [if_neg e42]
        by_cases e41 : r = 41
        · rw [if_pos e41, e41, g2]
        · rw [if_neg e41]; rw [g3 r e41 e42, hFw r e41 e42]
    · rw [f42, f41, fb]
      unfold dvm
      rw [if_neg (by omega), he, show ((e0 : Nat) : Int).toNat = e0 by omega, ← eu, show (dg 300 (M a) - (e0 : Int) + 1).toNat = (dg 300 (M a) + 1 - e0).toNat by omega]
  · refine lv_iload X.1 X.2.1 d_Mo_divided_35 (lv_at hl 0 rfl) ?_
    refine lv_iload_n X.1 X.2.1 d_Mo_divided_37 rfl (lv_at hl 2 rfl) ?_
    refine i_lt (a := dg 300 (M a)) (b := e0) (tgt := 126) X (by omega) (by omega) d_Mo_divided_38 (by decide) (fun h_38 => ?_) (fun h_38 => ?_)
    · have ez : dvm pr inv (M a) (M b) = (M a, fun _ => 0) := by
        unfold dvm
        rw [if_neg (by omega), show (dg 300 (M a) - dg 300 (M b) + 1).toNat = 0 by omega]
        rfl
      refine w_vret X hr hlk w ?_ d_Mo_divided_126
      congr 1
      funext r
      simp only [va_up]
      by_cases e42 : r = 42
      · rw [if_pos e42, e42, f42, ez]
      · rw [if_neg e42]
        by_cases e41 : r = 41
        · rw [if_pos e41, e41, f41, ez]
        · rw [if_neg e41]; exact hFw r e41 e42
    · exact absurd h_38 (by omega)
