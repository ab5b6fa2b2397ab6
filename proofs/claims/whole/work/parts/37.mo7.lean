def samB (F G : Nat → Int) : Nat → Bool
  | 0 => true
  | n + 1 => samB F G n && decide (F n = G n)
theorem samB_T {F G : Nat → Int} : ∀ {n : Nat}, samB F G n = true → ∀ x, x < n → F x = G x
  | 0, _, x, hx => absurd hx (Nat.not_lt_zero x)
  | n + 1, h, x, hx => by
    have h := h
    unfold samB at h
    rw [Bool.and_eq_true, decide_eq_true_iff] at h
    by_cases e : x = n
    · rw [e]; exact h.2
    · exact samB_T h.1 x (by omega)
theorem samB_of {F G : Nat → Int} : ∀ (n : Nat), (∀ x, x < n → F x = G x) → samB F G n = true
  | 0, _ => rfl
  | n + 1, h => by
    unfold samB
    rw [Bool.and_eq_true, decide_eq_true_iff]
    exact ⟨samB_of n (fun x hx => h x (by omega)), h n (by omega)⟩
theorem samB_F {F G : Nat → Int} {n x : Nat} (hx : x < n) (h : F x ≠ G x) : samB F G n = false := by
  cases e : samB F G n with
  | false => rfl
  | true => exact absurd (samB_T e x hx) h
theorem samB_iff {F G : Nat → Int} (hF : ok 50 F) (hG : ok 50 G) : samB F G 50 = true ↔ F = G := by
  constructor
  · intro h
    funext x
    by_cases hx : x < 50
    · exact samB_T h x hx
    · rw [hF.2 x (by omega), hG.2 x (by omega)]
  · intro h; rw [h]; exact samB_of 50 (fun _ _ => rfl)
section MSA
variable {p : Program} {l : Launch} {e : Env} {s : State} {m : MethodId} {args : Array Value} {below : List Frame} {meth : Method} {c : Code} {H : Heap} {locs : List Loc} {Q : State → Prop} {D : va_G} {cs : Nat → ClassId} {A : Nat → Prop} {ad : Nat → Nat} {T : Nat} {B : Nat → va_E} {th pr fc : Int}
variable {a b : Nat} {M : Nat → Nat → Int}
theorem l_Mo_same {post : Int32 → (Nat → va_E) → Prop} (X : Cx p s m args c b_Mo_same RMo) (hr : meth.sig.returnType = some .boolean) (hlk : meth.locks = false) (hT : 213 ≤ T) (ha : a < 50) (hb : b < 50) (hA : ok 50 (M a)) (hBo : ok 50 (M b)) (w : Wd D cs A ad T s (mkR cs M B) H locs) (hp : post (bI (samB (M a) (M b) 50)) (mkR cs M B)) :
    ∀ (n i : Nat) (ls : Array Slot), i + n = 50 → (∀ x, x < i → M a x = M b x) → lv_has ls 3 [(0, .ref (ad (138 + a))), (1, .ref (ad (138 + b))), (2, .int (iI (i)))] → W p l e { frames := 0, cells := 0, slots := 0, locals := 0 } s m args below meth c H locs 0 0 (MQ below (va_Qi post (QW D cs ad T) A) args s 0 0 A) (F0 m 2 ls []) := by
  intro n
  induction n with
  | zero =>
    intro i ls h1 h2 hl
    rw [samB_of 50 (fun x hx => h2 x (by omega))] at hp
    refine lv_iload_n X.1 X.2.1 d_Mo_same_2 rfl (lv_at hl 2 rfl) ?_
    refine lv_bipush (v := iI (50)) X.1 X.2.1 d_Mo_same_3 (by decide) ?_
    refine i_ge (a := i) (b := 50) (tgt := 25) X (by omega) (by omega) d_Mo_same_5 (by decide) (fun h_5 => ?_) (fun h_5 => ?_)
    · refine lv_iconst (v := iI (1)) X.1 X.2.1 d_Mo_same_25 (by decide) ?_
      exact w_zret X hr rfl hlk w hp d_Mo_same_26
    · exact absurd h_5 (by omega)
  | succ n ih =>
    intro i ls h1 h2 hl
    have b1 := hA.1 i
    have b2 := hBo.1 i
    refine lv_iload_n X.1 X.2.1 d_Mo_same_2 rfl (lv_at hl 2 rfl) ?_
    refine lv_bipush (v := iI (50)) X.1 X.2.1 d_Mo_same_3 (by decide) ?_
    refine i_ge (a := i) (b := 50) (tgt := 25) X (by omega) (by omega) d_Mo_same_5 (by decide) (fun h_5 => ?_) (fun h_5 => ?_)
    · exact absurd h_5 (by omega)
    · refine lv_aload_n X.1 X.2.1 d_Mo_same_8 rfl (lv_at hl 0 rfl) ?_
      refine lv_iload_n X.1 X.2.1 d_Mo_same_9 rfl (lv_at hl 2 rfl) ?_
      refine m_ld (r := a) (z := i) X hT w (by omega) (i) (by omega) (by omega) d_Mo_same_10 ?_
      refine lv_aload_n X.1 X.2.1 d_Mo_same_11 rfl (lv_at hl 1 rfl) ?_
      refine lv_iload_n X.1 X.2.1 d_Mo_same_12 rfl (lv_at hl 2 rfl) ?_
      refine m_ld (r := b) (z := i) X hT w (by omega) (i) (by omega) (by omega) d_Mo_same_13 ?_
      refine i_eq (a := M a i) (b := M b i) (tgt := 19) X (by omega) (by omega) d_Mo_same_14 (by decide) (fun h_14 => ?_) (fun h_14 => ?_)
      · refine i_inc (k := 2) (x := i) (lv' := [(2, .int (iI (i + 1))), (0, .ref (ad (138 + a))), (1, .ref (ad (138 + b)))]) X d_Mo_same_19 hl rfl (by decide) rfl (fun ls hl => ?_)
        refine lv_goto (tgt := 2) X.1 X.2.1 d_Mo_same_22 (by decide) ?_
        refine ih (i + 1) ls (by omega) (fun x hx => ?_) (lv_sub hl [1, 2, 0] rfl)
        by_cases e : x = i
        · rw [e]; exact h_14
        · exact h2 x (by omega)
      · refine lv_iconst (v := iI (0)) X.1 X.2.1 d_Mo_same_17 (by decide) ?_
        rw [samB_F (show i < 50 by omega) h_14] at hp
        exact w_zret X hr rfl hlk w hp d_Mo_same_18
end MSA
theorem c_Mo_same {l : Launch} {D : va_G} {cs : Nat → ClassId} {A : Nat → Prop} {ad : Nat → Nat} {T : Nat} (hT : 213 ≤ T) {M : Nat → Nat → Int} {B : Nat → va_E} {a b : Nat} (ha : a < 50) (hb : b < 50) (hA : ok 50 (M a)) (hBo : ok 50 (M b)) : Ci l y_Mo_same ws_Mo_same { frames := 0, cells := 0, slots := 0, locals := 0 } D cs A ad T [.ref (ad (138 + a)), .ref (ad (138 + b))] (mkR cs M B) (fun r C' => r = bI (samB (M a) (M b) 50) ∧ C' = mkR cs M B) := by
  refine w_bodyI (by decide) (Nat.le_of_ble_eq_true rfl) ?_
  intro p e s m below meth c X hr hlk hml w ls hl
  have hl : lv_has ls 3 [(0, .ref (ad (138 + a))), (1, .ref (ad (138 + b)))] := hl
  refine lv_iconst (v := iI (0)) X.1 X.2.1 d_Mo_same_0 (by decide) ?_
  refine lv_istore_n (lv' := [(2, .int (iI (0))), (0, .ref (ad (138 + a))), (1, .ref (ad (138 + b)))]) X.1 X.2.1 d_Mo_same_1 rfl hl (by decide) rfl (fun ls hl => ?_)
  exact l_Mo_same X hr hlk hT ha hb hA hBo w ⟨rfl, rfl⟩ 50 0 ls (by omega) (fun x hx => by omega) (lv_sub hl [1, 2, 0] rfl)
theorem befL_skip {F B : Nat → Int} : ∀ (k n : Nat), (∀ x, n ≤ x → x < n + k → F x = B x) → befL F B (n + k) = befL F B n
  | 0, _, _ => rfl
  | k + 1, n, h => by
    show befL F B ((n + k) + 1) = _
    unfold befL
    rw [if_pos (h (n + k) (by omega) (by omega))]
    have := befL_skip k n (fun x h1 h2 => h x h1 (by omega))
    rw [this]
    cases n <;> rfl
theorem bef_50 {F B : Nat → Int} (hF : ok 50 F) (hB : ok 50 B) (h : dg 300 F = dg 300 B) : bef F B = befL F B 50 := by
  have h1 := hF.dlt 300
  have h2 := dg_ge 300 F
  unfold bef
  rw [if_pos h]
  have := befL_skip (F := F) (B := B) (50 - (dg 300 F + 1).toNat) (dg 300 F + 1).toNat (fun x h3 h4 => by rw [hF.above (N := 300) (by omega) (by omega), hB.above (N := 300) (by omega) (by omega)])
  rw [← this, show (dg 300 F + 1).toNat + (50 - (dg 300 F + 1).toNat) = 50 by omega]
section MBE
variable {p : Program} {l : Launch} {e : Env} {s : State} {m : MethodId} {args : Array Value} {below : List Frame} {meth : Method} {c : Code} {H : Heap} {locs : List Loc} {Q : State → Prop} {D : va_G} {cs : Nat → ClassId} {A : Nat → Prop} {ad : Nat → Nat} {T : Nat} {B : Nat → va_E} {th pr fc : Int}
variable {a b : Nat} {M : Nat → Nat → Int}
theorem l_Mo_before {post : Int32 → (Nat → va_E) → Prop} (X : Cx p s m args c b_Mo_before RMo) (hr : meth.sig.returnType = some .boolean) (hlk : meth.locks = false) (hT : 213 ≤ T) (ha : a < 50) (hb : b < 50) (hA : ok 50 (M a)) (hBo : ok 50 (M b)) (w : Wd D cs A ad T s (mkR cs M B) H locs) (hp : post (bI (befL (M a) (M b) 50)) (mkR cs M B)) :
    ∀ (n : Nat) (ls : Array Slot), n < 50 → befL (M a) (M b) 50 = befL (M a) (M b) (n + 1) → lv_has ls 3 [(0, .ref (ad (138 + a))), (1, .ref (ad (138 + b))), (2, .int (iI (n)))] → W p l e { frames := 1, cells := 0, slots := 0, locals := 21 } s m args below meth c H locs 0 0 (MQ below (va_Qi post (QW D cs ad T) A) args s 0 0 A) (F0 m 31 ls []) := by
  have kk : ∀ (n : Nat) (ls : Array Slot), n < 50 → befL (M a) (M b) 50 = decide (M a n < M b n) → lv_has ls 3 [(0, .ref (ad (138 + a))), (1, .ref (ad (138 + b))), (2, .int (iI (n)))] → W p l e { frames := 1, cells := 0, slots := 0, locals := 21 } s m args below meth c H locs 0 0 (MQ below (va_Qi post (QW D cs ad T) A) args s 0 0 A) (F0 m 50 ls []) := by
    intro n ls hn h9 hl
    have b1 := hA.1 n
    have b2 := hBo.1 n
    refine lv_aload_n X.1 X.2.1 d_Mo_before_50 rfl (lv_at hl 0 rfl) ?_
    refine lv_iload_n X.1 X.2.1 d_Mo_before_51 rfl (lv_at hl 2 rfl) ?_
    refine m_ld (r := a) (z := n) X hT w (by omega) (n) (by omega) (by omega) d_Mo_before_52 ?_
    refine lv_aload_n X.1 X.2.1 d_Mo_before_53 rfl (lv_at hl 1 rfl) ?_
    refine lv_iload_n X.1 X.2.1 d_Mo_before_54 rfl (lv_at hl 2 rfl) ?_
    refine m_ld (r := b) (z := n) X hT w (by omega) (n) (by omega) (by omega) d_Mo_before_55 ?_
    refine i_ge (a := M a n) (b := M b n) (tgt := 63) X (by omega) (by omega) d_Mo_before_56 (by decide) (fun h_56 => ?_) (fun h_56 => ?_)
    · refine lv_iconst (v := iI (0)) X.1 X.2.1 d_Mo_before_63 (by decide) ?_
      rw [h9, decide_eq_false (by omega)] at hp
      exact w_zret X hr rfl hlk w hp d_Mo_before_64
    · refine lv_iconst (v := iI (1)) X.1 X.2.1 d_Mo_before_59 (by decide) ?_
      refine lv_goto (tgt := 64) X.1 X.2.1 d_Mo_before_60 (by decide) ?_
      rw [h9, decide_eq_true (by omega)] at hp
      exact w_zret X hr rfl hlk w hp d_Mo_before_64
  intro n
  induction n with
  | zero =>
    intro ls hn h2 hl
    have h9 : befL (M a) (M b) 50 = decide (M a 0 < M b 0) := by
      rw [h2]
      unfold befL
      split
      · next h => rw [h]; unfold befL; exact (decide_eq_false (by omega)).symm
      · rfl
    refine lv_iload_n X.1 X.2.1 d_Mo_before_31 rfl (lv_at hl 2 rfl) ?_
    refine z_le (a := ((0 : Nat) : Int)) (tgt := 50) X (by omega) d_Mo_before_32 (by decide) (fun h_32 => ?_) (fun h_32 => ?_)
    · exact kk 0 ls (by omega) h9 (lv_sub hl [0, 1, 2] rfl)
    · exact absurd h_32 (by omega)
  | succ n ih =>
    intro ls hn h2 hl
    have b1 := hA.1 (n + 1)
    have b2 := hBo.1 (n + 1)
    refine lv_iload_n X.1 X.2.1 d_Mo_before_31 rfl (lv_at hl 2 rfl) ?_
    refine z_le (a := ((n + 1 : Nat) : Int)) (tgt := 50) X (by omega) d_Mo_before_32 (by decide) (fun h_32 => ?_) (fun h_32 => ?_)
    · exact absurd h_32 (by omega)
    · refine lv_aload_n X.1 X.2.1 d_Mo_before_35 rfl (lv_at hl 0 rfl) ?_
      refine lv_iload_n X.1 X.2.1 d_Mo_before_36 rfl (lv_at hl 2 rfl) ?_
      refine m_ld (r := a) (z := ((n + 1 : Nat) : Int)) X hT w (by omega) (n + 1) (by omega) (by omega) d_Mo_before_37 ?_
      refine lv_aload_n X.1 X.2.1 d_Mo_before_38 rfl (lv_at hl 1 rfl) ?_
      refine lv_iload_n X.1 X.2.1 d_Mo_before_39 rfl (lv_at hl 2 rfl) ?_
      refine m_ld (r := b) (z := ((n + 1 : Nat) : Int)) X hT w (by omega) (n + 1) (by omega) (by omega) d_Mo_before_40 ?_
      refine i_ne (a := M a (n + 1)) (b := M b (n + 1)) (tgt := 50) X (by omega) (by omega) d_Mo_before_41 (by decide) (fun h_41 => ?_) (fun h_41 => ?_)
      · exact kk (n + 1) ls (by omega) (by rw [h2]; unfold befL; rw [if_neg h_41]) (lv_sub hl [0, 1, 2] rfl)
      · refine i_inc (k := 2) (x := ((n + 1 : Nat) : Int)) (lv' := [(2, .int (iI (((n + 1 : Nat) : Int) + (-1)))), (0, .ref (ad (138 + a))), (1, .ref (ad (138 + b)))]) X d_Mo_before_44 hl rfl (by decide) rfl (fun ls hl => ?_)
        refine lv_goto (tgt := 31) X.1 X.2.1 d_Mo_before_47 (by decide) ?_
        refine ih ls (by omega) (by rw [h2]; unfold befL; rw [if_pos h_41]; rfl) ?_
        rw [show (n : Int) = ((n + 1 : Nat) : Int) + (-1) by omega]
        exact (lv_sub hl [1, 2, 0] rfl)
end MBE
theorem c_Mo_before {l : Launch} {D : va_G} {cs : Nat → ClassId} {A : Nat → Prop} {ad : Nat → Nat} {T : Nat} (hT : 213 ≤ T) {M : Nat → Nat → Int} {B : Nat → va_E} {a b : Nat} (ha : a < 50) (hb : b < 50) (hA : ok 50 (M a)) (hBo : ok 50 (M b)) : Ci l y_Mo_before ws_Mo_before { frames := 1, cells := 0, slots := 0, locals := 21 } D cs A ad T [.ref (ad (138 + a)), .ref (ad (138 + b))] (mkR cs M B) (fun r C' => r = bI (bef (M a) (M b)) ∧ C' = mkR cs M B) := by
  refine w_bodyI (by decide) (Nat.le_of_ble_eq_true rfl) ?_
  intro p e s m below meth c X hr hlk hml w ls hl
  have hl : lv_has ls 3 [(0, .ref (ad (138 + a))), (1, .ref (ad (138 + b)))] := hl
  have d1 := hA.dlt 300
  have d2 := hBo.dlt 300
  have d3 := dg_ge 300 (M a)
  have d4 := dg_ge 300 (M b)
  refine lv_aload_n X.1 X.2.1 d_Mo_before_0 rfl (lv_at hl 0 rfl) ?_
  refine w_cSi (n := 1) (As := [.ref (ad (138 + a))]) (rest := []) X w hml hl.1 (c_Mo_degree hT (M := M) (B := B) (a := a) ha hA) k_m_Mo_80 k_st_Mo_degree k_i_Mo k_co_Mo_degree (by decide +kernel) rfl ⟨Nat.le_of_ble_eq_true rfl, Nat.le_of_ble_eq_true rfl⟩ ⟨rfl, rfl⟩ ⟨Nat.zero_le _, Nat.zero_le _⟩ rfl (Nat.le_of_ble_eq_true rfl) d_Mo_before_1 (fun r' C' H locs hp w => ?_)
  obtain ⟨rfl, rfl⟩ := hp
  refine lv_aload_n X.1 X.2.1 d_Mo_before_4 rfl (lv_at hl 1 rfl) ?_
  refine w_cSi (n := 1) (As := [.ref (ad (138 + b))]) (rest := [.int (iI (dg 300 (M a)))]) X w hml hl.1 (c_Mo_degree hT (M := M) (B := B) (a := b) hb hBo) k_m_Mo_80 k_st_Mo_degree k_i_Mo k_co_Mo_degree (by decide +kernel) rfl ⟨Nat.le_of_ble_eq_true rfl, Nat.le_of_ble_eq_true rfl⟩ ⟨rfl, rfl⟩ ⟨Nat.zero_le _, Nat.zero_le _⟩ rfl (Nat.le_of_ble_eq_true rfl) d_Mo_before_5 (fun r' C' H locs hp w => ?_)
  obtain ⟨rfl, rfl⟩ := hp
  refine i_eq (a := dg 300 (M a)) (b := dg 300 (M b)) (tgt := 28) X (by omega) (by omega) d_Mo_before_8 (by decide) (fun h_8 => ?_) (fun h_8 => ?_)
  · refine lv_bipush (v := iI (49)) X.1 X.2.1 d_Mo_before_28 (by decide) ?_
    refine lv_istore_n (lv' := [(2, .int (iI (49))), (0, .ref (ad (138 + a))), (1, .ref (ad (138 + b)))]) X.1 X.2.1 d_Mo_before_30 rfl hl (by decide) rfl (fun ls hl => ?_)
    exact l_Mo_before X hr hlk hT ha hb hA hBo w ⟨by rw [bef_50 hA hBo h_8], rfl⟩ 49 ls (by omega) rfl (lv_sub hl [1, 2, 0] rfl)
  · refine lv_aload_n X.1 X.2.1 d_Mo_before_11 rfl (lv_at hl 0 rfl) ?_
    refine w_cSi (n := 1) (As := [.ref (ad (138 + a))]) (rest := []) X w hml hl.1 (c_Mo_degree hT (M := M) (B := B) (a := a) ha hA) k_m_Mo_80 k_st_Mo_degree k_i_Mo k_co_Mo_degree (by decide +kernel) rfl ⟨Nat.le_of_ble_eq_true rfl, Nat.le_of_ble_eq_true rfl⟩ ⟨rfl, rfl⟩ ⟨Nat.zero_le _, Nat.zero_le _⟩ rfl (Nat.le_of_ble_eq_true rfl) d_Mo_before_12 (fun r' C' H locs hp w => ?_)
    obtain ⟨rfl, rfl⟩ := hp
    refine lv_aload_n X.1 X.2.1 d_Mo_before_15 rfl (lv_at hl 1 rfl) ?_
    refine w_cSi (n := 1) (As := [.ref (ad (138 + b))]) (rest := [.int (iI (dg 300 (M a)))]) X w hml hl.1 (c_Mo_degree hT (M := M) (B := B) (a := b) hb hBo) k_m_Mo_80 k_st_Mo_degree k_i_Mo k_co_Mo_degree (by decide +kernel) rfl ⟨Nat.le_of_ble_eq_true rfl, Nat.le_of_ble_eq_true rfl⟩ ⟨rfl, rfl⟩ ⟨Nat.zero_le _, Nat.zero_le _⟩ rfl (Nat.le_of_ble_eq_true rfl) d_Mo_before_16 (fun r' C' H locs hp w => ?_)
    obtain ⟨rfl, rfl⟩ := hp
    refine i_ge (a := dg 300 (M a)) (b := dg 300 (M b)) (tgt := 26) X (by omega) (by omega) d_Mo_before_19 (by decide) (fun h_19 => ?_) (fun h_19 => ?_)
    · refine lv_iconst (v := iI (0)) X.1 X.2.1 d_Mo_before_26 (by decide) ?_
      have e9 : bef (M a) (M b) = false := by unfold bef; rw [if_neg h_8]; exact decide_eq_false (by omega)
      exact w_zret X hr rfl hlk w ⟨by rw [e9]; rfl, rfl⟩ d_Mo_before_27
    · refine lv_iconst (v := iI (1)) X.1 X.2.1 d_Mo_before_22 (by decide) ?_
      refine lv_goto (tgt := 27) X.1 X.2.1 d_Mo_before_23 (by decide) ?_
      have e9 : bef (M a) (M b) = true := by unfold bef; rw [if_neg h_8]; exact decide_eq_true (by omega)
      exact w_zret X hr rfl hlk w ⟨by rw [e9]; rfl, rfl⟩ d_Mo_before_27
