/-- what join makes of two polynomials -/
def jnR (pr : Int) (inv : Nat → Int) (op : Int) (F G : Nat → Int) : Nat → Int := if op = 0 then (fun x => (F x + G x) % pr) else if op = 1 then (fun x => (F x - G x) % pr) else if op = 2 then prd pr F G else if op = 3 then (dvm pr inv F G).2 else if op = 4 then (dvm pr inv F G).1 else if op = 5 then gcdP pr inv F G else if op = 6 then mon pr inv F else der pr F
theorem gcdL_okR {pr : Int} {inv : Nat → Int} (hI : invP pr inv) : ∀ (n : Nat) {A B : Nat → Int}, okp pr 25 A → okp pr 25 B → okp pr 25 (gcdL pr inv n A B)
  | 0, _, _, hA, _ => hA
  | n + 1, A, B, hA, hB => by
    unfold gcdL
    split
    · exact hA
    · have hpr := hI.1
      have h1 := (hA.ok hpr.2).dlt 300
      have h2 := dg_ge 300 B
      exact gcdL_okR hI n hB (dvm_ok (inv := inv) (M := 26) (by omega) hA hB (by omega) (by omega) hpr.2 (by omega)).1
theorem gcdP_okR {pr : Int} {inv : Nat → Int} (hI : invP pr inv) {A B : Nat → Int} (hA : okp pr 25 A) (hB : okp pr 25 B) : okp pr 25 (gcdP pr inv A B) := mon_ok (by have := hI.1; omega) (gcdL_okR hI 26 hA hB)
theorem jnR_ok {pr : Int} {inv : Nat → Int} (hI : invP pr inv) {op : Int} {F G : Nat → Int} (hF : okp pr 25 F) (hG : okp pr 25 G) (h2 : op = 2 → dg 300 (prd pr F G) ≤ 24) (h3 : 0 ≤ dg 300 G ∨ (op ≠ 3 ∧ op ≠ 4)) : okp pr 25 (jnR pr inv op F G) := by
  have hpr := hI.1
  have ha := (hF.ok hpr.2).dlt 300
  have hb := (hG.ok hpr.2).dlt 300
  have hb0 := dg_ge 300 G
  have hq := dvm_ok (inv := inv) (M := 26) (by omega) hF hG (by omega) (by omega) hpr.2 (by omega)
  have hq3 : op = 3 → okp pr 25 (dvm pr inv F G).2 := fun h => (dvm_ok (inv := inv) (M := 25) (by omega) hF hG (by omega) (by omega) hpr.2 (by omega)).2
  unfold jnR
  split
  · exact ⟨fun x => ⟨Int.emod_nonneg _ (by omega), Int.emod_lt_of_pos _ (by omega)⟩, fun x hx => by show (F x + G x) % pr = 0; rw [hF.2 x hx, hG.2 x hx]; rfl⟩
  · split
    · exact ⟨fun x => ⟨Int.emod_nonneg _ (by omega), Int.emod_lt_of_pos _ (by omega)⟩, fun x hx => by show (F x - G x) % pr = 0; rw [hF.2 x hx, hG.2 x hx]; rfl⟩
    · split
      · next h => have h1 := prd_ok (N := 50) (by omega) hpr.2 hF hG (by omega) (by omega)
                  refine ⟨h1.1, fun x hx => ?_⟩
                  exact (h1.ok hpr.2).above (N := 300) (by omega) (by have := h2 h; omega)
      · split
        · next h => exact hq3 h
        · split
          · exact hq.1
          · split
            · exact gcdP_okR hI hF hG
            · split
              · exact mon_ok (by omega) hF
              · exact ⟨fun x => ⟨Int.emod_nonneg _ (by omega), Int.emod_lt_of_pos _ (by omega)⟩, fun x hx => by show ((x : Int) + 1) * F (x + 1) % pr = 0; rw [hF.2 (x + 1) (by omega), Int.mul_zero]; rfl⟩
section MJO
variable {p : Program} {l : Launch} {e : Env} {s : State} {m : MethodId} {args : Array Value} {below : List Frame} {meth : Method} {c : Code} {H : Heap} {locs : List Loc} {Q : State → Prop} {D : va_G} {cs : Nat → ClassId} {A : Nat → Prop} {ad : Nat → Nat} {T : Nat} {B : Nat → va_E} {th pr fc : Int}
variable {M : Nat → Nat → Int} {inv : Nat → Int} {t : Int} {a b : Nat} {op : Int}
theorem l_Mo_join_358 {post : Int32 → (Nat → va_E) → Prop} (X : Cx p s m args c b_Mo_join RMo) (hr : meth.sig.returnType = some .int) (hlk : meth.locks = false) (hml : c.maxLocals = 8) (hT : 213 ≤ T) (hB : moO cs ad th pr fc B) (hpr : 2 ≤ pr ∧ pr ≤ 13) (ht : 0 ≤ t ∧ t ≤ 15) {Z : Nat → Int} (hZ : okp pr 25 Z) {M1 : Nat → Nat → Int} {ls : Array Slot} (w : Wd D cs A ad T s (mkR cs M1 B) H locs) (h46 : M1 46 = Z) (hW : WR M1) (hF : (∀ r, r < 41 → M1 r = M r)) (hl : lv_has ls 8 [(0, .ref (ad (132))), (1, .int (iI (t)))])
    (hp : ∀ M2, WR M2 → (∀ r, r < 41 → M2 r = va_up M t.toNat Z r) → post (iI (dg 300 Z)) (mkR cs M2 B)) : W p l e { frames := 3, cells := 0, slots := 0, locals := 71 } s m args below meth c H locs 0 0 (MQ below (va_Qi post (QW D cs ad T) A) args s 0 0 A) (F0 m 358 ls []) := by
  refine lv_aload_n X.1 X.2.1 d_Mo_join_358 rfl (lv_at hl 0 rfl) ?_
  refine m_get X hT w hB 11 (by decide) k_f_Mo_46 rfl d_Mo_join_359 ?_
  refine lv_aload_n X.1 X.2.1 d_Mo_join_362 rfl (lv_at hl 0 rfl) ?_
  refine m_get X hT w hB 2 (by decide) k_f_Mo_18 rfl d_Mo_join_363 ?_
  refine lv_iload_n X.1 X.2.1 d_Mo_join_366 rfl (lv_at hl 1 rfl) ?_
  refine m_aal (i := 133) (n := 16) (pl := fun i => 138 + i) (z := t) X w (by omega) (by rw [mkR_B (by decide)]; exact hB.2.1) (t.toNat) (by omega) (by omega) (by decide) d_Mo_join_367 ?_
  refine w_cSv (n := 2) (As := [.ref (ad (138 + 46)), .ref (ad (138 + t.toNat))]) (rest := []) X w hml hl.1 (c_Mo_copy hT (M := M1) (a := 46) (b := t.toNat) (by omega) (by omega) hW) k_m_Mo_84 k_st_Mo_copy k_i_Mo k_co_Mo_copy (by decide +kernel) rfl ⟨Nat.le_of_ble_eq_true rfl, Nat.le_of_ble_eq_true rfl⟩ ⟨rfl, rfl⟩ ⟨Nat.zero_le _, Nat.zero_le _⟩ rfl (Nat.le_of_ble_eq_true rfl) d_Mo_join_368 (fun C' H locs hp1 w => ?_)
  subst hp1
  obtain ⟨Mw1, eMw1⟩ : ∃ mm : Nat → Nat → Int, mm = va_up M1 t.toNat (M1 46) := ⟨_, rfl⟩
  rw [← eMw1] at w
  rw [h46] at eMw1
  have k46 : Mw1 46 = Z := by rw [eMw1, va_up_ne _ _ (by omega)]; exact h46
  refine lv_aload_n X.1 X.2.1 d_Mo_join_371 rfl (lv_at hl 0 rfl) ?_
  refine m_get X hT w hB 11 (by decide) k_f_Mo_46 rfl d_Mo_join_372 ?_
  refine w_cSi (n := 1) (As := [.ref (ad (138 + 46))]) (rest := []) X w hml hl.1 (c_Mo_degree hT (M := Mw1) (a := 46) (by omega) (by rw [k46]; exact (hZ.mono (by omega)).ok hpr.2)) k_m_Mo_80 k_st_Mo_degree k_i_Mo k_co_Mo_degree (by decide +kernel) rfl ⟨Nat.le_of_ble_eq_true rfl, Nat.le_of_ble_eq_true rfl⟩ ⟨rfl, rfl⟩ ⟨Nat.zero_le _, Nat.zero_le _⟩ rfl (Nat.le_of_ble_eq_true rfl) d_Mo_join_375 (fun r' C' H locs hp1 w => ?_)
  obtain ⟨rfl, rfl⟩ := hp1
  rw [k46]
  refine w_iret X hr hlk w (hp Mw1 (by rw [eMw1]; exact hW.up ((hZ.mono (by omega)).ok hpr.2)) (fun r hr9 => ?_)) d_Mo_join_378
  rw [eMw1]
  by_cases e9 : r = t.toNat
  · rw [e9, va_up_self, va_up_self]
  · rw [va_up_ne _ _ e9, va_up_ne _ _ e9]; exact hF r hr9
theorem l_Mo_join_139 (X : Cx p s m args c b_Mo_join RMo) (hml : c.maxLocals = 8) (hT : 213 ≤ T) (hB : moO cs ad th pr fc B) (hpr : 2 ≤ pr ∧ pr ≤ 13) (ha : a < 41) (hb : b < 41) (hA : okp pr 25 (M a)) (hBo : okp pr 25 (M b)) (hop : 0 ≤ op ∧ op ≤ 1) {Y : Nat → Int} (hY : Y = fun x => (if op = 0 then M a x + M b x else M a x - M b x) % pr)
    (K : ∀ (M1 : Nat → Nat → Int) (H : Heap) (locs : List Loc) (ls : Array Slot), Wd D cs A ad T s (mkR cs M1 B) H locs → M1 46 = Y → (∀ r, r ≠ 46 → M1 r = M r) → lv_has ls 8 [(0, .ref (ad (132))), (1, .int (iI (t)))] → W p l e { frames := 3, cells := 0, slots := 0, locals := 71 } s m args below meth c H locs 0 0 Q (F0 m 358 ls [])) :
    ∀ (n k : Nat) (M1 : Nat → Nat → Int) (H : Heap) (locs : List Loc) (ls : Array Slot), k + n = 25 → Wd D cs A ad T s (mkR cs M1 B) H locs → (∀ x, M1 46 x = if x < k then Y x else 0) → (∀ r, r ≠ 46 → M1 r = M r) → lv_has ls 8 [(0, .ref (ad (132))), (1, .int (iI (t))), (2, .int (iI (op))), (5, .ref (ad (138 + a))), (6, .ref (ad (138 + b))), (7, .int (iI (k)))] → W p l e { frames := 3, cells := 0, slots := 0, locals := 71 } s m args below meth c H locs 0 0 Q (F0 m 139 ls []) := by
  intro n
  induction n with
  | zero =>
    intro k M1 H locs ls h1 w h2 h3 hl
    refine lv_iload X.1 X.2.1 d_Mo_join_139 (lv_at hl 5 rfl) ?_
    refine lv_bipush (v := iI (24)) X.1 X.2.1 d_Mo_join_141 (by decide) ?_
    refine i_gt (a := k) (b := 24) (tgt := 192) X (by omega) (by omega) d_Mo_join_143 (by decide) (fun h_143 => ?_) (fun h_143 => ?_)
    · refine lv_goto (tgt := 358) X.1 X.2.1 d_Mo_join_192 (by decide) ?_
      refine K M1 H locs ls w (funext fun x => ?_) h3 (lv_sub hl [0, 1] rfl)
      rw [h2 x]
      split
      · rfl
      · rw [hY]; show 0 = (if op = 0 then M a x + M b x else M a x - M b x) % pr; rw [hA.2 x (by omega), hBo.2 x (by omega)]; split <;> rfl
    · exact absurd h_143 (by omega)
  | succ n ih =>
    intro k M1 H locs ls h1 w h2 h3 hl
    have e1 : M1 a k = M a k := by rw [h3 a (by omega)]
    have e2 : M1 b k = M b k := by rw [h3 b (by omega)]
    have r1 := hA.1 k
    have r2 := hBo.1 k
    refine lv_iload X.1 X.2.1 d_Mo_join_139 (lv_at hl 5 rfl) ?_
    refine lv_bipush (v := iI (24)) X.1 X.2.1 d_Mo_join_141 (by decide) ?_
    refine i_gt (a := k) (b := 24) (tgt := 192) X (by omega) (by omega) d_Mo_join_143 (by decide) (fun h_143 => ?_) (fun h_143 => ?_)
    · exact absurd h_143 (by omega)
    · refine lv_aload_n X.1 X.2.1 d_Mo_join_146 rfl (lv_at hl 0 rfl) ?_
      refine m_get X hT w hB 11 (by decide) k_f_Mo_46 rfl d_Mo_join_147 ?_
      refine lv_iload X.1 X.2.1 d_Mo_join_150 (lv_at hl 5 rfl) ?_
      refine lv_aload_n X.1 X.2.1 d_Mo_join_152 rfl (lv_at hl 0 rfl) ?_
      refine lv_iload_n X.1 X.2.1 d_Mo_join_153 rfl (lv_at hl 2 rfl) ?_
      refine z_ne (a := op) (tgt := 171) X (by omega) d_Mo_join_154 (by decide) (fun h_154 => ?_) (fun h_154 => ?_)
      · refine lv_aload X.1 X.2.1 d_Mo_join_171 (lv_at hl 3 rfl) ?_
        refine lv_iload X.1 X.2.1 d_Mo_join_173 (lv_at hl 5 rfl) ?_
        refine m_ld (r := a) (z := k) X hT w (by omega) (k) (by omega) (by omega) d_Mo_join_175 ?_
        refine lv_aload X.1 X.2.1 d_Mo_join_176 (lv_at hl 4 rfl) ?_
        refine lv_iload X.1 X.2.1 d_Mo_join_178 (lv_at hl 5 rfl) ?_
        refine m_ld (r := b) (z := k) X hT w (by omega) (k) (by omega) (by omega) d_Mo_join_180 ?_
        refine i_sub (a := M1 a k) (b := M1 b k) X d_Mo_join_181 ?_
        refine w_cVi (n := 1) (i := 132) (ci := 5) (As := [.int (iI ((M1 a k) - (M1 b k)))]) (rest := [.int (iI (k)), .ref (ad (138 + 46))]) X w hml hl.1 (c_Mo_inField hT (M := M1) hB (v := (M1 a k) - (M1 b k)) (by omega) hpr) (by omega) (by rw [mkR_B (by decide)]; exact hB.1) rfl k_m_Mo_77 k_im_Mo_inField k_se_Mo_inField k_i_Mo k_co_Mo_inField (by decide +kernel) rfl ⟨Nat.le_of_ble_eq_true rfl, Nat.le_of_ble_eq_true rfl⟩ ⟨rfl, rfl⟩ ⟨Nat.zero_le _, Nat.zero_le _⟩ rfl (Nat.le_of_ble_eq_true rfl) d_Mo_join_182 (fun r' C' H locs hp w => ?_)
        obtain ⟨rfl, rfl⟩ := hp
        refine m_st (r := 46) (z := k) (v := ((M1 a k) - (M1 b k)) % pr) X hT w (by omega) (k) (by omega) (by omega) d_Mo_join_185 (fun H locs w => ?_)
        obtain ⟨Mw1, eMw1⟩ : ∃ mm : Nat → Nat → Int, mm = va_up M1 46 (va_up (M1 46) k (((M1 a k) - (M1 b k)) % pr)) := ⟨_, rfl⟩
        rw [← eMw1] at w
        refine i_inc (k := 5) (x := k) (lv' := [(7, .int (iI (k + 1))), (0, .ref (ad (132))), (1, .int (iI (t))), (2, .int (iI (op))), (5, .ref (ad (138 + a))), (6, .ref (ad (138 + b)))]) X d_Mo_join_186 hl rfl (by decide) rfl (fun ls hl => ?_)
        refine lv_goto (tgt := 139) X.1 X.2.1 d_Mo_join_189 (by decide) ?_
        have hu : ∀ x, Mw1 46 x = if x < k + 1 then Y x else 0 := by
          intro x
          rw [eMw1, va_up_self]
          by_cases e9 : x = k
          · rw [e9, va_up_self, if_pos (by omega), hY, e1, e2]
            show _ = (if op = 0 then M a k + M b k else M a k - M b k) % pr
            first | rw [if_pos (by omega)] | rw [if_neg (by omega)]
          · rw [va_up_ne _ _ e9, h2 x]; split <;> split <;> first | rfl | (exfalso; omega)
        exact ih (k + 1) Mw1 H locs ls (by omega) w hu (fun r h => by rw [eMw1, va_up_ne _ _ h]; exact h3 r h) (lv_sub hl [1, 2, 3, 4, 5, 0] rfl)
      · refine lv_aload X.1 X.2.1 d_Mo_join_157 (lv_at hl 3 rfl) ?_
        refine lv_iload X.1 X.2.1 d_Mo_join_159 (lv_at hl 5 rfl) ?_
        refine m_ld (r := a) (z := k) X hT w (by omega) (k) (by omega) (by omega) d_Mo_join_161 ?_
        refine lv_aload X.1 X.2.1 d_Mo_join_162 (lv_at hl 4 rfl) ?_
        refine lv_iload X.1 X.2.1 d_Mo_join_164 (lv_at hl 5 rfl) ?_
        refine m_ld (r := b) (z := k) X hT w (by omega) (k) (by omega) (by omega) d_Mo_join_166 ?_
        refine i_add (a := M1 a k) (b := M1 b k) X d_Mo_join_167 ?_
        refine lv_goto (tgt := 182) X.1 X.2.1 d_Mo_join_168 (by decide) ?_
        refine w_cVi (n := 1) (i := 132) (ci := 5) (As := [.int (iI ((M1 a k) + (M1 b k)))]) (rest := [.int (iI (k)), .ref (ad (138 + 46))]) X w hml hl.1 (c_Mo_inField hT (M := M1) hB (v := (M1 a k) + (M1 b k)) (by omega) hpr) (by omega) (by rw [mkR_B (by decide)]; exact hB.1) rfl k_m_Mo_77 k_im_Mo_inField k_se_Mo_inField k_i_Mo k_co_Mo_inField (by decide +kernel) rfl ⟨Nat.le_of_ble_eq_true rfl, Nat.le_of_ble_eq_true rfl⟩ ⟨rfl, rfl⟩ ⟨Nat.zero_le _, Nat.zero_le _⟩ rfl (Nat.le_of_ble_eq_true rfl) d_Mo_join_182 (fun r' C' H locs hp w => ?_)
        obtain ⟨rfl, rfl⟩ := hp
        refine m_st (r := 46) (z := k) (v := ((M1 a k) + (M1 b k)) % pr) X hT w (by omega) (k) (by omega) (by omega) d_Mo_join_185 (fun H locs w => ?_)
        obtain ⟨Mw1, eMw1⟩ : ∃ mm : Nat → Nat → Int, mm = va_up M1 46 (va_up (M1 46) k (((M1 a k) + (M1 b k)) % pr)) := ⟨_, rfl⟩
        rw [← eMw1] at w
        refine i_inc (k := 5) (x := k) (lv' := [(7, .int (iI (k + 1))), (0, .ref (ad (132))), (1, .int (iI (t))), (2, .int (iI (op))), (5, .ref (ad (138 + a))), (6, .ref (ad (138 + b)))]) X d_Mo_join_186 hl rfl (by decide) rfl (fun ls hl => ?_)
        refine lv_goto (tgt := 139) X.1 X.2.1 d_Mo_join_189 (by decide) ?_
        have hu : ∀ x, Mw1 46 x = if x < k + 1 then Y x else 0 := by
          intro x
          rw [eMw1, va_up_self]
          by_cases e9 : x = k
          · rw [e9, va_up_self, if_pos (by omega), hY, e1, e2]
            show _ = (if op = 0 then M a k + M b k else M a k - M b k) % pr
            first | rw [if_pos (by omega)] | rw [if_neg (by omega)]
          · rw [va_up_ne _ _ e9, h2 x]; split <;> split <;> first | rfl | (exfalso; omega)
        exact ih (k + 1) Mw1 H locs ls (by omega) w hu (fun r h => by rw [eMw1, va_up_ne _ _ h]; exact h3 r h) (lv_sub hl [1, 2, 3, 4, 5, 0] rfl)
theorem l_Mo_join_323 (X : Cx p s m args c b_Mo_join RMo) (hml : c.maxLocals = 8) (hT : 213 ≤ T) (hB : moO cs ad th pr fc B) (hpr : 2 ≤ pr ∧ pr ≤ 13) (ha : a < 41) (hA : okp pr 25 (M a))
    (K : ∀ (M1 : Nat → Nat → Int) (H : Heap) (locs : List Loc) (ls : Array Slot), Wd D cs A ad T s (mkR cs M1 B) H locs → M1 46 = der pr (M a) → (∀ r, r ≠ 46 → M1 r = M r) → lv_has ls 8 [(0, .ref (ad (132))), (1, .int (iI (t)))] → W p l e { frames := 3, cells := 0, slots := 0, locals := 71 } s m args below meth c H locs 0 0 Q (F0 m 358 ls [])) :
    ∀ (n k : Nat) (M1 : Nat → Nat → Int) (H : Heap) (locs : List Loc) (ls : Array Slot), k + n = 25 → 1 ≤ k → Wd D cs A ad T s (mkR cs M1 B) H locs → (∀ x, M1 46 x = if x + 1 < k then der pr (M a) x else 0) → (∀ r, r ≠ 46 → M1 r = M r) → lv_has ls 8 [(0, .ref (ad (132))), (1, .int (iI (t))), (5, .ref (ad (138 + a))), (7, .int (iI (k)))] → W p l e { frames := 3, cells := 0, slots := 0, locals := 71 } s m args below meth c H locs 0 0 Q (F0 m 323 ls []) := by
  intro n
  induction n with
  | zero =>
    intro k M1 H locs ls h1 h0 w h2 h3 hl
    refine lv_iload X.1 X.2.1 d_Mo_join_323 (lv_at hl 3 rfl) ?_
    refine lv_bipush (v := iI (24)) X.1 X.2.1 d_Mo_join_325 (by decide) ?_
    refine i_gt (a := k) (b := 24) (tgt := 358) X (by omega) (by omega) d_Mo_join_327 (by decide) (fun h_327 => ?_) (fun h_327 => ?_)
    · refine K M1 H locs ls w (funext fun x => ?_) h3 (lv_sub hl [0, 1] rfl)
      rw [h2 x]
      split
      · rfl
      · show 0 = ((x : Int) + 1) * M a (x + 1) % pr; rw [hA.2 (x + 1) (by omega), Int.mul_zero]; rfl
    · exact absurd h_327 (by omega)
  | succ n ih =>
    intro k M1 H locs ls h1 h0 w h2 h3 hl
    have e1 : M1 a k = M a k := by rw [h3 a (by omega)]
    have r1 := hA.1 k
    have hm : 0 ≤ (k : Int) * M1 a k ∧ (k : Int) * M1 a k < 2147483648 := by
      rw [e1]
      exact ⟨Int.mul_nonneg (by omega) r1.1, by have := Int.mul_le_mul (show (k : Int) ≤ 25 by omega) (show M a k ≤ 13 by omega) r1.1 (by decide); omega⟩
    refine lv_iload X.1 X.2.1 d_Mo_join_323 (lv_at hl 3 rfl) ?_
    refine lv_bipush (v := iI (24)) X.1 X.2.1 d_Mo_join_325 (by decide) ?_
    refine i_gt (a := k) (b := 24) (tgt := 358) X (by omega) (by omega) d_Mo_join_327 (by decide) (fun h_327 => ?_) (fun h_327 => ?_)
    · exact absurd h_327 (by omega)
    · refine lv_aload_n X.1 X.2.1 d_Mo_join_330 rfl (lv_at hl 0 rfl) ?_
      refine m_get X hT w hB 11 (by decide) k_f_Mo_46 rfl d_Mo_join_331 ?_
      refine lv_iload X.1 X.2.1 d_Mo_join_334 (lv_at hl 3 rfl) ?_
      refine lv_iconst (v := iI (1)) X.1 X.2.1 d_Mo_join_336 (by decide) ?_
      refine i_sub (a := k) (b := 1) X d_Mo_join_337 ?_
      refine lv_iload X.1 X.2.1 d_Mo_join_338 (lv_at hl 3 rfl) ?_
      refine lv_aload X.1 X.2.1 d_Mo_join_340 (lv_at hl 2 rfl) ?_
      refine lv_iload X.1 X.2.1 d_Mo_join_342 (lv_at hl 3 rfl) ?_
      refine m_ld (r := a) (z := k) X hT w (by omega) (k) (by omega) (by omega) d_Mo_join_344 ?_
      refine i_mul (a := k) (b := M1 a k) X d_Mo_join_345 ?_
      refine lv_aload_n X.1 X.2.1 d_Mo_join_346 rfl (lv_at hl 0 rfl) ?_
      refine m_get X hT w hB 1 (by decide) k_f_Mo_13 rfl d_Mo_join_347 ?_
      refine i_rem (a := k * (M1 a k)) (b := pr) X hm (by omega) d_Mo_join_350 ?_
      refine m_st (r := 46) (z := k - 1) (v := (k * (M1 a k)) % pr) X hT w (by omega) (k - 1) (by omega) (by omega) d_Mo_join_351 (fun H locs w => ?_)
      obtain ⟨Mw1, eMw1⟩ : ∃ mm : Nat → Nat → Int, mm = va_up M1 46 (va_up (M1 46) (k - 1) ((k * (M1 a k)) % pr)) := ⟨_, rfl⟩
      rw [← eMw1] at w
      refine i_inc (k := 3) (x := k) (lv' := [(7, .int (iI (k + 1))), (0, .ref (ad (132))), (1, .int (iI (t))), (5, .ref (ad (138 + a)))]) X d_Mo_join_352 hl rfl (by decide) rfl (fun ls hl => ?_)
      refine lv_goto (tgt := 323) X.1 X.2.1 d_Mo_join_355 (by decide) ?_
      have hu : ∀ x, Mw1 46 x = if x + 1 < k + 1 then der pr (M a) x else 0 := by
        intro x
        rw [eMw1, va_up_self]
        by_cases e9 : x = k - 1
        · rw [e9, va_up_self, if_pos (by omega), e1]
          show _ = (((k - 1 : Nat) : Int) + 1) * M a (k - 1 + 1) % pr
          rw [show k - 1 + 1 = k by omega, show (((k - 1 : Nat) : Int) + 1) = (k : Int) by omega]
        · rw [va_up_ne _ _ e9, h2 x]; split <;> split <;> first | rfl | (exfalso; omega)
      exact ih (k + 1) Mw1 H locs ls (by omega) (by omega) w hu (fun r h => by rw [eMw1, va_up_ne _ _ h]; exact h3 r h) (lv_sub hl [1, 2, 3, 0] rfl)
end MJO
theorem c_Mo_join {l : Launch} {D : va_G} {cs : Nat → ClassId} {A : Nat → Prop} {ad : Nat → Nat} {T : Nat} (hT : 213 ≤ T) {M : Nat → Nat → Int} {B : Nat → va_E} {th pr fc : Int} (hB : moO cs ad th pr fc B) {inv : Nat → Int} (hI : invP pr inv) {t op a b : Int} (ht : rg t) (hop : rg op) (ha : rg a) (hb : rg b) (hW : WR M) (hok : ∀ r, r < 16 → okp pr 25 (M r)) : Ci l y_Mo_join ws_Mo_join { frames := 3, cells := 0, slots := 0, locals := 71 } D cs A ad T [.ref (ad (132)), .int (iI (t)), .int (iI (op)), .int (iI (a)), .int (iI (b))] (mkR cs M B) (fun x C' => ((outF t 0 15 = 1 ∨ outF a 0 15 = 1 ∨ outF b 0 15 = 1) ∧ x = iI 0 ∧ C' = mkR cs M (mB ad B 1 pr fc)) ∨ (((0 ≤ t ∧ t ≤ 15) ∧ (0 ≤ a ∧ a ≤ 15) ∧ (0 ≤ b ∧ b ≤ 15)) ∧ (op < 0 ∨ 7 < op ∨ ((op = 3 ∨ op = 4) ∧ dg 300 (M b.toNat) < 0)) ∧ x = iI 0 ∧ C' = mkR cs M (mB ad B 2 pr fc)) ∨ (((0 ≤ t ∧ t ≤ 15) ∧ (0 ≤ a ∧ a ≤ 15) ∧ (0 ≤ b ∧ b ≤ 15)) ∧ op = 2 ∧ 24 < dg 300 (prd pr (M a.toNat) (M b.toNat)) ∧ x = iI 0 ∧ ∃ M1, C' = mkR cs M1 (mB ad B 3 pr fc) ∧ WR M1 ∧ ∀ r, r < 41 → M1 r = M r) ∨ (((0 ≤ t ∧ t ≤ 15) ∧ (0 ≤ a ∧ a ≤ 15) ∧ (0 ≤ b ∧ b ≤ 15)) ∧ (0 ≤ op ∧ op ≤ 7) ∧ ((op = 3 ∨ op = 4) → 0 ≤ dg 300 (M b.toNat)) ∧ (op = 2 → dg 300 (prd pr (M a.toNat) (M b.toNat)) ≤ 24) ∧ x = iI (dg 300 (jnR pr inv op (M a.toNat) (M b.toNat))) ∧ okp pr 25 (jnR pr inv op (M a.toNat) (M b.toNat)) ∧ ∃ M1, C' = mkR cs M1 (mB ad B 0 pr fc) ∧ WR M1 ∧ ∀ r, r < 41 → M1 r = va_up M t.toNat (jnR pr inv op (M a.toNat) (M b.toNat)) r)) := by
  refine w_bodyI (by decide) (Nat.le_of_ble_eq_true rfl) ?_
  intro p e s m below meth c X hr hlk hml w ls hl
  have hl : lv_has ls 8 [(0, .ref (ad (132))), (1, .int (iI (t))), (2, .int (iI (op))), (3, .int (iI (a))), (4, .int (iI (b)))] := hl
  have hpr := hI.1
  have hB0 := hB
  refine lv_aload_n X.1 X.2.1 d_Mo_join_0 rfl (lv_at hl 0 rfl) ?_
  refine lv_iload_n X.1 X.2.1 d_Mo_join_1 rfl (lv_at hl 1 rfl) ?_
  refine w_cVi (n := 1) (i := 132) (ci := 5) (As := [.int (iI (t))]) (rest := []) X w hml hl.1 (c_Mo_none hT (M := M) hB (x := t) (by omega)) (by omega) (by rw [mkR_B (by decide)]; exact hB.1) rfl k_m_Mo_73 k_im_Mo_none k_se_Mo_none k_i_Mo k_co_Mo_none (by decide +kernel) rfl ⟨Nat.le_of_ble_eq_true rfl, Nat.le_of_ble_eq_true rfl⟩ ⟨rfl, rfl⟩ ⟨Nat.zero_le _, Nat.zero_le _⟩ rfl (Nat.le_of_ble_eq_true rfl) d_Mo_join_2 (fun r' C' H locs hp w => ?_)
  obtain ⟨rfl, rfl⟩ := hp
  have hB := hB0.set (outF (t) 0 15) pr fc
  refine z_ne (a := outF (t) 0 15) (tgt := 25) X (outF_rg _ _ _) d_Mo_join_5 (by decide) (fun h_5 => ?_) (fun h_5 => ?_)
  · refine lv_iconst (v := iI (0)) X.1 X.2.1 d_Mo_join_25 (by decide) ?_
    obtain ⟨k1, k2⟩ := outF_1 h_5
    exact w_iret X hr hlk w (Or.inl ⟨Or.inl k1, rfl, by rw [k1]⟩) d_Mo_join_26
  · have k0 := outF_0 h_5
    refine lv_aload_n X.1 X.2.1 d_Mo_join_8 rfl (lv_at hl 0 rfl) ?_
    refine lv_iload_n X.1 X.2.1 d_Mo_join_9 rfl (lv_at hl 3 rfl) ?_
    refine w_cVi (n := 1) (i := 132) (ci := 5) (As := [.int (iI (a))]) (rest := []) X w hml hl.1 (c_Mo_none hT (M := M) hB (x := a) (by omega)) (by omega) (by rw [mkR_B (by decide)]; exact hB.1) rfl k_m_Mo_73 k_im_Mo_none k_se_Mo_none k_i_Mo k_co_Mo_none (by decide +kernel) rfl ⟨Nat.le_of_ble_eq_true rfl, Nat.le_of_ble_eq_true rfl⟩ ⟨rfl, rfl⟩ ⟨Nat.zero_le _, Nat.zero_le _⟩ rfl (Nat.le_of_ble_eq_true rfl) d_Mo_join_10 (fun r' C' H locs hp w => ?_)
    obtain ⟨rfl, rfl⟩ := hp
    rw [mB_mB] at w
    have hB := hB0.set (outF (a) 0 15) pr fc
    refine z_ne (a := outF (a) 0 15) (tgt := 25) X (outF_rg _ _ _) d_Mo_join_13 (by decide) (fun h_13 => ?_) (fun h_13 => ?_)
    · refine lv_iconst (v := iI (0)) X.1 X.2.1 d_Mo_join_25 (by decide) ?_
      obtain ⟨k1, k2⟩ := outF_1 h_13
      exact w_iret X hr hlk w (Or.inl ⟨Or.inr (Or.inl k1), rfl, by rw [k1]⟩) d_Mo_join_26
    · have k0a := outF_0 h_13
      refine lv_aload_n X.1 X.2.1 d_Mo_join_16 rfl (lv_at hl 0 rfl) ?_
      refine lv_iload X.1 X.2.1 d_Mo_join_17 (lv_at hl 4 rfl) ?_
      refine w_cVi (n := 1) (i := 132) (ci := 5) (As := [.int (iI (b))]) (rest := []) X w hml hl.1 (c_Mo_none hT (M := M) hB (x := b) (by omega)) (by omega) (by rw [mkR_B (by decide)]; exact hB.1) rfl k_m_Mo_73 k_im_Mo_none k_se_Mo_none k_i_Mo k_co_Mo_none (by decide +kernel) rfl ⟨Nat.le_of_ble_eq_true rfl, Nat.le_of_ble_eq_true rfl⟩ ⟨rfl, rfl⟩ ⟨Nat.zero_le _, Nat.zero_le _⟩ rfl (Nat.le_of_ble_eq_true rfl) d_Mo_join_19 (fun r' C' H locs hp w => ?_)
      obtain ⟨rfl, rfl⟩ := hp
      rw [mB_mB] at w
      have hB := hB0.set (outF (b) 0 15) pr fc
      refine z_eq (a := outF (b) 0 15) (tgt := 27) X (outF_rg _ _ _) d_Mo_join_22 (by decide) (fun h_22 => ?_) (fun h_22 => ?_)
      · have k0b := outF_0 h_22
        have ha9 := hok a.toNat (by omega)
        have hb9 := hok b.toNat (by omega)
        have hda := (ha9.ok hpr.2).dlt 300
        have hda0 := dg_ge 300 (M a.toNat)
        have hdb := (hb9.ok hpr.2).dlt 300
        have hdb0 := dg_ge 300 (M b.toNat)
        refine lv_aload_n X.1 X.2.1 d_Mo_join_27 rfl (lv_at hl 0 rfl) ?_
        refine m_get X hT w hB 2 (by decide) k_f_Mo_18 rfl d_Mo_join_28 ?_
        refine lv_iload_n X.1 X.2.1 d_Mo_join_31 rfl (lv_at hl 3 rfl) ?_
        refine m_aal (i := 133) (n := 16) (pl := fun i => 138 + i) (z := a) X w (by omega) (by rw [mkR_B (by decide)]; exact hB.2.1) (a.toNat) (by omega) (by omega) (by decide) d_Mo_join_32 ?_
        refine lv_astore (lv' := [(5, .ref (ad (138 + a.toNat))), (0, .ref (ad (132))), (1, .int (iI (t))), (2, .int (iI (op))), (3, .int (iI (a))), (4, .int (iI (b)))]) X.1 X.2.1 d_Mo_join_33 hl (by decide) rfl (fun ls hl => ?_)
        refine lv_aload_n X.1 X.2.1 d_Mo_join_35 rfl (lv_at hl 1 rfl) ?_
        refine m_get X hT w hB 2 (by decide) k_f_Mo_18 rfl d_Mo_join_36 ?_
        refine lv_iload X.1 X.2.1 d_Mo_join_39 (lv_at hl 5 rfl) ?_
        refine m_aal (i := 133) (n := 16) (pl := fun i => 138 + i) (z := b) X w (by omega) (by rw [mkR_B (by decide)]; exact hB.2.1) (b.toNat) (by omega) (by omega) (by decide) d_Mo_join_41 ?_
        refine lv_astore (lv' := [(6, .ref (ad (138 + b.toNat))), (5, .ref (ad (138 + a.toNat))), (0, .ref (ad (132))), (1, .int (iI (t))), (2, .int (iI (op))), (3, .int (iI (a))), (4, .int (iI (b)))]) X.1 X.2.1 d_Mo_join_42 hl (by decide) rfl (fun ls hl => ?_)
        refine lv_aload_n X.1 X.2.1 d_Mo_join_44 rfl (lv_at hl 2 rfl) ?_
        refine lv_iconst (v := iI (2)) X.1 X.2.1 d_Mo_join_45 (by decide) ?_
        refine lv_iload_n X.1 X.2.1 d_Mo_join_46 rfl (lv_at hl 4 rfl) ?_
        refine z_lt (a := op) (tgt := 74) X (by omega) d_Mo_join_47 (by decide) (fun h_47 => ?_) (fun h_47 => ?_)
        · refine lv_iconst (v := iI (1)) X.1 X.2.1 d_Mo_join_74 (by decide) ?_
          refine lv_goto (tgt := 79) X.1 X.2.1 d_Mo_join_75 (by decide) ?_
          refine w_cVi (n := 2) (i := 132) (ci := 5) (As := [.int (iI (2)), .int (iI (1))]) (rest := []) X w hml hl.1 (c_Mo_refuse hT (M := M) hB (k := 2) (b := 1) (by omega)) (by omega) (by rw [mkR_B (by decide)]; exact hB.1) rfl k_m_Mo_61 k_im_Mo_refuse k_se_Mo_refuse k_i_Mo k_co_Mo_refuse (by decide +kernel) rfl ⟨Nat.le_of_ble_eq_true rfl, Nat.le_of_ble_eq_true rfl⟩ ⟨rfl, rfl⟩ ⟨Nat.zero_le _, Nat.zero_le _⟩ rfl (Nat.le_of_ble_eq_true rfl) d_Mo_join_79 (fun r' C' H locs hp w => ?_)
          obtain ⟨rfl, rfl⟩ := hp
          rw [mB_mB] at w
          have hB := hB0.set (if (1 : Int) = 0 then (outF b 0 15) else 2) pr fc
          refine z_eq (a := 1) (tgt := 87) X (by omega) d_Mo_join_82 (by decide) (fun h_82 => ?_) (fun h_82 => ?_)
          · exact absurd h_82 (by omega)
          · refine lv_iconst (v := iI (0)) X.1 X.2.1 d_Mo_join_85 (by decide) ?_
            exact w_iret X hr hlk w (Or.inr (Or.inl ⟨⟨k0, k0a, k0b⟩, by omega, rfl, by rw [if_neg (by decide)]⟩)) d_Mo_join_86
        · refine lv_iload_n X.1 X.2.1 d_Mo_join_50 rfl (lv_at hl 4 rfl) ?_
          refine lv_bipush (v := iI (7)) X.1 X.2.1 d_Mo_join_51 (by decide) ?_
          refine i_gt (a := op) (b := 7) (tgt := 74) X (by omega) (by omega) d_Mo_join_53 (by decide) (fun h_53 => ?_) (fun h_53 => ?_)
          · refine lv_iconst (v := iI (1)) X.1 X.2.1 d_Mo_join_74 (by decide) ?_
            refine lv_goto (tgt := 79) X.1 X.2.1 d_Mo_join_75 (by decide) ?_
            refine w_cVi (n := 2) (i := 132) (ci := 5) (As := [.int (iI (2)), .int (iI (1))]) (rest := []) X w hml hl.1 (c_Mo_refuse hT (M := M) hB (k := 2) (b := 1) (by omega)) (by omega) (by rw [mkR_B (by decide)]; exact hB.1) rfl k_m_Mo_61 k_im_Mo_refuse k_se_Mo_refuse k_i_Mo k_co_Mo_refuse (by decide +kernel) rfl ⟨Nat.le_of_ble_eq_true rfl, Nat.le_of_ble_eq_true rfl⟩ ⟨rfl, rfl⟩ ⟨Nat.zero_le _, Nat.zero_le _⟩ rfl (Nat.le_of_ble_eq_true rfl) d_Mo_join_79 (fun r' C' H locs hp w => ?_)
            obtain ⟨rfl, rfl⟩ := hp
            rw [mB_mB] at w
            have hB := hB0.set (if (1 : Int) = 0 then (outF b 0 15) else 2) pr fc
            refine z_eq (a := 1) (tgt := 87) X (by omega) d_Mo_join_82 (by decide) (fun h_82 => ?_) (fun h_82 => ?_)
            · exact absurd h_82 (by omega)
            · refine lv_iconst (v := iI (0)) X.1 X.2.1 d_Mo_join_85 (by decide) ?_
              exact w_iret X hr hlk w (Or.inr (Or.inl ⟨⟨k0, k0a, k0b⟩, by omega, rfl, by rw [if_neg (by decide)]⟩)) d_Mo_join_86
          · refine lv_iload_n X.1 X.2.1 d_Mo_join_56 rfl (lv_at hl 4 rfl) ?_
            refine lv_iconst (v := iI (3)) X.1 X.2.1 d_Mo_join_57 (by decide) ?_
            refine i_eq (a := op) (b := 3) (tgt := 66) X (by omega) (by omega) d_Mo_join_58 (by decide) (fun h_58 => ?_) (fun h_58 => ?_)
            · refine lv_aload X.1 X.2.1 d_Mo_join_66 (lv_at hl 0 rfl) ?_
              refine w_cSi (n := 1) (As := [.ref (ad (138 + b.toNat))]) (rest := [.int (iI (2)), .ref (ad (132))]) X w hml hl.1 (c_Mo_degree hT (M := M) (a := b.toNat) (by omega) (hW _ (by omega))) k_m_Mo_80 k_st_Mo_degree k_i_Mo k_co_Mo_degree (by decide +kernel) rfl ⟨Nat.le_of_ble_eq_true rfl, Nat.le_of_ble_eq_true rfl⟩ ⟨rfl, rfl⟩ ⟨Nat.zero_le _, Nat.zero_le _⟩ rfl (Nat.le_of_ble_eq_true rfl) d_Mo_join_68 (fun r' C' H locs hp w => ?_)
              obtain ⟨rfl, rfl⟩ := hp
              refine z_ge (a := dg 300 (M b.toNat)) (tgt := 78) X (by omega) d_Mo_join_71 (by decide) (fun h_71 => ?_) (fun h_71 => ?_)
              · refine lv_iconst (v := iI (0)) X.1 X.2.1 d_Mo_join_78 (by decide) ?_
                refine w_cVi (n := 2) (i := 132) (ci := 5) (As := [.int (iI (2)), .int (iI (0))]) (rest := []) X w hml hl.1 (c_Mo_refuse hT (M := M) hB (k := 2) (b := 0) (by omega)) (by omega) (by rw [mkR_B (by decide)]; exact hB.1) rfl k_m_Mo_61 k_im_Mo_refuse k_se_Mo_refuse k_i_Mo k_co_Mo_refuse (by decide +kernel) rfl ⟨Nat.le_of_ble_eq_true rfl, Nat.le_of_ble_eq_true rfl⟩ ⟨rfl, rfl⟩ ⟨Nat.zero_le _, Nat.zero_le _⟩ rfl (Nat.le_of_ble_eq_true rfl) d_Mo_join_79 (fun r' C' H locs hp w => ?_)
                obtain ⟨rfl, rfl⟩ := hp
                rw [mB_mB] at w
                have hB := hB0.set (if (0 : Int) = 0 then (outF b 0 15) else 2) pr fc
                have hth : (if (0 : Int) = 0 then (outF b 0 15) else 2) = 0 := by rw [if_pos rfl]; exact h_22
                rw [hth] at w hB
                refine z_eq (a := 0) (tgt := 87) X (by omega) d_Mo_join_82 (by decide) (fun h_82 => ?_) (fun h_82 => ?_)
                · refine lv_aload_n X.1 X.2.1 d_Mo_join_87 rfl (lv_at hl 2 rfl) ?_
                  refine m_get X hT w hB 11 (by decide) k_f_Mo_46 rfl d_Mo_join_88 ?_
                  refine w_cSv (n := 1) (As := [.ref (ad (138 + 46))]) (rest := []) X w hml hl.1 (c_Mo_clear hT (M := M) (a := 46) (by omega) hW) k_m_Mo_69 k_st_Mo_clear k_i_Mo k_co_Mo_clear (by decide +kernel) rfl ⟨Nat.le_of_ble_eq_true rfl, Nat.le_of_ble_eq_true rfl⟩ ⟨rfl, rfl⟩ ⟨Nat.zero_le _, Nat.zero_le _⟩ rfl (Nat.le_of_ble_eq_true rfl) d_Mo_join_91 (fun C' H locs hp w => ?_)
                  subst hp
                  obtain ⟨Mw1, eMw1⟩ : ∃ mm : Nat → Nat → Int, mm = va_up M 46 (fun _ => 0) := ⟨_, rfl⟩
                  rw [← eMw1] at w
                  have hW1 : WR Mw1 := by rw [eMw1]; exact hW.up (ok_0 _)
                  have aF : ∀ r, r ≠ 46 → Mw1 r = M r := fun r h => by rw [eMw1, va_up_ne _ _ h]
                  have fa : Mw1 a.toNat = M a.toNat := aF _ (by omega)
                  have fb : Mw1 b.toNat = M b.toNat := aF _ (by omega)
                  refine lv_iload_n X.1 X.2.1 d_Mo_join_94 rfl (lv_at hl 4 rfl) ?_
                  by_cases hsw : op < 0 ∨ 6 < op
                  · refine lv_tableOut (tgt := 320) X.1 X.2.1 d_Mo_join_95 (by rw [iI_toInt (by omega)]; exact hsw) (by decide) ?_
                    refine lv_iconst (v := iI (1)) X.1 X.2.1 d_Mo_join_320 (by decide) ?_
                    refine lv_istore (lv' := [(7, .int (iI (1))), (6, .ref (ad (138 + b.toNat))), (5, .ref (ad (138 + a.toNat))), (0, .ref (ad (132))), (1, .int (iI (t))), (2, .int (iI (op))), (3, .int (iI (a))), (4, .int (iI (b)))]) X.1 X.2.1 d_Mo_join_321 hl (by decide) rfl (fun ls hl => ?_)
                    refine l_Mo_join_323 (M := Mw1) (t := t) (a := a.toNat) X hml hT hB hpr (by omega) (by rw [fa]; exact ha9) (fun M3 H locs ls w g1 g2 hl => ?_) 24 1 Mw1 H locs ls (by omega) (by omega) w (fun x => by rw [eMw1, va_up_self, if_neg (by omega)]) (fun _ _ => rfl) (lv_sub hl [3, 4, 2, 0] rfl)
                    rw [fa] at g1
                    have hz9 : (jnR pr inv op (M a.toNat) (M b.toNat)) = der pr (M a.toNat) := by unfold jnR; rw [if_neg (by omega), if_neg (by omega), if_neg (by omega), if_neg (by omega), if_neg (by omega), if_neg (by omega), if_neg (by omega)]
                    have hz8 : okp pr 25 (jnR pr inv op (M a.toNat) (M b.toNat)) := jnR_ok hI ha9 hb9 (fun h => by omega) (by omega)
                    have e46 : M3 46 = (jnR pr inv op (M a.toNat) (M b.toNat)) := by rw [hz9, g1]
                    have hW3 : WR M3 := by
                      have e4 : M3 = va_up Mw1 46 (jnR pr inv op (M a.toNat) (M b.toNat)) := by
                        funext r
                        by_cases e9 : r = 46
                        · rw [e9, e46, va_up_self]
                        · rw [va_up_ne _ _ e9, g2 r e9]
                      rw [e4]
                      exact hW1.up ((hz8.mono (by omega)).ok hpr.2)
                    exact l_Mo_join_358 (M := M) (t := t) X hr hlk hml hT hB hpr k0 hz8 w e46 hW3 (fun r h => by rw [g2 r (by omega)]; exact aF r (by omega)) hl (fun M2 q8 q9 => Or.inr (Or.inr (Or.inr ⟨⟨k0, k0a, k0b⟩, by omega, fun h => by omega, fun h => by omega, rfl, hz8, M2, rfl, q8, q9⟩)))
                  · have hsw2 : op = 0 ∨ op = 1 ∨ op = 2 ∨ op = 3 ∨ op = 4 ∨ op = 5 ∨ op = 6 := by omega
                    rcases hsw2 with hsw2 | hsw2 | hsw2 | hsw2 | hsw2 | hsw2 | hsw2
                    · refine W.eq (g2 := F0 m 95 ls [.int (iI (0))]) (by rw [hsw2]) ?_
                      refine lv_tableIn (tgt := 136) X.1 X.2.1 d_Mo_join_95 (by decide) (by decide) rfl (by decide) ?_
                      refine lv_iconst (v := iI (0)) X.1 X.2.1 d_Mo_join_136 (by decide) ?_
                      refine lv_istore (lv' := [(7, .int (iI (0))), (6, .ref (ad (138 + b.toNat))), (5, .ref (ad (138 + a.toNat))), (0, .ref (ad (132))), (1, .int (iI (t))), (2, .int (iI (op))), (3, .int (iI (a))), (4, .int (iI (b)))]) X.1 X.2.1 d_Mo_join_137 hl (by decide) rfl (fun ls hl => ?_)
                      refine l_Mo_join_139 (M := Mw1) (t := t) (a := a.toNat) (b := b.toNat) (op := op) X hml hT hB hpr (by omega) (by omega) (by rw [fa]; exact ha9) (by rw [fb]; exact hb9) (by omega) (Y := _) rfl (fun M3 H locs ls w g1 g2 hl => ?_) 25 0 Mw1 H locs ls (by omega) w (fun x => by rw [eMw1, va_up_self, if_neg (by omega)]) (fun _ _ => rfl) (lv_sub hl [3, 4, 5, 2, 1, 0] rfl)
                      rw [fa, fb] at g1
                      have hz9 : (jnR pr inv op (M a.toNat) (M b.toNat)) = fun x => (M a.toNat x + M b.toNat x) % pr := by unfold jnR; rw [if_pos (by omega)]
                      have hz8 : okp pr 25 (jnR pr inv op (M a.toNat) (M b.toNat)) := jnR_ok hI ha9 hb9 (fun h => by omega) (by omega)
                      have e46 : M3 46 = (jnR pr inv op (M a.toNat) (M b.toNat)) := by
                        rw [hz9, g1]
                        funext x
                        rw [if_pos (by omega)]
                      have hW3 : WR M3 := by
                        have e4 : M3 = va_up Mw1 46 (jnR pr inv op (M a.toNat) (M b.toNat)) := by
                          funext r
                          by_cases e9 : r = 46
                          · rw [e9, e46, va_up_self]
                          · rw [va_up_ne _ _ e9, g2 r e9]
                        rw [e4]
                        exact hW1.up ((hz8.mono (by omega)).ok hpr.2)
                      exact l_Mo_join_358 (M := M) (t := t) X hr hlk hml hT hB hpr k0 hz8 w e46 hW3 (fun r h => by rw [g2 r (by omega)]; exact aF r (by omega)) hl (fun M2 q8 q9 => Or.inr (Or.inr (Or.inr ⟨⟨k0, k0a, k0b⟩, by omega, fun h => by omega, fun h => by omega, rfl, hz8, M2, rfl, q8, q9⟩)))
                    · refine W.eq (g2 := F0 m 95 ls [.int (iI (1))]) (by rw [hsw2]) ?_
                      refine lv_tableIn (tgt := 136) X.1 X.2.1 d_Mo_join_95 (by decide) (by decide) rfl (by decide) ?_
                      refine lv_iconst (v := iI (0)) X.1 X.2.1 d_Mo_join_136 (by decide) ?_
                      refine lv_istore (lv' := [(7, .int (iI (0))), (6, .ref (ad (138 + b.toNat))), (5, .ref (ad (138 + a.toNat))), (0, .ref (ad (132))), (1, .int (iI (t))), (2, .int (iI (op))), (3, .int (iI (a))), (4, .int (iI (b)))]) X.1 X.2.1 d_Mo_join_137 hl (by decide) rfl (fun ls hl => ?_)
                      refine l_Mo_join_139 (M := Mw1) (t := t) (a := a.toNat) (b := b.toNat) (op := op) X hml hT hB hpr (by omega) (by omega) (by rw [fa]; exact ha9) (by rw [fb]; exact hb9) (by omega) (Y := _) rfl (fun M3 H locs ls w g1 g2 hl => ?_) 25 0 Mw1 H locs ls (by omega) w (fun x => by rw [eMw1, va_up_self, if_neg (by omega)]) (fun _ _ => rfl) (lv_sub hl [3, 4, 5, 2, 1, 0] rfl)
                      rw [fa, fb] at g1
                      have hz9 : (jnR pr inv op (M a.toNat) (M b.toNat)) = fun x => (M a.toNat x - M b.toNat x) % pr := by unfold jnR; rw [if_neg (by omega), if_pos (by omega)]
                      have hz8 : okp pr 25 (jnR pr inv op (M a.toNat) (M b.toNat)) := jnR_ok hI ha9 hb9 (fun h => by omega) (by omega)
                      have e46 : M3 46 = (jnR pr inv op (M a.toNat) (M b.toNat)) := by
                        rw [hz9, g1]
                        funext x
                        rw [if_neg (by omega)]
                      have hW3 : WR M3 := by
                        have e4 : M3 = va_up Mw1 46 (jnR pr inv op (M a.toNat) (M b.toNat)) := by
                          funext r
                          by_cases e9 : r = 46
                          · rw [e9, e46, va_up_self]
                          · rw [va_up_ne _ _ e9, g2 r e9]
                        rw [e4]
                        exact hW1.up ((hz8.mono (by omega)).ok hpr.2)
                      exact l_Mo_join_358 (M := M) (t := t) X hr hlk hml hT hB hpr k0 hz8 w e46 hW3 (fun r h => by rw [g2 r (by omega)]; exact aF r (by omega)) hl (fun M2 q8 q9 => Or.inr (Or.inr (Or.inr ⟨⟨k0, k0a, k0b⟩, by omega, fun h => by omega, fun h => by omega, rfl, hz8, M2, rfl, q8, q9⟩)))
                    · refine W.eq (g2 := F0 m 95 ls [.int (iI (2))]) (by rw [hsw2]) ?_
                      refine lv_tableIn (tgt := 195) X.1 X.2.1 d_Mo_join_95 (by decide) (by decide) rfl (by decide) ?_
                      refine lv_aload_n X.1 X.2.1 d_Mo_join_195 rfl (lv_at hl 2 rfl) ?_
                      refine lv_aload X.1 X.2.1 d_Mo_join_196 (lv_at hl 1 rfl) ?_
                      refine lv_aload X.1 X.2.1 d_Mo_join_198 (lv_at hl 0 rfl) ?_
                      refine w_cVv (n := 2) (i := 132) (ci := 5) (As := [.ref (ad (138 + a.toNat)), .ref (ad (138 + b.toNat))]) (rest := []) X w hml hl.1 (c_Mo_times hT (M := Mw1) hB (a := a.toNat) (b := b.toNat) hpr (by omega) (by omega) hW1 (by rw [fa]; exact ha9.mono (by omega)) (by rw [fb]; exact hb9.mono (by omega)) (by rw [fa, fb]; omega)) (by omega) (by rw [mkR_B (by decide)]; exact hB.1) rfl k_m_Mo_97 k_im_Mo_times k_se_Mo_times k_i_Mo k_co_Mo_times (by decide +kernel) rfl ⟨Nat.le_of_ble_eq_true rfl, Nat.le_of_ble_eq_true rfl⟩ ⟨rfl, rfl⟩ ⟨Nat.zero_le _, Nat.zero_le _⟩ rfl (Nat.le_of_ble_eq_true rfl) d_Mo_join_200 (fun C' H locs hp w => ?_)
                      subst hp
                      obtain ⟨Mw2, eMw2⟩ : ∃ mm : Nat → Nat → Int, mm = va_up Mw1 43 (prd pr (Mw1 a.toNat) (Mw1 b.toNat)) := ⟨_, rfl⟩
                      rw [← eMw2] at w
                      rw [fa, fb] at eMw2
                      have hpk : okp pr 50 (prd pr (M a.toNat) (M b.toNat)) := prd_ok (by omega) hpr.2 ha9 hb9 (by omega) (by omega)
                      have hW2 : WR Mw2 := by rw [eMw2]; exact hW1.up (hpk.ok hpr.2)
                      have b43 : Mw2 43 = prd pr (M a.toNat) (M b.toNat) := by rw [eMw2, va_up_self]
                      have hdp := (hpk.ok hpr.2).dlt 300
                      have hdp0 := dg_ge 300 (prd pr (M a.toNat) (M b.toNat))
                      refine lv_aload_n X.1 X.2.1 d_Mo_join_203 rfl (lv_at hl 2 rfl) ?_
                      refine lv_iconst (v := iI (3)) X.1 X.2.1 d_Mo_join_204 (by decide) ?_
                      refine lv_aload_n X.1 X.2.1 d_Mo_join_205 rfl (lv_at hl 2 rfl) ?_
                      refine m_get X hT w hB 8 (by decide) k_f_Mo_37 rfl d_Mo_join_206 ?_
                      refine w_cSi (n := 1) (As := [.ref (ad (138 + 43))]) (rest := [.int (iI (3)), .ref (ad (132))]) X w hml hl.1 (c_Mo_degree hT (M := Mw2) (a := 43) (by omega) (hW2 _ (by omega))) k_m_Mo_80 k_st_Mo_degree k_i_Mo k_co_Mo_degree (by decide +kernel) rfl ⟨Nat.le_of_ble_eq_true rfl, Nat.le_of_ble_eq_true rfl⟩ ⟨rfl, rfl⟩ ⟨Nat.zero_le _, Nat.zero_le _⟩ rfl (Nat.le_of_ble_eq_true rfl) d_Mo_join_209 (fun r' C' H locs hp w => ?_)
                      obtain ⟨rfl, rfl⟩ := hp
                      rw [b43]
                      refine lv_bipush (v := iI (24)) X.1 X.2.1 d_Mo_join_212 (by decide) ?_
                      refine i_le (a := dg 300 (prd pr (M a.toNat) (M b.toNat))) (b := 24) (tgt := 221) X (by omega) (by omega) d_Mo_join_214 (by decide) (fun h_214 => ?_) (fun h_214 => ?_)
                      · refine lv_iconst (v := iI (0)) X.1 X.2.1 d_Mo_join_221 (by decide) ?_
                        refine w_cVi (n := 2) (i := 132) (ci := 5) (As := [.int (iI (3)), .int (iI (0))]) (rest := []) X w hml hl.1 (c_Mo_refuse hT (M := Mw2) hB (k := 3) (b := 0) (by omega)) (by omega) (by rw [mkR_B (by decide)]; exact hB.1) rfl k_m_Mo_61 k_im_Mo_refuse k_se_Mo_refuse k_i_Mo k_co_Mo_refuse (by decide +kernel) rfl ⟨Nat.le_of_ble_eq_true rfl, Nat.le_of_ble_eq_true rfl⟩ ⟨rfl, rfl⟩ ⟨Nat.zero_le _, Nat.zero_le _⟩ rfl (Nat.le_of_ble_eq_true rfl) d_Mo_join_222 (fun r' C' H locs hp w => ?_)
                        obtain ⟨rfl, rfl⟩ := hp
                        rw [mB_mB] at w
                        have hB := hB0.set (if (0 : Int) = 0 then 0 else 3) pr fc
                        have hth2 : (if (0 : Int) = 0 then (0 : Int) else 3) = 0 := rfl
                        rw [hth2] at w hB
                        refine z_eq (a := 0) (tgt := 230) X (by omega) d_Mo_join_225 (by decide) (fun h_225 => ?_) (fun h_225 => ?_)
                        · refine lv_aload_n X.1 X.2.1 d_Mo_join_230 rfl (lv_at hl 2 rfl) ?_
                          refine m_get X hT w hB 8 (by decide) k_f_Mo_37 rfl d_Mo_join_231 ?_
                          refine lv_aload_n X.1 X.2.1 d_Mo_join_234 rfl (lv_at hl 2 rfl) ?_
                          refine m_get X hT w hB 11 (by decide) k_f_Mo_46 rfl d_Mo_join_235 ?_
                          refine w_cSv (n := 2) (As := [.ref (ad (138 + 43)), .ref (ad (138 + 46))]) (rest := []) X w hml hl.1 (c_Mo_copy hT (M := Mw2) (a := 43) (b := 46) (by omega) (by omega) hW2) k_m_Mo_84 k_st_Mo_copy k_i_Mo k_co_Mo_copy (by decide +kernel) rfl ⟨Nat.le_of_ble_eq_true rfl, Nat.le_of_ble_eq_true rfl⟩ ⟨rfl, rfl⟩ ⟨Nat.zero_le _, Nat.zero_le _⟩ rfl (Nat.le_of_ble_eq_true rfl) d_Mo_join_238 (fun C' H locs hp w => ?_)
                          subst hp
                          obtain ⟨Mw3, eMw3⟩ : ∃ mm : Nat → Nat → Int, mm = va_up Mw2 46 (Mw2 43) := ⟨_, rfl⟩
                          rw [← eMw3] at w
                          rw [b43] at eMw3
                          refine lv_goto (tgt := 358) X.1 X.2.1 d_Mo_join_241 (by decide) ?_
                          have hz9 : (jnR pr inv op (M a.toNat) (M b.toNat)) = prd pr (M a.toNat) (M b.toNat) := by unfold jnR; rw [if_neg (by omega), if_neg (by omega), if_pos (by omega)]
                          have hz8 : okp pr 25 (jnR pr inv op (M a.toNat) (M b.toNat)) := jnR_ok hI ha9 hb9 (fun h => by omega) (by omega)
                          refine l_Mo_join_358 (M := M) (t := t) X hr hlk hml hT hB hpr k0 hz8 w (by rw [hz9, eMw3, va_up_self]) (by rw [eMw3]; exact hW2.up (hpk.ok hpr.2)) (fun r h => by rw [eMw3, va_up_ne _ _ (by omega), eMw2, va_up_ne _ _ (by omega)]; exact aF r (by omega)) (lv_sub hl [2, 3] rfl) (fun M2 q8 q9 => Or.inr (Or.inr (Or.inr ⟨⟨k0, k0a, k0b⟩, by omega, fun h => by omega, fun h => by omega, rfl, hz8, M2, rfl, q8, q9⟩)))
                        · exact absurd h_225 (by omega)
                      · refine lv_iconst (v := iI (1)) X.1 X.2.1 d_Mo_join_217 (by decide) ?_
                        refine lv_goto (tgt := 222) X.1 X.2.1 d_Mo_join_218 (by decide) ?_
                        refine w_cVi (n := 2) (i := 132) (ci := 5) (As := [.int (iI (3)), .int (iI (1))]) (rest := []) X w hml hl.1 (c_Mo_refuse hT (M := Mw2) hB (k := 3) (b := 1) (by omega)) (by omega) (by rw [mkR_B (by decide)]; exact hB.1) rfl k_m_Mo_61 k_im_Mo_refuse k_se_Mo_refuse k_i_Mo k_co_Mo_refuse (by decide +kernel) rfl ⟨Nat.le_of_ble_eq_true rfl, Nat.le_of_ble_eq_true rfl⟩ ⟨rfl, rfl⟩ ⟨Nat.zero_le _, Nat.zero_le _⟩ rfl (Nat.le_of_ble_eq_true rfl) d_Mo_join_222 (fun r' C' H locs hp w => ?_)
                        obtain ⟨rfl, rfl⟩ := hp
                        rw [mB_mB] at w
                        have hB := hB0.set (if (1 : Int) = 0 then 0 else 3) pr fc
                        refine z_eq (a := 1) (tgt := 230) X (by omega) d_Mo_join_225 (by decide) (fun h_225 => ?_) (fun h_225 => ?_)
                        · exact absurd h_225 (by omega)
                        · refine lv_iconst (v := iI (0)) X.1 X.2.1 d_Mo_join_228 (by decide) ?_
                          exact w_iret X hr hlk w (Or.inr (Or.inr (Or.inl ⟨⟨k0, k0a, k0b⟩, by omega, by omega, rfl, Mw2, by rw [if_neg (by decide)], hW2, fun r h => by rw [eMw2, va_up_ne _ _ (by omega)]; exact aF r (by omega)⟩))) d_Mo_join_229
                    · refine W.eq (g2 := F0 m 95 ls [.int (iI (3))]) (by rw [hsw2]) ?_
                      refine lv_tableIn (tgt := 244) X.1 X.2.1 d_Mo_join_95 (by decide) (by decide) rfl (by decide) ?_
                      refine lv_aload_n X.1 X.2.1 d_Mo_join_244 rfl (lv_at hl 2 rfl) ?_
                      refine lv_aload X.1 X.2.1 d_Mo_join_245 (lv_at hl 1 rfl) ?_
                      refine lv_aload X.1 X.2.1 d_Mo_join_247 (lv_at hl 0 rfl) ?_
                      refine w_cVv (n := 2) (i := 132) (ci := 5) (As := [.ref (ad (138 + a.toNat)), .ref (ad (138 + b.toNat))]) (rest := []) X w hml hl.1 (c_Mo_divided hT (M := Mw1) hB hI (a := a.toNat) (b := b.toNat) (by omega) (by omega) hW1 (by rw [fa]; exact ha9.mono (by omega)) (by rw [fb]; exact hb9.mono (by omega)) (by rw [fb]; omega)) (by omega) (by rw [mkR_B (by decide)]; exact hB.1) rfl k_m_Mo_91 k_im_Mo_divided k_se_Mo_divided k_i_Mo k_co_Mo_divided (by decide +kernel) rfl ⟨Nat.le_of_ble_eq_true rfl, Nat.le_of_ble_eq_true rfl⟩ ⟨rfl, rfl⟩ ⟨Nat.zero_le _, Nat.zero_le _⟩ rfl (Nat.le_of_ble_eq_true rfl) d_Mo_join_249 (fun C' H locs hp w => ?_)
                      subst hp
                      obtain ⟨Mw2, eMw2⟩ : ∃ mm : Nat → Nat → Int, mm = va_up (va_up Mw1 41 (dvm pr inv (Mw1 a.toNat) (Mw1 b.toNat)).2) 42 (dvm pr inv (Mw1 a.toNat) (Mw1 b.toNat)).1 := ⟨_, rfl⟩
                      rw [← eMw2] at w
                      rw [fa, fb] at eMw2
                      have hq9 := dvm_ok (inv := inv) (M := 25) (by omega) ha9 hb9 (by omega) (by omega) hpr.2 (by omega)
                      have hW2 : WR Mw2 := by rw [eMw2]; exact (hW1.up ((hq9.2.mono (by omega)).ok hpr.2)).up ((hq9.1.mono (by omega)).ok hpr.2)
                      have b41 : Mw2 41 = (dvm pr inv (M a.toNat) (M b.toNat)).2 := by rw [eMw2, va_up_ne _ _ (by decide), va_up_self]
                      have b42 : Mw2 42 = (dvm pr inv (M a.toNat) (M b.toNat)).1 := by rw [eMw2, va_up_self]
                      refine lv_iload_n X.1 X.2.1 d_Mo_join_252 rfl (lv_at hl 4 rfl) ?_
                      refine lv_iconst (v := iI (3)) X.1 X.2.1 d_Mo_join_253 (by decide) ?_
                      refine i_ne (a := op) (b := 3) (tgt := 264) X (by omega) (by omega) d_Mo_join_254 (by decide) (fun h_254 => ?_) (fun h_254 => ?_)
                      · exact absurd hsw2 h_254
                      · refine lv_aload_n X.1 X.2.1 d_Mo_join_257 rfl (lv_at hl 2 rfl) ?_
                        refine m_get X hT w hB 6 (by decide) k_f_Mo_31 rfl d_Mo_join_258 ?_
                        refine lv_goto (tgt := 268) X.1 X.2.1 d_Mo_join_261 (by decide) ?_
                        refine lv_aload_n X.1 X.2.1 d_Mo_join_268 rfl (lv_at hl 2 rfl) ?_
                        refine m_get X hT w hB 11 (by decide) k_f_Mo_46 rfl d_Mo_join_269 ?_
                        refine w_cSv (n := 2) (As := [.ref (ad (138 + 41)), .ref (ad (138 + 46))]) (rest := []) X w hml hl.1 (c_Mo_copy hT (M := Mw2) (a := 41) (b := 46) (by omega) (by omega) hW2) k_m_Mo_84 k_st_Mo_copy k_i_Mo k_co_Mo_copy (by decide +kernel) rfl ⟨Nat.le_of_ble_eq_true rfl, Nat.le_of_ble_eq_true rfl⟩ ⟨rfl, rfl⟩ ⟨Nat.zero_le _, Nat.zero_le _⟩ rfl (Nat.le_of_ble_eq_true rfl) d_Mo_join_272 (fun C' H locs hp w => ?_)
                        subst hp
                        obtain ⟨Mw3, eMw3⟩ : ∃ mm : Nat → Nat → Int, mm = va_up Mw2 46 (Mw2 41) := ⟨_, rfl⟩
                        rw [← eMw3] at w
                        rw [b41] at eMw3
                        refine lv_goto (tgt := 358) X.1 X.2.1 d_Mo_join_275 (by decide) ?_
                        have hz9 : (jnR pr inv op (M a.toNat) (M b.toNat)) = (dvm pr inv (M a.toNat) (M b.toNat)).2 := by unfold jnR; rw [if_neg (by omega), if_neg (by omega), if_neg (by omega), if_pos (by omega)]
                        have hz8 : okp pr 25 (jnR pr inv op (M a.toNat) (M b.toNat)) := jnR_ok hI ha9 hb9 (fun h => by omega) (by omega)
                        refine l_Mo_join_358 (M := M) (t := t) X hr hlk hml hT hB hpr k0 hz8 w (by rw [hz9, eMw3, va_up_self]) (by rw [eMw3]; exact hW2.up (by rw [← b41]; exact hW2 _ (by omega))) (fun r h => by rw [eMw3, va_up_ne _ _ (by omega), eMw2, va_up_ne _ _ (by omega), va_up_ne _ _ (by omega)]; exact aF r (by omega)) (lv_sub hl [2, 3] rfl) (fun M2 q8 q9 => Or.inr (Or.inr (Or.inr ⟨⟨k0, k0a, k0b⟩, by omega, fun h => by omega, fun h => by omega, rfl, hz8, M2, rfl, q8, q9⟩)))
                    · refine W.eq (g2 := F0 m 95 ls [.int (iI (4))]) (by rw [hsw2]) ?_
                      refine lv_tableIn (tgt := 244) X.1 X.2.1 d_Mo_join_95 (by decide) (by decide) rfl (by decide) ?_
                      refine lv_aload_n X.1 X.2.1 d_Mo_join_244 rfl (lv_at hl 2 rfl) ?_
                      refine lv_aload X.1 X.2.1 d_Mo_join_245 (lv_at hl 1 rfl) ?_
                      refine lv_aload X.1 X.2.1 d_Mo_join_247 (lv_at hl 0 rfl) ?_
                      refine w_cVv (n := 2) (i := 132) (ci := 5) (As := [.ref (ad (138 + a.toNat)), .ref (ad (138 + b.toNat))]) (rest := []) X w hml hl.1 (c_Mo_divided hT (M := Mw1) hB hI (a := a.toNat) (b := b.toNat) (by omega) (by omega) hW1 (by rw [fa]; exact ha9.mono (by omega)) (by rw [fb]; exact hb9.mono (by omega)) (by rw [fb]; omega)) (by omega) (by rw [mkR_B (by decide)]; exact hB.1) rfl k_m_Mo_91 k_im_Mo_divided k_se_Mo_divided k_i_Mo k_co_Mo_divided (by decide +kernel) rfl ⟨Nat.le_of_ble_eq_true rfl, Nat.le_of_ble_eq_true rfl⟩ ⟨rfl, rfl⟩ ⟨Nat.zero_le _, Nat.zero_le _⟩ rfl (Nat.le_of_ble_eq_true rfl) d_Mo_join_249 (fun C' H locs hp w => ?_)
                      subst hp
                      obtain ⟨Mw2, eMw2⟩ : ∃ mm : Nat → Nat → Int, mm = va_up (va_up Mw1 41 (dvm pr inv (Mw1 a.toNat) (Mw1 b.toNat)).2) 42 (dvm pr inv (Mw1 a.toNat) (Mw1 b.toNat)).1 := ⟨_, rfl⟩
                      rw [← eMw2] at w
                      rw [fa, fb] at eMw2
                      have hq9 := dvm_ok (inv := inv) (M := 25) (by omega) ha9 hb9 (by omega) (by omega) hpr.2 (by omega)
                      have hW2 : WR Mw2 := by rw [eMw2]; exact (hW1.up ((hq9.2.mono (by omega)).ok hpr.2)).up ((hq9.1.mono (by omega)).ok hpr.2)
                      have b41 : Mw2 41 = (dvm pr inv (M a.toNat) (M b.toNat)).2 := by rw [eMw2, va_up_ne _ _ (by decide), va_up_self]
                      have b42 : Mw2 42 = (dvm pr inv (M a.toNat) (M b.toNat)).1 := by rw [eMw2, va_up_self]
                      refine lv_iload_n X.1 X.2.1 d_Mo_join_252 rfl (lv_at hl 4 rfl) ?_
                      refine lv_iconst (v := iI (3)) X.1 X.2.1 d_Mo_join_253 (by decide) ?_
                      refine i_ne (a := op) (b := 3) (tgt := 264) X (by omega) (by omega) d_Mo_join_254 (by decide) (fun h_254 => ?_) (fun h_254 => ?_)
                      · refine lv_aload_n X.1 X.2.1 d_Mo_join_264 rfl (lv_at hl 2 rfl) ?_
                        refine m_get X hT w hB 7 (by decide) k_f_Mo_34 rfl d_Mo_join_265 ?_
                        refine lv_aload_n X.1 X.2.1 d_Mo_join_268 rfl (lv_at hl 2 rfl) ?_
                        refine m_get X hT w hB 11 (by decide) k_f_Mo_46 rfl d_Mo_join_269 ?_
                        refine w_cSv (n := 2) (As := [.ref (ad (138 + 42)), .ref (ad (138 + 46))]) (rest := []) X w hml hl.1 (c_Mo_copy hT (M := Mw2) (a := 42) (b := 46) (by omega) (by omega) hW2) k_m_Mo_84 k_st_Mo_copy k_i_Mo k_co_Mo_copy (by decide +kernel) rfl ⟨Nat.le_of_ble_eq_true rfl, Nat.le_of_ble_eq_true rfl⟩ ⟨rfl, rfl⟩ ⟨Nat.zero_le _, Nat.zero_le _⟩ rfl (Nat.le_of_ble_eq_true rfl) d_Mo_join_272 (fun C' H locs hp w => ?_)
                        subst hp
                        obtain ⟨Mw3, eMw3⟩ : ∃ mm : Nat → Nat → Int, mm = va_up Mw2 46 (Mw2 42) := ⟨_, rfl⟩
                        rw [← eMw3] at w
                        rw [b42] at eMw3
                        refine lv_goto (tgt := 358) X.1 X.2.1 d_Mo_join_275 (by decide) ?_
                        have hz9 : (jnR pr inv op (M a.toNat) (M b.toNat)) = (dvm pr inv (M a.toNat) (M b.toNat)).1 := by unfold jnR; rw [if_neg (by omega), if_neg (by omega), if_neg (by omega), if_neg (by omega), if_pos (by omega)]
                        have hz8 : okp pr 25 (jnR pr inv op (M a.toNat) (M b.toNat)) := jnR_ok hI ha9 hb9 (fun h => by omega) (by omega)
                        refine l_Mo_join_358 (M := M) (t := t) X hr hlk hml hT hB hpr k0 hz8 w (by rw [hz9, eMw3, va_up_self]) (by rw [eMw3]; exact hW2.up (by rw [← b42]; exact hW2 _ (by omega))) (fun r h => by rw [eMw3, va_up_ne _ _ (by omega), eMw2, va_up_ne _ _ (by omega), va_up_ne _ _ (by omega)]; exact aF r (by omega)) (lv_sub hl [2, 3] rfl) (fun M2 q8 q9 => Or.inr (Or.inr (Or.inr ⟨⟨k0, k0a, k0b⟩, by omega, fun h => by omega, fun h => by omega, rfl, hz8, M2, rfl, q8, q9⟩)))
                      · exact absurd h_254 (by omega)
                    · refine W.eq (g2 := F0 m 95 ls [.int (iI (5))]) (by rw [hsw2]) ?_
                      refine lv_tableIn (tgt := 278) X.1 X.2.1 d_Mo_join_95 (by decide) (by decide) rfl (by decide) ?_
                      refine lv_aload_n X.1 X.2.1 d_Mo_join_278 rfl (lv_at hl 2 rfl) ?_
                      refine lv_aload X.1 X.2.1 d_Mo_join_279 (lv_at hl 1 rfl) ?_
                      refine lv_aload X.1 X.2.1 d_Mo_join_281 (lv_at hl 0 rfl) ?_
                      refine w_cVv (n := 2) (i := 132) (ci := 5) (As := [.ref (ad (138 + a.toNat)), .ref (ad (138 + b.toNat))]) (rest := []) X w hml hl.1 (c_Mo_common hT (M := Mw1) hB hI (a := a.toNat) (b := b.toNat) (by omega) (by omega) hW1 (by rw [fa]; exact ha9.mono (by omega)) (by rw [fb]; exact hb9.mono (by omega)) (by rw [fb]; omega)) (by omega) (by rw [mkR_B (by decide)]; exact hB.1) rfl k_m_Mo_100 k_im_Mo_common k_se_Mo_common k_i_Mo k_co_Mo_common (by decide +kernel) rfl ⟨Nat.le_of_ble_eq_true rfl, Nat.le_of_ble_eq_true rfl⟩ ⟨rfl, rfl⟩ ⟨Nat.zero_le _, Nat.zero_le _⟩ rfl (Nat.le_of_ble_eq_true rfl) d_Mo_join_283 (fun C' H locs hp w => ?_)
                      obtain ⟨M6, rfl, hW6, q1, q2, q3⟩ := hp
                      rw [fa, fb] at q1
                      refine lv_aload_n X.1 X.2.1 d_Mo_join_286 rfl (lv_at hl 2 rfl) ?_
                      refine m_get X hT w hB 9 (by decide) k_f_Mo_40 rfl d_Mo_join_287 ?_
                      refine lv_aload_n X.1 X.2.1 d_Mo_join_290 rfl (lv_at hl 2 rfl) ?_
                      refine m_get X hT w hB 11 (by decide) k_f_Mo_46 rfl d_Mo_join_291 ?_
                      refine w_cSv (n := 2) (As := [.ref (ad (138 + 44)), .ref (ad (138 + 46))]) (rest := []) X w hml hl.1 (c_Mo_copy hT (M := M6) (a := 44) (b := 46) (by omega) (by omega) hW6) k_m_Mo_84 k_st_Mo_copy k_i_Mo k_co_Mo_copy (by decide +kernel) rfl ⟨Nat.le_of_ble_eq_true rfl, Nat.le_of_ble_eq_true rfl⟩ ⟨rfl, rfl⟩ ⟨Nat.zero_le _, Nat.zero_le _⟩ rfl (Nat.le_of_ble_eq_true rfl) d_Mo_join_294 (fun C' H locs hp w => ?_)
                      subst hp
                      obtain ⟨Mw2, eMw2⟩ : ∃ mm : Nat → Nat → Int, mm = va_up M6 46 (M6 44) := ⟨_, rfl⟩
                      rw [← eMw2] at w
                      rw [q1] at eMw2
                      refine lv_goto (tgt := 358) X.1 X.2.1 d_Mo_join_297 (by decide) ?_
                      have hz9 : (jnR pr inv op (M a.toNat) (M b.toNat)) = gcdP pr inv (M a.toNat) (M b.toNat) := by unfold jnR; rw [if_neg (by omega), if_neg (by omega), if_neg (by omega), if_neg (by omega), if_neg (by omega), if_pos (by omega)]
                      have hz8 : okp pr 25 (jnR pr inv op (M a.toNat) (M b.toNat)) := jnR_ok hI ha9 hb9 (fun h => by omega) (by omega)
                      refine l_Mo_join_358 (M := M) (t := t) X hr hlk hml hT hB hpr k0 hz8 w (by rw [hz9, eMw2, va_up_self]) (by rw [eMw2]; exact hW6.up (by rw [← q1]; exact hW6 _ (by omega))) (fun r h => by rw [eMw2, va_up_ne _ _ (by omega), q3 r (by omega) (by omega) (by omega) (by omega)]; exact aF r (by omega)) (lv_sub hl [2, 3] rfl) (fun M2 q8 q9 => Or.inr (Or.inr (Or.inr ⟨⟨k0, k0a, k0b⟩, by omega, fun h => by omega, fun h => by omega, rfl, hz8, M2, rfl, q8, q9⟩)))
                    · refine W.eq (g2 := F0 m 95 ls [.int (iI (6))]) (by rw [hsw2]) ?_
                      refine lv_tableIn (tgt := 300) X.1 X.2.1 d_Mo_join_95 (by decide) (by decide) rfl (by decide) ?_
                      refine lv_aload X.1 X.2.1 d_Mo_join_300 (lv_at hl 1 rfl) ?_
                      refine lv_aload_n X.1 X.2.1 d_Mo_join_302 rfl (lv_at hl 2 rfl) ?_
                      refine m_get X hT w hB 11 (by decide) k_f_Mo_46 rfl d_Mo_join_303 ?_
                      refine w_cSv (n := 2) (As := [.ref (ad (138 + a.toNat)), .ref (ad (138 + 46))]) (rest := []) X w hml hl.1 (c_Mo_copy hT (M := Mw1) (a := a.toNat) (b := 46) (by omega) (by omega) hW1) k_m_Mo_84 k_st_Mo_copy k_i_Mo k_co_Mo_copy (by decide +kernel) rfl ⟨Nat.le_of_ble_eq_true rfl, Nat.le_of_ble_eq_true rfl⟩ ⟨rfl, rfl⟩ ⟨Nat.zero_le _, Nat.zero_le _⟩ rfl (Nat.le_of_ble_eq_true rfl) d_Mo_join_306 (fun C' H locs hp w => ?_)
                      subst hp
                      obtain ⟨Mw2, eMw2⟩ : ∃ mm : Nat → Nat → Int, mm = va_up Mw1 46 (Mw1 a.toNat) := ⟨_, rfl⟩
                      rw [← eMw2] at w
                      rw [fa] at eMw2
                      have hW2 : WR Mw2 := by rw [eMw2]; exact hW1.up (hW _ (by omega))
                      have b46 : Mw2 46 = M a.toNat := by rw [eMw2, va_up_self]
                      refine lv_aload_n X.1 X.2.1 d_Mo_join_309 rfl (lv_at hl 2 rfl) ?_
                      refine lv_aload_n X.1 X.2.1 d_Mo_join_310 rfl (lv_at hl 2 rfl) ?_
                      refine m_get X hT w hB 11 (by decide) k_f_Mo_46 rfl d_Mo_join_311 ?_
                      refine w_cVv (n := 1) (i := 132) (ci := 5) (As := [.ref (ad (138 + 46))]) (rest := []) X w hml hl.1 (c_Mo_monic hT (M := Mw2) hB hI (a := 46) (by omega) (by rw [b46]; exact ha9.mono (by omega))) (by omega) (by rw [mkR_B (by decide)]; exact hB.1) rfl k_m_Mo_94 k_im_Mo_monic k_se_Mo_monic k_i_Mo k_co_Mo_monic (by decide +kernel) rfl ⟨Nat.le_of_ble_eq_true rfl, Nat.le_of_ble_eq_true rfl⟩ ⟨rfl, rfl⟩ ⟨Nat.zero_le _, Nat.zero_le _⟩ rfl (Nat.le_of_ble_eq_true rfl) d_Mo_join_314 (fun C' H locs hp w => ?_)
                      subst hp
                      obtain ⟨Mw3, eMw3⟩ : ∃ mm : Nat → Nat → Int, mm = va_up Mw2 46 (mon pr inv (Mw2 46)) := ⟨_, rfl⟩
                      rw [← eMw3] at w
                      rw [b46] at eMw3
                      refine lv_goto (tgt := 358) X.1 X.2.1 d_Mo_join_317 (by decide) ?_
                      have hz9 : (jnR pr inv op (M a.toNat) (M b.toNat)) = mon pr inv (M a.toNat) := by unfold jnR; rw [if_neg (by omega), if_neg (by omega), if_neg (by omega), if_neg (by omega), if_neg (by omega), if_neg (by omega), if_pos (by omega)]
                      have hz8 : okp pr 25 (jnR pr inv op (M a.toNat) (M b.toNat)) := jnR_ok hI ha9 hb9 (fun h => by omega) (by omega)
                      refine l_Mo_join_358 (M := M) (t := t) X hr hlk hml hT hB hpr k0 hz8 w (by rw [hz9, eMw3, va_up_self]) (by rw [eMw3]; exact hW2.up (((mon_ok (inv := inv) (by omega) ha9).mono (by omega)).ok hpr.2)) (fun r h => by rw [eMw3, va_up_ne _ _ (by omega), eMw2, va_up_ne _ _ (by omega)]; exact aF r (by omega)) (lv_sub hl [2, 3] rfl) (fun M2 q8 q9 => Or.inr (Or.inr (Or.inr ⟨⟨k0, k0a, k0b⟩, by omega, fun h => by omega, fun h => by omega, rfl, hz8, M2, rfl, q8, q9⟩)))
                · exact absurd h_82 (by omega)
              · refine lv_iconst (v := iI (1)) X.1 X.2.1 d_Mo_join_74 (by decide) ?_
                refine lv_goto (tgt := 79) X.1 X.2.1 d_Mo_join_75 (by decide) ?_
                refine w_cVi (n := 2) (i := 132) (ci := 5) (As := [.int (iI (2)), .int (iI (1))]) (rest := []) X w hml hl.1 (c_Mo_refuse hT (M := M) hB (k := 2) (b := 1) (by omega)) (by omega) (by rw [mkR_B (by decide)]; exact hB.1) rfl k_m_Mo_61 k_im_Mo_refuse k_se_Mo_refuse k_i_Mo k_co_Mo_refuse (by decide +kernel) rfl ⟨Nat.le_of_ble_eq_true rfl, Nat.le_of_ble_eq_true rfl⟩ ⟨rfl, rfl⟩ ⟨Nat.zero_le _, Nat.zero_le _⟩ rfl (Nat.le_of_ble_eq_true rfl) d_Mo_join_79 (fun r' C' H locs hp w => ?_)
                obtain ⟨rfl, rfl⟩ := hp
                rw [mB_mB] at w
                have hB := hB0.set (if (1 : Int) = 0 then (outF b 0 15) else 2) pr fc
                refine z_eq (a := 1) (tgt := 87) X (by omega) d_Mo_join_82 (by decide) (fun h_82 => ?_) (fun h_82 => ?_)
                · exact absurd h_82 (by omega)
                · refine lv_iconst (v := iI (0)) X.1 X.2.1 d_Mo_join_85 (by decide) ?_
                  exact w_iret X hr hlk w (Or.inr (Or.inl ⟨⟨k0, k0a, k0b⟩, by omega, rfl, by rw [if_neg (by decide)]⟩)) d_Mo_join_86
            · refine lv_iload_n X.1 X.2.1 d_Mo_join_61 rfl (lv_at hl 4 rfl) ?_
              refine lv_iconst (v := iI (4)) X.1 X.2.1 d_Mo_join_62 (by decide) ?_
              refine i_ne (a := op) (b := 4) (tgt := 78) X (by omega) (by omega) d_Mo_join_63 (by decide) (fun h_63 => ?_) (fun h_63 => ?_)
              · refine lv_iconst (v := iI (0)) X.1 X.2.1 d_Mo_join_78 (by decide) ?_
                refine w_cVi (n := 2) (i := 132) (ci := 5) (As := [.int (iI (2)), .int (iI (0))]) (rest := []) X w hml hl.1 (c_Mo_refuse hT (M := M) hB (k := 2) (b := 0) (by omega)) (by omega) (by rw [mkR_B (by decide)]; exact hB.1) rfl k_m_Mo_61 k_im_Mo_refuse k_se_Mo_refuse k_i_Mo k_co_Mo_refuse (by decide +kernel) rfl ⟨Nat.le_of_ble_eq_true rfl, Nat.le_of_ble_eq_true rfl⟩ ⟨rfl, rfl⟩ ⟨Nat.zero_le _, Nat.zero_le _⟩ rfl (Nat.le_of_ble_eq_true rfl) d_Mo_join_79 (fun r' C' H locs hp w => ?_)
                obtain ⟨rfl, rfl⟩ := hp
                rw [mB_mB] at w
                have hB := hB0.set (if (0 : Int) = 0 then (outF b 0 15) else 2) pr fc
                have hth : (if (0 : Int) = 0 then (outF b 0 15) else 2) = 0 := by rw [if_pos rfl]; exact h_22
                rw [hth] at w hB
                refine z_eq (a := 0) (tgt := 87) X (by omega) d_Mo_join_82 (by decide) (fun h_82 => ?_) (fun h_82 => ?_)
                · refine lv_aload_n X.1 X.2.1 d_Mo_join_87 rfl (lv_at hl 2 rfl) ?_
                  refine m_get X hT w hB 11 (by decide) k_f_Mo_46 rfl d_Mo_join_88 ?_
                  refine w_cSv (n := 1) (As := [.ref (ad (138 + 46))]) (rest := []) X w hml hl.1 (c_Mo_clear hT (M := M) (a := 46) (by omega) hW) k_m_Mo_69 k_st_Mo_clear k_i_Mo k_co_Mo_clear (by decide +kernel) rfl ⟨Nat.le_of_ble_eq_true rfl, Nat.le_of_ble_eq_true rfl⟩ ⟨rfl, rfl⟩ ⟨Nat.zero_le _, Nat.zero_le _⟩ rfl (Nat.le_of_ble_eq_true rfl) d_Mo_join_91 (fun C' H locs hp w => ?_)
                  subst hp
                  obtain ⟨Mw1, eMw1⟩ : ∃ mm : Nat → Nat → Int, mm = va_up M 46 (fun _ => 0) := ⟨_, rfl⟩
                  rw [← eMw1] at w
                  have hW1 : WR Mw1 := by rw [eMw1]; exact hW.up (ok_0 _)
                  have aF : ∀ r, r ≠ 46 → Mw1 r = M r := fun r h => by rw [eMw1, va_up_ne _ _ h]
                  have fa : Mw1 a.toNat = M a.toNat := aF _ (by omega)
                  have fb : Mw1 b.toNat = M b.toNat := aF _ (by omega)
                  refine lv_iload_n X.1 X.2.1 d_Mo_join_94 rfl (lv_at hl 4 rfl) ?_
                  by_cases hsw : op < 0 ∨ 6 < op
                  · refine lv_tableOut (tgt := 320) X.1 X.2.1 d_Mo_join_95 (by rw [iI_toInt (by omega)]; exact hsw) (by decide) ?_
                    refine lv_iconst (v := iI (1)) X.1 X.2.1 d_Mo_join_320 (by decide) ?_
                    refine lv_istore (lv' := [(7, .int (iI (1))), (6, .ref (ad (138 + b.toNat))), (5, .ref (ad (138 + a.toNat))), (0, .ref (ad (132))), (1, .int (iI (t))), (2, .int (iI (op))), (3, .int (iI (a))), (4, .int (iI (b)))]) X.1 X.2.1 d_Mo_join_321 hl (by decide) rfl (fun ls hl => ?_)
                    refine l_Mo_join_323 (M := Mw1) (t := t) (a := a.toNat) X hml hT hB hpr (by omega) (by rw [fa]; exact ha9) (fun M3 H locs ls w g1 g2 hl => ?_) 24 1 Mw1 H locs ls (by omega) (by omega) w (fun x => by rw [eMw1, va_up_self, if_neg (by omega)]) (fun _ _ => rfl) (lv_sub hl [3, 4, 2, 0] rfl)
                    rw [fa] at g1
                    have hz9 : (jnR pr inv op (M a.toNat) (M b.toNat)) = der pr (M a.toNat) := by unfold jnR; rw [if_neg (by omega), if_neg (by omega), if_neg (by omega), if_neg (by omega), if_neg (by omega), if_neg (by omega), if_neg (by omega)]
                    have hz8 : okp pr 25 (jnR pr inv op (M a.toNat) (M b.toNat)) := jnR_ok hI ha9 hb9 (fun h => by omega) (by omega)
                    have e46 : M3 46 = (jnR pr inv op (M a.toNat) (M b.toNat)) := by rw [hz9, g1]
                    have hW3 : WR M3 := by
                      have e4 : M3 = va_up Mw1 46 (jnR pr inv op (M a.toNat) (M b.toNat)) := by
                        funext r
                        by_cases e9 : r = 46
                        · rw [e9, e46, va_up_self]
                        · rw [va_up_ne _ _ e9, g2 r e9]
                      rw [e4]
                      exact hW1.up ((hz8.mono (by omega)).ok hpr.2)
                    exact l_Mo_join_358 (M := M) (t := t) X hr hlk hml hT hB hpr k0 hz8 w e46 hW3 (fun r h => by rw [g2 r (by omega)]; exact aF r (by omega)) hl (fun M2 q8 q9 => Or.inr (Or.inr (Or.inr ⟨⟨k0, k0a, k0b⟩, by omega, fun h => by omega, fun h => by omega, rfl, hz8, M2, rfl, q8, q9⟩)))
                  · have hsw2 : op = 0 ∨ op = 1 ∨ op = 2 ∨ op = 3 ∨ op = 4 ∨ op = 5 ∨ op = 6 := by omega
                    rcases hsw2 with hsw2 | hsw2 | hsw2 | hsw2 | hsw2 | hsw2 | hsw2
                    · refine W.eq (g2 := F0 m 95 ls [.int (iI (0))]) (by rw [hsw2]) ?_
                      refine lv_tableIn (tgt := 136) X.1 X.2.1 d_Mo_join_95 (by decide) (by decide) rfl (by decide) ?_
                      refine lv_iconst (v := iI (0)) X.1 X.2.1 d_Mo_join_136 (by decide) ?_
                      refine lv_istore (lv' := [(7, .int (iI (0))), (6, .ref (ad (138 + b.toNat))), (5, .ref (ad (138 + a.toNat))), (0, .ref (ad (132))), (1, .int (iI (t))), (2, .int (iI (op))), (3, .int (iI (a))), (4, .int (iI (b)))]) X.1 X.2.1 d_Mo_join_137 hl (by decide) rfl (fun ls hl => ?_)
                      refine l_Mo_join_139 (M := Mw1) (t := t) (a := a.toNat) (b := b.toNat) (op := op) X hml hT hB hpr (by omega) (by omega) (by rw [fa]; exact ha9) (by rw [fb]; exact hb9) (by omega) (Y := _) rfl (fun M3 H locs ls w g1 g2 hl => ?_) 25 0 Mw1 H locs ls (by omega) w (fun x => by rw [eMw1, va_up_self, if_neg (by omega)]) (fun _ _ => rfl) (lv_sub hl [3, 4, 5, 2, 1, 0] rfl)
                      rw [fa, fb] at g1
                      have hz9 : (jnR pr inv op (M a.toNat) (M b.toNat)) = fun x => (M a.toNat x + M b.toNat x) % pr := by unfold jnR; rw [if_pos (by omega)]
                      have hz8 : okp pr 25 (jnR pr inv op (M a.toNat) (M b.toNat)) := jnR_ok hI ha9 hb9 (fun h => by omega) (by omega)
                      have e46 : M3 46 = (jnR pr inv op (M a.toNat) (M b.toNat)) := by
                        rw [hz9, g1]
                        funext x
                        rw [if_pos (by omega)]
                      have hW3 : WR M3 := by
                        have e4 : M3 = va_up Mw1 46 (jnR pr inv op (M a.toNat) (M b.toNat)) := by
                          funext r
                          by_cases e9 : r = 46
                          · rw [e9, e46, va_up_self]
                          · rw [va_up_ne _ _ e9, g2 r e9]
                        rw [e4]
                        exact hW1.up ((hz8.mono (by omega)).ok hpr.2)
                      exact l_Mo_join_358 (M := M) (t := t) X hr hlk hml hT hB hpr k0 hz8 w e46 hW3 (fun r h => by rw [g2 r (by omega)]; exact aF r (by omega)) hl (fun M2 q8 q9 => Or.inr (Or.inr (Or.inr ⟨⟨k0, k0a, k0b⟩, by omega, fun h => by omega, fun h => by omega, rfl, hz8, M2, rfl, q8, q9⟩)))
                    · refine W.eq (g2 := F0 m 95 ls [.int (iI (1))]) (by rw [hsw2]) ?_
                      refine lv_tableIn (tgt := 136) X.1 X.2.1 d_Mo_join_95 (by decide) (by decide) rfl (by decide) ?_
                      refine lv_iconst (v := iI (0)) X.1 X.2.1 d_Mo_join_136 (by decide) ?_
                      refine lv_istore (lv' := [(7, .int (iI (0))), (6, .ref (ad (138 + b.toNat))), (5, .ref (ad (138 + a.toNat))), (0, .ref (ad (132))), (1, .int (iI (t))), (2, .int (iI (op))), (3, .int (iI (a))), (4, .int (iI (b)))]) X.1 X.2.1 d_Mo_join_137 hl (by decide) rfl (fun ls hl => ?_)
                      refine l_Mo_join_139 (M := Mw1) (t := t) (a := a.toNat) (b := b.toNat) (op := op) X hml hT hB hpr (by omega) (by omega) (by rw [fa]; exact ha9) (by rw [fb]; exact hb9) (by omega) (Y := _) rfl (fun M3 H locs ls w g1 g2 hl => ?_) 25 0 Mw1 H locs ls (by omega) w (fun x => by rw [eMw1, va_up_self, if_neg (by omega)]) (fun _ _ => rfl) (lv_sub hl [3, 4, 5, 2, 1, 0] rfl)
                      rw [fa, fb] at g1
                      have hz9 : (jnR pr inv op (M a.toNat) (M b.toNat)) = fun x => (M a.toNat x - M b.toNat x) % pr := by unfold jnR; rw [if_neg (by omega), if_pos (by omega)]
                      have hz8 : okp pr 25 (jnR pr inv op (M a.toNat) (M b.toNat)) := jnR_ok hI ha9 hb9 (fun h => by omega) (by omega)
                      have e46 : M3 46 = (jnR pr inv op (M a.toNat) (M b.toNat)) := by
                        rw [hz9, g1]
                        funext x
                        rw [if_neg (by omega)]
                      have hW3 : WR M3 := by
                        have e4 : M3 = va_up Mw1 46 (jnR pr inv op (M a.toNat) (M b.toNat)) := by
                          funext r
                          by_cases e9 : r = 46
                          · rw [e9, e46, va_up_self]
                          · rw [va_up_ne _ _ e9, g2 r e9]
                        rw [e4]
                        exact hW1.up ((hz8.mono (by omega)).ok hpr.2)
                      exact l_Mo_join_358 (M := M) (t := t) X hr hlk hml hT hB hpr k0 hz8 w e46 hW3 (fun r h => by rw [g2 r (by omega)]; exact aF r (by omega)) hl (fun M2 q8 q9 => Or.inr (Or.inr (Or.inr ⟨⟨k0, k0a, k0b⟩, by omega, fun h => by omega, fun h => by omega, rfl, hz8, M2, rfl, q8, q9⟩)))
                    · refine W.eq (g2 := F0 m 95 ls [.int (iI (2))]) (by rw [hsw2]) ?_
                      refine lv_tableIn (tgt := 195) X.1 X.2.1 d_Mo_join_95 (by decide) (by decide) rfl (by decide) ?_
                      refine lv_aload_n X.1 X.2.1 d_Mo_join_195 rfl (lv_at hl 2 rfl) ?_
                      refine lv_aload X.1 X.2.1 d_Mo_join_196 (lv_at hl 1 rfl) ?_
                      refine lv_aload X.1 X.2.1 d_Mo_join_198 (lv_at hl 0 rfl) ?_
                      refine w_cVv (n := 2) (i := 132) (ci := 5) (As := [.ref (ad (138 + a.toNat)), .ref (ad (138 + b.toNat))]) (rest := []) X w hml hl.1 (c_Mo_times hT (M := Mw1) hB (a := a.toNat) (b := b.toNat) hpr (by omega) (by omega) hW1 (by rw [fa]; exact ha9.mono (by omega)) (by rw [fb]; exact hb9.mono (by omega)) (by rw [fa, fb]; omega)) (by omega) (by rw [mkR_B (by decide)]; exact hB.1) rfl k_m_Mo_97 k_im_Mo_times k_se_Mo_times k_i_Mo k_co_Mo_times (by decide +kernel) rfl ⟨Nat.le_of_ble_eq_true rfl, Nat.le_of_ble_eq_true rfl⟩ ⟨rfl, rfl⟩ ⟨Nat.zero_le _, Nat.zero_le _⟩ rfl (Nat.le_of_ble_eq_true rfl) d_Mo_join_200 (fun C' H locs hp w => ?_)
                      subst hp
                      obtain ⟨Mw2, eMw2⟩ : ∃ mm : Nat → Nat → Int, mm = va_up Mw1 43 (prd pr (Mw1 a.toNat) (Mw1 b.toNat)) := ⟨_, rfl⟩
                      rw [← eMw2] at w
                      rw [fa, fb] at eMw2
                      have hpk : okp pr 50 (prd pr (M a.toNat) (M b.toNat)) := prd_ok (by omega) hpr.2 ha9 hb9 (by omega) (by omega)
                      have hW2 : WR Mw2 := by rw [eMw2]; exact hW1.up (hpk.ok hpr.2)
                      have b43 : Mw2 43 = prd pr (M a.toNat) (M b.toNat) := by rw [eMw2, va_up_self]
                      have hdp := (hpk.ok hpr.2).dlt 300
                      have hdp0 := dg_ge 300 (prd pr (M a.toNat) (M b.toNat))
                      refine lv_aload_n X.1 X.2.1 d_Mo_join_203 rfl (lv_at hl 2 rfl) ?_
                      refine lv_iconst (v := iI (3)) X.1 X.2.1 d_Mo_join_204 (by decide) ?_
                      refine lv_aload_n X.1 X.2.1 d_Mo_join_205 rfl (lv_at hl 2 rfl) ?_
                      refine m_get X hT w hB 8 (by decide) k_f_Mo_37 rfl d_Mo_join_206 ?_
                      refine w_cSi (n := 1) (As := [.ref (ad (138 + 43))]) (rest := [.int (iI (3)), .ref (ad (132))]) X w hml hl.1 (c_Mo_degree hT (M := Mw2) (a := 43) (by omega) (hW2 _ (by omega))) k_m_Mo_80 k_st_Mo_degree k_i_Mo k_co_Mo_degree (by decide +kernel) rfl ⟨Nat.le_of_ble_eq_true rfl, Nat.le_of_ble_eq_true rfl⟩ ⟨rfl, rfl⟩ ⟨Nat.zero_le _, Nat.zero_le _⟩ rfl (Nat.le_of_ble_eq_true rfl) d_Mo_join_209 (fun r' C' H locs hp w => ?_)
                      obtain ⟨rfl, rfl⟩ := hp
                      rw [b43]
                      refine lv_bipush (v := iI (24)) X.1 X.2.1 d_Mo_join_212 (by decide) ?_
                      refine i_le (a := dg 300 (prd pr (M a.toNat) (M b.toNat))) (b := 24) (tgt := 221) X (by omega) (by omega) d_Mo_join_214 (by decide) (fun h_214 => ?_) (fun h_214 => ?_)
                      · refine lv_iconst (v := iI (0)) X.1 X.2.1 d_Mo_join_221 (by decide) ?_
                        refine w_cVi (n := 2) (i := 132) (ci := 5) (As := [.int (iI (3)), .int (iI (0))]) (rest := []) X w hml hl.1 (c_Mo_refuse hT (M := Mw2) hB (k := 3) (b := 0) (by omega)) (by omega) (by rw [mkR_B (by decide)]; exact hB.1) rfl k_m_Mo_61 k_im_Mo_refuse k_se_Mo_refuse k_i_Mo k_co_Mo_refuse (by decide +kernel) rfl ⟨Nat.le_of_ble_eq_true rfl, Nat.le_of_ble_eq_true rfl⟩ ⟨rfl, rfl⟩ ⟨Nat.zero_le _, Nat.zero_le _⟩ rfl (Nat.le_of_ble_eq_true rfl) d_Mo_join_222 (fun r' C' H locs hp w => ?_)
                        obtain ⟨rfl, rfl⟩ := hp
                        rw [mB_mB] at w
                        have hB := hB0.set (if (0 : Int) = 0 then 0 else 3) pr fc
                        have hth2 : (if (0 : Int) = 0 then (0 : Int) else 3) = 0 := rfl
                        rw [hth2] at w hB
                        refine z_eq (a := 0) (tgt := 230) X (by omega) d_Mo_join_225 (by decide) (fun h_225 => ?_) (fun h_225 => ?_)
                        · refine lv_aload_n X.1 X.2.1 d_Mo_join_230 rfl (lv_at hl 2 rfl) ?_
                          refine m_get X hT w hB 8 (by decide) k_f_Mo_37 rfl d_Mo_join_231 ?_
                          refine lv_aload_n X.1 X.2.1 d_Mo_join_234 rfl (lv_at hl 2 rfl) ?_
                          refine m_get X hT w hB 11 (by decide) k_f_Mo_46 rfl d_Mo_join_235 ?_
                          refine w_cSv (n := 2) (As := [.ref (ad (138 + 43)), .ref (ad (138 + 46))]) (rest := []) X w hml hl.1 (c_Mo_copy hT (M := Mw2) (a := 43) (b := 46) (by omega) (by omega) hW2) k_m_Mo_84 k_st_Mo_copy k_i_Mo k_co_Mo_copy (by decide +kernel) rfl ⟨Nat.le_of_ble_eq_true rfl, Nat.le_of_ble_eq_true rfl⟩ ⟨rfl, rfl⟩ ⟨Nat.zero_le _, Nat.zero_le _⟩ rfl (Nat.le_of_ble_eq_true rfl) d_Mo_join_238 (fun C' H locs hp w => ?_)
                          subst hp
                          obtain ⟨Mw3, eMw3⟩ : ∃ mm : Nat → Nat → Int, mm = va_up Mw2 46 (Mw2 43) := ⟨_, rfl⟩
                          rw [← eMw3] at w
                          rw [b43] at eMw3
                          refine lv_goto (tgt := 358) X.1 X.2.1 d_Mo_join_241 (by decide) ?_
                          have hz9 : (jnR pr inv op (M a.toNat) (M b.toNat)) = prd pr (M a.toNat) (M b.toNat) := by unfold jnR; rw [if_neg (by omega), if_neg (by omega), if_pos (by omega)]
                          have hz8 : okp pr 25 (jnR pr inv op (M a.toNat) (M b.toNat)) := jnR_ok hI ha9 hb9 (fun h => by omega) (by omega)
                          refine l_Mo_join_358 (M := M) (t := t) X hr hlk hml hT hB hpr k0 hz8 w (by rw [hz9, eMw3, va_up_self]) (by rw [eMw3]; exact hW2.up (hpk.ok hpr.2)) (fun r h => by rw [eMw3, va_up_ne _ _ (by omega), eMw2, va_up_ne _ _ (by omega)]; exact aF r (by omega)) (lv_sub hl [2, 3] rfl) (fun M2 q8 q9 => Or.inr (Or.inr (Or.inr ⟨⟨k0, k0a, k0b⟩, by omega, fun h => by omega, fun h => by omega, rfl, hz8, M2, rfl, q8, q9⟩)))
                        · exact absurd h_225 (by omega)
                      · refine lv_iconst (v := iI (1)) X.1 X.2.1 d_Mo_join_217 (by decide) ?_
                        refine lv_goto (tgt := 222) X.1 X.2.1 d_Mo_join_218 (by decide) ?_
                        refine w_cVi (n := 2) (i := 132) (ci := 5) (As := [.int (iI (3)), .int (iI (1))]) (rest := []) X w hml hl.1 (c_Mo_refuse hT (M := Mw2) hB (k := 3) (b := 1) (by omega)) (by omega) (by rw [mkR_B (by decide)]; exact hB.1) rfl k_m_Mo_61 k_im_Mo_refuse k_se_Mo_refuse k_i_Mo k_co_Mo_refuse (by decide +kernel) rfl ⟨Nat.le_of_ble_eq_true rfl, Nat.le_of_ble_eq_true rfl⟩ ⟨rfl, rfl⟩ ⟨Nat.zero_le _, Nat.zero_le _⟩ rfl (Nat.le_of_ble_eq_true rfl) d_Mo_join_222 (fun r' C' H locs hp w => ?_)
                        obtain ⟨rfl, rfl⟩ := hp
                        rw [mB_mB] at w
                        have hB := hB0.set (if (1 : Int) = 0 then 0 else 3) pr fc
                        refine z_eq (a := 1) (tgt := 230) X (by omega) d_Mo_join_225 (by decide) (fun h_225 => ?_) (fun h_225 => ?_)
                        · exact absurd h_225 (by omega)
                        · refine lv_iconst (v := iI (0)) X.1 X.2.1 d_Mo_join_228 (by decide) ?_
                          exact w_iret X hr hlk w (Or.inr (Or.inr (Or.inl ⟨⟨k0, k0a, k0b⟩, by omega, by omega, rfl, Mw2, by rw [if_neg (by decide)], hW2, fun r h => by rw [eMw2, va_up_ne _ _ (by omega)]; exact aF r (by omega)⟩))) d_Mo_join_229
                    · refine W.eq (g2 := F0 m 95 ls [.int (iI (3))]) (by rw [hsw2]) ?_
                      refine lv_tableIn (tgt := 244) X.1 X.2.1 d_Mo_join_95 (by decide) (by decide) rfl (by decide) ?_
                      refine lv_aload_n X.1 X.2.1 d_Mo_join_244 rfl (lv_at hl 2 rfl) ?_
                      refine lv_aload X.1 X.2.1 d_Mo_join_245 (lv_at hl 1 rfl) ?_
                      refine lv_aload X.1 X.2.1 d_Mo_join_247 (lv_at hl 0 rfl) ?_
                      refine w_cVv (n := 2) (i := 132) (ci := 5) (As := [.ref (ad (138 + a.toNat)), .ref (ad (138 + b.toNat))]) (rest := []) X w hml hl.1 (c_Mo_divided hT (M := Mw1) hB hI (a := a.toNat) (b := b.toNat) (by omega) (by omega) hW1 (by rw [fa]; exact ha9.mono (by omega)) (by rw [fb]; exact hb9.mono (by omega)) (by rw [fb]; omega)) (by omega) (by rw [mkR_B (by decide)]; exact hB.1) rfl k_m_Mo_91 k_im_Mo_divided k_se_Mo_divided k_i_Mo k_co_Mo_divided (by decide +kernel) rfl ⟨Nat.le_of_ble_eq_true rfl, Nat.le_of_ble_eq_true rfl⟩ ⟨rfl, rfl⟩ ⟨Nat.zero_le _, Nat.zero_le _⟩ rfl (Nat.le_of_ble_eq_true rfl) d_Mo_join_249 (fun C' H locs hp w => ?_)
                      subst hp
                      obtain ⟨Mw2, eMw2⟩ : ∃ mm : Nat → Nat → Int, mm = va_up (va_up Mw1 41 (dvm pr inv (Mw1 a.toNat) (Mw1 b.toNat)).2) 42 (dvm pr inv (Mw1 a.toNat) (Mw1 b.toNat)).1 := ⟨_, rfl⟩
                      rw [← eMw2] at w
                      rw [fa, fb] at eMw2
                      have hq9 := dvm_ok (inv := inv) (M := 25) (by omega) ha9 hb9 (by omega) (by omega) hpr.2 (by omega)
                      have hW2 : WR Mw2 := by rw [eMw2]; exact (hW1.up ((hq9.2.mono (by omega)).ok hpr.2)).up ((hq9.1.mono (by omega)).ok hpr.2)
                      have b41 : Mw2 41 = (dvm pr inv (M a.toNat) (M b.toNat)).2 := by rw [eMw2, va_up_ne _ _ (by decide), va_up_self]
                      have b42 : Mw2 42 = (dvm pr inv (M a.toNat) (M b.toNat)).1 := by rw [eMw2, va_up_self]
                      refine lv_iload_n X.1 X.2.1 d_Mo_join_252 rfl (lv_at hl 4 rfl) ?_
                      refine lv_iconst (v := iI (3)) X.1 X.2.1 d_Mo_join_253 (by decide) ?_
                      refine i_ne (a := op) (b := 3) (tgt := 264) X (by omega) (by omega) d_Mo_join_254 (by decide) (fun h_254 => ?_) (fun h_254 => ?_)
                      · exact absurd hsw2 h_254
                      · refine lv_aload_n X.1 X.2.1 d_Mo_join_257 rfl (lv_at hl 2 rfl) ?_
                        refine m_get X hT w hB 6 (by decide) k_f_Mo_31 rfl d_Mo_join_258 ?_
                        refine lv_goto (tgt := 268) X.1 X.2.1 d_Mo_join_261 (by decide) ?_
                        refine lv_aload_n X.1 X.2.1 d_Mo_join_268 rfl (lv_at hl 2 rfl) ?_
                        refine m_get X hT w hB 11 (by decide) k_f_Mo_46 rfl d_Mo_join_269 ?_
                        refine w_cSv (n := 2) (As := [.ref (ad (138 + 41)), .ref (ad (138 + 46))]) (rest := []) X w hml hl.1 (c_Mo_copy hT (M := Mw2) (a := 41) (b := 46) (by omega) (by omega) hW2) k_m_Mo_84 k_st_Mo_copy k_i_Mo k_co_Mo_copy (by decide +kernel) rfl ⟨Nat.le_of_ble_eq_true rfl, Nat.le_of_ble_eq_true rfl⟩ ⟨rfl, rfl⟩ ⟨Nat.zero_le _, Nat.zero_le _⟩ rfl (Nat.le_of_ble_eq_true rfl) d_Mo_join_272 (fun C' H locs hp w => ?_)
                        subst hp
                        obtain ⟨Mw3, eMw3⟩ : ∃ mm : Nat → Nat → Int, mm = va_up Mw2 46 (Mw2 41) := ⟨_, rfl⟩
                        rw [← eMw3] at w
                        rw [b41] at eMw3
                        refine lv_goto (tgt := 358) X.1 X.2.1 d_Mo_join_275 (by decide) ?_
                        have hz9 : (jnR pr inv op (M a.toNat) (M b.toNat)) = (dvm pr inv (M a.toNat) (M b.toNat)).2 := by unfold jnR; rw [if_neg (by omega), if_neg (by omega), if_neg (by omega), if_pos (by omega)]
                        have hz8 : okp pr 25 (jnR pr inv op (M a.toNat) (M b.toNat)) := jnR_ok hI ha9 hb9 (fun h => by omega) (by omega)
                        refine l_Mo_join_358 (M := M) (t := t) X hr hlk hml hT hB hpr k0 hz8 w (by rw [hz9, eMw3, va_up_self]) (by rw [eMw3]; exact hW2.up (by rw [← b41]; exact hW2 _ (by omega))) (fun r h => by rw [eMw3, va_up_ne _ _ (by omega), eMw2, va_up_ne _ _ (by omega), va_up_ne _ _ (by omega)]; exact aF r (by omega)) (lv_sub hl [2, 3] rfl) (fun M2 q8 q9 => Or.inr (Or.inr (Or.inr ⟨⟨k0, k0a, k0b⟩, by omega, fun h => by omega, fun h => by omega, rfl, hz8, M2, rfl, q8, q9⟩)))
                    · refine W.eq (g2 := F0 m 95 ls [.int (iI (4))]) (by rw [hsw2]) ?_
                      refine lv_tableIn (tgt := 244) X.1 X.2.1 d_Mo_join_95 (by decide) (by decide) rfl (by decide) ?_
                      refine lv_aload_n X.1 X.2.1 d_Mo_join_244 rfl (lv_at hl 2 rfl) ?_
                      refine lv_aload X.1 X.2.1 d_Mo_join_245 (lv_at hl 1 rfl) ?_
                      refine lv_aload X.1 X.2.1 d_Mo_join_247 (lv_at hl 0 rfl) ?_
                      refine w_cVv (n := 2) (i := 132) (ci := 5) (As := [.ref (ad (138 + a.toNat)), .ref (ad (138 + b.toNat))]) (rest := []) X w hml hl.1 (c_Mo_divided hT (M := Mw1) hB hI (a := a.toNat) (b := b.toNat) (by omega) (by omega) hW1 (by rw [fa]; exact ha9.mono (by omega)) (by rw [fb]; exact hb9.mono (by omega)) (by rw [fb]; omega)) (by omega) (by rw [mkR_B (by decide)]; exact hB.1) rfl k_m_Mo_91 k_im_Mo_divided k_se_Mo_divided k_i_Mo k_co_Mo_divided (by decide +kernel) rfl ⟨Nat.le_of_ble_eq_true rfl, Nat.le_of_ble_eq_true rfl⟩ ⟨rfl, rfl⟩ ⟨Nat.zero_le _, Nat.zero_le _⟩ rfl (Nat.le_of_ble_eq_true rfl) d_Mo_join_249 (fun C' H locs hp w => ?_)
                      subst hp
                      obtain ⟨Mw2, eMw2⟩ : ∃ mm : Nat → Nat → Int, mm = va_up (va_up Mw1 41 (dvm pr inv (Mw1 a.toNat) (Mw1 b.toNat)).2) 42 (dvm pr inv (Mw1 a.toNat) (Mw1 b.toNat)).1 := ⟨_, rfl⟩
                      rw [← eMw2] at w
                      rw [fa, fb] at eMw2
                      have hq9 := dvm_ok (inv := inv) (M := 25) (by omega) ha9 hb9 (by omega) (by omega) hpr.2 (by omega)
                      have hW2 : WR Mw2 := by rw [eMw2]; exact (hW1.up ((hq9.2.mono (by omega)).ok hpr.2)).up ((hq9.1.mono (by omega)).ok hpr.2)
                      have b41 : Mw2 41 = (dvm pr inv (M a.toNat) (M b.toNat)).2 := by rw [eMw2, va_up_ne _ _ (by decide), va_up_self]
                      have b42 : Mw2 42 = (dvm pr inv (M a.toNat) (M b.toNat)).1 := by rw [eMw2, va_up_self]
                      refine lv_iload_n X.1 X.2.1 d_Mo_join_252 rfl (lv_at hl 4 rfl) ?_
                      refine lv_iconst (v := iI (3)) X.1 X.2.1 d_Mo_join_253 (by decide) ?_
                      refine i_ne (a := op) (b := 3) (tgt := 264) X (by omega) (by omega) d_Mo_join_254 (by decide) (fun h_254 => ?_) (fun h_254 => ?_)
                      · refine lv_aload_n X.1 X.2.1 d_Mo_join_264 rfl (lv_at hl 2 rfl) ?_
                        refine m_get X hT w hB 7 (by decide) k_f_Mo_34 rfl d_Mo_join_265 ?_
                        refine lv_aload_n X.1 X.2.1 d_Mo_join_268 rfl (lv_at hl 2 rfl) ?_
                        refine m_get X hT w hB 11 (by decide) k_f_Mo_46 rfl d_Mo_join_269 ?_
                        refine w_cSv (n := 2) (As := [.ref (ad (138 + 42)), .ref (ad (138 + 46))]) (rest := []) X w hml hl.1 (c_Mo_copy hT (M := Mw2) (a := 42) (b := 46) (by omega) (by omega) hW2) k_m_Mo_84 k_st_Mo_copy k_i_Mo k_co_Mo_copy (by decide +kernel) rfl ⟨Nat.le_of_ble_eq_true rfl, Nat.le_of_ble_eq_true rfl⟩ ⟨rfl, rfl⟩ ⟨Nat.zero_le _, Nat.zero_le _⟩ rfl (Nat.le_of_ble_eq_true rfl) d_Mo_join_272 (fun C' H locs hp w => ?_)
                        subst hp
                        obtain ⟨Mw3, eMw3⟩ : ∃ mm : Nat → Nat → Int, mm = va_up Mw2 46 (Mw2 42) := ⟨_, rfl⟩
                        rw [← eMw3] at w
                        rw [b42] at eMw3
                        refine lv_goto (tgt := 358) X.1 X.2.1 d_Mo_join_275 (by decide) ?_
                        have hz9 : (jnR pr inv op (M a.toNat) (M b.toNat)) = (dvm pr inv (M a.toNat) (M b.toNat)).1 := by unfold jnR; rw [if_neg (by omega), if_neg (by omega), if_neg (by omega), if_neg (by omega), if_pos (by omega)]
                        have hz8 : okp pr 25 (jnR pr inv op (M a.toNat) (M b.toNat)) := jnR_ok hI ha9 hb9 (fun h => by omega) (by omega)
                        refine l_Mo_join_358 (M := M) (t := t) X hr hlk hml hT hB hpr k0 hz8 w (by rw [hz9, eMw3, va_up_self]) (by rw [eMw3]; exact hW2.up (by rw [← b42]; exact hW2 _ (by omega))) (fun r h => by rw [eMw3, va_up_ne _ _ (by omega), eMw2, va_up_ne _ _ (by omega), va_up_ne _ _ (by omega)]; exact aF r (by omega)) (lv_sub hl [2, 3] rfl) (fun M2 q8 q9 => Or.inr (Or.inr (Or.inr ⟨⟨k0, k0a, k0b⟩, by omega, fun h => by omega, fun h => by omega, rfl, hz8, M2, rfl, q8, q9⟩)))
                      · exact absurd h_254 (by omega)
                    · refine W.eq (g2 := F0 m 95 ls [.int (iI (5))]) (by rw [hsw2]) ?_
                      refine lv_tableIn (tgt := 278) X.1 X.2.1 d_Mo_join_95 (by decide) (by decide) rfl (by decide) ?_
                      refine lv_aload_n X.1 X.2.1 d_Mo_join_278 rfl (lv_at hl 2 rfl) ?_
                      refine lv_aload X.1 X.2.1 d_Mo_join_279 (lv_at hl 1 rfl) ?_
                      refine lv_aload X.1 X.2.1 d_Mo_join_281 (lv_at hl 0 rfl) ?_
                      refine w_cVv (n := 2) (i := 132) (ci := 5) (As := [.ref (ad (138 + a.toNat)), .ref (ad (138 + b.toNat))]) (rest := []) X w hml hl.1 (c_Mo_common hT (M := Mw1) hB hI (a := a.toNat) (b := b.toNat) (by omega) (by omega) hW1 (by rw [fa]; exact ha9.mono (by omega)) (by rw [fb]; exact hb9.mono (by omega)) (by rw [fb]; omega)) (by omega) (by rw [mkR_B (by decide)]; exact hB.1) rfl k_m_Mo_100 k_im_Mo_common k_se_Mo_common k_i_Mo k_co_Mo_common (by decide +kernel) rfl ⟨Nat.le_of_ble_eq_true rfl, Nat.le_of_ble_eq_true rfl⟩ ⟨rfl, rfl⟩ ⟨Nat.zero_le _, Nat.zero_le _⟩ rfl (Nat.le_of_ble_eq_true rfl) d_Mo_join_283 (fun C' H locs hp w => ?_)
                      obtain ⟨M6, rfl, hW6, q1, q2, q3⟩ := hp
                      rw [fa, fb] at q1
                      refine lv_aload_n X.1 X.2.1 d_Mo_join_286 rfl (lv_at hl 2 rfl) ?_
                      refine m_get X hT w hB 9 (by decide) k_f_Mo_40 rfl d_Mo_join_287 ?_
                      refine lv_aload_n X.1 X.2.1 d_Mo_join_290 rfl (lv_at hl 2 rfl) ?_
                      refine m_get X hT w hB 11 (by decide) k_f_Mo_46 rfl d_Mo_join_291 ?_
                      refine w_cSv (n := 2) (As := [.ref (ad (138 + 44)), .ref (ad (138 + 46))]) (rest := []) X w hml hl.1 (c_Mo_copy hT (M := M6) (a := 44) (b := 46) (by omega) (by omega) hW6) k_m_Mo_84 k_st_Mo_copy k_i_Mo k_co_Mo_copy (by decide +kernel) rfl ⟨Nat.le_of_ble_eq_true rfl, Nat.le_of_ble_eq_true rfl⟩ ⟨rfl, rfl⟩ ⟨Nat.zero_le _, Nat.zero_le _⟩ rfl (Nat.le_of_ble_eq_true rfl) d_Mo_join_294 (fun C' H locs hp w => ?_)
                      subst hp
                      obtain ⟨Mw2, eMw2⟩ : ∃ mm : Nat → Nat → Int, mm = va_up M6 46 (M6 44) := ⟨_, rfl⟩
                      rw [← eMw2] at w
                      rw [q1] at eMw2
                      refine lv_goto (tgt := 358) X.1 X.2.1 d_Mo_join_297 (by decide) ?_
                      have hz9 : (jnR pr inv op (M a.toNat) (M b.toNat)) = gcdP pr inv (M a.toNat) (M b.toNat) := by unfold jnR; rw [if_neg (by omega), if_neg (by omega), if_neg (by omega), if_neg (by omega), if_neg (by omega), if_pos (by omega)]
                      have hz8 : okp pr 25 (jnR pr inv op (M a.toNat) (M b.toNat)) := jnR_ok hI ha9 hb9 (fun h => by omega) (by omega)
                      refine l_Mo_join_358 (M := M) (t := t) X hr hlk hml hT hB hpr k0 hz8 w (by rw [hz9, eMw2, va_up_self]) (by rw [eMw2]; exact hW6.up (by rw [← q1]; exact hW6 _ (by omega))) (fun r h => by rw [eMw2, va_up_ne _ _ (by omega), q3 r (by omega) (by omega) (by omega) (by omega)]; exact aF r (by omega)) (lv_sub hl [2, 3] rfl) (fun M2 q8 q9 => Or.inr (Or.inr (Or.inr ⟨⟨k0, k0a, k0b⟩, by omega, fun h => by omega, fun h => by omega, rfl, hz8, M2, rfl, q8, q9⟩)))
                    · refine W.eq (g2 := F0 m 95 ls [.int (iI (6))]) (by rw [hsw2]) ?_
                      refine lv_tableIn (tgt := 300) X.1 X.2.1 d_Mo_join_95 (by decide) (by decide) rfl (by decide) ?_
                      refine lv_aload X.1 X.2.1 d_Mo_join_300 (lv_at hl 1 rfl) ?_
                      refine lv_aload_n X.1 X.2.1 d_Mo_join_302 rfl (lv_at hl 2 rfl) ?_
                      refine m_get X hT w hB 11 (by decide) k_f_Mo_46 rfl d_Mo_join_303 ?_
                      refine w_cSv (n := 2) (As := [.ref (ad (138 + a.toNat)), .ref (ad (138 + 46))]) (rest := []) X w hml hl.1 (c_Mo_copy hT (M := Mw1) (a := a.toNat) (b := 46) (by omega) (by omega) hW1) k_m_Mo_84 k_st_Mo_copy k_i_Mo k_co_Mo_copy (by decide +kernel) rfl ⟨Nat.le_of_ble_eq_true rfl, Nat.le_of_ble_eq_true rfl⟩ ⟨rfl, rfl⟩ ⟨Nat.zero_le _, Nat.zero_le _⟩ rfl (Nat.le_of_ble_eq_true rfl) d_Mo_join_306 (fun C' H locs hp w => ?_)
                      subst hp
                      obtain ⟨Mw2, eMw2⟩ : ∃ mm : Nat → Nat → Int, mm = va_up Mw1 46 (Mw1 a.toNat) := ⟨_, rfl⟩
                      rw [← eMw2] at w
                      rw [fa] at eMw2
                      have hW2 : WR Mw2 := by rw [eMw2]; exact hW1.up (hW _ (by omega))
                      have b46 : Mw2 46 = M a.toNat := by rw [eMw2, va_up_self]
                      refine lv_aload_n X.1 X.2.1 d_Mo_join_309 rfl (lv_at hl 2 rfl) ?_
                      refine lv_aload_n X.1 X.2.1 d_Mo_join_310 rfl (lv_at hl 2 rfl) ?_
                      refine m_get X hT w hB 11 (by decide) k_f_Mo_46 rfl d_Mo_join_311 ?_
                      refine w_cVv (n := 1) (i := 132) (ci := 5) (As := [.ref (ad (138 + 46))]) (rest := []) X w hml hl.1 (c_Mo_monic hT (M := Mw2) hB hI (a := 46) (by omega) (by rw [b46]; exact ha9.mono (by omega))) (by omega) (by rw [mkR_B (by decide)]; exact hB.1) rfl k_m_Mo_94 k_im_Mo_monic k_se_Mo_monic k_i_Mo k_co_Mo_monic (by decide +kernel) rfl ⟨Nat.le_of_ble_eq_true rfl, Nat.le_of_ble_eq_true rfl⟩ ⟨rfl, rfl⟩ ⟨Nat.zero_le _, Nat.zero_le _⟩ rfl (Nat.le_of_ble_eq_true rfl) d_Mo_join_314 (fun C' H locs hp w => ?_)
                      subst hp
                      obtain ⟨Mw3, eMw3⟩ : ∃ mm : Nat → Nat → Int, mm = va_up Mw2 46 (mon pr inv (Mw2 46)) := ⟨_, rfl⟩
                      rw [← eMw3] at w
                      rw [b46] at eMw3
                      refine lv_goto (tgt := 358) X.1 X.2.1 d_Mo_join_317 (by decide) ?_
                      have hz9 : (jnR pr inv op (M a.toNat) (M b.toNat)) = mon pr inv (M a.toNat) := by unfold jnR; rw [if_neg (by omega), if_neg (by omega), if_neg (by omega), if_neg (by omega), if_neg (by omega), if_neg (by omega), if_pos (by omega)]
                      have hz8 : okp pr 25 (jnR pr inv op (M a.toNat) (M b.toNat)) := jnR_ok hI ha9 hb9 (fun h => by omega) (by omega)
                      refine l_Mo_join_358 (M := M) (t := t) X hr hlk hml hT hB hpr k0 hz8 w (by rw [hz9, eMw3, va_up_self]) (by rw [eMw3]; exact hW2.up (((mon_ok (inv := inv) (by omega) ha9).mono (by omega)).ok hpr.2)) (fun r h => by rw [eMw3, va_up_ne _ _ (by omega), eMw2, va_up_ne _ _ (by omega)]; exact aF r (by omega)) (lv_sub hl [2, 3] rfl) (fun M2 q8 q9 => Or.inr (Or.inr (Or.inr ⟨⟨k0, k0a, k0b⟩, by omega, fun h => by omega, fun h => by omega, rfl, hz8, M2, rfl, q8, q9⟩)))
                · exact absurd h_82 (by omega)
              · refine lv_aload X.1 X.2.1 d_Mo_join_66 (lv_at hl 0 rfl) ?_
                refine w_cSi (n := 1) (As := [.ref (ad (138 + b.toNat))]) (rest := [.int (iI (2)), .ref (ad (132))]) X w hml hl.1 (c_Mo_degree hT (M := M) (a := b.toNat) (by omega) (hW _ (by omega))) k_m_Mo_80 k_st_Mo_degree k_i_Mo k_co_Mo_degree (by decide +kernel) rfl ⟨Nat.le_of_ble_eq_true rfl, Nat.le_of_ble_eq_true rfl⟩ ⟨rfl, rfl⟩ ⟨Nat.zero_le _, Nat.zero_le _⟩ rfl (Nat.le_of_ble_eq_true rfl) d_Mo_join_68 (fun r' C' H locs hp w => ?_)
                obtain ⟨rfl, rfl⟩ := hp
                refine z_ge (a := dg 300 (M b.toNat)) (tgt := 78) X (by omega) d_Mo_join_71 (by decide) (fun h_71 => ?_) (fun h_71 => ?_)
                · refine lv_iconst (v := iI (0)) X.1 X.2.1 d_Mo_join_78 (by decide) ?_
                  refine w_cVi (n := 2) (i := 132) (ci := 5) (As := [.int (iI (2)), .int (iI (0))]) (rest := []) X w hml hl.1 (c_Mo_refuse hT (M := M) hB (k := 2) (b := 0) (by omega)) (by omega) (by rw [mkR_B (by decide)]; exact hB.1) rfl k_m_Mo_61 k_im_Mo_refuse k_se_Mo_refuse k_i_Mo k_co_Mo_refuse (by decide +kernel) rfl ⟨Nat.le_of_ble_eq_true rfl, Nat.le_of_ble_eq_true rfl⟩ ⟨rfl, rfl⟩ ⟨Nat.zero_le _, Nat.zero_le _⟩ rfl (Nat.le_of_ble_eq_true rfl) d_Mo_join_79 (fun r' C' H locs hp w => ?_)
                  obtain ⟨rfl, rfl⟩ := hp
                  rw [mB_mB] at w
                  have hB := hB0.set (if (0 : Int) = 0 then (outF b 0 15) else 2) pr fc
                  have hth : (if (0 : Int) = 0 then (outF b 0 15) else 2) = 0 := by rw [if_pos rfl]; exact h_22
                  rw [hth] at w hB
                  refine z_eq (a := 0) (tgt := 87) X (by omega) d_Mo_join_82 (by decide) (fun h_82 => ?_) (fun h_82 => ?_)
                  · refine lv_aload_n X.1 X.2.1 d_Mo_join_87 rfl (lv_at hl 2 rfl) ?_
                    refine m_get X hT w hB 11 (by decide) k_f_Mo_46 rfl d_Mo_join_88 ?_
                    refine w_cSv (n := 1) (As := [.ref (ad (138 + 46))]) (rest := []) X w hml hl.1 (c_Mo_clear hT (M := M) (a := 46) (by omega) hW) k_m_Mo_69 k_st_Mo_clear k_i_Mo k_co_Mo_clear (by decide +kernel) rfl ⟨Nat.le_of_ble_eq_true rfl, Nat.le_of_ble_eq_true rfl⟩ ⟨rfl, rfl⟩ ⟨Nat.zero_le _, Nat.zero_le _⟩ rfl (Nat.le_of_ble_eq_true rfl) d_Mo_join_91 (fun C' H locs hp w => ?_)
                    subst hp
                    obtain ⟨Mw1, eMw1⟩ : ∃ mm : Nat → Nat → Int, mm = va_up M 46 (fun _ => 0) := ⟨_, rfl⟩
                    rw [← eMw1] at w
                    have hW1 : WR Mw1 := by rw [eMw1]; exact hW.up (ok_0 _)
                    have aF : ∀ r, r ≠ 46 → Mw1 r = M r := fun r h => by rw [eMw1, va_up_ne _ _ h]
                    have fa : Mw1 a.toNat = M a.toNat := aF _ (by omega)
                    have fb : Mw1 b.toNat = M b.toNat := aF _ (by omega)
                    refine lv_iload_n X.1 X.2.1 d_Mo_join_94 rfl (lv_at hl 4 rfl) ?_
                    by_cases hsw : op < 0 ∨ 6 < op
                    · refine lv_tableOut (tgt := 320) X.1 X.2.1 d_Mo_join_95 (by rw [iI_toInt (by omega)]; exact hsw) (by decide) ?_
                      refine lv_iconst (v := iI (1)) X.1 X.2.1 d_Mo_join_320 (by decide) ?_
                      refine lv_istore (lv' := [(7, .int (iI (1))), (6, .ref (ad (138 + b.toNat))), (5, .ref (ad (138 + a.toNat))), (0, .ref (ad (132))), (1, .int (iI (t))), (2, .int (iI (op))), (3, .int (iI (a))), (4, .int (iI (b)))]) X.1 X.2.1 d_Mo_join_321 hl (by decide) rfl (fun ls hl => ?_)
                      refine l_Mo_join_323 (M := Mw1) (t := t) (a := a.toNat) X hml hT hB hpr (by omega) (by rw [fa]; exact ha9) (fun M3 H locs ls w g1 g2 hl => ?_) 24 1 Mw1 H locs ls (by omega) (by omega) w (fun x => by rw [eMw1, va_up_self, if_neg (by omega)]) (fun _ _ => rfl) (lv_sub hl [3, 4, 2, 0] rfl)
                      rw [fa] at g1
                      have hz9 : (jnR pr inv op (M a.toNat) (M b.toNat)) = der pr (M a.toNat) := by unfold jnR; rw [if_neg (by omega), if_neg (by omega), if_neg (by omega), if_neg (by omega), if_neg (by omega), if_neg (by omega), if_neg (by omega)]
                      have hz8 : okp pr 25 (jnR pr inv op (M a.toNat) (M b.toNat)) := jnR_ok hI ha9 hb9 (fun h => by omega) (by omega)
                      have e46 : M3 46 = (jnR pr inv op (M a.toNat) (M b.toNat)) := by rw [hz9, g1]
                      have hW3 : WR M3 := by
                        have e4 : M3 = va_up Mw1 46 (jnR pr inv op (M a.toNat) (M b.toNat)) := by
                          funext r
                          by_cases e9 : r = 46
                          · rw [e9, e46, va_up_self]
                          · rw [va_up_ne _ _ e9, g2 r e9]
                        rw [e4]
                        exact hW1.up ((hz8.mono (by omega)).ok hpr.2)
                      exact l_Mo_join_358 (M := M) (t := t) X hr hlk hml hT hB hpr k0 hz8 w e46 hW3 (fun r h => by rw [g2 r (by omega)]; exact aF r (by omega)) hl (fun M2 q8 q9 => Or.inr (Or.inr (Or.inr ⟨⟨k0, k0a, k0b⟩, by omega, fun h => by omega, fun h => by omega, rfl, hz8, M2, rfl, q8, q9⟩)))
                    · have hsw2 : op = 0 ∨ op = 1 ∨ op = 2 ∨ op = 3 ∨ op = 4 ∨ op = 5 ∨ op = 6 := by omega
                      rcases hsw2 with hsw2 | hsw2 | hsw2 | hsw2 | hsw2 | hsw2 | hsw2
                      · refine W.eq (g2 := F0 m 95 ls [.int (iI (0))]) (by rw [hsw2]) ?_
                        refine lv_tableIn (tgt := 136) X.1 X.2.1 d_Mo_join_95 (by decide) (by decide) rfl (by decide) ?_
                        refine lv_iconst (v := iI (0)) X.1 X.2.1 d_Mo_join_136 (by decide) ?_
                        refine lv_istore (lv' := [(7, .int (iI (0))), (6, .ref (ad (138 + b.toNat))), (5, .ref (ad (138 + a.toNat))), (0, .ref (ad (132))), (1, .int (iI (t))), (2, .int (iI (op))), (3, .int (iI (a))), (4, .int (iI (b)))]) X.1 X.2.1 d_Mo_join_137 hl (by decide) rfl (fun ls hl => ?_)
                        refine l_Mo_join_139 (M := Mw1) (t := t) (a := a.toNat) (b := b.toNat) (op := op) X hml hT hB hpr (by omega) (by omega) (by rw [fa]; exact ha9) (by rw [fb]; exact hb9) (by omega) (Y := _) rfl (fun M3 H locs ls w g1 g2 hl => ?_) 25 0 Mw1 H locs ls (by omega) w (fun x => by rw [eMw1, va_up_self, if_neg (by omega)]) (fun _ _ => rfl) (lv_sub hl [3, 4, 5, 2, 1, 0] rfl)
                        rw [fa, fb] at g1
                        have hz9 : (jnR pr inv op (M a.toNat) (M b.toNat)) = fun x => (M a.toNat x + M b.toNat x) % pr := by unfold jnR; rw [if_pos (by omega)]
                        have hz8 : okp pr 25 (jnR pr inv op (M a.toNat) (M b.toNat)) := jnR_ok hI ha9 hb9 (fun h => by omega) (by omega)
                        have e46 : M3 46 = (jnR pr inv op (M a.toNat) (M b.toNat)) := by
                          rw [hz9, g1]
                          funext x
                          rw [if_pos (by omega)]
                        have hW3 : WR M3 := by
                          have e4 : M3 = va_up Mw1 46 (jnR pr inv op (M a.toNat) (M b.toNat)) := by
                            funext r
                            by_cases e9 : r = 46
                            · rw [e9, e46, va_up_self]
                            · rw [va_up_ne _ _ e9, g2 r e9]
                          rw [e4]
                          exact hW1.up ((hz8.mono (by omega)).ok hpr.2)
                        exact l_Mo_join_358 (M := M) (t := t) X hr hlk hml hT hB hpr k0 hz8 w e46 hW3 (fun r h => by rw [g2 r (by omega)]; exact aF r (by omega)) hl (fun M2 q8 q9 => Or.inr (Or.inr (Or.inr ⟨⟨k0, k0a, k0b⟩, by omega, fun h => by omega, fun h => by omega, rfl, hz8, M2, rfl, q8, q9⟩)))
                      · refine W.eq (g2 := F0 m 95 ls [.int (iI (1))]) (by rw [hsw2]) ?_
                        refine lv_tableIn (tgt := 136) X.1 X.2.1 d_Mo_join_95 (by decide) (by decide) rfl (by decide) ?_
                        refine lv_iconst (v := iI (0)) X.1 X.2.1 d_Mo_join_136 (by decide) ?_
                        refine lv_istore (lv' := [(7, .int (iI (0))), (6, .ref (ad (138 + b.toNat))), (5, .ref (ad (138 + a.toNat))), (0, .ref (ad (132))), (1, .int (iI (t))), (2, .int (iI (op))), (3, .int (iI (a))), (4, .int (iI (b)))]) X.1 X.2.1 d_Mo_join_137 hl (by decide) rfl (fun ls hl => ?_)
                        refine l_Mo_join_139 (M := Mw1) (t := t) (a := a.toNat) (b := b.toNat) (op := op) X hml hT hB hpr (by omega) (by omega) (by rw [fa]; exact ha9) (by rw [fb]; exact hb9) (by omega) (Y := _) rfl (fun M3 H locs ls w g1 g2 hl => ?_) 25 0 Mw1 H locs ls (by omega) w (fun x => by rw [eMw1, va_up_self, if_neg (by omega)]) (fun _ _ => rfl) (lv_sub hl [3, 4, 5, 2, 1, 0] rfl)
                        rw [fa, fb] at g1
                        have hz9 : (jnR pr inv op (M a.toNat) (M b.toNat)) = fun x => (M a.toNat x - M b.toNat x) % pr := by unfold jnR; rw [if_neg (by omega), if_pos (by omega)]
                        have hz8 : okp pr 25 (jnR pr inv op (M a.toNat) (M b.toNat)) := jnR_ok hI ha9 hb9 (fun h => by omega) (by omega)
                        have e46 : M3 46 = (jnR pr inv op (M a.toNat) (M b.toNat)) := by
                          rw [hz9, g1]
                          funext x
                          rw [if_neg (by omega)]
                        have hW3 : WR M3 := by
                          have e4 : M3 = va_up Mw1 46 (jnR pr inv op (M a.toNat) (M b.toNat)) := by
                            funext r
                            by_cases e9 : r = 46
                            · rw [e9, e46, va_up_self]
                            · rw [va_up_ne _ _ e9, g2 r e9]
                          rw [e4]
                          exact hW1.up ((hz8.mono (by omega)).ok hpr.2)
                        exact l_Mo_join_358 (M := M) (t := t) X hr hlk hml hT hB hpr k0 hz8 w e46 hW3 (fun r h => by rw [g2 r (by omega)]; exact aF r (by omega)) hl (fun M2 q8 q9 => Or.inr (Or.inr (Or.inr ⟨⟨k0, k0a, k0b⟩, by omega, fun h => by omega, fun h => by omega, rfl, hz8, M2, rfl, q8, q9⟩)))
                      · refine W.eq (g2 := F0 m 95 ls [.int (iI (2))]) (by rw [hsw2]) ?_
                        refine lv_tableIn (tgt := 195) X.1 X.2.1 d_Mo_join_95 (by decide) (by decide) rfl (by decide) ?_
                        refine lv_aload_n X.1 X.2.1 d_Mo_join_195 rfl (lv_at hl 2 rfl) ?_
                        refine lv_aload X.1 X.2.1 d_Mo_join_196 (lv_at hl 1 rfl) ?_
                        refine lv_aload X.1 X.2.1 d_Mo_join_198 (lv_at hl 0 rfl) ?_
                        refine w_cVv (n := 2) (i := 132) (ci := 5) (As := [.ref (ad (138 + a.toNat)), .ref (ad (138 + b.toNat))]) (rest := []) X w hml hl.1 (c_Mo_times hT (M := Mw1) hB (a := a.toNat) (b := b.toNat) hpr (by omega) (by omega) hW1 (by rw [fa]; exact ha9.mono (by omega)) (by rw [fb]; exact hb9.mono (by omega)) (by rw [fa, fb]; omega)) (by omega) (by rw [mkR_B (by decide)]; exact hB.1) rfl k_m_Mo_97 k_im_Mo_times k_se_Mo_times k_i_Mo k_co_Mo_times (by decide +kernel) rfl ⟨Nat.le_of_ble_eq_true rfl, Nat.le_of_ble_eq_true rfl⟩ ⟨rfl, rfl⟩ ⟨Nat.zero_le _, Nat.zero_le _⟩ rfl (Nat.le_of_ble_eq_true rfl) d_Mo_join_200 (fun C' H locs hp w => ?_)
                        subst hp
                        obtain ⟨Mw2, eMw2⟩ : ∃ mm : Nat → Nat → Int, mm = va_up Mw1 43 (prd pr (Mw1 a.toNat) (Mw1 b.toNat)) := ⟨_, rfl⟩
                        rw [← eMw2] at w
                        rw [fa, fb] at eMw2
                        have hpk : okp pr 50 (prd pr (M a.toNat) (M b.toNat)) := prd_ok (by omega) hpr.2 ha9 hb9 (by omega) (by omega)
                        have hW2 : WR Mw2 := by rw [eMw2]; exact hW1.up (hpk.ok hpr.2)
                        have b43 : Mw2 43 = prd pr (M a.toNat) (M b.toNat) := by rw [eMw2, va_up_self]
                        have hdp := (hpk.ok hpr.2).dlt 300
                        have hdp0 := dg_ge 300 (prd pr (M a.toNat) (M b.toNat))
                        refine lv_aload_n X.1 X.2.1 d_Mo_join_203 rfl (lv_at hl 2 rfl) ?_
                        refine lv_iconst (v := iI (3)) X.1 X.2.1 d_Mo_join_204 (by decide) ?_
                        refine lv_aload_n X.1 X.2.1 d_Mo_join_205 rfl (lv_at hl 2 rfl) ?_
                        refine m_get X hT w hB 8 (by decide) k_f_Mo_37 rfl d_Mo_join_206 ?_
                        refine w_cSi (n := 1) (As := [.ref (ad (138 + 43))]) (rest := [.int (iI (3)), .ref (ad (132))]) X w hml hl.1 (c_Mo_degree hT (M := Mw2) (a := 43) (by omega) (hW2 _ (by omega))) k_m_Mo_80 k_st_Mo_degree k_i_Mo k_co_Mo_degree (by decide +kernel) rfl ⟨Nat.le_of_ble_eq_true rfl, Nat.le_of_ble_eq_true rfl⟩ ⟨rfl, rfl⟩ ⟨Nat.zero_le _, Nat.zero_le _⟩ rfl (Nat.le_of_ble_eq_true rfl) d_Mo_join_209 (fun r' C' H locs hp w => ?_)
                        obtain ⟨rfl, rfl⟩ := hp
                        rw [b43]
                        refine lv_bipush (v := iI (24)) X.1 X.2.1 d_Mo_join_212 (by decide) ?_
                        refine i_le (a := dg 300 (prd pr (M a.toNat) (M b.toNat))) (b := 24) (tgt := 221) X (by omega) (by omega) d_Mo_join_214 (by decide) (fun h_214 => ?_) (fun h_214 => ?_)
                        · refine lv_iconst (v := iI (0)) X.1 X.2.1 d_Mo_join_221 (by decide) ?_
                          refine w_cVi (n := 2) (i := 132) (ci := 5) (As := [.int (iI (3)), .int (iI (0))]) (rest := []) X w hml hl.1 (c_Mo_refuse hT (M := Mw2) hB (k := 3) (b := 0) (by omega)) (by omega) (by rw [mkR_B (by decide)]; exact hB.1) rfl k_m_Mo_61 k_im_Mo_refuse k_se_Mo_refuse k_i_Mo k_co_Mo_refuse (by decide +kernel) rfl ⟨Nat.le_of_ble_eq_true rfl, Nat.le_of_ble_eq_true rfl⟩ ⟨rfl, rfl⟩ ⟨Nat.zero_le _, Nat.zero_le _⟩ rfl (Nat.le_of_ble_eq_true rfl) d_Mo_join_222 (fun r' C' H locs hp w => ?_)
                          obtain ⟨rfl, rfl⟩ := hp
                          rw [mB_mB] at w
                          have hB := hB0.set (if (0 : Int) = 0 then 0 else 3) pr fc
                          have hth2 : (if (0 : Int) = 0 then (0 : Int) else 3) = 0 := rfl
                          rw [hth2] at w hB
                          refine z_eq (a := 0) (tgt := 230) X (by omega) d_Mo_join_225 (by decide) (fun h_225 => ?_) (fun h_225 => ?_)
                          · refine lv_aload_n X.1 X.2.1 d_Mo_join_230 rfl (lv_at hl 2 rfl) ?_
                            refine m_get X hT w hB 8 (by decide) k_f_Mo_37 rfl d_Mo_join_231 ?_
                            refine lv_aload_n X.1 X.2.1 d_Mo_join_234 rfl (lv_at hl 2 rfl) ?_
                            refine m_get X hT w hB 11 (by decide) k_f_Mo_46 rfl d_Mo_join_235 ?_
                            refine w_cSv (n := 2) (As := [.ref (ad (138 + 43)), .ref (ad (138 + 46))]) (rest := []) X w hml hl.1 (c_Mo_copy hT (M := Mw2) (a := 43) (b := 46) (by omega) (by omega) hW2) k_m_Mo_84 k_st_Mo_copy k_i_Mo k_co_Mo_copy (by decide +kernel) rfl ⟨Nat.le_of_ble_eq_true rfl, Nat.le_of_ble_eq_true rfl⟩ ⟨rfl, rfl⟩ ⟨Nat.zero_le _, Nat.zero_le _⟩ rfl (Nat.le_of_ble_eq_true rfl) d_Mo_join_238 (fun C' H locs hp w => ?_)
                            subst hp
                            obtain ⟨Mw3, eMw3⟩ : ∃ mm : Nat → Nat → Int, mm = va_up Mw2 46 (Mw2 43) := ⟨_, rfl⟩
                            rw [← eMw3] at w
                            rw [b43] at eMw3
                            refine lv_goto (tgt := 358) X.1 X.2.1 d_Mo_join_241 (by decide) ?_
                            have hz9 : (jnR pr inv op (M a.toNat) (M b.toNat)) = prd pr (M a.toNat) (M b.toNat) := by unfold jnR; rw [if_neg (by omega), if_neg (by omega), if_pos (by omega)]
                            have hz8 : okp pr 25 (jnR pr inv op (M a.toNat) (M b.toNat)) := jnR_ok hI ha9 hb9 (fun h => by omega) (by omega)
                            refine l_Mo_join_358 (M := M) (t := t) X hr hlk hml hT hB hpr k0 hz8 w (by rw [hz9, eMw3, va_up_self]) (by rw [eMw3]; exact hW2.up (hpk.ok hpr.2)) (fun r h => by rw [eMw3, va_up_ne _ _ (by omega), eMw2, va_up_ne _ _ (by omega)]; exact aF r (by omega)) (lv_sub hl [2, 3] rfl) (fun M2 q8 q9 => Or.inr (Or.inr (Or.inr ⟨⟨k0, k0a, k0b⟩, by omega, fun h => by omega, fun h => by omega, rfl, hz8, M2, rfl, q8, q9⟩)))
                          · exact absurd h_225 (by omega)
                        · refine lv_iconst (v := iI (1)) X.1 X.2.1 d_Mo_join_217 (by decide) ?_
                          refine lv_goto (tgt := 222) X.1 X.2.1 d_Mo_join_218 (by decide) ?_
                          refine w_cVi (n := 2) (i := 132) (ci := 5) (As := [.int (iI (3)), .int (iI (1))]) (rest := []) X w hml hl.1 (c_Mo_refuse hT (M := Mw2) hB (k := 3) (b := 1) (by omega)) (by omega) (by rw [mkR_B (by decide)]; exact hB.1) rfl k_m_Mo_61 k_im_Mo_refuse k_se_Mo_refuse k_i_Mo k_co_Mo_refuse (by decide +kernel) rfl ⟨Nat.le_of_ble_eq_true rfl, Nat.le_of_ble_eq_true rfl⟩ ⟨rfl, rfl⟩ ⟨Nat.zero_le _, Nat.zero_le _⟩ rfl (Nat.le_of_ble_eq_true rfl) d_Mo_join_222 (fun r' C' H locs hp w => ?_)
                          obtain ⟨rfl, rfl⟩ := hp
                          rw [mB_mB] at w
                          have hB := hB0.set (if (1 : Int) = 0 then 0 else 3) pr fc
                          refine z_eq (a := 1) (tgt := 230) X (by omega) d_Mo_join_225 (by decide) (fun h_225 => ?_) (fun h_225 => ?_)
                          · exact absurd h_225 (by omega)
                          · refine lv_iconst (v := iI (0)) X.1 X.2.1 d_Mo_join_228 (by decide) ?_
                            exact w_iret X hr hlk w (Or.inr (Or.inr (Or.inl ⟨⟨k0, k0a, k0b⟩, by omega, by omega, rfl, Mw2, by rw [if_neg (by decide)], hW2, fun r h => by rw [eMw2, va_up_ne _ _ (by omega)]; exact aF r (by omega)⟩))) d_Mo_join_229
                      · refine W.eq (g2 := F0 m 95 ls [.int (iI (3))]) (by rw [hsw2]) ?_
                        refine lv_tableIn (tgt := 244) X.1 X.2.1 d_Mo_join_95 (by decide) (by decide) rfl (by decide) ?_
                        refine lv_aload_n X.1 X.2.1 d_Mo_join_244 rfl (lv_at hl 2 rfl) ?_
                        refine lv_aload X.1 X.2.1 d_Mo_join_245 (lv_at hl 1 rfl) ?_
                        refine lv_aload X.1 X.2.1 d_Mo_join_247 (lv_at hl 0 rfl) ?_
                        refine w_cVv (n := 2) (i := 132) (ci := 5) (As := [.ref (ad (138 + a.toNat)), .ref (ad (138 + b.toNat))]) (rest := []) X w hml hl.1 (c_Mo_divided hT (M := Mw1) hB hI (a := a.toNat) (b := b.toNat) (by omega) (by omega) hW1 (by rw [fa]; exact ha9.mono (by omega)) (by rw [fb]; exact hb9.mono (by omega)) (by rw [fb]; omega)) (by omega) (by rw [mkR_B (by decide)]; exact hB.1) rfl k_m_Mo_91 k_im_Mo_divided k_se_Mo_divided k_i_Mo k_co_Mo_divided (by decide +kernel) rfl ⟨Nat.le_of_ble_eq_true rfl, Nat.le_of_ble_eq_true rfl⟩ ⟨rfl, rfl⟩ ⟨Nat.zero_le _, Nat.zero_le _⟩ rfl (Nat.le_of_ble_eq_true rfl) d_Mo_join_249 (fun C' H locs hp w => ?_)
                        subst hp
                        obtain ⟨Mw2, eMw2⟩ : ∃ mm : Nat → Nat → Int, mm = va_up (va_up Mw1 41 (dvm pr inv (Mw1 a.toNat) (Mw1 b.toNat)).2) 42 (dvm pr inv (Mw1 a.toNat) (Mw1 b.toNat)).1 := ⟨_, rfl⟩
                        rw [← eMw2] at w
                        rw [fa, fb] at eMw2
                        have hq9 := dvm_ok (inv := inv) (M := 25) (by omega) ha9 hb9 (by omega) (by omega) hpr.2 (by omega)
                        have hW2 : WR Mw2 := by rw [eMw2]; exact (hW1.up ((hq9.2.mono (by omega)).ok hpr.2)).up ((hq9.1.mono (by omega)).ok hpr.2)
                        have b41 : Mw2 41 = (dvm pr inv (M a.toNat) (M b.toNat)).2 := by rw [eMw2, va_up_ne _ _ (by decide), va_up_self]
                        have b42 : Mw2 42 = (dvm pr inv (M a.toNat) (M b.toNat)).1 := by rw [eMw2, va_up_self]
                        refine lv_iload_n X.1 X.2.1 d_Mo_join_252 rfl (lv_at hl 4 rfl) ?_
                        refine lv_iconst (v := iI (3)) X.1 X.2.1 d_Mo_join_253 (by decide) ?_
                        refine i_ne (a := op) (b := 3) (tgt := 264) X (by omega) (by omega) d_Mo_join_254 (by decide) (fun h_254 => ?_) (fun h_254 => ?_)
                        · exact absurd hsw2 h_254
                        · refine lv_aload_n X.1 X.2.1 d_Mo_join_257 rfl (lv_at hl 2 rfl) ?_
                          refine m_get X hT w hB 6 (by decide) k_f_Mo_31 rfl d_Mo_join_258 ?_
                          refine lv_goto (tgt := 268) X.1 X.2.1 d_Mo_join_261 (by decide) ?_
                          refine lv_aload_n X.1 X.2.1 d_Mo_join_268 rfl (lv_at hl 2 rfl) ?_
                          refine m_get X hT w hB 11 (by decide) k_f_Mo_46 rfl d_Mo_join_269 ?_
                          refine w_cSv (n := 2) (As := [.ref (ad (138 + 41)), .ref (ad (138 + 46))]) (rest := []) X w hml hl.1 (c_Mo_copy hT (M := Mw2) (a := 41) (b := 46) (by omega) (by omega) hW2) k_m_Mo_84 k_st_Mo_copy k_i_Mo k_co_Mo_copy (by decide +kernel) rfl ⟨Nat.le_of_ble_eq_true rfl, Nat.le_of_ble_eq_true rfl⟩ ⟨rfl, rfl⟩ ⟨Nat.zero_le _, Nat.zero_le _⟩ rfl (Nat.le_of_ble_eq_true rfl) d_Mo_join_272 (fun C' H locs hp w => ?_)
                          subst hp
                          obtain ⟨Mw3, eMw3⟩ : ∃ mm : Nat → Nat → Int, mm = va_up Mw2 46 (Mw2 41) := ⟨_, rfl⟩
                          rw [← eMw3] at w
                          rw [b41] at eMw3
                          refine lv_goto (tgt := 358) X.1 X.2.1 d_Mo_join_275 (by decide) ?_
                          have hz9 : (jnR pr inv op (M a.toNat) (M b.toNat)) = (dvm pr inv (M a.toNat) (M b.toNat)).2 := by unfold jnR; rw [if_neg (by omega), if_neg (by omega), if_neg (by omega), if_pos (by omega)]
                          have hz8 : okp pr 25 (jnR pr inv op (M a.toNat) (M b.toNat)) := jnR_ok hI ha9 hb9 (fun h => by omega) (by omega)
                          refine l_Mo_join_358 (M := M) (t := t) X hr hlk hml hT hB hpr k0 hz8 w (by rw [hz9, eMw3, va_up_self]) (by rw [eMw3]; exact hW2.up (by rw [← b41]; exact hW2 _ (by omega))) (fun r h => by rw [eMw3, va_up_ne _ _ (by omega), eMw2, va_up_ne _ _ (by omega), va_up_ne _ _ (by omega)]; exact aF r (by omega)) (lv_sub hl [2, 3] rfl) (fun M2 q8 q9 => Or.inr (Or.inr (Or.inr ⟨⟨k0, k0a, k0b⟩, by omega, fun h => by omega, fun h => by omega, rfl, hz8, M2, rfl, q8, q9⟩)))
                      · refine W.eq (g2 := F0 m 95 ls [.int (iI (4))]) (by rw [hsw2]) ?_
                        refine lv_tableIn (tgt := 244) X.1 X.2.1 d_Mo_join_95 (by decide) (by decide) rfl (by decide) ?_
                        refine lv_aload_n X.1 X.2.1 d_Mo_join_244 rfl (lv_at hl 2 rfl) ?_
                        refine lv_aload X.1 X.2.1 d_Mo_join_245 (lv_at hl 1 rfl) ?_
                        refine lv_aload X.1 X.2.1 d_Mo_join_247 (lv_at hl 0 rfl) ?_
                        refine w_cVv (n := 2) (i := 132) (ci := 5) (As := [.ref (ad (138 + a.toNat)), .ref (ad (138 + b.toNat))]) (rest := []) X w hml hl.1 (c_Mo_divided hT (M := Mw1) hB hI (a := a.toNat) (b := b.toNat) (by omega) (by omega) hW1 (by rw [fa]; exact ha9.mono (by omega)) (by rw [fb]; exact hb9.mono (by omega)) (by rw [fb]; omega)) (by omega) (by rw [mkR_B (by decide)]; exact hB.1) rfl k_m_Mo_91 k_im_Mo_divided k_se_Mo_divided k_i_Mo k_co_Mo_divided (by decide +kernel) rfl ⟨Nat.le_of_ble_eq_true rfl, Nat.le_of_ble_eq_true rfl⟩ ⟨rfl, rfl⟩ ⟨Nat.zero_le _, Nat.zero_le _⟩ rfl (Nat.le_of_ble_eq_true rfl) d_Mo_join_249 (fun C' H locs hp w => ?_)
                        subst hp
                        obtain ⟨Mw2, eMw2⟩ : ∃ mm : Nat → Nat → Int, mm = va_up (va_up Mw1 41 (dvm pr inv (Mw1 a.toNat) (Mw1 b.toNat)).2) 42 (dvm pr inv (Mw1 a.toNat) (Mw1 b.toNat)).1 := ⟨_, rfl⟩
                        rw [← eMw2] at w
                        rw [fa, fb] at eMw2
                        have hq9 := dvm_ok (inv := inv) (M := 25) (by omega) ha9 hb9 (by omega) (by omega) hpr.2 (by omega)
                        have hW2 : WR Mw2 := by rw [eMw2]; exact (hW1.up ((hq9.2.mono (by omega)).ok hpr.2)).up ((hq9.1.mono (by omega)).ok hpr.2)
                        have b41 : Mw2 41 = (dvm pr inv (M a.toNat) (M b.toNat)).2 := by rw [eMw2, va_up_ne _ _ (by decide), va_up_self]
                        have b42 : Mw2 42 = (dvm pr inv (M a.toNat) (M b.toNat)).1 := by rw [eMw2, va_up_self]
                        refine lv_iload_n X.1 X.2.1 d_Mo_join_252 rfl (lv_at hl 4 rfl) ?_
                        refine lv_iconst (v := iI (3)) X.1 X.2.1 d_Mo_join_253 (by decide) ?_
                        refine i_ne (a := op) (b := 3) (tgt := 264) X (by omega) (by omega) d_Mo_join_254 (by decide) (fun h_254 => ?_) (fun h_254 => ?_)
                        · refine lv_aload_n X.1 X.2.1 d_Mo_join_264 rfl (lv_at hl 2 rfl) ?_
                          refine m_get X hT w hB 7 (by decide) k_f_Mo_34 rfl d_Mo_join_265 ?_
                          refine lv_aload_n X.1 X.2.1 d_Mo_join_268 rfl (lv_at hl 2 rfl) ?_
                          refine m_get X hT w hB 11 (by decide) k_f_Mo_46 rfl d_Mo_join_269 ?_
                          refine w_cSv (n := 2) (As := [.ref (ad (138 + 42)), .ref (ad (138 + 46))]) (rest := []) X w hml hl.1 (c_Mo_copy hT (M := Mw2) (a := 42) (b := 46) (by omega) (by omega) hW2) k_m_Mo_84 k_st_Mo_copy k_i_Mo k_co_Mo_copy (by decide +kernel) rfl ⟨Nat.le_of_ble_eq_true rfl, Nat.le_of_ble_eq_true rfl⟩ ⟨rfl, rfl⟩ ⟨Nat.zero_le _, Nat.zero_le _⟩ rfl (Nat.le_of_ble_eq_true rfl) d_Mo_join_272 (fun C' H locs hp w => ?_)
                          subst hp
                          obtain ⟨Mw3, eMw3⟩ : ∃ mm : Nat → Nat → Int, mm = va_up Mw2 46 (Mw2 42) := ⟨_, rfl⟩
                          rw [← eMw3] at w
                          rw [b42] at eMw3
                          refine lv_goto (tgt := 358) X.1 X.2.1 d_Mo_join_275 (by decide) ?_
                          have hz9 : (jnR pr inv op (M a.toNat) (M b.toNat)) = (dvm pr inv (M a.toNat) (M b.toNat)).1 := by unfold jnR; rw [if_neg (by omega), if_neg (by omega), if_neg (by omega), if_neg (by omega), if_pos (by omega)]
                          have hz8 : okp pr 25 (jnR pr inv op (M a.toNat) (M b.toNat)) := jnR_ok hI ha9 hb9 (fun h => by omega) (by omega)
                          refine l_Mo_join_358 (M := M) (t := t) X hr hlk hml hT hB hpr k0 hz8 w (by rw [hz9, eMw3, va_up_self]) (by rw [eMw3]; exact hW2.up (by rw [← b42]; exact hW2 _ (by omega))) (fun r h => by rw [eMw3, va_up_ne _ _ (by omega), eMw2, va_up_ne _ _ (by omega), va_up_ne _ _ (by omega)]; exact aF r (by omega)) (lv_sub hl [2, 3] rfl) (fun M2 q8 q9 => Or.inr (Or.inr (Or.inr ⟨⟨k0, k0a, k0b⟩, by omega, fun h => by omega, fun h => by omega, rfl, hz8, M2, rfl, q8, q9⟩)))
                        · exact absurd h_254 (by omega)
                      · refine W.eq (g2 := F0 m 95 ls [.int (iI (5))]) (by rw [hsw2]) ?_
                        refine lv_tableIn (tgt := 278) X.1 X.2.1 d_Mo_join_95 (by decide) (by decide) rfl (by decide) ?_
                        refine lv_aload_n X.1 X.2.1 d_Mo_join_278 rfl (lv_at hl 2 rfl) ?_
                        refine lv_aload X.1 X.2.1 d_Mo_join_279 (lv_at hl 1 rfl) ?_
                        refine lv_aload X.1 X.2.1 d_Mo_join_281 (lv_at hl 0 rfl) ?_
                        refine w_cVv (n := 2) (i := 132) (ci := 5) (As := [.ref (ad (138 + a.toNat)), .ref (ad (138 + b.toNat))]) (rest := []) X w hml hl.1 (c_Mo_common hT (M := Mw1) hB hI (a := a.toNat) (b := b.toNat) (by omega) (by omega) hW1 (by rw [fa]; exact ha9.mono (by omega)) (by rw [fb]; exact hb9.mono (by omega)) (by rw [fb]; omega)) (by omega) (by rw [mkR_B (by decide)]; exact hB.1) rfl k_m_Mo_100 k_im_Mo_common k_se_Mo_common k_i_Mo k_co_Mo_common (by decide +kernel) rfl ⟨Nat.le_of_ble_eq_true rfl, Nat.le_of_ble_eq_true rfl⟩ ⟨rfl, rfl⟩ ⟨Nat.zero_le _, Nat.zero_le _⟩ rfl (Nat.le_of_ble_eq_true rfl) d_Mo_join_283 (fun C' H locs hp w => ?_)
                        obtain ⟨M6, rfl, hW6, q1, q2, q3⟩ := hp
                        rw [fa, fb] at q1
                        refine lv_aload_n X.1 X.2.1 d_Mo_join_286 rfl (lv_at hl 2 rfl) ?_
                        refine m_get X hT w hB 9 (by decide) k_f_Mo_40 rfl d_Mo_join_287 ?_
                        refine lv_aload_n X.1 X.2.1 d_Mo_join_290 rfl (lv_at hl 2 rfl) ?_
                        refine m_get X hT w hB 11 (by decide) k_f_Mo_46 rfl d_Mo_join_291 ?_
                        refine w_cSv (n := 2) (As := [.ref (ad (138 + 44)), .ref (ad (138 + 46))]) (rest := []) X w hml hl.1 (c_Mo_copy hT (M := M6) (a := 44) (b := 46) (by omega) (by omega) hW6) k_m_Mo_84 k_st_Mo_copy k_i_Mo k_co_Mo_copy (by decide +kernel) rfl ⟨Nat.le_of_ble_eq_true rfl, Nat.le_of_ble_eq_true rfl⟩ ⟨rfl, rfl⟩ ⟨Nat.zero_le _, Nat.zero_le _⟩ rfl (Nat.le_of_ble_eq_true rfl) d_Mo_join_294 (fun C' H locs hp w => ?_)
                        subst hp
                        obtain ⟨Mw2, eMw2⟩ : ∃ mm : Nat → Nat → Int, mm = va_up M6 46 (M6 44) := ⟨_, rfl⟩
                        rw [← eMw2] at w
                        rw [q1] at eMw2
                        refine lv_goto (tgt := 358) X.1 X.2.1 d_Mo_join_297 (by decide) ?_
                        have hz9 : (jnR pr inv op (M a.toNat) (M b.toNat)) = gcdP pr inv (M a.toNat) (M b.toNat) := by unfold jnR; rw [if_neg (by omega), if_neg (by omega), if_neg (by omega), if_neg (by omega), if_neg (by omega), if_pos (by omega)]
                        have hz8 : okp pr 25 (jnR pr inv op (M a.toNat) (M b.toNat)) := jnR_ok hI ha9 hb9 (fun h => by omega) (by omega)
                        refine l_Mo_join_358 (M := M) (t := t) X hr hlk hml hT hB hpr k0 hz8 w (by rw [hz9, eMw2, va_up_self]) (by rw [eMw2]; exact hW6.up (by rw [← q1]; exact hW6 _ (by omega))) (fun r h => by rw [eMw2, va_up_ne _ _ (by omega), q3 r (by omega) (by omega) (by omega) (by omega)]; exact aF r (by omega)) (lv_sub hl [2, 3] rfl) (fun M2 q8 q9 => Or.inr (Or.inr (Or.inr ⟨⟨k0, k0a, k0b⟩, by omega, fun h => by omega, fun h => by omega, rfl, hz8, M2, rfl, q8, q9⟩)))
                      · refine W.eq (g2 := F0 m 95 ls [.int (iI (6))]) (by rw [hsw2]) ?_
                        refine lv_tableIn (tgt := 300) X.1 X.2.1 d_Mo_join_95 (by decide) (by decide) rfl (by decide) ?_
                        refine lv_aload X.1 X.2.1 d_Mo_join_300 (lv_at hl 1 rfl) ?_
                        refine lv_aload_n X.1 X.2.1 d_Mo_join_302 rfl (lv_at hl 2 rfl) ?_
                        refine m_get X hT w hB 11 (by decide) k_f_Mo_46 rfl d_Mo_join_303 ?_
                        refine w_cSv (n := 2) (As := [.ref (ad (138 + a.toNat)), .ref (ad (138 + 46))]) (rest := []) X w hml hl.1 (c_Mo_copy hT (M := Mw1) (a := a.toNat) (b := 46) (by omega) (by omega) hW1) k_m_Mo_84 k_st_Mo_copy k_i_Mo k_co_Mo_copy (by decide +kernel) rfl ⟨Nat.le_of_ble_eq_true rfl, Nat.le_of_ble_eq_true rfl⟩ ⟨rfl, rfl⟩ ⟨Nat.zero_le _, Nat.zero_le _⟩ rfl (Nat.le_of_ble_eq_true rfl) d_Mo_join_306 (fun C' H locs hp w => ?_)
                        subst hp
                        obtain ⟨Mw2, eMw2⟩ : ∃ mm : Nat → Nat → Int, mm = va_up Mw1 46 (Mw1 a.toNat) := ⟨_, rfl⟩
                        rw [← eMw2] at w
                        rw [fa] at eMw2
                        have hW2 : WR Mw2 := by rw [eMw2]; exact hW1.up (hW _ (by omega))
                        have b46 : Mw2 46 = M a.toNat := by rw [eMw2, va_up_self]
                        refine lv_aload_n X.1 X.2.1 d_Mo_join_309 rfl (lv_at hl 2 rfl) ?_
                        refine lv_aload_n X.1 X.2.1 d_Mo_join_310 rfl (lv_at hl 2 rfl) ?_
                        refine m_get X hT w hB 11 (by decide) k_f_Mo_46 rfl d_Mo_join_311 ?_
                        refine w_cVv (n := 1) (i := 132) (ci := 5) (As := [.ref (ad (138 + 46))]) (rest := []) X w hml hl.1 (c_Mo_monic hT (M := Mw2) hB hI (a := 46) (by omega) (by rw [b46]; exact ha9.mono (by omega))) (by omega) (by rw [mkR_B (by decide)]; exact hB.1) rfl k_m_Mo_94 k_im_Mo_monic k_se_Mo_monic k_i_Mo k_co_Mo_monic (by decide +kernel) rfl ⟨Nat.le_of_ble_eq_true rfl, Nat.le_of_ble_eq_true rfl⟩ ⟨rfl, rfl⟩ ⟨Nat.zero_le _, Nat.zero_le _⟩ rfl (Nat.le_of_ble_eq_true rfl) d_Mo_join_314 (fun C' H locs hp w => ?_)
                        subst hp
                        obtain ⟨Mw3, eMw3⟩ : ∃ mm : Nat → Nat → Int, mm = va_up Mw2 46 (mon pr inv (Mw2 46)) := ⟨_, rfl⟩
                        rw [← eMw3] at w
                        rw [b46] at eMw3
                        refine lv_goto (tgt := 358) X.1 X.2.1 d_Mo_join_317 (by decide) ?_
                        have hz9 : (jnR pr inv op (M a.toNat) (M b.toNat)) = mon pr inv (M a.toNat) := by unfold jnR; rw [if_neg (by omega), if_neg (by omega), if_neg (by omega), if_neg (by omega), if_neg (by omega), if_neg (by omega), if_pos (by omega)]
                        have hz8 : okp pr 25 (jnR pr inv op (M a.toNat) (M b.toNat)) := jnR_ok hI ha9 hb9 (fun h => by omega) (by omega)
                        refine l_Mo_join_358 (M := M) (t := t) X hr hlk hml hT hB hpr k0 hz8 w (by rw [hz9, eMw3, va_up_self]) (by rw [eMw3]; exact hW2.up (((mon_ok (inv := inv) (by omega) ha9).mono (by omega)).ok hpr.2)) (fun r h => by rw [eMw3, va_up_ne _ _ (by omega), eMw2, va_up_ne _ _ (by omega)]; exact aF r (by omega)) (lv_sub hl [2, 3] rfl) (fun M2 q8 q9 => Or.inr (Or.inr (Or.inr ⟨⟨k0, k0a, k0b⟩, by omega, fun h => by omega, fun h => by omega, rfl, hz8, M2, rfl, q8, q9⟩)))
                  · exact absurd h_82 (by omega)
                · refine lv_iconst (v := iI (1)) X.1 X.2.1 d_Mo_join_74 (by decide) ?_
                  refine lv_goto (tgt := 79) X.1 X.2.1 d_Mo_join_75 (by decide) ?_
                  refine w_cVi (n := 2) (i := 132) (ci := 5) (As := [.int (iI (2)), .int (iI (1))]) (rest := []) X w hml hl.1 (c_Mo_refuse hT (M := M) hB (k := 2) (b := 1) (by omega)) (by omega) (by rw [mkR_B (by decide)]; exact hB.1) rfl k_m_Mo_61 k_im_Mo_refuse k_se_Mo_refuse k_i_Mo k_co_Mo_refuse (by decide +kernel) rfl ⟨Nat.le_of_ble_eq_true rfl, Nat.le_of_ble_eq_true rfl⟩ ⟨rfl, rfl⟩ ⟨Nat.zero_le _, Nat.zero_le _⟩ rfl (Nat.le_of_ble_eq_true rfl) d_Mo_join_79 (fun r' C' H locs hp w => ?_)
                  obtain ⟨rfl, rfl⟩ := hp
                  rw [mB_mB] at w
                  have hB := hB0.set (if (1 : Int) = 0 then (outF b 0 15) else 2) pr fc
                  refine z_eq (a := 1) (tgt := 87) X (by omega) d_Mo_join_82 (by decide) (fun h_82 => ?_) (fun h_82 => ?_)
                  · exact absurd h_82 (by omega)
                  · refine lv_iconst (v := iI (0)) X.1 X.2.1 d_Mo_join_85 (by decide) ?_
                    exact w_iret X hr hlk w (Or.inr (Or.inl ⟨⟨k0, k0a, k0b⟩, by omega, rfl, by rw [if_neg (by decide)]⟩)) d_Mo_join_86
      · refine lv_iconst (v := iI (0)) X.1 X.2.1 d_Mo_join_25 (by decide) ?_
        obtain ⟨k1, k2⟩ := outF_1 h_22
        exact w_iret X hr hlk w (Or.inl ⟨Or.inr (Or.inr k1), rfl, by rw [k1]⟩) d_Mo_join_26
