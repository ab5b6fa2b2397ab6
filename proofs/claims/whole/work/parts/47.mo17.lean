section MIG
variable {p : Program} {l : Launch} {e : Env} {s : State} {m : MethodId} {args : Array Value} {below : List Frame} {meth : Method} {c : Code} {H : Heap} {locs : List Loc} {Q : State → Prop} {D : va_G} {cs : Nat → ClassId} {A : Nat → Prop} {ad : Nat → Nat} {T : Nat} {B : Nat → va_E} {th pr fc : Int}
variable {M : Nat → Nat → Int} {inv : Nat → Int} {t : Int} {n : Nat} {pm : Nat → Nat}
theorem l_inv_227 (X : Cx p s m args c b_Mo_inverse RMo) (hml : c.maxLocals = 12) (hT : 213 ≤ T) (hn : n ≤ 24) (hB : moO cs ad th pr fc B) (hpr : 2 ≤ pr ∧ pr ≤ 13) {k : Nat} (hk : k < n) {F : Nat → Nat → Int} (hE : eqV cs ad n pm F B) (hF : okE pr n F) (w : Wd D cs A ad T s (mkR cs M B) H locs)
    (K : ∀ (r : Nat) (ls : Array Slot), r = pivR F k (n - k) k → lv_has ls 12 [(0, .ref (ad (132))), (1, .int (iI (t))), (4, .int (iI (n))), (5, .int (iI (k))), (6, .int (iI (r)))] → W p l e { frames := 2, cells := 0, slots := 0, locals := 49 } s m args below meth c H locs 0 0 Q (F0 m 253 ls [])) :
    ∀ (f r : Nat) (ls : Array Slot), r + f = n → k ≤ r → pivR F k (n - k) k = pivR F k f r → lv_has ls 12 [(0, .ref (ad (132))), (1, .int (iI (t))), (4, .int (iI (n))), (5, .int (iI (k))), (6, .int (iI (r)))] → W p l e { frames := 2, cells := 0, slots := 0, locals := 49 } s m args below meth c H locs 0 0 Q (F0 m 227 ls []) := by
  intro f
  induction f with
  | zero =>
    intro r ls h1 h2 h3 hl
    refine lv_iload X.1 X.2.1 d_Mo_inverse_227 (lv_at hl 4 rfl) ?_
    refine lv_iload X.1 X.2.1 d_Mo_inverse_229 (lv_at hl 2 rfl) ?_
    refine i_ge (a := r) (b := n) (tgt := 253) X (by omega) (by omega) d_Mo_inverse_231 (by decide) (fun h_231 => ?_) (fun h_231 => ?_)
    · exact K r ls h3.symm (lv_sub hl [0, 1, 2, 3, 4] rfl)
    · exact absurd h_231 (by omega)
  | succ f ih =>
    intro r ls h1 h2 h3 hl
    have h3 : pivR F k (n - k) k = if F r k = 0 then pivR F k f (r + 1) else r := h3
    have rF := hF r k (by omega) (by omega)
    refine lv_iload X.1 X.2.1 d_Mo_inverse_227 (lv_at hl 4 rfl) ?_
    refine lv_iload X.1 X.2.1 d_Mo_inverse_229 (lv_at hl 2 rfl) ?_
    refine i_ge (a := r) (b := n) (tgt := 253) X (by omega) (by omega) d_Mo_inverse_231 (by decide) (fun h_231 => ?_) (fun h_231 => ?_)
    · exact absurd h_231 (by omega)
    · refine lv_aload_n X.1 X.2.1 d_Mo_inverse_234 rfl (lv_at hl 0 rfl) ?_
      refine m_get X hT w hB 15 (by decide) k_f_Mo_58 rfl d_Mo_inverse_235 ?_
      refine lv_iload X.1 X.2.1 d_Mo_inverse_238 (lv_at hl 4 rfl) ?_
      refine e_row (z := r) X hT w hE (r) (by omega) (by omega) d_Mo_inverse_240 ?_
      refine lv_iload X.1 X.2.1 d_Mo_inverse_241 (lv_at hl 3 rfl) ?_
      refine e_ld (z := k) X hT w hE hn (r) (by omega) (k) (by omega) (by omega) d_Mo_inverse_243 ?_
      refine z_ne (a := F r k) (tgt := 253) X (by omega) d_Mo_inverse_244 (by decide) (fun h_244 => ?_) (fun h_244 => ?_)
      · rw [if_neg h_244] at h3
        exact K r ls h3.symm (lv_sub hl [0, 1, 2, 3, 4] rfl)
      · refine i_inc (k := 4) (x := r) (lv' := [(6, .int (iI (r + 1))), (0, .ref (ad (132))), (1, .int (iI (t))), (4, .int (iI (n))), (5, .int (iI (k)))]) X d_Mo_inverse_247 hl rfl (by decide) rfl (fun ls hl => ?_)
        refine lv_goto (tgt := 227) X.1 X.2.1 d_Mo_inverse_250 (by decide) ?_
        rw [if_pos h_244] at h3
        exact ih (r + 1) ls (by omega) (by omega) h3 (lv_sub hl [1, 2, 3, 4, 0] rfl)
theorem l_inv_321 (X : Cx p s m args c b_Mo_inverse RMo) (hml : c.maxLocals = 12) (hT : 213 ≤ T) (hn : n ≤ 24) (hpr : 2 ≤ pr ∧ pr ≤ 13) {k : Nat} (hk : k < n) {u : Int} (hu : 0 ≤ u ∧ u < pr) {Fa : Nat → Nat → Int} (hF : okE pr n Fa)
    (K : ∀ (F1 : Nat → Nat → Int) (B1 : Nat → va_E) (H : Heap) (locs : List Loc) (ls : Array Slot), Wd D cs A ad T s (mkR cs M B1) H locs → moO cs ad th pr fc B1 → eqV cs ad n pm F1 B1 → (∀ q, q < 188 ∨ 213 ≤ q → B1 q = B q) → (∀ i j, i < n → j ≤ n → F1 i j = if i = k then Fa k j * u % pr else Fa i j) → lv_has ls 12 [(0, .ref (ad (132))), (1, .int (iI (t))), (4, .int (iI (n))), (5, .int (iI (k))), (7, .ref (ad (188 + pm k)))] → W p l e { frames := 2, cells := 0, slots := 0, locals := 49 } s m args below meth c H locs 0 0 Q (F0 m 352 ls [])) :
    ∀ (f q : Nat) (F1 : Nat → Nat → Int) (B1 : Nat → va_E) (H : Heap) (locs : List Loc) (ls : Array Slot), q + f = n + 1 → Wd D cs A ad T s (mkR cs M B1) H locs → moO cs ad th pr fc B1 → eqV cs ad n pm F1 B1 → (∀ q, q < 188 ∨ 213 ≤ q → B1 q = B q) → (∀ i j, i < n → j ≤ n → F1 i j = if i = k ∧ j < q then Fa k j * u % pr else Fa i j) → lv_has ls 12 [(0, .ref (ad (132))), (1, .int (iI (t))), (4, .int (iI (n))), (5, .int (iI (k))), (7, .ref (ad (188 + pm k))), (8, .int (iI (u))), (9, .int (iI (q)))] → W p l e { frames := 2, cells := 0, slots := 0, locals := 49 } s m args below meth c H locs 0 0 Q (F0 m 321 ls []) := by
  intro f
  induction f with
  | zero =>
    intro q F1 B1 H locs ls h1 w hB hE hQ h2 hl
    refine lv_iload X.1 X.2.1 d_Mo_inverse_321 (lv_at hl 6 rfl) ?_
    refine lv_iload X.1 X.2.1 d_Mo_inverse_323 (lv_at hl 2 rfl) ?_
    refine i_gt (a := q) (b := n) (tgt := 352) X (by omega) (by omega) d_Mo_inverse_325 (by decide) (fun h_325 => ?_) (fun h_325 => ?_)
    · refine K F1 B1 H locs ls w hB hE hQ (fun i j hi hj => ?_) (lv_sub hl [0, 1, 2, 3, 4] rfl)
      rw [h2 i j hi hj]
      split <;> split <;> first | rfl | (exfalso; omega)
    · exact absurd h_325 (by omega)
  | succ f ih =>
    intro q F1 B1 H locs ls h1 w hB hE hQ h2 hl
    have e1 : F1 k q = Fa k q := by rw [h2 k q hk (by omega), if_neg (by omega)]
    have rF := hF k q hk (by omega)
    have hm : 0 ≤ F1 k q * u ∧ F1 k q * u < 2147483648 := by
      rw [e1]
      exact ⟨Int.mul_nonneg rF.1 hu.1, by have := Int.mul_le_mul (show Fa k q ≤ 13 by omega) (show u ≤ 13 by omega) hu.1 (by decide); omega⟩
    refine lv_iload X.1 X.2.1 d_Mo_inverse_321 (lv_at hl 6 rfl) ?_
    refine lv_iload X.1 X.2.1 d_Mo_inverse_323 (lv_at hl 2 rfl) ?_
    refine i_gt (a := q) (b := n) (tgt := 352) X (by omega) (by omega) d_Mo_inverse_325 (by decide) (fun h_325 => ?_) (fun h_325 => ?_)
    · exact absurd h_325 (by omega)
    · refine lv_aload X.1 X.2.1 d_Mo_inverse_328 (lv_at hl 4 rfl) ?_
      refine lv_iload X.1 X.2.1 d_Mo_inverse_330 (lv_at hl 6 rfl) ?_
      refine lv_aload X.1 X.2.1 d_Mo_inverse_332 (lv_at hl 4 rfl) ?_
      refine lv_iload X.1 X.2.1 d_Mo_inverse_334 (lv_at hl 6 rfl) ?_
      refine e_ld (z := q) X hT w hE hn (k) (by omega) (q) (by omega) (by omega) d_Mo_inverse_336 ?_
      refine lv_iload X.1 X.2.1 d_Mo_inverse_337 (lv_at hl 5 rfl) ?_
      refine i_mul (a := F1 k q) (b := u) X d_Mo_inverse_339 ?_
      refine lv_aload_n X.1 X.2.1 d_Mo_inverse_340 rfl (lv_at hl 0 rfl) ?_
      refine m_get X hT w hB 1 (by decide) k_f_Mo_13 rfl d_Mo_inverse_341 ?_
      refine i_rem (a := (F1 k q) * u) (b := pr) X hm (by omega) d_Mo_inverse_344 ?_
      refine e_st (z := q) (v := ((F1 k q) * u) % pr) X hT w hB hE hn (k) (by omega) (q) (by omega) (by omega) d_Mo_inverse_345 (fun Bw1 H locs w hB hE hQBw1 => ?_)
      refine i_inc (k := 6) (x := q) (lv' := [(9, .int (iI (q + 1))), (0, .ref (ad (132))), (1, .int (iI (t))), (4, .int (iI (n))), (5, .int (iI (k))), (7, .ref (ad (188 + pm k))), (8, .int (iI (u)))]) X d_Mo_inverse_346 hl rfl (by decide) rfl (fun ls hl => ?_)
      refine lv_goto (tgt := 321) X.1 X.2.1 d_Mo_inverse_349 (by decide) ?_
      refine ih (q + 1) _ Bw1 H locs ls (by omega) w hB hE (fun x hx => by rw [hQBw1 x hx]; exact hQ x hx) (fun i j hi hj => ?_) (lv_sub hl [1, 2, 3, 4, 5, 6, 0] rfl)
      by_cases e3 : i = k
      · subst e3
        rw [va_up_self]
        by_cases e2 : j = q
        · rw [e2, va_up_self, e1, if_pos ⟨rfl, by omega⟩]
        · rw [va_up_ne _ _ e2, h2 i j hi hj]
          split <;> split <;> first | rfl | (exfalso; omega)
      · rw [va_up_ne _ _ e3, h2 i j hi hj, if_neg (by omega), if_neg (by omega)]
theorem l_inv_387 (X : Cx p s m args c b_Mo_inverse RMo) (hml : c.maxLocals = 12) (hT : 213 ≤ T) (hn : n ≤ 24) (hpr : 2 ≤ pr ∧ pr ≤ 13) {k s0 : Nat} (hk : k < n) (hs : s0 < n) (hsk : s0 ≠ k) {g : Int} (hg : 0 ≤ g ∧ g < pr) {Fa : Nat → Nat → Int} (hF : okE pr n Fa)
    (K : ∀ (F1 : Nat → Nat → Int) (B1 : Nat → va_E) (H : Heap) (locs : List Loc) (ls : Array Slot), Wd D cs A ad T s (mkR cs M B1) H locs → moO cs ad th pr fc B1 → eqV cs ad n pm F1 B1 → (∀ q, q < 188 ∨ 213 ≤ q → B1 q = B q) → (∀ i j, i < n → j ≤ n → F1 i j = if i = s0 then (Fa s0 j - g * Fa k j) % pr else Fa i j) → lv_has ls 12 [(0, .ref (ad (132))), (1, .int (iI (t))), (4, .int (iI (n))), (5, .int (iI (k))), (7, .ref (ad (188 + pm k))), (9, .int (iI (s0)))] → W p l e { frames := 2, cells := 0, slots := 0, locals := 49 } s m args below meth c H locs 0 0 Q (F0 m 433 ls [])) :
    ∀ (f q : Nat) (F1 : Nat → Nat → Int) (B1 : Nat → va_E) (H : Heap) (locs : List Loc) (ls : Array Slot), q + f = n + 1 → Wd D cs A ad T s (mkR cs M B1) H locs → moO cs ad th pr fc B1 → eqV cs ad n pm F1 B1 → (∀ q, q < 188 ∨ 213 ≤ q → B1 q = B q) → (∀ i j, i < n → j ≤ n → F1 i j = if i = s0 ∧ j < q then (Fa s0 j - g * Fa k j) % pr else Fa i j) → lv_has ls 12 [(0, .ref (ad (132))), (1, .int (iI (t))), (4, .int (iI (n))), (5, .int (iI (k))), (7, .ref (ad (188 + pm k))), (9, .int (iI (s0))), (10, .int (iI (g))), (11, .int (iI (q)))] → W p l e { frames := 2, cells := 0, slots := 0, locals := 49 } s m args below meth c H locs 0 0 Q (F0 m 387 ls []) := by
  intro f
  induction f with
  | zero =>
    intro q F1 B1 H locs ls h1 w hB hE hQ h2 hl
    refine lv_iload X.1 X.2.1 d_Mo_inverse_387 (lv_at hl 7 rfl) ?_
    refine lv_iload X.1 X.2.1 d_Mo_inverse_389 (lv_at hl 2 rfl) ?_
    refine i_gt (a := q) (b := n) (tgt := 433) X (by omega) (by omega) d_Mo_inverse_391 (by decide) (fun h_391 => ?_) (fun h_391 => ?_)
    · refine K F1 B1 H locs ls w hB hE hQ (fun i j hi hj => ?_) (lv_sub hl [0, 1, 2, 3, 4, 5] rfl)
      rw [h2 i j hi hj]
      split <;> split <;> first | rfl | (exfalso; omega)
    · exact absurd h_391 (by omega)
  | succ f ih =>
    intro q F1 B1 H locs ls h1 w hB hE hQ h2 hl
    have e1 : F1 s0 q = Fa s0 q := by rw [h2 s0 q hs (by omega), if_neg (by omega)]
    have e2 : F1 k q = Fa k q := by rw [h2 k q hk (by omega), if_neg (by omega)]
    have rF := hF k q hk (by omega)
    have rG := hF s0 q hs (by omega)
    have hm : 0 ≤ g * F1 k q ∧ g * F1 k q ≤ 169 := by
      rw [e2]
      exact ⟨Int.mul_nonneg hg.1 rF.1, by have := Int.mul_le_mul (show g ≤ 13 by omega) (show Fa k q ≤ 13 by omega) rF.1 (by decide); omega⟩
    refine lv_iload X.1 X.2.1 d_Mo_inverse_387 (lv_at hl 7 rfl) ?_
    refine lv_iload X.1 X.2.1 d_Mo_inverse_389 (lv_at hl 2 rfl) ?_
    refine i_gt (a := q) (b := n) (tgt := 433) X (by omega) (by omega) d_Mo_inverse_391 (by decide) (fun h_391 => ?_) (fun h_391 => ?_)
    · exact absurd h_391 (by omega)
    · refine lv_aload_n X.1 X.2.1 d_Mo_inverse_394 rfl (lv_at hl 0 rfl) ?_
      refine m_get X hT w hB 15 (by decide) k_f_Mo_58 rfl d_Mo_inverse_395 ?_
      refine lv_iload X.1 X.2.1 d_Mo_inverse_398 (lv_at hl 5 rfl) ?_
      refine e_row (z := s0) X hT w hE (s0) (by omega) (by omega) d_Mo_inverse_400 ?_
      refine lv_iload X.1 X.2.1 d_Mo_inverse_401 (lv_at hl 7 rfl) ?_
      refine lv_aload_n X.1 X.2.1 d_Mo_inverse_403 rfl (lv_at hl 0 rfl) ?_
      refine lv_aload_n X.1 X.2.1 d_Mo_inverse_404 rfl (lv_at hl 0 rfl) ?_
      refine m_get X hT w hB 15 (by decide) k_f_Mo_58 rfl d_Mo_inverse_405 ?_
      refine lv_iload X.1 X.2.1 d_Mo_inverse_408 (lv_at hl 5 rfl) ?_
      refine e_row (z := s0) X hT w hE (s0) (by omega) (by omega) d_Mo_inverse_410 ?_
      refine lv_iload X.1 X.2.1 d_Mo_inverse_411 (lv_at hl 7 rfl) ?_
      refine e_ld (z := q) X hT w hE hn (s0) (by omega) (q) (by omega) (by omega) d_Mo_inverse_413 ?_
      refine lv_iload X.1 X.2.1 d_Mo_inverse_414 (lv_at hl 6 rfl) ?_
      refine lv_aload X.1 X.2.1 d_Mo_inverse_416 (lv_at hl 4 rfl) ?_
      refine lv_iload X.1 X.2.1 d_Mo_inverse_418 (lv_at hl 7 rfl) ?_
      refine e_ld (z := q) X hT w hE hn (k) (by omega) (q) (by omega) (by omega) d_Mo_inverse_420 ?_
      refine i_mul (a := g) (b := F1 k q) X d_Mo_inverse_421 ?_
      refine i_sub (a := F1 s0 q) (b := g * (F1 k q)) X d_Mo_inverse_422 ?_
      refine w_cVi (n := 1) (i := 132) (ci := 5) (As := [.int (iI ((F1 s0 q) - (g * (F1 k q))))]) (rest := [.int (iI (q)), .ref (ad (188 + pm s0))]) X w hml hl.1 (c_Mo_inField hT (M := M) (B := B1) hB (v := F1 s0 q - (g * F1 k q)) (by omega) hpr) (by omega) (by rw [mkR_B (by decide)]; exact hB.1) rfl k_m_Mo_77 k_im_Mo_inField k_se_Mo_inField k_i_Mo k_co_Mo_inField (by decide +kernel) rfl ⟨Nat.le_of_ble_eq_true rfl, Nat.le_of_ble_eq_true rfl⟩ ⟨rfl, rfl⟩ ⟨Nat.zero_le _, Nat.zero_le _⟩ rfl (Nat.le_of_ble_eq_true rfl) d_Mo_inverse_423 (fun r' C' H locs hp w => ?_)
      obtain ⟨rfl, rfl⟩ := hp
      refine e_st (z := q) (v := (F1 s0 q - (g * F1 k q)) % pr) X hT w hB hE hn (s0) (by omega) (q) (by omega) (by omega) d_Mo_inverse_426 (fun Bw1 H locs w hB hE hQBw1 => ?_)
      refine i_inc (k := 7) (x := q) (lv' := [(11, .int (iI (q + 1))), (0, .ref (ad (132))), (1, .int (iI (t))), (4, .int (iI (n))), (5, .int (iI (k))), (7, .ref (ad (188 + pm k))), (9, .int (iI (s0))), (10, .int (iI (g)))]) X d_Mo_inverse_427 hl rfl (by decide) rfl (fun ls hl => ?_)
      refine lv_goto (tgt := 387) X.1 X.2.1 d_Mo_inverse_430 (by decide) ?_
      refine ih (q + 1) _ Bw1 H locs ls (by omega) w hB hE (fun x hx => by rw [hQBw1 x hx]; exact hQ x hx) (fun i j hi hj => ?_) (lv_sub hl [1, 2, 3, 4, 5, 6, 7, 0] rfl)
      by_cases e3 : i = s0
      · subst e3
        rw [va_up_self]
        by_cases e4 : j = q
        · rw [e4, va_up_self, e1, e2, if_pos ⟨rfl, by omega⟩]
        · rw [va_up_ne _ _ e4, h2 i j hi hj]
          split <;> split <;> first | rfl | (exfalso; omega)
      · rw [va_up_ne _ _ e3, h2 i j hi hj, if_neg (by omega), if_neg (by omega)]
theorem l_inv_355 (X : Cx p s m args c b_Mo_inverse RMo) (hml : c.maxLocals = 12) (hT : 213 ≤ T) (hn : n ≤ 24) (hpr : 2 ≤ pr ∧ pr ≤ 13) {k : Nat} (hk : k < n) {Fa : Nat → Nat → Int} (hF : okE pr n Fa)
    (K : ∀ (F1 : Nat → Nat → Int) (B1 : Nat → va_E) (H : Heap) (locs : List Loc) (ls : Array Slot), Wd D cs A ad T s (mkR cs M B1) H locs → moO cs ad th pr fc B1 → eqV cs ad n pm F1 B1 → (∀ q, q < 188 ∨ 213 ≤ q → B1 q = B q) → (∀ i j, i < n → j ≤ n → F1 i j = elmR pr k Fa i j) → lv_has ls 12 [(0, .ref (ad (132))), (1, .int (iI (t))), (4, .int (iI (n))), (5, .int (iI (k)))] → W p l e { frames := 2, cells := 0, slots := 0, locals := 49 } s m args below meth c H locs 0 0 Q (F0 m 439 ls [])) :
    ∀ (f s0 : Nat) (F1 : Nat → Nat → Int) (B1 : Nat → va_E) (H : Heap) (locs : List Loc) (ls : Array Slot), s0 + f = n → Wd D cs A ad T s (mkR cs M B1) H locs → moO cs ad th pr fc B1 → eqV cs ad n pm F1 B1 → (∀ q, q < 188 ∨ 213 ≤ q → B1 q = B q) → (∀ i j, i < n → j ≤ n → F1 i j = if i < s0 then elmR pr k Fa i j else Fa i j) → lv_has ls 12 [(0, .ref (ad (132))), (1, .int (iI (t))), (4, .int (iI (n))), (5, .int (iI (k))), (7, .ref (ad (188 + pm k))), (9, .int (iI (s0)))] → W p l e { frames := 2, cells := 0, slots := 0, locals := 49 } s m args below meth c H locs 0 0 Q (F0 m 355 ls []) := by
  have hel : ∀ i j, i ≠ k → elmR pr k Fa i j = (Fa i j - Fa i k * Fa k j) % pr := fun i j h => by unfold elmR; rw [if_neg h]
  have hek : ∀ j, elmR pr k Fa k j = Fa k j := fun j => by unfold elmR; rw [if_pos rfl]
  intro f
  induction f with
  | zero =>
    intro s0 F1 B1 H locs ls h1 w hB hE hQ h2 hl
    refine lv_iload X.1 X.2.1 d_Mo_inverse_355 (lv_at hl 5 rfl) ?_
    refine lv_iload X.1 X.2.1 d_Mo_inverse_357 (lv_at hl 2 rfl) ?_
    refine i_ge (a := s0) (b := n) (tgt := 439) X (by omega) (by omega) d_Mo_inverse_359 (by decide) (fun h_359 => ?_) (fun h_359 => ?_)
    · refine K F1 B1 H locs ls w hB hE hQ (fun i j hi hj => ?_) (lv_sub hl [0, 1, 2, 3] rfl)
      rw [h2 i j hi hj, if_pos (by omega)]
    · exact absurd h_359 (by omega)
  | succ f ih =>
    intro s0 F1 B1 H locs ls h1 w hB hE hQ h2 hl
    have hF1 : okE pr n F1 := by
      intro i j hi hj
      rw [h2 i j hi hj]
      split
      · by_cases e : i = k
        · rw [e, hek]; exact hF k j hk hj
        · rw [hel i j e]; exact ⟨Int.emod_nonneg _ (by omega), Int.emod_lt_of_pos _ (by omega)⟩
      · exact hF i j hi hj
    have e1 : F1 s0 k = Fa s0 k := by rw [h2 s0 k (by omega) (by omega), if_neg (by omega)]
    have e2 : ∀ j, j ≤ n → F1 k j = Fa k j := fun j hj => by
      rw [h2 k j hk hj]
      split
      · exact hek j
      · rfl
    refine lv_iload X.1 X.2.1 d_Mo_inverse_355 (lv_at hl 5 rfl) ?_
    refine lv_iload X.1 X.2.1 d_Mo_inverse_357 (lv_at hl 2 rfl) ?_
    refine i_ge (a := s0) (b := n) (tgt := 439) X (by omega) (by omega) d_Mo_inverse_359 (by decide) (fun h_359 => ?_) (fun h_359 => ?_)
    · exact absurd h_359 (by omega)
    · refine lv_iload X.1 X.2.1 d_Mo_inverse_362 (lv_at hl 5 rfl) ?_
      refine lv_iload X.1 X.2.1 d_Mo_inverse_364 (lv_at hl 3 rfl) ?_
      refine i_ne (a := s0) (b := k) (tgt := 372) X (by omega) (by omega) d_Mo_inverse_366 (by decide) (fun h_366 => ?_) (fun h_366 => ?_)
      · refine lv_aload_n X.1 X.2.1 d_Mo_inverse_372 rfl (lv_at hl 0 rfl) ?_
        refine m_get X hT w hB 15 (by decide) k_f_Mo_58 rfl d_Mo_inverse_373 ?_
        refine lv_iload X.1 X.2.1 d_Mo_inverse_376 (lv_at hl 5 rfl) ?_
        refine e_row (z := s0) X hT w hE (s0) (by omega) (by omega) d_Mo_inverse_378 ?_
        refine lv_iload X.1 X.2.1 d_Mo_inverse_379 (lv_at hl 3 rfl) ?_
        refine e_ld (z := k) X hT w hE hn (s0) (by omega) (k) (by omega) (by omega) d_Mo_inverse_381 ?_
        refine lv_istore (lv' := [(10, .int (iI (F1 s0 k))), (0, .ref (ad (132))), (1, .int (iI (t))), (4, .int (iI (n))), (5, .int (iI (k))), (7, .ref (ad (188 + pm k))), (9, .int (iI (s0)))]) X.1 X.2.1 d_Mo_inverse_382 hl (by decide) rfl (fun ls hl => ?_)
        refine lv_iconst (v := iI (0)) X.1 X.2.1 d_Mo_inverse_384 (by decide) ?_
        refine lv_istore (lv' := [(11, .int (iI (0))), (10, .int (iI (F1 s0 k))), (0, .ref (ad (132))), (1, .int (iI (t))), (4, .int (iI (n))), (5, .int (iI (k))), (7, .ref (ad (188 + pm k))), (9, .int (iI (s0)))]) X.1 X.2.1 d_Mo_inverse_385 hl (by decide) rfl (fun ls hl => ?_)
        refine l_inv_387 (M := M) (B := B1) (n := n) (t := t) (pm := pm) X hml hT hn hpr (k := k) (s0 := s0) hk (by omega) (by omega) (g := F1 s0 k) (hF1 s0 k (by omega) (by omega)) (Fa := F1) hF1 (fun F2 B2 H locs ls w gB gE gQ gF hl => ?_) (n + 1) 0 F1 B1 H locs ls (by omega) w hB hE (fun _ _ => rfl) (fun i j hi hj => by rw [if_neg (by omega)]) (lv_sub hl [2, 3, 4, 5, 6, 7, 1, 0] rfl)
        refine i_inc (k := 5) (x := s0) (lv' := [(9, .int (iI (s0 + 1))), (0, .ref (ad (132))), (1, .int (iI (t))), (4, .int (iI (n))), (5, .int (iI (k))), (7, .ref (ad (188 + pm k)))]) X d_Mo_inverse_433 hl rfl (by decide) rfl (fun ls hl => ?_)
        refine lv_goto (tgt := 355) X.1 X.2.1 d_Mo_inverse_436 (by decide) ?_
        refine ih (s0 + 1) F2 B2 H locs ls (by omega) w gB gE (fun x hx => by rw [gQ x hx]; exact hQ x hx) (fun i j hi hj => ?_) (lv_sub hl [1, 2, 3, 4, 5, 0] rfl)
        rw [gF i j hi hj]
        by_cases e3 : i = s0
        · rw [if_pos e3, if_pos (by omega), e3, hel s0 j (by omega), e1, e2 j hj, h2 s0 j (by omega) hj, if_neg (by omega)]
        · rw [if_neg e3, h2 i j hi hj]; split <;> split <;> first | rfl | (exfalso; omega)
      · refine lv_goto (tgt := 433) X.1 X.2.1 d_Mo_inverse_369 (by decide) ?_
        refine i_inc (k := 5) (x := s0) (lv' := [(9, .int (iI (s0 + 1))), (0, .ref (ad (132))), (1, .int (iI (t))), (4, .int (iI (n))), (5, .int (iI (k))), (7, .ref (ad (188 + pm k)))]) X d_Mo_inverse_433 hl rfl (by decide) rfl (fun ls hl => ?_)
        refine lv_goto (tgt := 355) X.1 X.2.1 d_Mo_inverse_436 (by decide) ?_
        refine ih (s0 + 1) F1 B1 H locs ls (by omega) w hB hE hQ (fun i j hi hj => ?_) (lv_sub hl [1, 2, 3, 4, 5, 0] rfl)
        rw [h2 i j hi hj]
        by_cases e3 : i = s0
        · rw [if_neg (by omega), if_pos (by omega), e3, show s0 = k by omega, hek]
        · split <;> split <;> first | rfl | (exfalso; omega)
end MIG
