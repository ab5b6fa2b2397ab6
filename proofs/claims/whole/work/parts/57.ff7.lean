/-- every number but 0 has an inverse -/
def hasInv (q : Int) : Prop := (2 ≤ q ∧ q ≤ 13) ∧ ∀ v : Nat, 1 ≤ v → (v : Int) < q → ∃ u : Nat, 1 ≤ u ∧ (u : Int) < q ∧ ((v : Int) * u) % q = 1
theorem hasInv_of {q : Int} (h : 0 ≤ limF q) : hasInv q := by
  have h2 : q = 2 ∨ q = 3 ∨ q = 5 ∨ q = 7 ∨ q = 11 ∨ q = 13 := by
    unfold limF at h
    repeat' (first | omega | split at h)
  have key : ∀ p ∈ [2, 3, 5, 7, 11, 13], ∀ v : Fin p, 1 ≤ v.val → ∃ u : Fin p, 1 ≤ u.val ∧ (v.val * u.val) % p = 1 := by decide +kernel
  have fin : ∀ p : Nat, p ∈ [2, 3, 5, 7, 11, 13] → q = (p : Int) → hasInv q := by
    intro p hp e
    subst e
    refine ⟨by omega, fun v h1 h3 => ?_⟩
    obtain ⟨u, u1, u2⟩ := key p hp ⟨v, by omega⟩ h1
    refine ⟨u.val, u1, by have := u.isLt; omega, ?_⟩
    have e2 : ((v : Int) * (u.val : Int)) % (p : Int) = ((v * u.val % p : Nat) : Int) := by rw [Int.natCast_emod, Int.natCast_mul]
    rw [e2]
    show (((v * u.val) % p : Nat) : Int) = 1
    rw [show v * u.val % p = 1 from u2]
    rfl
  rcases h2 with e | e | e | e | e | e
  · exact fin 2 (by decide) e
  · exact fin 3 (by decide) e
  · exact fin 5 (by decide) e
  · exact fin 7 (by decide) e
  · exact fin 11 (by decide) e
  · exact fin 13 (by decide) e
section BEC
variable {p : Program} {l : Launch} {e : Env} {R : Room} {s : State} {m : MethodId} {args : Array Value} {below : List Frame} {meth : Method} {c : Code} {H : Heap} {locs : List Loc} {cells slots : Nat} {Q : State → Prop} {D : va_G} {cs : Nat → ClassId} {A : Nat → Prop} {ad : Nat → Nat} {T : Nat}
variable {C : Nat → va_E} {i j : Nat} {fs : List Value} {q : Int}
/-- the object with the number q, and the row of inverses F -/
def arG (cs : Nat → ClassId) (C : Nat → va_E) (i j : Nat) (fs : List Value) (q : Int) (F : Nat → Int) : Nat → va_E := va_up (va_up C i (.inr (1, fs.set 0 (.int (iI q))))) j (aI cs 13 F)
theorem arG_i {F : Nat → Int} (hij : i ≠ j) : arG cs C i j fs q F i = .inr (1, fs.set 0 (.int (iI q))) := by unfold arG; rw [va_up_ne _ _ hij, va_up_self]
theorem arG_j {F : Nat → Int} : arG cs C i j fs q F j = aI cs 13 F := by unfold arG; rw [va_up_self]
theorem arG_u {F F' : Nat → Int} : va_up (arG cs C i j fs q F) j (aI cs 13 F') = arG cs C i j fs q F' := by unfold arG; rw [va_uu]
theorem l_bec_17 (X : Cx p s m args c b_Ar_become RAr) (hi : i < T) (hj : j < T) (hij : i ≠ j) (h2 : fs[2]? = some (.ref (ad j))) (hlen : fs.length = 9) (hq : 2 ≤ q ∧ q ≤ 13) {v : Nat} {F0_ : Nat → Int} (hv : 1 ≤ v ∧ (v : Int) < q)
    (K : ∀ (F : Nat → Int) (H : Heap) (locs : List Loc) (ls : Array Slot), Wd D cs A ad T s (arG cs C i j fs q F) H locs → (∀ x, x ≠ v → F x = F0_ x) → ((∃ u : Nat, 1 ≤ u ∧ (u : Int) < q ∧ (v : Int) * u % q = 1) → (1 ≤ F v ∧ F v < q) ∧ (v : Int) * F v % q = 1) → lv_has ls 4 [(0, .ref (ad (i))), (2, .int (iI (v)))] → W p l e { frames := 0, cells := 0, slots := 0, locals := 0 } s m args below meth c H locs 0 0 Q (F0 m 50 ls [])) :
    ∀ (n u : Nat) (F : Nat → Int) (H : Heap) (locs : List Loc) (ls : Array Slot), (u : Int) + n = q → 1 ≤ u → Wd D cs A ad T s (arG cs C i j fs q F) H locs → (∀ x, x ≠ v → F x = F0_ x) → ((∃ y : Nat, 1 ≤ y ∧ y < u ∧ (v : Int) * y % q = 1) → (1 ≤ F v ∧ F v < q) ∧ (v : Int) * F v % q = 1) → lv_has ls 4 [(0, .ref (ad (i))), (2, .int (iI (v))), (3, .int (iI (u)))] → W p l e { frames := 0, cells := 0, slots := 0, locals := 0 } s m args below meth c H locs 0 0 Q (F0 m 17 ls []) := by
  intro n
  induction n with
  | zero =>
    intro u F H locs ls h1 h0 w h3 h4 hl
    refine lv_iload_n X.1 X.2.1 d_Ar_become_17 rfl (lv_at hl 2 rfl) ?_
    refine lv_aload_n X.1 X.2.1 d_Ar_become_18 rfl (lv_at hl 0 rfl) ?_
    refine w_get (i := i) (ci := 1) (fs := fs.set 0 (.int (iI q))) X w hi (arG_i hij) rfl k_l_Ar 0 (by decide) k_f_Ar_48 (v := .int (iI q)) (by rw [List.getElem?_set_self (by omega)]) d_Ar_become_19 ?_
    refine i_ge (a := u) (b := q) (tgt := 50) X (by omega) (by omega) d_Ar_become_22 (by decide) (fun h_22 => ?_) (fun h_22 => ?_)
    · exact K F H locs ls w h3 (fun ⟨y, y1, y2, y3⟩ => h4 ⟨y, y1, by omega, y3⟩) (lv_sub hl [0, 1] rfl)
    · exact absurd h_22 (by omega)
  | succ n ih =>
    intro u F H locs ls h1 h0 w h3 h4 hl
    have hm : 0 ≤ (v : Int) * u ∧ (v : Int) * u < 2147483648 := ⟨Int.mul_nonneg (by omega) (by omega), by have := Int.mul_le_mul (show (v : Int) ≤ 13 by omega) (show (u : Int) ≤ 13 by omega) (by omega) (by decide); omega⟩
    have hr8 : 0 ≤ (v : Int) * u % q ∧ (v : Int) * u % q < q := ⟨Int.emod_nonneg _ (by omega), Int.emod_lt_of_pos _ (by omega)⟩
    refine lv_iload_n X.1 X.2.1 d_Ar_become_17 rfl (lv_at hl 2 rfl) ?_
    refine lv_aload_n X.1 X.2.1 d_Ar_become_18 rfl (lv_at hl 0 rfl) ?_
    refine w_get (i := i) (ci := 1) (fs := fs.set 0 (.int (iI q))) X w hi (arG_i hij) rfl k_l_Ar 0 (by decide) k_f_Ar_48 (v := .int (iI q)) (by rw [List.getElem?_set_self (by omega)]) d_Ar_become_19 ?_
    refine i_ge (a := u) (b := q) (tgt := 50) X (by omega) (by omega) d_Ar_become_22 (by decide) (fun h_22 => ?_) (fun h_22 => ?_)
    · exact absurd h_22 (by omega)
    · refine lv_iload_n X.1 X.2.1 d_Ar_become_25 rfl (lv_at hl 1 rfl) ?_
      refine lv_iload_n X.1 X.2.1 d_Ar_become_26 rfl (lv_at hl 2 rfl) ?_
      refine i_mul (a := v) (b := u) X d_Ar_become_27 ?_
      refine lv_aload_n X.1 X.2.1 d_Ar_become_28 rfl (lv_at hl 0 rfl) ?_
      refine w_get (i := i) (ci := 1) (fs := fs.set 0 (.int (iI q))) X w hi (arG_i hij) rfl k_l_Ar 0 (by decide) k_f_Ar_48 (v := .int (iI q)) (by rw [List.getElem?_set_self (by omega)]) d_Ar_become_29 ?_
      refine i_rem (a := v * u) (b := q) X hm (by omega) d_Ar_become_32 ?_
      refine lv_iconst (v := iI (1)) X.1 X.2.1 d_Ar_become_33 (by decide) ?_
      refine i_ne (a := (v * u) % q) (b := 1) (tgt := 44) X (by omega) (by omega) d_Ar_become_34 (by decide) (fun h_34 => ?_) (fun h_34 => ?_)
      · refine i_inc (k := 2) (x := u) (lv' := [(3, .int (iI (u + 1))), (0, .ref (ad (i))), (2, .int (iI (v)))]) X d_Ar_become_44 hl rfl (by decide) rfl (fun ls hl => ?_)
        refine lv_goto (tgt := 17) X.1 X.2.1 d_Ar_become_47 (by decide) ?_
        refine ih (u + 1) F H locs ls (by omega) (by omega) w h3 (fun ⟨y, y1, y2, y3⟩ => ?_) (lv_sub hl [1, 2, 0] rfl)
        by_cases e9 : y = u
        · rw [e9] at y3; exact absurd y3 h_34
        · exact h4 ⟨y, y1, by omega, y3⟩
      · refine lv_aload_n X.1 X.2.1 d_Ar_become_37 rfl (lv_at hl 0 rfl) ?_
        refine w_get (i := i) (ci := 1) (fs := fs.set 0 (.int (iI q))) X w hi (arG_i hij) rfl k_l_Ar 2 (by decide) k_f_Ar_9 (v := .ref (ad j)) (by rw [List.getElem?_set_ne (by decide)]; exact h2) d_Ar_become_38 ?_
        refine lv_iload_n X.1 X.2.1 d_Ar_become_41 rfl (lv_at hl 1 rfl) ?_
        refine lv_iload_n X.1 X.2.1 d_Ar_become_42 rfl (lv_at hl 2 rfl) ?_
        refine w_ist (i := j) (n := 13) (F := F) (z := v) (v := u) X w hj arG_j v rfl (by omega) (by decide) d_Ar_become_43 (fun H locs w => ?_)
        rw [arG_u] at w
        refine i_inc (k := 2) (x := u) (lv' := [(3, .int (iI (u + 1))), (0, .ref (ad (i))), (2, .int (iI (v)))]) X d_Ar_become_44 hl rfl (by decide) rfl (fun ls hl => ?_)
        refine lv_goto (tgt := 17) X.1 X.2.1 d_Ar_become_47 (by decide) ?_
        refine ih (u + 1) (va_up F v u) H locs ls (by omega) (by omega) w (fun x hx => by rw [va_up_ne _ _ hx]; exact h3 x hx) (fun _ => ?_) (lv_sub hl [1, 2, 0] rfl)
        rw [va_up_self]
        exact ⟨⟨by omega, by omega⟩, h_34⟩
theorem l_bec_7 (X : Cx p s m args c b_Ar_become RAr) (hi : i < T) (hj : j < T) (hij : i ≠ j) (h2 : fs[2]? = some (.ref (ad j))) (hlen : fs.length = 9) (hq : 2 ≤ q ∧ q ≤ 13) (hI : hasInv q)
    (K : ∀ (F : Nat → Int) (H : Heap) (locs : List Loc) (ls : Array Slot), Wd D cs A ad T s (arG cs C i j fs q F) H locs → invP q F → W p l e { frames := 0, cells := 0, slots := 0, locals := 0 } s m args below meth c H locs 0 0 Q (F0 m 56 ls [])) :
    ∀ (n v : Nat) (F : Nat → Int) (H : Heap) (locs : List Loc) (ls : Array Slot), (v : Int) + n = q → 1 ≤ v → Wd D cs A ad T s (arG cs C i j fs q F) H locs → (∀ x : Nat, 1 ≤ x → x < v → (1 ≤ F x ∧ F x < q) ∧ (x : Int) * F x % q = 1) → lv_has ls 4 [(0, .ref (ad (i))), (2, .int (iI (v)))] → W p l e { frames := 0, cells := 0, slots := 0, locals := 0 } s m args below meth c H locs 0 0 Q (F0 m 7 ls []) := by
  intro n
  induction n with
  | zero =>
    intro v F H locs ls h1 h0 w h3 hl
    refine lv_iload_n X.1 X.2.1 d_Ar_become_7 rfl (lv_at hl 1 rfl) ?_
    refine lv_aload_n X.1 X.2.1 d_Ar_become_8 rfl (lv_at hl 0 rfl) ?_
    refine w_get (i := i) (ci := 1) (fs := fs.set 0 (.int (iI q))) X w hi (arG_i hij) rfl k_l_Ar 0 (by decide) k_f_Ar_48 (v := .int (iI q)) (by rw [List.getElem?_set_self (by omega)]) d_Ar_become_9 ?_
    refine i_ge (a := v) (b := q) (tgt := 56) X (by omega) (by omega) d_Ar_become_12 (by decide) (fun h_12 => ?_) (fun h_12 => ?_)
    · exact K F H locs ls w ⟨hq, fun x x1 x2 => h3 x x1 (by omega)⟩
    · exact absurd h_12 (by omega)
  | succ n ih =>
    intro v F H locs ls h1 h0 w h3 hl
    refine lv_iload_n X.1 X.2.1 d_Ar_become_7 rfl (lv_at hl 1 rfl) ?_
    refine lv_aload_n X.1 X.2.1 d_Ar_become_8 rfl (lv_at hl 0 rfl) ?_
    refine w_get (i := i) (ci := 1) (fs := fs.set 0 (.int (iI q))) X w hi (arG_i hij) rfl k_l_Ar 0 (by decide) k_f_Ar_48 (v := .int (iI q)) (by rw [List.getElem?_set_self (by omega)]) d_Ar_become_9 ?_
    refine i_ge (a := v) (b := q) (tgt := 56) X (by omega) (by omega) d_Ar_become_12 (by decide) (fun h_12 => ?_) (fun h_12 => ?_)
    · exact absurd h_12 (by omega)
    · refine lv_iconst (v := iI (1)) X.1 X.2.1 d_Ar_become_15 (by decide) ?_
      refine lv_istore_n (lv' := [(3, .int (iI (1))), (0, .ref (ad (i))), (2, .int (iI (v)))]) X.1 X.2.1 d_Ar_become_16 rfl hl (by decide) rfl (fun ls hl => ?_)
      refine l_bec_17 (F0_ := F) X hi hj hij h2 hlen hq (v := v) (by omega) (fun F2 H locs ls w g1 g2 hl => ?_) (q - 1).toNat 1 F H locs ls (by omega) (by omega) w (fun _ _ => rfl) (fun ⟨y, y1, y2, _⟩ => by omega) (lv_sub hl [1, 2, 0] rfl)
      refine i_inc (k := 1) (x := v) (lv' := [(2, .int (iI (v + 1))), (0, .ref (ad (i)))]) X d_Ar_become_50 hl rfl (by decide) rfl (fun ls hl => ?_)
      refine lv_goto (tgt := 7) X.1 X.2.1 d_Ar_become_53 (by decide) ?_
      refine ih (v + 1) F2 H locs ls (by omega) (by omega) w (fun x x1 x2 => ?_) (lv_sub hl [1, 0] rfl)
      by_cases e9 : x = v
      · rw [e9]; exact g2 (hI.2 v h0 (by omega))
      · rw [g1 x e9]; exact h3 x x1 (by omega)
end BEC
theorem c_Ar_become {l : Launch} {D : va_G} {cs : Nat → ClassId} {A : Nat → Prop} {ad : Nat → Nat} {T : Nat} {C : Nat → va_E} {i j : Nat} {fs : List Value} {inv : Nat → Int} {q : Int} (hi : i < T) (hj : j < T) (hij : i ≠ j) (hC : C i = .inr (1, fs)) (hCj : C j = aI cs 13 inv) (h2 : fs[2]? = some (.ref (ad j))) (hlen : fs.length = 9) (hI : hasInv q) : Cv l y_Ar_become ws_Ar_become { frames := 0, cells := 0, slots := 0, locals := 0 } D cs A ad T [.ref (ad i), .int (iI q)] C (fun C' => ∃ F, invP q F ∧ C' = arG cs C i j fs q F) := by
  refine w_bodyV (by decide) (Nat.le_of_ble_eq_true rfl) ?_
  intro p e s m below meth c X hr hlk hml w ls hl
  have hl : lv_has ls 4 [(0, .ref (ad i)), (1, .int (iI q))] := hl
  have hq := hI.1
  refine lv_aload_n X.1 X.2.1 d_Ar_become_0 rfl (lv_at hl 0 rfl) ?_
  refine lv_iload_n X.1 X.2.1 d_Ar_become_1 rfl (lv_at hl 1 rfl) ?_
  refine w_put (i := i) (ci := 1) (fs := fs) X w hi hC rfl k_l_Ar tAr tyAr nAr 0 (by decide) k_f_Ar_48 rfl rfl rfl (by omega) d_Ar_become_2 (fun H locs w => ?_)
  have e9 : va_up C i (.inr (1, fs.set 0 (.int (iI q)))) = arG cs C i j fs q inv := by
    unfold arG
    rw [← hCj]
    funext x
    by_cases e1 : x = j
    · rw [e1, va_up_self, va_up_ne _ _ (Ne.symm hij)]
    · rw [va_up_ne _ _ e1]
  rw [e9] at w
  refine lv_iconst (v := iI (1)) X.1 X.2.1 d_Ar_become_5 (by decide) ?_
  refine lv_istore_n (lv' := [(2, .int (iI (1))), (0, .ref (ad (i))), (1, .int (iI (q)))]) X.1 X.2.1 d_Ar_become_6 rfl hl (by decide) rfl (fun ls hl => ?_)
  exact l_bec_7 X hi hj hij h2 hlen hq hI (fun F H locs ls w g1 => w_vret X hr hlk w ⟨F, g1, rfl⟩ d_Ar_become_56) (q - 1).toNat 1 inv H locs ls (by omega) (by omega) w (fun x x1 x2 => by omega) (lv_sub hl [1, 0] rfl)
