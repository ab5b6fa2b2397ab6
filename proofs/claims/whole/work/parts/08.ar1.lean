/-- does F come before B: by degree, then by the coefficients from the top -/
def befL (F B : Nat → Int) : Nat → Bool
  | 0 => false
  | n + 1 => if F n = B n then befL F B n else decide (F n < B n)
def bef (F B : Nat → Int) : Bool := if dg 300 F = dg 300 B then befL F B (dg 300 F + 1).toNat else decide (dg 300 F < dg 300 B)
def bI (b : Bool) : Int32 := if b then iI 1 else iI 0
section CB
variable {p : Program} {l : Launch} {e : Env} {R : Room} {s : State} {m : MethodId} {args : Array Value} {below : List Frame} {meth : Method} {c : Code} {H : Heap} {locs : List Loc} {cells slots : Nat} {Q : State → Prop} {D : va_G} {cs : Nat → ClassId} {A : Nat → Prop} {ad : Nat → Nat} {T : Nat}
variable {k q : Nat} {G : Nat → Nat → Int} {O : Nat → va_E}
theorem l_Po_comesBefore {post : Int32 → (Nat → va_E) → Prop} (X : Cx p s m args c b_Po_comesBefore RPo) (hr : meth.sig.returnType = some .boolean) (hlk : meth.locks = false) (hT : 132 ≤ T) (hk : k < 61) (hq : q < 61) (hG : ok (wd k) (G k)) (hB : ok (wd q) (G q)) (w : Wd D cs A ad T s (mkV cs ad (rV G) O) H locs) (N : Nat) (hN : N ≤ wd k ∧ N ≤ wd q) (hp : post (bI (befL (G k) (G q) N)) (mkV cs ad (rV G) O)) :
    ∀ (n : Nat) (ls : Array Slot), n ≤ N → befL (G k) (G q) N = befL (G k) (G q) n → lv_has ls 3 [(0, .ref (ad (2 * k))), (1, .ref (ad (2 * q))), (2, .int (iI ((n : Int) - 1)))] → W p l e R s m args below meth c H locs 0 0 (MQ below (va_Qi post (QW D cs ad T) A) args s 0 0 A) (F0 m 33 ls []) := by
  have hw := wd_lt k
  intro n
  induction n with
  | zero =>
    intro ls hn hbe hl
    rw [hbe] at hp
    refine lv_iload_n X.1 X.2.1 d_Po_comesBefore_33 rfl (lv_at hl 2 rfl) ?_
    refine z_lt (a := ((0 : Nat) : Int) - 1) (tgt := 79) X (by omega) d_Po_comesBefore_34 (by decide) (fun h_34 => ?_) (fun h_34 => ?_)
    · refine lv_iconst (v := iI (0)) X.1 X.2.1 d_Po_comesBefore_79 (by decide) ?_
      exact w_zret X hr rfl hlk w hp d_Po_comesBefore_80
    · exact absurd h_34 (by omega)
  | succ n ih =>
    intro ls hn hbe hl
    have b1 := hG.1 n
    have b2 := hB.1 n
    have e1 : ((rV G) k).2 n = G k n := rfl
    have e2 : ((rV G) q).2 n = G q n := rfl
    refine lv_iload_n X.1 X.2.1 d_Po_comesBefore_33 rfl (lv_at hl 2 rfl) ?_
    refine z_lt (a := ((n + 1 : Nat) : Int) - 1) (tgt := 79) X (by omega) d_Po_comesBefore_34 (by decide) (fun h_34 => ?_) (fun h_34 => ?_)
    · exact absurd h_34 (by omega)
    · refine lv_aload_n X.1 X.2.1 d_Po_comesBefore_37 rfl (lv_at hl 0 rfl) ?_
      refine t_co (k := k) X hT w (by omega) k_f_Po_7 d_Po_comesBefore_38 ?_
      refine lv_iload_n X.1 X.2.1 d_Po_comesBefore_41 rfl (lv_at hl 2 rfl) ?_
      refine t_ld (k := k) (z := ((n + 1 : Nat) : Int) - 1) X hT w (by omega) (n) (by omega) (by omega) d_Po_comesBefore_42 ?_
      refine lv_aload_n X.1 X.2.1 d_Po_comesBefore_43 rfl (lv_at hl 1 rfl) ?_
      refine t_co (k := q) X hT w (by omega) k_f_Po_7 d_Po_comesBefore_44 ?_
      refine lv_iload_n X.1 X.2.1 d_Po_comesBefore_47 rfl (lv_at hl 2 rfl) ?_
      refine t_ld (k := q) (z := ((n + 1 : Nat) : Int) - 1) X hT w (by omega) (n) (by omega) (by omega) d_Po_comesBefore_48 ?_
      refine i_eq (a := ((rV G) k).2 n) (b := ((rV G) q).2 n) (tgt := 73) X (by omega) (by omega) d_Po_comesBefore_49 (by decide) (fun h_49 => ?_) (fun h_49 => ?_)
      · refine i_inc (k := 2) (x := ((n + 1 : Nat) : Int) - 1) (lv' := [(2, .int (iI ((((n + 1 : Nat) : Int) - 1) + (-1)))), (0, .ref (ad (2 * k))), (1, .ref (ad (2 * q)))]) X d_Po_comesBefore_73 hl rfl (by decide) rfl (fun ls hl => ?_)
        refine lv_goto (tgt := 33) X.1 X.2.1 d_Po_comesBefore_76 (by decide) ?_
        refine ih ls (by omega) ?_ ?_
        · rw [hbe]; show (if _ then _ else _) = _; rw [if_pos (by omega)]
        · rw [show (n : Int) - 1 = ((n + 1 : Nat) : Int) - 1 + (-1) by omega]; exact lv_sub hl [1, 2, 0] rfl
      · refine lv_aload_n X.1 X.2.1 d_Po_comesBefore_52 rfl (lv_at hl 0 rfl) ?_
        refine t_co (k := k) X hT w (by omega) k_f_Po_7 d_Po_comesBefore_53 ?_
        refine lv_iload_n X.1 X.2.1 d_Po_comesBefore_56 rfl (lv_at hl 2 rfl) ?_
        refine t_ld (k := k) (z := ((n + 1 : Nat) : Int) - 1) X hT w (by omega) (n) (by omega) (by omega) d_Po_comesBefore_57 ?_
        refine lv_aload_n X.1 X.2.1 d_Po_comesBefore_58 rfl (lv_at hl 1 rfl) ?_
        refine t_co (k := q) X hT w (by omega) k_f_Po_7 d_Po_comesBefore_59 ?_
        refine lv_iload_n X.1 X.2.1 d_Po_comesBefore_62 rfl (lv_at hl 2 rfl) ?_
        refine t_ld (k := q) (z := ((n + 1 : Nat) : Int) - 1) X hT w (by omega) (n) (by omega) (by omega) d_Po_comesBefore_63 ?_
        refine i_ge (a := ((rV G) k).2 n) (b := ((rV G) q).2 n) (tgt := 71) X (by omega) (by omega) d_Po_comesBefore_64 (by decide) (fun h_64 => ?_) (fun h_64 => ?_)
        · refine lv_iconst (v := iI (0)) X.1 X.2.1 d_Po_comesBefore_71 (by decide) ?_
          refine w_zret X hr rfl hlk w ?_ d_Po_comesBefore_72
          rw [hbe] at hp
          unfold befL at hp
          rw [if_neg (by omega), decide_eq_false (by omega)] at hp
          exact hp
        · refine lv_iconst (v := iI (1)) X.1 X.2.1 d_Po_comesBefore_67 (by decide) ?_
          refine lv_goto (tgt := 72) X.1 X.2.1 d_Po_comesBefore_68 (by decide) ?_
          refine w_zret X hr rfl hlk w ?_ d_Po_comesBefore_72
          rw [hbe] at hp
          unfold befL at hp
          rw [if_neg (by omega), decide_eq_true (by omega)] at hp
          exact hp
end CB
theorem c_Po_comesBefore {l : Launch} {D : va_G} {cs : Nat → ClassId} {A : Nat → Prop} {ad : Nat → Nat} {T : Nat} (hT : 132 ≤ T) {G : Nat → Nat → Int} {O : Nat → va_E} {k q : Nat} (hk : k < 61) (hq : q < 61) (hG : ok (wd k) (G k)) (hB : ok (wd q) (G q)) : Ci l y_Po_comesBefore ws_Po_comesBefore { frames := 0, cells := 0, slots := 0, locals := 0 } D cs A ad T [.ref (ad (2 * k)), .ref (ad (2 * q))] (mkV cs ad (rV G) O) (fun r C' => r = bI (bef (G k) (G q)) ∧ C' = mkV cs ad (rV G) O) := by
  refine w_bodyI (by decide) (Nat.le_of_ble_eq_true rfl) ?_
  intro p e s m below meth c X hr hlk hml w ls hl
  have hl : lv_has ls 3 [(0, .ref (ad (2 * k))), (1, .ref (ad (2 * q)))] := hl
  have hd := hG.dlt 300
  have hd0 := dg_ge 300 (G k)
  have hb := hB.dlt 300
  have hb0 := dg_ge 300 (G q)
  have hw := wd_lt k
  have hw2 := wd_lt q
  have e1 : ((rV G) k).1 = dg 300 (G k) := rfl
  have e2 : ((rV G) q).1 = dg 300 (G q) := rfl
  refine lv_aload_n X.1 X.2.1 d_Po_comesBefore_0 rfl (lv_at hl 0 rfl) ?_
  refine t_deg (k := k) X hT w (by omega) k_f_Po_13 d_Po_comesBefore_1 ?_
  refine lv_aload_n X.1 X.2.1 d_Po_comesBefore_4 rfl (lv_at hl 1 rfl) ?_
  refine t_deg (k := q) X hT w (by omega) k_f_Po_13 d_Po_comesBefore_5 ?_
  refine i_eq (a := ((rV G) k).1) (b := ((rV G) q).1) (tgt := 28) X (by omega) (by omega) d_Po_comesBefore_8 (by decide) (fun h_8 => ?_) (fun h_8 => ?_)
  · refine lv_aload_n X.1 X.2.1 d_Po_comesBefore_28 rfl (lv_at hl 0 rfl) ?_
    refine t_deg (k := k) X hT w (by omega) k_f_Po_13 d_Po_comesBefore_29 ?_
    refine lv_istore_n (lv' := [(2, .int (iI (((rV G) k).1))), (0, .ref (ad (2 * k))), (1, .ref (ad (2 * q)))]) X.1 X.2.1 d_Po_comesBefore_32 rfl hl (by decide) rfl (fun ls hl => ?_)
    refine l_Po_comesBefore X hr hlk hT hk hq hG hB w (dg 300 (G k) + 1).toNat (by omega) ⟨?_, rfl⟩ _ ls (Nat.le_refl _) rfl ?_
    · rw [show (((dg 300 (G k) + 1).toNat : Nat) : Int) - 1 = ((rV G) k).1 by omega]; exact lv_sub hl [1, 2, 0] rfl
    · unfold bef; rw [if_pos (by omega)]
  · refine lv_aload_n X.1 X.2.1 d_Po_comesBefore_11 rfl (lv_at hl 0 rfl) ?_
    refine t_deg (k := k) X hT w (by omega) k_f_Po_13 d_Po_comesBefore_12 ?_
    refine lv_aload_n X.1 X.2.1 d_Po_comesBefore_15 rfl (lv_at hl 1 rfl) ?_
    refine t_deg (k := q) X hT w (by omega) k_f_Po_13 d_Po_comesBefore_16 ?_
    refine i_ge (a := ((rV G) k).1) (b := ((rV G) q).1) (tgt := 26) X (by omega) (by omega) d_Po_comesBefore_19 (by decide) (fun h_19 => ?_) (fun h_19 => ?_)
    · refine lv_iconst (v := iI (0)) X.1 X.2.1 d_Po_comesBefore_26 (by decide) ?_
      refine w_zret X hr rfl hlk w ⟨?_, rfl⟩ d_Po_comesBefore_27
      unfold bef
      rw [if_neg (by omega), decide_eq_false (by omega)]
      rfl
    · refine lv_iconst (v := iI (1)) X.1 X.2.1 d_Po_comesBefore_22 (by decide) ?_
      refine lv_goto (tgt := 27) X.1 X.2.1 d_Po_comesBefore_23 (by decide) ?_
      refine w_zret X hr rfl hlk w ⟨?_, rfl⟩ d_Po_comesBefore_27
      unfold bef
      rw [if_neg (by omega), decide_eq_true (by omega)]
      rfl
/-! Arithmetic: its object at the place 123, its row of inverses at 124 -/
def arF (ad : Nat → Nat) (pr : Int) : List Value := [.int (iI pr), .ref (ad (2 * 0)), .ref (ad 124), .ref (ad (2 * 1)), .ref (ad (2 * 2)), .ref (ad (2 * 3)), .ref (ad (2 * 4)), .ref (ad (2 * 5)), .ref (ad (2 * 6))]
/-- the rows' field: pr is one of the six, inv holds the inverses -/
def arO (cs : Nat → ClassId) (ad : Nat → Nat) (pr : Int) (inv : Nat → Int) (O : Nat → va_E) : Prop := O 123 = .inr (1, arF ad pr) ∧ O 124 = aI cs 13 inv ∧ (2 ≤ pr ∧ pr ≤ 13) ∧ ∀ v : Nat, 1 ≤ v → (v : Int) < pr → (1 ≤ inv v ∧ inv v < pr) ∧ (v * inv v) % pr = 1
def okp (pr : Int) (n : Nat) (F : Nat → Int) : Prop := (∀ x, 0 ≤ F x ∧ F x < pr) ∧ ∀ x, n ≤ x → F x = 0
theorem okp.ok {pr : Int} {n : Nat} {F : Nat → Int} (h : okp pr n F) (hp : pr ≤ 13) : ok n F := ⟨fun x => ⟨(h.1 x).1, by have := (h.1 x).2; omega⟩, h.2⟩
/-- F + f x^t B, modulo pr -/
def addS (pr : Int) (F : Nat → Int) (f : Int) (t : Nat) (B : Nat → Int) : Nat → Int := fun x => if x < t then F x else (F x + f * B (x - t)) % pr
theorem addS_ok {pr : Int} {n t : Nat} {F B : Nat → Int} {f : Int} (hp : 0 < pr) (hF : okp pr n F) (hB : ∀ x, n ≤ x + t → B x = 0) : okp pr n (addS pr F f t B) := by
  refine ⟨fun x => ?_, fun x hx => ?_⟩
  · unfold addS
    split
    · exact hF.1 x
    · exact ⟨Int.emod_nonneg _ (by omega), Int.emod_lt_of_pos _ hp⟩
  · unfold addS
    split
    · exact hF.2 x hx
    · rw [hF.2 x hx, hB (x - t) (by omega)]; simp
section AT
variable {p : Program} {l : Launch} {e : Env} {R : Room} {s : State} {m : MethodId} {args : Array Value} {below : List Frame} {meth : Method} {c : Code} {H : Heap} {locs : List Loc} {cells slots : Nat} {Q : State → Prop} {D : va_G} {cs : Nat → ClassId} {A : Nat → Prop} {ad : Nat → Nat} {T : Nat}
variable {cc : ByteArray} {own : String} {pc : Nat} {ls : Array Slot} {rest st : List Value} {V : Nat → PV} {O : Nat → va_E} {pr : Int} {inv : Nat → Int}
theorem t_ar {index : Nat} (X : Cx p s m args c cc own) (hT : 132 ≤ T) (w : Wd D cs A ad T s (mkV cs ad V O) H locs) (hO : arO cs ad pr inv O) (k : Nat) (hk : k < 9) (hlink : Cond.fieldLink own index (FAr k).1 (FAr k).2.1 (FAr k).2.2.1 ∈ TB) {v : Value} (hv : (arF ad pr)[k]? = some v) (hdg : decode cc pc = .ok (.getfield index, 3))
    (kk : W p l e R s m args below meth c H locs cells slots Q (F0 m (pc + 3) ls (v :: rest))) : W p l e R s m args below meth c H locs cells slots Q (F0 m pc ls (.ref (ad 123) :: rest)) :=
  w_get X w (Nat.lt_of_lt_of_le (by decide) hT) (by rw [mkV_O (by decide)]; exact hO.1) (ci := 1) rfl k_l_Ar k hk hlink hv hdg kk
theorem t_in {z : Int} (X : Cx p s m args c cc own) (hT : 132 ≤ T) (w : Wd D cs A ad T s (mkV cs ad V O) H locs) (hO : arO cs ad pr inv O) (j : Nat) (hz : z = (j : Int)) (hj : j < 13) (hdg : decode cc pc = .ok (.iaload, 1))
    (kk : W p l e R s m args below meth c H locs cells slots Q (F0 m (pc + 1) ls (.int (iI (inv j)) :: rest))) : W p l e R s m args below meth c H locs cells slots Q (F0 m pc ls (.int (iI z) :: .ref (ad 124) :: rest)) :=
  w_ild X w (Nat.lt_of_lt_of_le (by decide) hT) (by rw [mkV_O (by decide)]; exact hO.2.1) j hz hj (by decide) hdg kk
end AT
section AS
variable {p : Program} {l : Launch} {e : Env} {R : Room} {s : State} {m : MethodId} {args : Array Value} {below : List Frame} {meth : Method} {c : Code} {H : Heap} {locs : List Loc} {cells slots : Nat} {Q : State → Prop} {D : va_G} {cs : Nat → ClassId} {A : Nat → Prop} {ad : Nat → Nat} {T : Nat}
variable {k q t : Nat} {f : Int} {O : Nat → va_E} {pr : Int} {inv : Nat → Int}
theorem l_Ar_addShifted_12 (X : Cx p s m args c b_Ar_addShifted RAr) (hT : 132 ≤ T) (hO : arO cs ad pr inv O) (hk : k < 61) (hq : q < 61) (hkq : q ≠ k) {V0 : Nat → PV} {d b : Int} {F B : Nat → Int} (hF : okp pr (wd k) F) (hB : ok (wd q) B) (hf : 0 ≤ f ∧ f ≤ 1000) (hb : -1 ≤ b ∧ b < wd q ∧ b + t < wd k) (hB1 : (V0 q).1 = b) (hB2 : (V0 q).2 = B)
    (K : ∀ (V : Nat → PV) (H : Heap) (locs : List Loc) (ls : Array Slot), Wd D cs A ad T s (mkV cs ad V O) H locs → (V k).1 = d → (∀ x : Nat, (V k).2 x = if t ≤ x ∧ (x : Int) ≤ t + b then (F x + f * B (x - t)) % pr else F x) → (∀ j, j ≠ k → V j = V0 j) → lv_has ls 7 [(0, .ref (ad (123))), (1, .ref (ad (2 * k))), (2, .int (iI (f))), (3, .int (iI (t))), (4, .ref (ad (2 * q)))] → W p l e R s m args below meth c H locs cells slots Q (F0 m 64 ls [])) :
    ∀ (n i : Nat) (V : Nat → PV) (H : Heap) (locs : List Loc) (ls : Array Slot), b + 2 ≤ i + n → (i : Int) ≤ b + 1 → Wd D cs A ad T s (mkV cs ad V O) H locs → (V k).1 = d → (∀ x : Nat, (V k).2 x = if t ≤ x ∧ x < t + i then (F x + f * B (x - t)) % pr else F x) → (∀ j, j ≠ k → V j = V0 j) → lv_has ls 7 [(0, .ref (ad (123))), (1, .ref (ad (2 * k))), (2, .int (iI (f))), (3, .int (iI (t))), (4, .ref (ad (2 * q))), (5, .int (iI (i)))] → W p l e R s m args below meth c H locs cells slots Q (F0 m 12 ls []) := by
  have hw := wd_lt k
  have hw2 := wd_lt q
  have hpr := hO.2.2.1
  intro n
  induction n with
  | zero => intro i V H locs ls h1 h2; omega
  | succ n ih =>
    intro i V H locs ls h1 h2 w hV1 hV2 hV3 hl
    have hq1 : (V q).1 = b := by rw [hV3 q hkq]; exact hB1
    have hq2 : (V q).2 = B := by rw [hV3 q hkq]; exact hB2
    have hx := hV2 (i + t)
    rw [if_neg (by omega)] at hx
    have hx2 := hF.1 (i + t)
    have hx3 := hB.1 i
    have hm : 0 ≤ f * (V q).2 i ∧ f * (V q).2 i ≤ 13000 := by
      rw [hq2]
      refine ⟨Int.mul_nonneg hf.1 hx3.1, ?_⟩
      have := Int.mul_le_mul hf.2 (show B i ≤ 13 by omega) hx3.1 (by decide)
      omega
    refine lv_iload X.1 X.2.1 d_Ar_addShifted_12 (lv_at hl 5 rfl) ?_
    refine lv_aload X.1 X.2.1 d_Ar_addShifted_14 (lv_at hl 4 rfl) ?_
    refine t_deg (k := q) X hT w (by omega) k_f_Ar_52 d_Ar_addShifted_16 ?_
    refine i_gt (a := i) (b := (V q).1) (tgt := 64) X (by omega) (by omega) d_Ar_addShifted_19 (by decide) (fun h_19 => ?_) (fun h_19 => ?_)
    · exact K V H locs ls w hV1 (by intro x; rw [hV2 x]; split <;> split <;> first | rfl | (exfalso; omega)) hV3 (lv_sub hl [0, 1, 2, 3, 4] rfl)
    · refine lv_iload X.1 X.2.1 d_Ar_addShifted_22 (lv_at hl 5 rfl) ?_
      refine lv_iload_n X.1 X.2.1 d_Ar_addShifted_24 rfl (lv_at hl 3 rfl) ?_
      refine i_add (a := i) (b := t) X d_Ar_addShifted_25 ?_
      refine lv_istore (lv' := [(6, .int (iI (i + t))), (0, .ref (ad (123))), (1, .ref (ad (2 * k))), (2, .int (iI (f))), (3, .int (iI (t))), (4, .ref (ad (2 * q))), (5, .int (iI (i)))]) X.1 X.2.1 d_Ar_addShifted_26 hl (by decide) rfl (fun ls hl => ?_)
      refine lv_aload_n X.1 X.2.1 d_Ar_addShifted_28 rfl (lv_at hl 2 rfl) ?_
      refine t_co (k := k) X hT w (by omega) k_f_Ar_55 d_Ar_addShifted_29 ?_
      refine lv_iload X.1 X.2.1 d_Ar_addShifted_32 (lv_at hl 0 rfl) ?_
      refine lv_aload_n X.1 X.2.1 d_Ar_addShifted_34 rfl (lv_at hl 2 rfl) ?_
      refine t_co (k := k) X hT w (by omega) k_f_Ar_55 d_Ar_addShifted_35 ?_
      refine lv_iload X.1 X.2.1 d_Ar_addShifted_38 (lv_at hl 0 rfl) ?_
      refine t_ld (k := k) (z := i + t) X hT w (by omega) (i + t) (by omega) (by omega) d_Ar_addShifted_40 ?_
      refine lv_iload_n X.1 X.2.1 d_Ar_addShifted_41 rfl (lv_at hl 3 rfl) ?_
      refine lv_aload X.1 X.2.1 d_Ar_addShifted_42 (lv_at hl 5 rfl) ?_
      refine t_co (k := q) X hT w (by omega) k_f_Ar_55 d_Ar_addShifted_44 ?_
      refine lv_iload X.1 X.2.1 d_Ar_addShifted_47 (lv_at hl 6 rfl) ?_
      refine t_ld (k := q) (z := i) X hT w (by omega) (i) (by omega) (by omega) d_Ar_addShifted_49 ?_
      refine i_mul (a := f) (b := (V q).2 i) X d_Ar_addShifted_50 ?_
      refine i_add (a := (V k).2 (i + t)) (b := f * ((V q).2 i)) X d_Ar_addShifted_51 ?_
      refine lv_aload_n X.1 X.2.1 d_Ar_addShifted_52 rfl (lv_at hl 1 rfl) ?_
      refine t_ar X hT w hO 0 (by decide) k_f_Ar_48 rfl d_Ar_addShifted_53 ?_
      refine i_rem (a := ((V k).2 (i + t)) + (f * ((V q).2 i))) (b := pr) X (by omega) (by omega) d_Ar_addShifted_56 ?_
      refine t_st (k := k) (z := i + t) (v := (((V k).2 (i + t)) + (f * ((V q).2 i))) % pr) X hT w (by omega) (i + t) (by omega) (by omega) d_Ar_addShifted_57 (fun H locs w => ?_)
      obtain ⟨V1, eV1⟩ : ∃ U : Nat → PV, U = va_up V k ((V k).1, va_up (V k).2 (i + t) ((((V k).2 (i + t)) + (f * ((V q).2 i))) % pr)) := ⟨_, rfl⟩
      rw [← eV1] at w
      refine i_inc (k := 6) (x := i) (lv' := [(5, .int (iI (i + 1))), (6, .int (iI (i + t))), (0, .ref (ad (123))), (1, .ref (ad (2 * k))), (2, .int (iI (f))), (3, .int (iI (t))), (4, .ref (ad (2 * q)))]) X d_Ar_addShifted_58 hl rfl (by decide) rfl (fun ls hl => ?_)
      refine lv_goto (tgt := 12) X.1 X.2.1 d_Ar_addShifted_61 (by decide) ?_
      have hu : ∀ x : Nat, (V1 k).2 x = if t ≤ x ∧ x < t + (i + 1) then (F x + f * B (x - t)) % pr else F x := by
        intro x
        rw [eV1, va_up_self]
        show va_up (V k).2 (i + t) (((V k).2 (i + t) + (f * (V q).2 i)) % pr) x = _
        by_cases h9 : x = i + t
        · subst h9; rw [va_up_self, hx, hq2, if_pos (by omega), show i + t - t = i by omega]
        · rw [va_up_ne _ _ h9, hV2 x]; split <;> split <;> first | rfl | (exfalso; omega)
      exact ih (i + 1) _ H locs ls (by omega) (by omega) w (by rw [eV1, va_up_self]; exact hV1) hu (by intro j hj; rw [eV1, va_up_ne _ _ hj]; exact hV3 j hj) (lv_sub hl [2, 3, 4, 5, 6, 0] rfl)
theorem l_Ar_addShifted_80 (X : Cx p s m args c b_Ar_addShifted RAr) (hT : 132 ≤ T) (hk : k < 61) {V : Nat → PV} {F : Nat → Int} (hF : ok (wd k) F) (w : Wd D cs A ad T s (mkV cs ad V O) H locs) (hV2 : (V k).2 = F)
    (K : ∀ (ls : Array Slot), lv_has ls 7 [(0, .ref (ad (123))), (1, .ref (ad (2 * k))), (5, .int (iI (dg 300 F)))] → W p l e R s m args below meth c H locs cells slots Q (F0 m 101 ls [])) :
    ∀ (n : Nat) (z : Int) (ls : Array Slot), z + 2 ≤ n → -1 ≤ z ∧ z < wd k → (∀ x : Nat, z < x → F x = 0) → lv_has ls 7 [(0, .ref (ad (123))), (1, .ref (ad (2 * k))), (5, .int (iI (z)))] → W p l e R s m args below meth c H locs cells slots Q (F0 m 80 ls []) := by
  have hw := wd_lt k
  have hw2 := wd_le k
  intro n
  induction n with
  | zero => intro z ls h1 h2; omega
  | succ n ih =>
    intro z ls h1 h2 hV1 hl
    refine lv_iload X.1 X.2.1 d_Ar_addShifted_80 (lv_at hl 2 rfl) ?_
    refine z_lt (a := z) (tgt := 101) X (by omega) d_Ar_addShifted_82 (by decide) (fun h_82 => ?_) (fun h_82 => ?_)
    · refine K ls ?_
      rw [show dg 300 F = z from dg_eq (by omega) (by omega) (fun x hx => by omega) (fun x hx _ => hV1 x hx)]
      exact hl
    · refine lv_aload_n X.1 X.2.1 d_Ar_addShifted_85 rfl (lv_at hl 1 rfl) ?_
      refine t_co (k := k) X hT w (by omega) k_f_Ar_55 d_Ar_addShifted_86 ?_
      refine lv_iload X.1 X.2.1 d_Ar_addShifted_89 (lv_at hl 2 rfl) ?_
      refine t_ld (k := k) (z := z) X hT w (by omega) (z.toNat) (by omega) (by omega) d_Ar_addShifted_91 ?_
      refine z_ne (a := (V k).2 z.toNat) (tgt := 101) X (by rw [hV2]; have := hF.1 z.toNat; omega) d_Ar_addShifted_92 (by decide) (fun h_92 => ?_) (fun h_92 => ?_)
      · refine K ls ?_
        rw [show dg 300 F = z from dg_eq (by omega) (by omega) (fun x hx => by rw [hV2] at h_92; rw [show x = z.toNat by omega]; exact h_92) (fun x hx _ => hV1 x hx)]
        exact hl
      · refine i_inc (k := 2) (x := z) (lv' := [(5, .int (iI (z + (-1)))), (0, .ref (ad (123))), (1, .ref (ad (2 * k)))]) X d_Ar_addShifted_95 hl rfl (by decide) rfl (fun ls hl => ?_)
        refine lv_goto (tgt := 80) X.1 X.2.1 d_Ar_addShifted_98 (by decide) ?_
        refine ih (z + (-1)) ls (by omega) (by omega) (fun x hx => ?_) (lv_sub hl [1, 2, 0] rfl)
        by_cases h9 : (x : Int) = z
        · rw [hV2] at h_92; rw [show x = z.toNat by omega]; exact h_92
        · exact hV1 x (by omega)
end AS
theorem c_Ar_addShifted {l : Launch} {D : va_G} {cs : Nat → ClassId} {A : Nat → Prop} {ad : Nat → Nat} {T : Nat} (hT : 132 ≤ T) {G : Nat → Nat → Int} {O : Nat → va_E} {pr : Int} {inv : Nat → Int} (hO : arO cs ad pr inv O) {k q t : Nat} {f : Int} (hk : k < 61) (hq : q < 61) (hkq : q ≠ k) (hF : okp pr (wd k) (G k)) (hB : ok (wd q) (G q)) (hf : 0 ≤ f ∧ f ≤ 1000) (ht : dg 300 (G q) + t < wd k) : Cv l y_Ar_addShifted ws_Ar_addShifted { frames := 1, cells := 0, slots := 0, locals := 21 } D cs A ad T [.ref (ad (123)), .ref (ad (2 * k)), .int (iI (f)), .int (iI (t)), .ref (ad (2 * q))] (mkV cs ad (rV G) O) (fun C' => C' = mkV cs ad (rV (va_up G k (addS pr (G k) f t (G q)))) O) := by
  refine w_bodyV (by decide) (Nat.le_of_ble_eq_true rfl) ?_
  intro p e s m below meth c X hr hlk hml w ls hl
  have hl : lv_has ls 7 [(0, .ref (ad (123))), (1, .ref (ad (2 * k))), (2, .int (iI (f))), (3, .int (iI (t))), (4, .ref (ad (2 * q)))] := hl
  have hpr := hO.2.2.1
  have hG := hF.ok hpr.2
  have hd := hG.dlt 300
  have hd0 := dg_ge 300 (G k)
  have hb := hB.dlt 300
  have hb0 := dg_ge 300 (G q)
  have hw := wd_lt k
  have hw2 := wd_lt q
  have e1 : ((rV G) k).1 = dg 300 (G k) := rfl
  have e2 : ((rV G) q).1 = dg 300 (G q) := rfl
  have hS : ∀ x : Nat, addS pr (G k) f t (G q) x = if t ≤ x ∧ (x : Int) ≤ t + dg 300 (G q) then (G k x + f * G q (x - t)) % pr else G k x := by
    intro x
    unfold addS
    by_cases h1 : x < t
    · rw [if_pos h1, if_neg (by omega)]
    · rw [if_neg h1]
      by_cases h2 : (x : Int) ≤ t + dg 300 (G q)
      · rw [if_pos (by omega)]
      · have b1 := hF.1 x
        rw [if_neg (by omega), hB.above (wd_le q) (by omega), Int.mul_zero, Int.add_zero, Int.emod_eq_of_lt b1.1 b1.2]
  have hSo : ok (wd k) (addS pr (G k) f t (G q)) := (addS_ok (by omega) hF (fun x hx => hB.above (wd_le q) (by omega))).ok hpr.2
  refine lv_aload X.1 X.2.1 d_Ar_addShifted_0 (lv_at hl 4 rfl) ?_
  refine t_deg (k := q) X hT w (by omega) k_f_Ar_52 d_Ar_addShifted_2 ?_
  refine z_ge (a := ((rV G) q).1) (tgt := 9) X (by omega) d_Ar_addShifted_5 (by decide) (fun h_5 => ?_) (fun h_5 => ?_)
  · refine lv_iconst (v := iI (0)) X.1 X.2.1 d_Ar_addShifted_9 (by decide) ?_
    refine lv_istore (lv' := [(5, .int (iI (0))), (0, .ref (ad (123))), (1, .ref (ad (2 * k))), (2, .int (iI (f))), (3, .int (iI (t))), (4, .ref (ad (2 * q)))]) X.1 X.2.1 d_Ar_addShifted_10 hl (by decide) rfl (fun ls hl => ?_)
    refine l_Ar_addShifted_12 X hT hO hk hq hkq (V0 := rV G) (d := dg 300 (G k)) (b := dg 300 (G q)) (F := G k) (B := G q) hF hB hf ⟨hb0, hb, ht⟩ rfl rfl (fun V H locs ls w hV1 hV2 hV3 hl => ?_) (dg 300 (G q) + 2).toNat 0 _ _ _ _ (by omega) (by omega) w rfl (fun x => by rw [if_neg (by omega)]; rfl) (fun _ _ => rfl) (lv_sub hl [1, 2, 3, 4, 5, 0] rfl)
    have hVF : (V k).2 = addS pr (G k) f t (G q) := funext fun x => by rw [hV2 x, hS x]
    have hVq : (V q).1 = dg 300 (G q) := by rw [hV3 q hkq]; rfl
    refine lv_aload_n X.1 X.2.1 d_Ar_addShifted_64 rfl (lv_at hl 1 rfl) ?_
    refine t_deg (k := k) X hT w (by omega) k_f_Ar_52 d_Ar_addShifted_65 ?_
    refine lv_aload X.1 X.2.1 d_Ar_addShifted_68 (lv_at hl 4 rfl) ?_
    refine t_deg (k := q) X hT w (by omega) k_f_Ar_52 d_Ar_addShifted_70 ?_
    refine lv_iload_n X.1 X.2.1 d_Ar_addShifted_73 rfl (lv_at hl 3 rfl) ?_
    refine i_add (a := (V q).1) (b := t) X d_Ar_addShifted_74 ?_
    refine i_max (a := (V k).1) (b := ((V q).1) + t) X (by rw [hl.1]; exact hml) k_m_Ar_58 (by omega) (by omega) (Nat.le_of_ble_eq_true rfl) (Nat.le_of_ble_eq_true rfl) ⟨Nat.zero_le _, Nat.zero_le _⟩ d_Ar_addShifted_75 ?_
    refine lv_istore (lv' := [(5, .int (iI (max ((V k).1) (((V q).1) + t)))), (0, .ref (ad (123))), (1, .ref (ad (2 * k))), (2, .int (iI (f))), (3, .int (iI (t))), (4, .ref (ad (2 * q)))]) X.1 X.2.1 d_Ar_addShifted_78 hl (by decide) rfl (fun ls hl => ?_)
    refine l_Ar_addShifted_80 X hT hk hSo w hVF (fun ls hl => ?_) (max (V k).1 ((V q).1 + t) + 2).toNat _ ls (by omega) (by omega) (fun x hx => ?_) (lv_sub hl [1, 2, 0] rfl)
    · refine lv_aload_n X.1 X.2.1 d_Ar_addShifted_101 rfl (lv_at hl 1 rfl) ?_
      refine lv_iload X.1 X.2.1 d_Ar_addShifted_102 (lv_at hl 2 rfl) ?_
      refine t_pd (k := k) (z := dg 300 (addS pr (G k) f t (G q))) X hT w (by omega) k_f_Ar_52 d_Ar_addShifted_104 (fun H locs w => ?_)
      obtain ⟨V1, eV1⟩ : ∃ U : Nat → PV, U = va_up V k (dg 300 (addS pr (G k) f t (G q)), (V k).2) := ⟨_, rfl⟩
      rw [← eV1] at w
      refine w_vret X hr hlk w ?_ d_Ar_addShifted_107
      rw [rV_of (G := G) (k := k) (V := V1) (by rw [eV1, va_up_self]) (by rw [eV1, va_up_self]; exact hVF) (by intro j hj; rw [eV1, va_up_ne _ _ hj]; exact hV3 j hj)]
    · rw [hS x, if_neg (by omega)]; exact hG.above (wd_le k) (by omega)
  · refine w_vret X hr hlk w ?_ d_Ar_addShifted_8
    have hz : addS pr (G k) f t (G q) = G k := by
      funext x
      rw [hS x, if_neg (by omega)]
    rw [hz, show va_up G k (G k) = G from by funext j; by_cases h : j = k; (subst h; rw [va_up_self]); rw [va_up_ne _ _ h]]
