/-! the degree of a row, rows that are in order -/
def dg : Nat → (Nat → Int) → Int
  | 0, _ => -1
  | n + 1, F => if F n = 0 then dg n F else (n : Int)
theorem dg_ge (n : Nat) (F : Nat → Int) : -1 ≤ dg n F := by
  induction n with
  | zero => simp [dg]
  | succ n ih => unfold dg; split <;> omega
theorem dg_lt (n : Nat) (F : Nat → Int) : dg n F < n := by
  induction n with
  | zero => simp [dg]
  | succ n ih => unfold dg; split <;> omega
theorem dg_top {n : Nat} {F : Nat → Int} {d : Nat} (h : dg n F = d) : F d ≠ 0 := by
  induction n with
  | zero => simp [dg] at h
  | succ n ih =>
    unfold dg at h
    split at h
    · exact ih h
    · next h1 => have : n = d := by omega
                 subst this; exact h1
theorem dg_above {n : Nat} {F : Nat → Int} {x : Nat} (h : dg n F < x) (hx : x < n) : F x = 0 := by
  induction n with
  | zero => omega
  | succ n ih =>
    unfold dg at h
    split at h
    · next h1 =>
      by_cases e : x = n
      · subst e; exact h1
      · exact ih h (by omega)
    · omega
theorem dg_eq {n : Nat} {F : Nat → Int} {d : Int} (h0 : -1 ≤ d) (h1 : d < n) (h2 : ∀ x : Nat, (x : Int) = d → F x ≠ 0) (h3 : ∀ x : Nat, d < x → x < n → F x = 0) : dg n F = d := by
  have a := dg_ge n F
  have b := dg_lt n F
  by_cases hd : d < dg n F
  · obtain ⟨q, hq⟩ := Int.eq_ofNat_of_zero_le (show 0 ≤ dg n F by omega)
    exact absurd (h3 q (by omega) (by omega)) (dg_top hq)
  · by_cases hd2 : dg n F < d
    · obtain ⟨q, hq⟩ := Int.eq_ofNat_of_zero_le (show 0 ≤ d by omega)
      exact absurd (dg_above (n := n) (x := q) (by omega) (by omega)) (h2 q hq.symm)
    · omega
def ok (n : Nat) (F : Nat → Int) : Prop := (∀ x, 0 ≤ F x ∧ F x < 13) ∧ ∀ x, n ≤ x → F x = 0
theorem ok.dlt {n : Nat} {F : Nat → Int} (h : ok n F) (N : Nat) : dg N F < n := by
  have a := dg_ge N F
  by_cases hd : dg N F < n
  · exact hd
  · obtain ⟨q, hq⟩ := Int.eq_ofNat_of_zero_le (show 0 ≤ dg N F by omega)
    exact absurd (h.2 q (by omega)) (dg_top hq)
theorem ok.above {n : Nat} {F : Nat → Int} (h : ok n F) {N x : Nat} (hN : n ≤ N) (hx : dg N F < x) : F x = 0 := by
  by_cases hd : x < N
  · exact dg_above hx hd
  · exact h.2 x (by omega)
theorem ok.mono {n m : Nat} {F : Nat → Int} (h : ok n F) (hm : n ≤ m) : ok m F := ⟨h.1, fun x hx => h.2 x (by omega)⟩
theorem ok.of_dg {n m : Nat} {F : Nat → Int} (h : ok n F) (hn : n ≤ 300) (hm : dg 300 F < m) : ok m F := ⟨h.1, fun x hx => h.above hn (by omega)⟩
theorem ok_0 (n : Nat) : ok n (fun _ => 0) := ⟨fun _ => ⟨Int.le_refl 0, (by decide : (0 : Int) < 13)⟩, fun _ _ => rfl⟩
theorem dg_0 (n : Nat) : dg n (fun _ => 0) = -1 := dg_eq (by omega) (by omega) (fun x h => by omega) (fun _ _ _ => rfl)
theorem wd_le (k : Nat) : wd k ≤ 300 := by unfold wd; split <;> omega
def rV (G : Nat → Nat → Int) : Nat → PV := fun k => (dg 300 (G k), G k)
theorem rV_up (G : Nat → Nat → Int) (k : Nat) (F : Nat → Int) : rV (va_up G k F) = va_up (rV G) k (dg 300 F, F) := by
  funext j
  by_cases h : j = k
  · subst h; simp [rV, va_up]
  · simp [rV, va_up, h]
/-- a world of polynomials out of another, by one that changed -/
theorem rV_of {G : Nat → Nat → Int} {V : Nat → PV} {k : Nat} {F : Nat → Int} (h1 : (V k).1 = dg 300 F) (h2 : (V k).2 = F) (h3 : ∀ j, j ≠ k → V j = rV G j) : V = rV (va_up G k F) := by
  rw [rV_up]
  funext j
  by_cases h : j = k
  · subst h; rw [va_up_self, ← h1, ← h2]
  · rw [va_up_ne _ _ h]; exact h3 j h
section PM
variable {p : Program} {l : Launch} {e : Env} {R : Room} {s : State} {m : MethodId} {args : Array Value} {below : List Frame} {meth : Method} {c : Code} {H : Heap} {locs : List Loc} {cells slots : Nat} {Q : State → Prop} {D : va_G} {cs : Nat → ClassId} {A : Nat → Prop} {ad : Nat → Nat} {T : Nat}
variable {cc : ByteArray} {own : String} {pc : Nat} {ls : Array Slot} {rest : List Value}
theorem i_max (X : Cx p s m args c cc own) (hml : c.maxLocals = ls.size) {index : Nat} (k1 : Cond.methodLink own index ⟨"java/lang/Math", "max", "(II)I"⟩ ∈ TB) {a b : Int} (ha : rg a) (hb : rg b) (hf : 1 ≤ R.frames) (hlo : (rest.map fun v => v.category).sum + 13 ≤ R.locals) (hc : cells ≤ R.cells ∧ slots ≤ R.slots) (hdg : decode cc pc = .ok (.invokestatic index, 3))
    (kk : W p l e R s m args below meth c H locs cells slots Q (F0 m (pc + 3) ls (.int (iI (max a b)) :: rest))) : W p l e R s m args below meth c H locs cells slots Q (F0 m pc ls (.int (iI b) :: .int (iI a) :: rest)) := by
  refine va_mmax X.1 X.2.1 hml X.2.2.1 (X.2.2.2 _ k1) (X.2.2.2 _ k_st_Math_max) (X.2.2.2 _ k_i_Math) (X.2.2.2 _ k_co_Math_max) hf hlo hc.1 hc.2 hdg ?_
  by_cases h : a < b
  · rw [if_pos ((iI_lt ha hb).mpr h), ← show max a b = b by omega]; exact kk
  · rw [if_neg (fun g => h ((iI_lt ha hb).mp g)), ← show max a b = a by omega]; exact kk
end PM

section CL
variable {p : Program} {l : Launch} {e : Env} {R : Room} {s : State} {m : MethodId} {args : Array Value} {below : List Frame} {meth : Method} {c : Code} {H : Heap} {locs : List Loc} {cells slots : Nat} {Q : State → Prop} {D : va_G} {cs : Nat → ClassId} {A : Nat → Prop} {ad : Nat → Nat} {T : Nat}
variable {k : Nat} {O : Nat → va_E}
theorem l_Po_clear (X : Cx p s m args c b_Po_clear RPo) (hT : 132 ≤ T) (hk : k < 61) {V0 : Nat → PV} {d : Int} {F : Nat → Int} (hd : -1 ≤ d ∧ d < wd k)
    (K : ∀ (V : Nat → PV) (H : Heap) (locs : List Loc) (ls : Array Slot), Wd D cs A ad T s (mkV cs ad V O) H locs → (V k).1 = d → (∀ x : Nat, (V k).2 x = if (x : Int) ≤ d then 0 else F x) → (∀ j, j ≠ k → V j = V0 j) → lv_has ls 2 [(0, .ref (ad (2 * k)))] → W p l e R s m args below meth c H locs cells slots Q (F0 m 23 ls [])) :
    ∀ (n i : Nat) (V : Nat → PV) (H : Heap) (locs : List Loc) (ls : Array Slot), d + 2 ≤ i + n → (i : Int) ≤ d + 1 → Wd D cs A ad T s (mkV cs ad V O) H locs → (V k).1 = d → (∀ x : Nat, (V k).2 x = if x < i then 0 else F x) → (∀ j, j ≠ k → V j = V0 j) → lv_has ls 2 [(0, .ref (ad (2 * k))), (1, .int (iI i))] → W p l e R s m args below meth c H locs cells slots Q (F0 m 2 ls []) := by
  have hw := wd_lt k
  intro n
  induction n with
  | zero => intro i V H locs ls h1 h2; omega
  | succ n ih =>
    intro i V H locs ls h1 h2 w hV1 hV2 hV3 hl
    refine lv_iload_n X.1 X.2.1 d_Po_clear_2 rfl (lv_at hl 1 rfl) ?_
    refine lv_aload_n X.1 X.2.1 d_Po_clear_3 rfl (lv_at hl 0 rfl) ?_
    refine t_deg (k := k) X hT w (by omega) k_f_Po_13 d_Po_clear_4 ?_
    refine i_gt (a := i) (b := (V k).1) (tgt := 23) X (by omega) (by omega) d_Po_clear_7 (by decide) (fun h_7 => ?_) (fun h_7 => ?_)
    · exact K V H locs ls w hV1 (by intro x; rw [hV2 x]; split <;> split <;> first | rfl | (exfalso; omega)) hV3 (lv_sub hl [0] rfl)
    · refine lv_aload_n X.1 X.2.1 d_Po_clear_10 rfl (lv_at hl 0 rfl) ?_
      refine t_co (k := k) X hT w (by omega) k_f_Po_7 d_Po_clear_11 ?_
      refine lv_iload_n X.1 X.2.1 d_Po_clear_14 rfl (lv_at hl 1 rfl) ?_
      refine lv_iconst (v := iI (0)) X.1 X.2.1 d_Po_clear_15 (by decide) ?_
      refine t_st (k := k) (z := i) (v := 0) X hT w (by omega) (i) (by omega) (by omega) d_Po_clear_16 (fun H locs w => ?_)
      obtain ⟨V1, eV1⟩ : ∃ U : Nat → PV, U = va_up V k ((V k).1, va_up (V k).2 i (0)) := ⟨_, rfl⟩
      rw [← eV1] at w
      refine i_inc (k := 1) (x := i) (lv' := [(1, .int (iI (i + 1))), (0, .ref (ad (2 * k)))]) X d_Po_clear_17 hl rfl (by decide) rfl (fun ls hl => ?_)
      refine lv_goto (tgt := 2) X.1 X.2.1 d_Po_clear_20 (by decide) ?_
      exact ih (i + 1) _ H locs ls (by omega) (by omega) w (by rw [eV1, va_up_self]; exact hV1) (by intro x; rw [eV1, va_up_self]; show va_up (V k).2 i 0 x = _; unfold va_up; rw [hV2 x]; split <;> split <;> first | rfl | (exfalso; omega) | (split <;> first | rfl | (exfalso; omega))) (by intro j hj; rw [eV1, va_up_ne _ _ hj]; exact hV3 j hj) (lv_sub hl [1, 0] rfl)
end CL
theorem c_Po_clear {l : Launch} {D : va_G} {cs : Nat → ClassId} {A : Nat → Prop} {ad : Nat → Nat} {T : Nat} (hT : 132 ≤ T) {G : Nat → Nat → Int} {O : Nat → va_E} {k : Nat} (hk : k < 61) (hG : ok (wd k) (G k)) : Cv l y_Po_clear ws_Po_clear { frames := 0, cells := 0, slots := 0, locals := 0 } D cs A ad T [.ref (ad (2 * k))] (mkV cs ad (rV G) O) (fun C' => C' = mkV cs ad (rV (va_up G k (fun _ => 0))) O) := by
  refine w_bodyV (by decide) (Nat.le_of_ble_eq_true rfl) ?_
  intro p e s m below meth c X hr hlk hml w ls hl
  have hl : lv_has ls 2 [(0, .ref (ad (2 * k)))] := hl
  have hd := hG.dlt 300
  have hd0 := dg_ge 300 (G k)
  refine lv_iconst (v := iI (0)) X.1 X.2.1 d_Po_clear_0 (by decide) ?_
  refine lv_istore_n (lv' := [(1, .int (iI (0))), (0, .ref (ad (2 * k)))]) X.1 X.2.1 d_Po_clear_1 rfl hl (by decide) rfl (fun ls hl => ?_)
  refine l_Po_clear X hT hk (V0 := rV G) (d := dg 300 (G k)) (F := G k) ⟨hd0, hd⟩ (fun V H locs ls w hV1 hV2 hV3 hl => ?_) (dg 300 (G k) + 2).toNat 0 _ _ _ _ (by omega) (by omega) w rfl (fun x => by rw [if_neg (by omega)]; rfl) (fun _ _ => rfl) (lv_sub hl [1, 0] rfl)
  refine lv_aload_n X.1 X.2.1 d_Po_clear_23 rfl (lv_at hl 0 rfl) ?_
  refine lv_iconst (v := iI (-1)) X.1 X.2.1 d_Po_clear_24 (by decide) ?_
  refine t_pd (k := k) (z := -1) X hT w (by omega) k_f_Po_13 d_Po_clear_25 (fun H locs w => ?_)
  obtain ⟨V1, eV1⟩ : ∃ U : Nat → PV, U = va_up V k (-1, (V k).2) := ⟨_, rfl⟩
  rw [← eV1] at w
  have hF : (V1 k).2 = fun _ => 0 := by
    funext x
    rw [eV1, va_up_self]
    show (V k).2 x = 0
    rw [hV2 x]
    split
    · rfl
    · exact hG.above (wd_le k) (by omega)
  refine w_vret X hr hlk w ?_ d_Po_clear_28
  rw [rV_of (G := G) (k := k) (F := fun _ => 0) (V := V1) (by rw [eV1, va_up_self, dg_0]) hF (by intro j hj; rw [eV1, va_up_ne _ _ hj]; exact hV3 j hj)]
section CF
variable {p : Program} {l : Launch} {e : Env} {R : Room} {s : State} {m : MethodId} {args : Array Value} {below : List Frame} {meth : Method} {c : Code} {H : Heap} {locs : List Loc} {cells slots : Nat} {Q : State → Prop} {D : va_G} {cs : Nat → ClassId} {A : Nat → Prop} {ad : Nat → Nat} {T : Nat}
variable {k q : Nat} {O : Nat → va_E}
theorem l_Po_copyFrom_7 (X : Cx p s m args c b_Po_copyFrom RPo) (hT : 132 ≤ T) (hk : k < 61) (hq : q < 61) (hkq : q ≠ k) {V0 : Nat → PV} {d b : Int} {F : Nat → Int} (hd : -1 ≤ d ∧ d < wd k) (hb : -1 ≤ b ∧ b < wd k)
    (K : ∀ (V : Nat → PV) (H : Heap) (locs : List Loc) (ls : Array Slot), Wd D cs A ad T s (mkV cs ad V O) H locs → (V k).1 = d → (∀ x : Nat, (V k).2 x = if b < x ∧ (x : Int) ≤ d then 0 else F x) → (∀ j, j ≠ k → V j = V0 j) → lv_has ls 3 [(0, .ref (ad (2 * k))), (1, .ref (ad (2 * q)))] → W p l e R s m args below meth c H locs cells slots Q (F0 m 28 ls [])) :
    ∀ (n i : Nat) (V : Nat → PV) (H : Heap) (locs : List Loc) (ls : Array Slot), d + 2 ≤ i + n → b + 1 ≤ i → Wd D cs A ad T s (mkV cs ad V O) H locs → (V k).1 = d → (∀ x : Nat, (V k).2 x = if b < x ∧ x < i then 0 else F x) → (∀ j, j ≠ k → V j = V0 j) → lv_has ls 3 [(0, .ref (ad (2 * k))), (1, .ref (ad (2 * q))), (2, .int (iI (i)))] → (i : Int) ≤ wd k → ((i : Int) ≤ d + 1 ∨ i = b + 1) → W p l e R s m args below meth c H locs cells slots Q (F0 m 7 ls []) := by
  have hw := wd_lt k
  intro n
  induction n with
  | zero =>
    intro i V H locs ls h1 h2 w hV1 hV2 hV3 hl h4 h5
    refine lv_iload_n X.1 X.2.1 d_Po_copyFrom_7 rfl (lv_at hl 2 rfl) ?_
    refine lv_aload_n X.1 X.2.1 d_Po_copyFrom_8 rfl (lv_at hl 0 rfl) ?_
    refine t_deg (k := k) X hT w (by omega) k_f_Po_13 d_Po_copyFrom_9 ?_
    refine i_gt (a := i) (b := (V k).1) (tgt := 28) X (by omega) (by omega) d_Po_copyFrom_12 (by decide) (fun h_12 => ?_) (fun h_12 => ?_)
    · exact K V H locs ls w hV1 (by intro x; rw [hV2 x]; split <;> split <;> first | rfl | (exfalso; omega)) hV3 (lv_sub hl [0, 1] rfl)
    · exact absurd h_12 (by omega)
  | succ n ih =>
    intro i V H locs ls h1 h2 w hV1 hV2 hV3 hl h4 h5
    refine lv_iload_n X.1 X.2.1 d_Po_copyFrom_7 rfl (lv_at hl 2 rfl) ?_
    refine lv_aload_n X.1 X.2.1 d_Po_copyFrom_8 rfl (lv_at hl 0 rfl) ?_
    refine t_deg (k := k) X hT w (by omega) k_f_Po_13 d_Po_copyFrom_9 ?_
    refine i_gt (a := i) (b := (V k).1) (tgt := 28) X (by omega) (by omega) d_Po_copyFrom_12 (by decide) (fun h_12 => ?_) (fun h_12 => ?_)
    · exact K V H locs ls w hV1 (by intro x; rw [hV2 x]; split <;> split <;> first | rfl | (exfalso; omega)) hV3 (lv_sub hl [0, 1] rfl)
    · refine lv_aload_n X.1 X.2.1 d_Po_copyFrom_15 rfl (lv_at hl 0 rfl) ?_
      refine t_co (k := k) X hT w (by omega) k_f_Po_7 d_Po_copyFrom_16 ?_
      refine lv_iload_n X.1 X.2.1 d_Po_copyFrom_19 rfl (lv_at hl 2 rfl) ?_
      refine lv_iconst (v := iI (0)) X.1 X.2.1 d_Po_copyFrom_20 (by decide) ?_
      refine t_st (k := k) (z := i) (v := 0) X hT w (by omega) (i) (by omega) (by omega) d_Po_copyFrom_21 (fun H locs w => ?_)
      obtain ⟨V1, eV1⟩ : ∃ U : Nat → PV, U = va_up V k ((V k).1, va_up (V k).2 i (0)) := ⟨_, rfl⟩
      rw [← eV1] at w
      refine i_inc (k := 2) (x := i) (lv' := [(2, .int (iI (i + 1))), (0, .ref (ad (2 * k))), (1, .ref (ad (2 * q)))]) X d_Po_copyFrom_22 hl rfl (by decide) rfl (fun ls hl => ?_)
      refine lv_goto (tgt := 7) X.1 X.2.1 d_Po_copyFrom_25 (by decide) ?_
      exact ih (i + 1) _ H locs ls (by omega) (by omega) w (by rw [eV1, va_up_self]; exact hV1) (by intro x; rw [eV1, va_up_self]; show va_up (V k).2 i 0 x = _; unfold va_up; rw [hV2 x]; split <;> split <;> first | rfl | (exfalso; omega) | (split <;> first | rfl | (exfalso; omega))) (by intro j hj; rw [eV1, va_up_ne _ _ hj]; exact hV3 j hj) (lv_sub hl [1, 2, 0] rfl) (by omega) (by omega)
theorem l_Po_copyFrom_30 (X : Cx p s m args c b_Po_copyFrom RPo) (hT : 132 ≤ T) (hk : k < 61) (hq : q < 61) (hkq : q ≠ k) {V0 : Nat → PV} {d b : Int} {F B : Nat → Int} (hb : -1 ≤ b ∧ b < wd k ∧ b < wd q) (hB1 : (V0 q).1 = b) (hB2 : (V0 q).2 = B)
    (K : ∀ (V : Nat → PV) (H : Heap) (locs : List Loc) (ls : Array Slot), Wd D cs A ad T s (mkV cs ad V O) H locs → (V k).1 = d → (∀ x : Nat, (V k).2 x = if (x : Int) ≤ b then B x else F x) → (∀ j, j ≠ k → V j = V0 j) → lv_has ls 3 [(0, .ref (ad (2 * k))), (1, .ref (ad (2 * q)))] → W p l e R s m args below meth c H locs cells slots Q (F0 m 56 ls [])) :
    ∀ (n i : Nat) (V : Nat → PV) (H : Heap) (locs : List Loc) (ls : Array Slot), b + 2 ≤ i + n → (i : Int) ≤ b + 1 → Wd D cs A ad T s (mkV cs ad V O) H locs → (V k).1 = d → (∀ x : Nat, (V k).2 x = if x < i then B x else F x) → (∀ j, j ≠ k → V j = V0 j) → lv_has ls 3 [(0, .ref (ad (2 * k))), (1, .ref (ad (2 * q))), (2, .int (iI (i)))] → W p l e R s m args below meth c H locs cells slots Q (F0 m 30 ls []) := by
  have hw := wd_lt k
  intro n
  induction n with
  | zero => intro i V H locs ls h1 h2; omega
  | succ n ih =>
    intro i V H locs ls h1 h2 w hV1 hV2 hV3 hl
    have hq1 : (V q).1 = b := by rw [hV3 q hkq]; exact hB1
    have hq2 : (V q).2 = B := by rw [hV3 q hkq]; exact hB2
    refine lv_iload_n X.1 X.2.1 d_Po_copyFrom_30 rfl (lv_at hl 2 rfl) ?_
    refine lv_aload_n X.1 X.2.1 d_Po_copyFrom_31 rfl (lv_at hl 1 rfl) ?_
    refine t_deg (k := q) X hT w (by omega) k_f_Po_13 d_Po_copyFrom_32 ?_
    refine i_gt (a := i) (b := (V q).1) (tgt := 56) X (by omega) (by omega) d_Po_copyFrom_35 (by decide) (fun h_35 => ?_) (fun h_35 => ?_)
    · exact K V H locs ls w hV1 (by intro x; rw [hV2 x]; split <;> split <;> first | rfl | (exfalso; omega)) hV3 (lv_sub hl [0, 1] rfl)
    · refine lv_aload_n X.1 X.2.1 d_Po_copyFrom_38 rfl (lv_at hl 0 rfl) ?_
      refine t_co (k := k) X hT w (by omega) k_f_Po_7 d_Po_copyFrom_39 ?_
      refine lv_iload_n X.1 X.2.1 d_Po_copyFrom_42 rfl (lv_at hl 2 rfl) ?_
      refine lv_aload_n X.1 X.2.1 d_Po_copyFrom_43 rfl (lv_at hl 1 rfl) ?_
      refine t_co (k := q) X hT w (by omega) k_f_Po_7 d_Po_copyFrom_44 ?_
      refine lv_iload_n X.1 X.2.1 d_Po_copyFrom_47 rfl (lv_at hl 2 rfl) ?_
      refine t_ld (k := q) (z := i) X hT w (by omega) (i) (by omega) (by omega) d_Po_copyFrom_48 ?_
      refine t_st (k := k) (z := i) (v := (V q).2 i) X hT w (by omega) (i) (by omega) (by omega) d_Po_copyFrom_49 (fun H locs w => ?_)
      obtain ⟨V1, eV1⟩ : ∃ U : Nat → PV, U = va_up V k ((V k).1, va_up (V k).2 i ((V q).2 i)) := ⟨_, rfl⟩
      rw [← eV1] at w
      refine i_inc (k := 2) (x := i) (lv' := [(2, .int (iI (i + 1))), (0, .ref (ad (2 * k))), (1, .ref (ad (2 * q)))]) X d_Po_copyFrom_50 hl rfl (by decide) rfl (fun ls hl => ?_)
      refine lv_goto (tgt := 30) X.1 X.2.1 d_Po_copyFrom_53 (by decide) ?_
      have hu : ∀ x : Nat, (V1 k).2 x = if x < i + 1 then B x else F x := by
        intro x
        rw [eV1, va_up_self]
        show va_up (V k).2 i ((V q).2 i) x = _
        by_cases hx : x = i
        · subst hx; rw [va_up_self, hq2, if_pos (by omega)]
        · rw [va_up_ne _ _ hx, hV2 x]; split <;> split <;> first | rfl | (exfalso; omega)
      exact ih (i + 1) _ H locs ls (by omega) (by omega) w (by rw [eV1, va_up_self]; exact hV1) hu (by intro j hj; rw [eV1, va_up_ne _ _ hj]; exact hV3 j hj) (lv_sub hl [1, 2, 0] rfl)
end CF
theorem c_Po_copyFrom {l : Launch} {D : va_G} {cs : Nat → ClassId} {A : Nat → Prop} {ad : Nat → Nat} {T : Nat} (hT : 132 ≤ T) {G : Nat → Nat → Int} {O : Nat → va_E} {k q : Nat} (hk : k < 61) (hq : q < 61) (hkq : q ≠ k) (hG : ok (wd k) (G k)) (hB : ok (wd q) (G q)) (hB2 : ok (wd k) (G q)) : Cv l y_Po_copyFrom ws_Po_copyFrom { frames := 0, cells := 0, slots := 0, locals := 0 } D cs A ad T [.ref (ad (2 * k)), .ref (ad (2 * q))] (mkV cs ad (rV G) O) (fun C' => C' = mkV cs ad (rV (va_up G k (G q))) O) := by
  refine w_bodyV (by decide) (Nat.le_of_ble_eq_true rfl) ?_
  intro p e s m below meth c X hr hlk hml w ls hl
  have hl : lv_has ls 3 [(0, .ref (ad (2 * k))), (1, .ref (ad (2 * q)))] := hl
  have hd := hG.dlt 300
  have hd0 := dg_ge 300 (G k)
  have hb := hB.dlt 300
  have hb2 := hB2.dlt 300
  have hb0 := dg_ge 300 (G q)
  have hwk := wd_lt k
  have hg1 : ((rV G) q).1 = dg 300 (G q) := rfl
  obtain ⟨i0, hi0⟩ := Int.eq_ofNat_of_zero_le (show 0 ≤ dg 300 (G q) + 1 by omega)
  refine lv_aload_n X.1 X.2.1 d_Po_copyFrom_0 rfl (lv_at hl 1 rfl) ?_
  refine t_deg (k := q) X hT w (by omega) k_f_Po_13 d_Po_copyFrom_1 ?_
  refine lv_iconst (v := iI (1)) X.1 X.2.1 d_Po_copyFrom_4 (by decide) ?_
  refine i_add (a := ((rV G) q).1) (b := 1) X d_Po_copyFrom_5 ?_
  refine lv_istore_n (lv' := [(2, .int (iI ((((rV G) q).1) + 1))), (0, .ref (ad (2 * k))), (1, .ref (ad (2 * q)))]) X.1 X.2.1 d_Po_copyFrom_6 rfl hl (by decide) rfl (fun ls hl => ?_)
  refine l_Po_copyFrom_7 X hT hk hq hkq (V0 := rV G) (d := dg 300 (G k)) (b := dg 300 (G q)) (F := G k) ⟨hd0, hd⟩ ⟨hb0, hb2⟩ (fun V H locs ls w hV1 hV2 hV3 hl => ?_) (dg 300 (G k) + 2).toNat i0 _ _ _ _ (by omega) (by omega) w rfl (fun x => by rw [if_neg (by omega)]; rfl) (fun _ _ => rfl) (by rw [← hi0]; exact lv_sub hl [1, 2, 0] rfl) (by omega) (by omega)
  refine lv_iconst (v := iI (0)) X.1 X.2.1 d_Po_copyFrom_28 (by decide) ?_
  refine lv_istore_n (lv' := [(2, .int (iI (0))), (0, .ref (ad (2 * k))), (1, .ref (ad (2 * q)))]) X.1 X.2.1 d_Po_copyFrom_29 rfl hl (by decide) rfl (fun ls hl => ?_)
  refine l_Po_copyFrom_30 X hT hk hq hkq (V0 := rV G) (d := dg 300 (G k)) (b := dg 300 (G q)) (F := (V k).2) (B := G q) ⟨hb0, hb2, hb⟩ rfl rfl (fun V' H locs ls w hW1 hW2 hW3 hl => ?_) (dg 300 (G q) + 2).toNat 0 _ _ _ _ (by omega) (by omega) w hV1 (fun x => by rw [if_neg (by omega)]) hV3 (lv_sub hl [1, 2, 0] rfl)
  refine lv_aload_n X.1 X.2.1 d_Po_copyFrom_56 rfl (lv_at hl 0 rfl) ?_
  refine lv_aload_n X.1 X.2.1 d_Po_copyFrom_57 rfl (lv_at hl 1 rfl) ?_
  refine t_deg (k := q) X hT w (by omega) k_f_Po_13 d_Po_copyFrom_58 ?_
  refine t_pd (k := k) (z := (V' q).1) X hT w (by omega) k_f_Po_13 d_Po_copyFrom_61 (fun H locs w => ?_)
  obtain ⟨V1, eV1⟩ : ∃ U : Nat → PV, U = va_up V' k ((V' q).1, (V' k).2) := ⟨_, rfl⟩
  rw [← eV1] at w
  have hF : (V1 k).2 = G q := by
    funext x
    rw [eV1, va_up_self]
    show (V' k).2 x = _
    rw [hW2 x]
    split
    · rfl
    · rw [hV2 x, hB.above (wd_le q) (by omega)]
      split
      · rfl
      · exact hG.above (wd_le k) (by omega)
  refine w_vret X hr hlk w ?_ d_Po_copyFrom_64
  rw [rV_of (G := G) (k := k) (F := G q) (V := V1) (by rw [eV1, va_up_self]; show (V' q).1 = _; rw [hW3 q hkq]; rfl) hF (by intro j hj; rw [eV1, va_up_ne _ _ hj]; exact hW3 j hj)]
