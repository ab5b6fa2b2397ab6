/-! division: the rest and the quotient, step by step -/
abbrev P2 : Type := (Nat → Int) × (Nat → Int)
def divS (pr iv : Int) (B : Nat → Int) (e : Nat) (s : P2) (sh : Nat) : P2 := if s.1 (sh + e) * iv % pr = 0 then s else (addS pr s.1 (pr - s.1 (sh + e) * iv % pr) sh B, va_up s.2 sh (s.1 (sh + e) * iv % pr))
def divL (pr iv : Int) (B : Nat → Int) (e : Nat) : Nat → P2 → P2
  | 0, s => s
  | n + 1, s => divL pr iv B e n (divS pr iv B e s n)
def dvm (pr : Int) (inv : Nat → Int) (A B : Nat → Int) : P2 := if dg 300 B < 0 then (A, fun _ => 0) else divL pr (inv (B (dg 300 B).toNat).toNat) B (dg 300 B).toNat (dg 300 A - dg 300 B + 1).toNat (A, fun _ => 0)
theorem up_okp {pr : Int} {n i : Nat} {F : Nat → Int} {v : Int} (h : okp pr n F) (hi : i < n) (hv : 0 ≤ v ∧ v < pr) : okp pr n (va_up F i v) := by
  refine ⟨fun x => ?_, fun x hx => ?_⟩
  · by_cases e : x = i
    · subst e; rw [va_up_self]; exact hv
    · rw [va_up_ne _ _ e]; exact h.1 x
  · rw [va_up_ne _ _ (by omega)]; exact h.2 x hx
theorem okp_0 {pr : Int} (n : Nat) (h : 0 < pr) : okp pr n (fun _ => 0) := ⟨fun _ => ⟨Int.le_refl 0, h⟩, fun _ _ => rfl⟩
theorem divS_ok {pr iv : Int} {B : Nat → Int} {e N M sh : Nat} {s : P2} (hp : 0 < pr) (h1 : okp pr N s.1) (h2 : okp pr M s.2) (hB : ∀ x, N ≤ x + sh → B x = 0) (hM : sh < M) : okp pr N (divS pr iv B e s sh).1 ∧ okp pr M (divS pr iv B e s sh).2 := by
  unfold divS
  split
  · exact ⟨h1, h2⟩
  · exact ⟨addS_ok hp h1 hB, up_okp h2 hM ⟨Int.emod_nonneg _ (by omega), Int.emod_lt_of_pos _ hp⟩⟩
theorem divL_ok {pr iv : Int} {B : Nat → Int} {e N M : Nat} (hp : 0 < pr) : ∀ (n : Nat) (s : P2), okp pr N s.1 → okp pr M s.2 → (∀ i x, i < n → N ≤ x + i → B x = 0) → n ≤ M → okp pr N (divL pr iv B e n s).1 ∧ okp pr M (divL pr iv B e n s).2
  | 0, s, h1, h2, _, _ => ⟨h1, h2⟩
  | n + 1, s, h1, h2, hB, hM => by
    obtain ⟨a, b⟩ := divS_ok (e := e) (iv := iv) hp h1 h2 (fun x hx => hB n x (by omega) hx) (by omega)
    exact divL_ok hp n _ a b (fun i x hi => hB i x (by omega)) (by omega)
theorem dvm_ok {pr : Int} {inv : Nat → Int} {A B : Nat → Int} {N M K : Nat} (hp : 0 < pr) (hA : okp pr N A) (hB : okp pr K B) (hN : N ≤ 300) (hK : K ≤ 300) (h13 : pr ≤ 13) (hM : dg 300 A - dg 300 B < M) : okp pr N (dvm pr inv A B).1 ∧ okp pr M (dvm pr inv A B).2 := by
  unfold dvm
  split
  · exact ⟨hA, okp_0 M hp⟩
  · have h1 := (hA.ok h13).dlt 300
    exact divL_ok hp _ _ hA (okp_0 M hp) (fun i x hi hx => (hB.ok h13).above hK (by omega)) (by omega)
section DV
variable {p : Program} {l : Launch} {e : Env} {s : State} {m : MethodId} {args : Array Value} {below : List Frame} {meth : Method} {c : Code} {H : Heap} {locs : List Loc} {Q : State → Prop} {D : va_G} {cs : Nat → ClassId} {A : Nat → Prop} {ad : Nat → Nat} {T : Nat} {O : Nat → va_E} {pr : Int} {inv : Nat → Int}
variable {k q t : Nat} {iv : Int} {G : Nat → Nat → Int}
theorem l_Ar_divide (X : Cx p s m args c b_Ar_divide RAr) (hml : c.maxLocals = 7) (hT : 132 ≤ T) (hO : arO cs ad pr inv O) (hk : k < 61) (hq : q < 61) (ht : t < 61) (hqk : q ≠ k) (htk : t ≠ k) (hqt : q ≠ t) (hB : okp pr (wd q) (G q)) (hd0 : 0 ≤ dg 300 (G q)) (hiv : 0 ≤ iv ∧ iv ≤ 13) {z : P2}
    (K : ∀ (H : Heap) (locs : List Loc) (ls : Array Slot), Wd D cs A ad T s (mkV cs ad (rV (va_up (va_up G t z.2) k z.1)) O) H locs → W p l e { frames := 2, cells := 0, slots := 0, locals := 47 } s m args below meth c H locs 0 0 Q (F0 m 95 ls [])) :
    ∀ (n : Nat) (u : P2) (G1 : Nat → Nat → Int) (H : Heap) (locs : List Loc) (ls : Array Slot), okp pr (wd k) u.1 → okp pr (wd t) u.2 → (n : Int) + dg 300 (G q) ≤ wd k → n ≤ wd t → divL pr iv (G q) (dg 300 (G q)).toNat n u = z → Wd D cs A ad T s (mkV cs ad (rV G1) O) H locs → G1 = (va_up (va_up G t u.2) k u.1) → lv_has ls 7 [(0, .ref (ad (123))), (1, .ref (ad (2 * k))), (2, .ref (ad (2 * q))), (3, .ref (ad (2 * t))), (4, .int (iI (iv))), (5, .int (iI ((n : Int) - 1)))] → W p l e { frames := 2, cells := 0, slots := 0, locals := 47 } s m args below meth c H locs 0 0 Q (F0 m 34 ls []) := by
  have hpr := hO.2.2.1
  have hw := wd_lt k
  have hw2 := wd_lt t
  have hBo := hB.ok hpr.2
  have hdq := hBo.dlt 300
  intro n
  induction n with
  | zero =>
    intro u G1 H locs ls h1 h2 h3 h4 hz w eG hl
    refine lv_iload X.1 X.2.1 d_Ar_divide_34 (lv_at hl 5 rfl) ?_
    refine z_lt (a := ((0 : Nat) : Int) - 1) (tgt := 95) X (by omega) d_Ar_divide_36 (by decide) (fun h_36 => ?_) (fun h_36 => ?_)
    · have hz : u = z := hz
      refine K H locs ls ?_
      rw [← hz, ← eG]
      exact w
    · exact absurd h_36 (by omega)
  | succ n ih =>
    intro u G1 H locs ls h1 h2 h3 h4 hz w eG hl
    have hGk : G1 k = u.1 := by rw [eG, va_up_self]
    have hGq : G1 q = G q := by rw [eG, va_up_ne _ _ hqk, va_up_ne _ _ hqt]
    have hGt : G1 t = u.2 := by rw [eG, va_up_ne _ _ htk, va_up_self]
    have hdG : dg 300 (G1 q) = dg 300 (G q) := by rw [hGq]
    obtain ⟨e, he⟩ : ∃ e : Nat, e = (dg 300 (G q)).toNat := ⟨_, rfl⟩
    have hai := h1.1 (n + e)
    have hak : G1 k (n + e) = u.1 (n + e) := by rw [hGk]
    have hm : 0 ≤ G1 k (n + e) * iv ∧ G1 k (n + e) * iv ≤ 1000 := by
      rw [hak]
      refine ⟨Int.mul_nonneg hai.1 hiv.1, ?_⟩
      have := Int.mul_le_mul (show u.1 (n + e) ≤ 13 by omega) hiv.2 hiv.1 (by decide)
      omega
    obtain ⟨g, hg⟩ : ∃ g : Int, g = (G1 k (n + e) * iv) % pr := ⟨_, rfl⟩
    have hg2 : g = u.1 (n + e) * iv % pr := by rw [hg, hak]
    have hgr : 0 ≤ g ∧ g < pr := by rw [hg]; exact ⟨Int.emod_nonneg _ (by omega), Int.emod_lt_of_pos _ (by omega)⟩
    have hz : divL pr iv (G q) e n (divS pr iv (G q) e u n) = z := by rw [he]; exact hz
    refine lv_iload X.1 X.2.1 d_Ar_divide_34 (lv_at hl 5 rfl) ?_
    refine z_lt (a := ((n + 1 : Nat) : Int) - 1) (tgt := 95) X (by omega) d_Ar_divide_36 (by decide) (fun h_36 => ?_) (fun h_36 => ?_)
    · exact absurd h_36 (by omega)
    · refine lv_aload_n X.1 X.2.1 d_Ar_divide_39 rfl (lv_at hl 1 rfl) ?_
      refine t_co (k := k) X hT w (by omega) k_f_Ar_55 d_Ar_divide_40 ?_
      refine lv_iload X.1 X.2.1 d_Ar_divide_43 (lv_at hl 5 rfl) ?_
      refine lv_aload_n X.1 X.2.1 d_Ar_divide_45 rfl (lv_at hl 2 rfl) ?_
      refine g_deg (k := q) X hT w (by omega) k_f_Ar_52 d_Ar_divide_46 ?_
      refine i_add (a := ((n + 1 : Nat) : Int) - 1) (b := dg 300 (G1 q)) X d_Ar_divide_49 ?_
      refine g_ld (k := k) (z := (((n + 1 : Nat) : Int) - 1) + (dg 300 (G1 q))) X hT w (by omega) (n + e) (by omega) (by omega) d_Ar_divide_50 ?_
      refine lv_iload X.1 X.2.1 d_Ar_divide_51 (lv_at hl 4 rfl) ?_
      refine i_mul (a := G1 k (n + e)) (b := iv) X d_Ar_divide_53 ?_
      refine lv_aload_n X.1 X.2.1 d_Ar_divide_54 rfl (lv_at hl 0 rfl) ?_
      refine t_ar X hT w hO 0 (by decide) k_f_Ar_48 rfl d_Ar_divide_55 ?_
      refine i_rem (a := (G1 k (n + e)) * iv) (b := pr) X (by omega) (by omega) d_Ar_divide_58 ?_
      rw [← hg]
      refine lv_istore (lv' := [(6, .int (iI (g))), (0, .ref (ad (123))), (1, .ref (ad (2 * k))), (2, .ref (ad (2 * q))), (3, .ref (ad (2 * t))), (4, .int (iI (iv))), (5, .int (iI (((n + 1 : Nat) : Int) - 1)))]) X.1 X.2.1 d_Ar_divide_59 hl (by decide) rfl (fun ls hl => ?_)
      refine lv_iload X.1 X.2.1 d_Ar_divide_61 (lv_at hl 0 rfl) ?_
      refine z_eq (a := g) (tgt := 89) X (by omega) d_Ar_divide_63 (by decide) (fun h_63 => ?_) (fun h_63 => ?_)
      · refine i_inc (k := 6) (x := ((n + 1 : Nat) : Int) - 1) (lv' := [(5, .int (iI ((((n + 1 : Nat) : Int) - 1) + (-1)))), (6, .int (iI (g))), (0, .ref (ad (123))), (1, .ref (ad (2 * k))), (2, .ref (ad (2 * q))), (3, .ref (ad (2 * t))), (4, .int (iI (iv)))]) X d_Ar_divide_89 hl rfl (by decide) rfl (fun ls hl => ?_)
        refine lv_goto (tgt := 34) X.1 X.2.1 d_Ar_divide_92 (by decide) ?_
        refine ih u _ H locs ls h1 h2 (by omega) (by omega) ?_ w eG ?_
        · have e1 : divS pr iv (G q) e u n = u := by unfold divS; rw [if_pos (by omega)]
          rw [e1] at hz; rw [← he]; exact hz
        · rw [show (n : Int) - 1 = ((n + 1 : Nat) : Int) - 1 + (-1) by omega]; exact lv_sub hl [2, 3, 4, 5, 6, 0] rfl
      · refine lv_aload_n X.1 X.2.1 d_Ar_divide_66 rfl (lv_at hl 4 rfl) ?_
        refine lv_iload X.1 X.2.1 d_Ar_divide_67 (lv_at hl 6 rfl) ?_
        refine lv_iload X.1 X.2.1 d_Ar_divide_69 (lv_at hl 0 rfl) ?_
        rw [show ((n + 1 : Nat) : Int) - 1 = (n : Int) by omega]
        refine w_cVv (n := 2) (i := 2 * t) (ci := 0) (As := [.int (iI (n)), .int (iI (g))]) (rest := []) X w hml hl.1 (c_Po_put hT (G := G1) (k := t) (i := n) (v := g) ht (by omega) (by omega) (by rw [hGt]; exact h2.ok hpr.2)) (by omega) (mkV_o ht) rfl k_m_Ar_79 k_im_Po_put k_se_Po_put k_i_Po k_co_Po_put (by decide +kernel) rfl ⟨Nat.le_of_ble_eq_true rfl, Nat.le_of_ble_eq_true rfl⟩ ⟨rfl, rfl⟩ ⟨Nat.zero_le _, Nat.zero_le _⟩ rfl (Nat.le_of_ble_eq_true rfl) d_Ar_divide_71 (fun C' H locs hp w => ?_)
        subst hp
        obtain ⟨Gw1, eGw1⟩ : ∃ gg : Nat → Nat → Int, gg = va_up G1 t (va_up (G1 t) n g) := ⟨_, rfl⟩
        rw [← eGw1] at w
        refine lv_aload_n X.1 X.2.1 d_Ar_divide_74 rfl (lv_at hl 1 rfl) ?_
        refine lv_aload_n X.1 X.2.1 d_Ar_divide_75 rfl (lv_at hl 2 rfl) ?_
        refine lv_aload_n X.1 X.2.1 d_Ar_divide_76 rfl (lv_at hl 1 rfl) ?_
        refine t_ar X hT w hO 0 (by decide) k_f_Ar_48 rfl d_Ar_divide_77 ?_
        refine lv_iload X.1 X.2.1 d_Ar_divide_80 (lv_at hl 0 rfl) ?_
        refine i_sub (a := pr) (b := g) X d_Ar_divide_82 ?_
        refine lv_iload X.1 X.2.1 d_Ar_divide_83 (lv_at hl 6 rfl) ?_
        refine lv_aload_n X.1 X.2.1 d_Ar_divide_85 rfl (lv_at hl 3 rfl) ?_
        rw [show ((n + 1 : Nat) : Int) - 1 = (n : Int) by omega]
        refine w_cVv (n := 4) (i := 123) (ci := 1) (As := [.ref (ad (2 * k)), .int (iI (pr - g)), .int (iI (n)), .ref (ad (2 * q))]) (rest := []) X w hml hl.1 (c_Ar_addShifted hT (G := Gw1) hO (k := k) (q := q) (t := n) (f := pr - g) hk hq hqk (by rw [eGw1, va_up_ne _ _ (Ne.symm htk), hGk]; exact h1) (by rw [eGw1, va_up_ne _ _ hqt, hGq]; exact hBo) (by omega) (by rw [eGw1, va_up_ne _ _ hqt, hGq]; omega)) (by omega) (by rw [mkV_O (by decide)]; exact hO.1) rfl k_m_Ar_64 k_im_Ar_addShifted k_se_Ar_addShifted k_i_Ar k_co_Ar_addShifted (by decide +kernel) rfl ⟨Nat.le_of_ble_eq_true rfl, Nat.le_of_ble_eq_true rfl⟩ ⟨rfl, rfl⟩ ⟨Nat.zero_le _, Nat.zero_le _⟩ rfl (Nat.le_of_ble_eq_true rfl) d_Ar_divide_86 (fun C' H locs hp w => ?_)
        subst hp
        obtain ⟨Gw2, eGw2⟩ : ∃ gg : Nat → Nat → Int, gg = va_up Gw1 k (addS pr (Gw1 k) (pr - g) n (Gw1 q)) := ⟨_, rfl⟩
        rw [← eGw2] at w
        refine i_inc (k := 6) (x := ((n + 1 : Nat) : Int) - 1) (lv' := [(5, .int (iI ((((n + 1 : Nat) : Int) - 1) + (-1)))), (6, .int (iI (g))), (0, .ref (ad (123))), (1, .ref (ad (2 * k))), (2, .ref (ad (2 * q))), (3, .ref (ad (2 * t))), (4, .int (iI (iv)))]) X d_Ar_divide_89 hl rfl (by decide) rfl (fun ls hl => ?_)
        refine lv_goto (tgt := 34) X.1 X.2.1 d_Ar_divide_92 (by decide) ?_
        have e1 : divS pr iv (G q) e u n = (addS pr u.1 (pr - g) n (G q), va_up u.2 n g) := by unfold divS; rw [← hg2, if_neg h_63]
        have hok := divS_ok (e := e) (iv := iv) (B := G q) (sh := n) (by omega) h1 h2 (fun x hx => hBo.above (wd_le q) (by omega)) (by omega)
        refine ih (divS pr iv (G q) e u n) _ H locs ls hok.1 hok.2 (by omega) (by omega) (by rw [← he]; exact hz) w ?_ ?_
        · rw [e1, eGw2, eGw1]
          show va_up (va_up G1 t (va_up (G1 t) n g)) k _ = va_up (va_up G t (va_up u.2 n g)) k (addS pr u.1 (pr - g) n (G q))
          rw [va_up_ne _ _ (Ne.symm htk), va_up_ne _ _ hqt, hGk, hGq, hGt, eG]
          funext j
          unfold va_up
          split
          · rfl
          · split <;> rfl
        · rw [show (n : Int) - 1 = ((n + 1 : Nat) : Int) - 1 + (-1) by omega]; exact lv_sub hl [2, 3, 4, 5, 6, 0] rfl
end DV
theorem c_Ar_divide {l : Launch} {D : va_G} {cs : Nat → ClassId} {A : Nat → Prop} {ad : Nat → Nat} {T : Nat} (hT : 132 ≤ T) {G : Nat → Nat → Int} {O : Nat → va_E} {pr : Int} {inv : Nat → Int} (hO : arO cs ad pr inv O) {k q t : Nat} (hk : k < 61) (hq : q < 61) (ht : t < 61) (hqk : q ≠ k) (htk : t ≠ k) (hqt : q ≠ t) (hA : okp pr (wd k) (G k)) (hB : okp pr (wd q) (G q)) (hQ : ok (wd t) (G t)) (hdt : dg 300 (G k) - dg 300 (G q) < wd t) : Cv l y_Ar_divide ws_Ar_divide { frames := 2, cells := 0, slots := 0, locals := 47 } D cs A ad T [.ref (ad (123)), .ref (ad (2 * k)), .ref (ad (2 * q)), .ref (ad (2 * t))] (mkV cs ad (rV G) O) (fun C' => C' = mkV cs ad (rV (va_up (va_up G t (dvm pr inv (G k) (G q)).2) k (dvm pr inv (G k) (G q)).1)) O) := by
  refine w_bodyV (by decide) (Nat.le_of_ble_eq_true rfl) ?_
  intro p e s m below meth c X hr hlk hml w ls hl
  have hl : lv_has ls 7 [(0, .ref (ad (123))), (1, .ref (ad (2 * k))), (2, .ref (ad (2 * q))), (3, .ref (ad (2 * t)))] := hl
  have hpr := hO.2.2.1
  have hAo := hA.ok hpr.2
  have hBo := hB.ok hpr.2
  have hd := hAo.dlt 300
  have hd0 := dg_ge 300 (G k)
  have hdq := hBo.dlt 300
  have hdq0 := dg_ge 300 (G q)
  have hw := wd_lt k
  have hw2 := wd_lt q
  refine lv_aload_n X.1 X.2.1 d_Ar_divide_0 rfl (lv_at hl 3 rfl) ?_
  refine w_cVv (n := 0) (i := 2 * t) (ci := 0) (As := []) (rest := []) X w hml hl.1 (c_Po_clear hT (G := G) (k := t) ht hQ) (by omega) (mkV_o ht) rfl k_m_Ar_76 k_im_Po_clear k_se_Po_clear k_i_Po k_co_Po_clear (by decide +kernel) rfl ⟨Nat.le_of_ble_eq_true rfl, Nat.le_of_ble_eq_true rfl⟩ ⟨rfl, rfl⟩ ⟨Nat.zero_le _, Nat.zero_le _⟩ rfl (Nat.le_of_ble_eq_true rfl) d_Ar_divide_1 (fun C' H locs hp w => ?_)
  subst hp
  obtain ⟨Gw1, eGw1⟩ : ∃ gg : Nat → Nat → Int, gg = va_up G t (fun _ => 0) := ⟨_, rfl⟩
  rw [← eGw1] at w
  have hGq : Gw1 q = G q := by rw [eGw1, va_up_ne _ _ hqt]
  have hGk : Gw1 k = G k := by rw [eGw1, va_up_ne _ _ (Ne.symm htk)]
  have hdG : dg 300 (Gw1 q) = dg 300 (G q) := by rw [hGq]
  have hdK : dg 300 (Gw1 k) = dg 300 (G k) := by rw [hGk]
  refine lv_aload_n X.1 X.2.1 d_Ar_divide_4 rfl (lv_at hl 2 rfl) ?_
  refine g_deg (k := q) X hT w (by omega) k_f_Ar_52 d_Ar_divide_5 ?_
  refine z_ge (a := dg 300 (Gw1 q)) (tgt := 12) X (by omega) d_Ar_divide_8 (by decide) (fun h_8 => ?_) (fun h_8 => ?_)
  · refine lv_aload_n X.1 X.2.1 d_Ar_divide_12 rfl (lv_at hl 0 rfl) ?_
    refine t_ar X hT w hO 2 (by decide) k_f_Ar_9 rfl d_Ar_divide_13 ?_
    refine lv_aload_n X.1 X.2.1 d_Ar_divide_16 rfl (lv_at hl 2 rfl) ?_
    refine w_cVi (n := 0) (i := 2 * q) (ci := 0) (As := []) (rest := [.ref (ad (124))]) X w hml hl.1 (c_Po_lead hT (G := Gw1) (k := q) hq (by rw [hGq]; exact hBo)) (by omega) (mkV_o hq) rfl k_m_Ar_68 k_im_Po_lead k_se_Po_lead k_i_Po k_co_Po_lead (by decide +kernel) rfl ⟨Nat.le_of_ble_eq_true rfl, Nat.le_of_ble_eq_true rfl⟩ ⟨rfl, rfl⟩ ⟨Nat.zero_le _, Nat.zero_le _⟩ rfl (Nat.le_of_ble_eq_true rfl) d_Ar_divide_17 (fun r' C' H locs hp w => ?_)
    obtain ⟨rfl, rfl⟩ := hp
    rw [hGq, if_neg (show ¬ dg 300 (G q) < 0 by omega)]
    have hld := hB.lead (by omega)
    have hiv := hO.inv hld
    refine t_in (z := G q (dg 300 (G q)).toNat) X hT w hO ((G q (dg 300 (G q)).toNat).toNat) (by omega) (by omega) d_Ar_divide_20 ?_
    refine lv_istore (lv' := [(4, .int (iI (inv ((G q (dg 300 (G q)).toNat).toNat)))), (0, .ref (ad (123))), (1, .ref (ad (2 * k))), (2, .ref (ad (2 * q))), (3, .ref (ad (2 * t)))]) X.1 X.2.1 d_Ar_divide_21 hl (by decide) rfl (fun ls hl => ?_)
    refine lv_aload_n X.1 X.2.1 d_Ar_divide_23 rfl (lv_at hl 2 rfl) ?_
    refine g_deg (k := k) X hT w (by omega) k_f_Ar_52 d_Ar_divide_24 ?_
    refine lv_aload_n X.1 X.2.1 d_Ar_divide_27 rfl (lv_at hl 3 rfl) ?_
    refine g_deg (k := q) X hT w (by omega) k_f_Ar_52 d_Ar_divide_28 ?_
    refine i_sub (a := dg 300 (Gw1 k)) (b := dg 300 (Gw1 q)) X d_Ar_divide_31 ?_
    refine lv_istore (lv' := [(5, .int (iI ((dg 300 (Gw1 k)) - (dg 300 (Gw1 q))))), (4, .int (iI (inv ((G q (dg 300 (G q)).toNat).toNat)))), (0, .ref (ad (123))), (1, .ref (ad (2 * k))), (2, .ref (ad (2 * q))), (3, .ref (ad (2 * t)))]) X.1 X.2.1 d_Ar_divide_32 hl (by decide) rfl (fun ls hl => ?_)
    by_cases h9 : 0 ≤ dg 300 (G k) - dg 300 (G q) + 1
    · refine l_Ar_divide (G := G) (iv := inv (G q (dg 300 (G q)).toNat).toNat) X hml hT hO hk hq ht hqk htk hqt hB (by omega) (by omega) (fun H locs ls w => ?_) (dg 300 (G k) - dg 300 (G q) + 1).toNat (G k, fun _ => 0) Gw1 _ _ _ hA (okp_0 _ (by omega)) (by omega) (by omega) rfl w ?_ ?_
      · refine w_vret X hr hlk w ?_ d_Ar_divide_95
        unfold dvm
        rw [if_neg (by omega)]
      · rw [eGw1]
        show _ = va_up (va_up G t (fun _ => 0)) k (G k)
        rw [show G k = va_up G t (fun _ => 0) k from (va_up_ne _ _ (Ne.symm htk)).symm, va_id]
      · rw [show (((dg 300 (G k) - dg 300 (G q) + 1).toNat : Nat) : Int) - 1 = dg 300 (Gw1 k) - dg 300 (Gw1 q) by omega]
        exact lv_sub hl [2, 3, 4, 5, 1, 0] rfl
    · refine lv_iload X.1 X.2.1 d_Ar_divide_34 (lv_at hl 0 rfl) ?_
      refine z_lt (a := (dg 300 (Gw1 k)) - (dg 300 (Gw1 q))) (tgt := 95) X (by omega) d_Ar_divide_36 (by decide) (fun h_36 => ?_) (fun h_36 => ?_)
      · refine w_vret X hr hlk w ?_ d_Ar_divide_95
        unfold dvm
        rw [if_neg (by omega), show (dg 300 (G k) - dg 300 (G q) + 1).toNat = 0 by omega]
        show mkV cs ad (rV Gw1) O = mkV cs ad (rV (va_up (va_up G t (fun _ => 0)) k (G k))) O
        rw [← eGw1, ← hGk, va_id]
      · exact absurd h_36 (by omega)
  · refine w_vret X hr hlk w ?_ d_Ar_divide_11
    unfold dvm
    rw [if_pos (by omega)]
    show mkV cs ad (rV Gw1) O = mkV cs ad (rV (va_up (va_up G t (fun _ => 0)) k (G k))) O
    rw [← eGw1, ← hGk, va_id]
