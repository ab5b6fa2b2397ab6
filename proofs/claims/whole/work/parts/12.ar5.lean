/-- all polynomials are in order -/
def WF (G : Nat → Nat → Int) : Prop := ∀ j, j < 61 → ok (wd j) (G j)
theorem WF.up {G : Nat → Nat → Int} (h : WF G) {k : Nat} {F : Nat → Int} (hF : ok (wd k) F) : WF (va_up G k F) := by
  intro j hj
  by_cases e : j = k
  · subst e; rw [va_up_self]; exact hF
  · rw [va_up_ne _ _ e]; exact h j hj
theorem wd_2 {k : Nat} (h : 2 ≤ k) : wd k = 25 := by unfold wd; rw [if_neg (by omega)]
theorem wd_01 {k : Nat} (h : k < 2) : wd k = 300 := by unfold wd; rw [if_pos h]
/-- one step of division takes the coefficient away -/
theorem divS_top {pr iv : Int} {B : Nat → Int} {e n N : Nat} {u : P2} (hp : 1 < pr) (h1 : okp pr N u.1) (hB : ∀ x, e < x → B x = 0) (hiv : B e * iv % pr = 1) (hz : ∀ x, n + 1 + e ≤ x → u.1 x = 0) : ∀ x, n + e ≤ x → (divS pr iv B e u n).1 x = 0 := by
  intro x hx
  have hr := h1.1 (n + e)
  obtain ⟨a, ha⟩ : ∃ a : Int, a = u.1 (n + e) := ⟨_, rfl⟩
  have e1 := Int.mul_ediv_add_emod (a * iv) pr
  have e2 := Int.mul_ediv_add_emod (B e * iv) pr
  rw [hiv] at e2
  by_cases hxe : x = n + e
  · subst hxe
    unfold divS
    rw [← ha]
    split
    · next hg =>
      rw [hg] at e1
      show u.1 (n + e) = 0
      rw [← ha] at hr ⊢
      have h3 : a = pr * (a * iv / pr * B e - a * (B e * iv / pr)) := by grind
      rw [h3] at hr
      obtain ⟨c, hc⟩ : ∃ c : Int, c = a * iv / pr * B e - a * (B e * iv / pr) := ⟨_, rfl⟩
      rw [← hc] at hr h3
      rw [h3]
      have h4 : ¬ 1 ≤ c := fun h => by have := Int.mul_le_mul_of_nonneg_left h (show 0 ≤ pr by omega); omega
      have h5 : ¬ c ≤ -1 := fun h => by have := Int.mul_le_mul_of_nonneg_left h (show 0 ≤ pr by omega); omega
      rw [show c = 0 by omega]; simp
    · show addS pr u.1 (pr - a * iv % pr) n B (n + e) = 0
      unfold addS
      rw [if_neg (by omega), show n + e - n = e by omega, ← ha]
      have h3 : a + (pr - a * iv % pr) * B e = pr * (B e + a * iv / pr * B e - a * (B e * iv / pr)) := by grind
      rw [h3, Int.mul_emod_right]
  · unfold divS
    split
    · exact hz x (by omega)
    · show addS pr u.1 _ n B x = 0
      unfold addS
      rw [if_neg (by omega), hz x (by omega), hB (x - n) (by omega)]; simp
theorem divL_top {pr iv : Int} {B : Nat → Int} {e N M : Nat} (hp : 1 < pr) (hB : ∀ x, e < x → B x = 0) (hiv : B e * iv % pr = 1) : ∀ (n : Nat) (u : P2), okp pr N u.1 → okp pr M u.2 → (∀ i x, i < n → N ≤ x + i → B x = 0) → n ≤ M → (∀ x, n + e ≤ x → u.1 x = 0) → ∀ x, e ≤ x → (divL pr iv B e n u).1 x = 0
  | 0, u, _, _, _, _, hz, x, hx => hz x (by omega)
  | n + 1, u, h1, h2, hN, hM, hz, x, hx => by
    obtain ⟨a, b⟩ := divS_ok (e := e) (iv := iv) (by omega) h1 h2 (fun x hx => hN n x (by omega) hx) (by omega)
    exact divL_top hp hB hiv n _ a b (fun i x hi => hN i x (by omega)) (by omega) (divS_top hp h1 hB hiv (fun x hx => hz x (by omega))) x hx
/-- the rest is of a lower degree -/
theorem dvm_top {cs : Nat → ClassId} {ad : Nat → Nat} {pr : Int} {inv : Nat → Int} {O : Nat → va_E} (hO : arO cs ad pr inv O) {A B : Nat → Int} {N K : Nat} (hA : okp pr N A) (hB : okp pr K B) (hN : N ≤ 300) (hK : K ≤ 300) (hd : 0 ≤ dg 300 B) : ∀ x : Nat, dg 300 B ≤ x → (dvm pr inv A B).1 x = 0 := by
  have hpr := hO.2.2.1
  have hBo := hB.ok hpr.2
  have hAo := hA.ok hpr.2
  have h1 := hAo.dlt 300
  intro x hx
  unfold dvm
  rw [if_neg (by omega)]
  refine divL_top (iv := inv (B (dg 300 B).toNat).toNat) (B := B) (e := (dg 300 B).toNat) (N := N) (M := (dg 300 A - dg 300 B + 1).toNat) (by omega) (fun x hx => hBo.above hK (by omega)) (hO.inv (hB.lead hd)).2 (dg 300 A - dg 300 B + 1).toNat (A, fun _ => 0) hA (okp_0 _ (by omega)) (fun i x hi hx => hBo.above hK (by omega)) (Nat.le_refl _) (fun x hx => hAo.above hN (by omega)) x (by omega)
theorem dvm_ok25 {cs : Nat → ClassId} {ad : Nat → Nat} {pr : Int} {inv : Nat → Int} {O : Nat → va_E} (hO : arO cs ad pr inv O) {A B : Nat → Int} {N K : Nat} (hA : okp pr N A) (hB : okp pr K B) (hN : N ≤ 300) (hK : K ≤ 300) (hd : 0 ≤ dg 300 B) {M : Nat} (hM : dg 300 B ≤ M) : okp pr M (dvm pr inv A B).1 :=
  ⟨(dvm_ok (M := 600) (by have := hO.2.2.1; omega) hA hB hN hK (hO.2.2.1).2 (by have := dg_lt 300 A; have := dg_ge 300 B; omega)).1.1, fun x hx => dvm_top hO hA hB hN hK hd x (by omega)⟩
theorem okp.mono {pr : Int} {n m : Nat} {F : Nat → Int} (h : okp pr n F) (hm : n ≤ m) : okp pr m F := ⟨h.1, fun x hx => h.2 x (by omega)⟩
/-- the product, and the product modulo M -/
def prd (pr : Int) (A B : Nat → Int) : Nat → Int := addP pr (fun _ => 0) 1 A B (dg 300 A + 1).toNat
def mulm (pr : Int) (inv : Nat → Int) (A B M : Nat → Int) : Nat → Int := (dvm pr inv (prd pr A B) M).1
theorem prd_ok {pr : Int} {A B : Nat → Int} {N n1 n2 : Nat} (hp : 0 < pr) (h13 : pr ≤ 13) (hA : okp pr n1 A) (hB : okp pr n2 B) (h2 : n2 ≤ 300) (hN : dg 300 A + dg 300 B < N) : okp pr N (prd pr A B) :=
  addP_ok hp (okp_0 N hp) _ (fun i x hi hx => (hB.ok h13).above h2 (by omega))
theorem c_Ar_multiply {l : Launch} {D : va_G} {cs : Nat → ClassId} {A : Nat → Prop} {ad : Nat → Nat} {T : Nat} (hT : 132 ≤ T) {G : Nat → Nat → Int} {O : Nat → va_E} {pr : Int} {inv : Nat → Int} (hO : arO cs ad pr inv O) {t a b d : Nat} (ht : 2 ≤ t ∧ t < 61) (ha : 2 ≤ a ∧ a < 61) (hb : 2 ≤ b ∧ b < 61) (hd : 2 ≤ d ∧ d < 61) (hW : WF G) (hA : okp pr 25 (G a)) (hB : okp pr 25 (G b)) (hM : okp pr 25 (G d)) (hdd : 0 ≤ dg 300 (G d)) : Cv l y_Ar_multiply ws_Ar_multiply { frames := 3, cells := 0, slots := 0, locals := 73 } D cs A ad T [.ref (ad (123)), .ref (ad (2 * t)), .ref (ad (2 * a)), .ref (ad (2 * b)), .ref (ad (2 * d))] (mkV cs ad (rV G) O) (fun C' => C' = mkV cs ad (rV (va_up (va_up (va_up G 0 (dvm pr inv (prd pr (G a) (G b)) (G d)).2) 1 (dvm pr inv (prd pr (G a) (G b)) (G d)).1) t (dvm pr inv (prd pr (G a) (G b)) (G d)).1)) O) := by
  refine w_bodyV (by decide) (Nat.le_of_ble_eq_true rfl) ?_
  intro p e s m below meth c X hr hlk hml w ls hl
  have hl : lv_has ls 5 [(0, .ref (ad (123))), (1, .ref (ad (2 * t))), (2, .ref (ad (2 * a))), (3, .ref (ad (2 * b))), (4, .ref (ad (2 * d)))] := hl
  have hpr := hO.2.2.1
  have hda := (hA.ok hpr.2).dlt 300
  have hdb := (hB.ok hpr.2).dlt 300
  have hdm := (hM.ok hpr.2).dlt 300
  have hda0 := dg_ge 300 (G a)
  have hdb0 := dg_ge 300 (G b)
  have w0 : wd 0 = 300 := rfl
  have w1 : wd 1 = 300 := rfl
  have wa := wd_2 ha.1
  have wb := wd_2 hb.1
  have wm := wd_2 hd.1
  have wt := wd_2 ht.1
  have hP : okp pr 300 (prd pr (G a) (G b)) := prd_ok (by omega) hpr.2 hA hB (by omega) (by omega)
  have hdP := (hP.ok hpr.2).dlt 300
  have hR : okp pr 25 (dvm pr inv (prd pr (G a) (G b)) (G d)).1 := dvm_ok25 hO hP hM (by omega) (by omega) hdd (by omega)
  refine lv_aload_n X.1 X.2.1 d_Ar_multiply_0 rfl (lv_at hl 0 rfl) ?_
  refine t_ar X hT w hO 3 (by decide) k_f_Ar_24 rfl d_Ar_multiply_1 ?_
  refine w_cVv (n := 0) (i := 2 * 1) (ci := 0) (As := []) (rest := []) X w hml hl.1 (c_Po_clear hT (G := G) (k := 1) (by omega) (hW 1 (by omega))) (by omega) (mkV_o (by omega)) rfl k_m_Ar_76 k_im_Po_clear k_se_Po_clear k_i_Po k_co_Po_clear (by decide +kernel) rfl ⟨Nat.le_of_ble_eq_true rfl, Nat.le_of_ble_eq_true rfl⟩ ⟨rfl, rfl⟩ ⟨Nat.zero_le _, Nat.zero_le _⟩ rfl (Nat.le_of_ble_eq_true rfl) d_Ar_multiply_4 (fun C' H locs hp w => ?_)
  subst hp
  obtain ⟨Gw1, eGw1⟩ : ∃ gg : Nat → Nat → Int, gg = va_up G 1 (fun _ => 0) := ⟨_, rfl⟩
  rw [← eGw1] at w
  have f1 : Gw1 1 = fun _ => 0 := by rw [eGw1, va_up_self]
  have fa : Gw1 a = G a := by rw [eGw1, va_up_ne _ _ (by omega)]
  have fb : Gw1 b = G b := by rw [eGw1, va_up_ne _ _ (by omega)]
  refine lv_aload_n X.1 X.2.1 d_Ar_multiply_7 rfl (lv_at hl 0 rfl) ?_
  refine lv_aload_n X.1 X.2.1 d_Ar_multiply_8 rfl (lv_at hl 0 rfl) ?_
  refine t_ar X hT w hO 3 (by decide) k_f_Ar_24 rfl d_Ar_multiply_9 ?_
  refine lv_iconst (v := iI (1)) X.1 X.2.1 d_Ar_multiply_12 (by decide) ?_
  refine lv_aload_n X.1 X.2.1 d_Ar_multiply_13 rfl (lv_at hl 2 rfl) ?_
  refine lv_aload_n X.1 X.2.1 d_Ar_multiply_14 rfl (lv_at hl 3 rfl) ?_
  refine w_cVv (n := 4) (i := 123) (ci := 1) (As := [.ref (ad (2 * 1)), .int (iI (1)), .ref (ad (2 * a)), .ref (ad (2 * b))]) (rest := []) X w hml hl.1 (c_Ar_addProduct hT (G := Gw1) hO (k := 1) (q := a) (r := b) (f := 1) (by omega) (by omega) (by omega) (by omega) (by omega) (by rw [f1]; exact okp_0 _ (by omega)) (by rw [fa, wa]; exact hA.ok hpr.2) (by rw [fb, wb]; exact hB.ok hpr.2) (by omega) (by rw [fa, fb, w1]; omega)) (by omega) (by rw [mkV_O (by decide)]; exact hO.1) rfl k_m_Ar_94 k_im_Ar_addProduct k_se_Ar_addProduct k_i_Ar k_co_Ar_addProduct (by decide +kernel) rfl ⟨Nat.le_of_ble_eq_true rfl, Nat.le_of_ble_eq_true rfl⟩ ⟨rfl, rfl⟩ ⟨Nat.zero_le _, Nat.zero_le _⟩ rfl (Nat.le_of_ble_eq_true rfl) d_Ar_multiply_15 (fun C' H locs hp w => ?_)
  subst hp
  obtain ⟨Gw2, eGw2⟩ : ∃ gg : Nat → Nat → Int, gg = va_up Gw1 1 (addP pr (Gw1 1) 1 (Gw1 a) (Gw1 b) (dg 300 (Gw1 a) + 1).toNat) := ⟨_, rfl⟩
  rw [← eGw2] at w
  have g1 : Gw2 1 = prd pr (G a) (G b) := by rw [eGw2, va_up_self, f1, fa, fb]; rfl
  have gm : Gw2 d = G d := by rw [eGw2, va_up_ne _ _ (by omega), eGw1, va_up_ne _ _ (by omega)]
  have g0 : Gw2 0 = G 0 := by rw [eGw2, va_up_ne _ _ (by omega), eGw1, va_up_ne _ _ (by omega)]
  refine lv_aload_n X.1 X.2.1 d_Ar_multiply_18 rfl (lv_at hl 0 rfl) ?_
  refine lv_aload_n X.1 X.2.1 d_Ar_multiply_19 rfl (lv_at hl 0 rfl) ?_
  refine t_ar X hT w hO 3 (by decide) k_f_Ar_24 rfl d_Ar_multiply_20 ?_
  refine lv_aload X.1 X.2.1 d_Ar_multiply_23 (lv_at hl 4 rfl) ?_
  refine lv_aload_n X.1 X.2.1 d_Ar_multiply_25 rfl (lv_at hl 0 rfl) ?_
  refine t_ar X hT w hO 1 (by decide) k_f_Ar_20 rfl d_Ar_multiply_26 ?_
  refine w_cVv (n := 3) (i := 123) (ci := 1) (As := [.ref (ad (2 * 1)), .ref (ad (2 * d)), .ref (ad (2 * 0))]) (rest := []) X w hml hl.1 (c_Ar_divide hT (G := Gw2) hO (k := 1) (q := d) (t := 0) (by omega) (by omega) (by omega) (by omega) (by omega) (by omega) (by rw [g1]; exact hP) (by rw [gm, wm]; exact hM) (by rw [g0]; exact hW 0 (by omega)) (by rw [g1, gm, w0]; omega)) (by omega) (by rw [mkV_O (by decide)]; exact hO.1) rfl k_m_Ar_87 k_im_Ar_divide k_se_Ar_divide k_i_Ar k_co_Ar_divide (by decide +kernel) rfl ⟨Nat.le_of_ble_eq_true rfl, Nat.le_of_ble_eq_true rfl⟩ ⟨rfl, rfl⟩ ⟨Nat.zero_le _, Nat.zero_le _⟩ rfl (Nat.le_of_ble_eq_true rfl) d_Ar_multiply_29 (fun C' H locs hp w => ?_)
  subst hp
  obtain ⟨Gw3, eGw3⟩ : ∃ gg : Nat → Nat → Int, gg = va_up (va_up Gw2 0 (dvm pr inv (Gw2 1) (Gw2 d)).2) 1 (dvm pr inv (Gw2 1) (Gw2 d)).1 := ⟨_, rfl⟩
  rw [← eGw3] at w
  rw [g1, gm] at eGw3
  have k1 : Gw3 1 = (dvm pr inv (prd pr (G a) (G b)) (G d)).1 := by rw [eGw3, va_up_self]
  have kt : Gw3 t = G t := by rw [eGw3, va_up_ne _ _ (by omega), va_up_ne _ _ (by omega), eGw2, va_up_ne _ _ (by omega), eGw1, va_up_ne _ _ (by omega)]
  refine lv_aload_n X.1 X.2.1 d_Ar_multiply_32 rfl (lv_at hl 1 rfl) ?_
  refine lv_aload_n X.1 X.2.1 d_Ar_multiply_33 rfl (lv_at hl 0 rfl) ?_
  refine t_ar X hT w hO 3 (by decide) k_f_Ar_24 rfl d_Ar_multiply_34 ?_
  refine w_cVv (n := 1) (i := 2 * t) (ci := 0) (As := [.ref (ad (2 * 1))]) (rest := []) X w hml hl.1 (c_Po_copyFrom hT (G := Gw3) (k := t) (q := 1) (by omega) (by omega) (by omega) (by rw [kt]; exact hW t (by omega)) (by rw [k1]; exact (hR.mono (by omega)).ok hpr.2) (by rw [k1, wt]; exact hR.ok hpr.2)) (by omega) (mkV_o (by omega)) rfl k_m_Ar_83 k_im_Po_copyFrom k_se_Po_copyFrom k_i_Po k_co_Po_copyFrom (by decide +kernel) rfl ⟨Nat.le_of_ble_eq_true rfl, Nat.le_of_ble_eq_true rfl⟩ ⟨rfl, rfl⟩ ⟨Nat.zero_le _, Nat.zero_le _⟩ rfl (Nat.le_of_ble_eq_true rfl) d_Ar_multiply_37 (fun C' H locs hp w => ?_)
  subst hp
  obtain ⟨Gw4, eGw4⟩ : ∃ gg : Nat → Nat → Int, gg = va_up Gw3 t (Gw3 1) := ⟨_, rfl⟩
  rw [← eGw4] at w
  refine w_vret X hr hlk w ?_ d_Ar_multiply_40
  congr 2
  rw [eGw4, k1, eGw3, eGw2, eGw1]
  funext j
  simp only [va_up]
  repeat' (first | rfl | (exfalso; omega) | split)
/-- Euclid's steps -/
def gcdL (pr : Int) (inv : Nat → Int) : Nat → (Nat → Int) → (Nat → Int) → Nat → Int
  | 0, U, _ => U
  | n + 1, U, L => if dg 300 L < 0 then U else gcdL pr inv n L (dvm pr inv U L).1
def gcdP (pr : Int) (inv : Nat → Int) (A B : Nat → Int) : Nat → Int := mon pr inv (gcdL pr inv 26 A B)
section GC
variable {p : Program} {l : Launch} {e : Env} {s : State} {m : MethodId} {args : Array Value} {below : List Frame} {meth : Method} {c : Code} {H : Heap} {locs : List Loc} {Q : State → Prop} {D : va_G} {cs : Nat → ClassId} {A : Nat → Prop} {ad : Nat → Nat} {T : Nat} {O : Nat → va_E} {pr : Int} {inv : Nat → Int}
variable {t : Nat} {G : Nat → Nat → Int}
theorem l_Ar_gcd (X : Cx p s m args c b_Ar_findCommonDivisor RAr) (hml : c.maxLocals = 8) (hT : 132 ≤ T) (hO : arO cs ad pr inv O) {Z : Nat → Int}
    (K : ∀ (u : Nat) (G1 : Nat → Nat → Int) (H : Heap) (locs : List Loc) (ls : Array Slot), Wd D cs A ad T s (mkV cs ad (rV G1) O) H locs → u = 2 ∨ u = 3 → okp pr 25 Z → G1 u = Z → WF G1 → (∀ j, j ≠ 0 → j ≠ 2 → j ≠ 3 → G1 j = G j) → lv_has ls 8 [(0, .ref (ad (123))), (1, .ref (ad (2 * t))), (4, .ref (ad (2 * u)))] → W p l e { frames := 3, cells := 0, slots := 0, locals := 73 } s m args below meth c H locs 0 0 Q (F0 m 72 ls [])) :
    ∀ (n i : Nat) (u v : Nat) (G1 : Nat → Nat → Int) (H : Heap) (locs : List Loc) (ls : Array Slot), i + n = 26 → (u = 2 ∧ v = 3) ∨ (u = 3 ∧ v = 2) → okp pr 25 (G1 u) → okp pr 25 (G1 v) → gcdL pr inv n (G1 u) (G1 v) = Z → WF G1 → (∀ j, j ≠ 0 → j ≠ 2 → j ≠ 3 → G1 j = G j) → Wd D cs A ad T s (mkV cs ad (rV G1) O) H locs → lv_has ls 8 [(0, .ref (ad (123))), (1, .ref (ad (2 * t))), (4, .ref (ad (2 * u))), (5, .ref (ad (2 * v))), (6, .int (iI (i)))] → W p l e { frames := 3, cells := 0, slots := 0, locals := 73 } s m args below meth c H locs 0 0 Q (F0 m 27 ls []) := by
  have hpr := hO.2.2.1
  intro n
  induction n with
  | zero =>
    intro i u v G1 H locs ls h1 h2 hU hL hz hW hF w hl
    refine lv_iload X.1 X.2.1 d_Ar_findCommonDivisor_27 (lv_at hl 4 rfl) ?_
    refine lv_bipush (v := iI (25)) X.1 X.2.1 d_Ar_findCommonDivisor_29 (by decide) ?_
    refine i_gt (a := i) (b := 25) (tgt := 72) X (by omega) (by omega) d_Ar_findCommonDivisor_31 (by decide) (fun h_31 => ?_) (fun h_31 => ?_)
    · exact K u G1 H locs ls w (by omega) (by rw [← hz]; exact hU) hz hW hF (lv_sub hl [0, 1, 2] rfl)
    · exact absurd h_31 (by omega)
  | succ n ih =>
    intro i u v G1 H locs ls h1 h2 hU hL hz hW hF w hl
    have hdu := (hU.ok hpr.2).dlt 300
    have hdv := (hL.ok hpr.2).dlt 300
    have hdv0 := dg_ge 300 (G1 v)
    have w0 : wd 0 = 300 := rfl
    have wu : wd u = 25 := wd_2 (by omega)
    have wv : wd v = 25 := wd_2 (by omega)
    unfold gcdL at hz
    refine lv_iload X.1 X.2.1 d_Ar_findCommonDivisor_27 (lv_at hl 4 rfl) ?_
    refine lv_bipush (v := iI (25)) X.1 X.2.1 d_Ar_findCommonDivisor_29 (by decide) ?_
    refine i_gt (a := i) (b := 25) (tgt := 72) X (by omega) (by omega) d_Ar_findCommonDivisor_31 (by decide) (fun h_31 => ?_) (fun h_31 => ?_)
    · exact absurd h_31 (by omega)
    · refine lv_aload X.1 X.2.1 d_Ar_findCommonDivisor_34 (lv_at hl 3 rfl) ?_
      refine g_deg (k := v) X hT w (by omega) k_f_Ar_52 d_Ar_findCommonDivisor_36 ?_
      refine z_lt (a := dg 300 (G1 v)) (tgt := 72) X (by omega) d_Ar_findCommonDivisor_39 (by decide) (fun h_39 => ?_) (fun h_39 => ?_)
      · rw [if_pos (by omega)] at hz
        exact K u G1 H locs ls w (by omega) (by rw [← hz]; exact hU) hz hW hF (lv_sub hl [0, 1, 2] rfl)
      · refine lv_aload_n X.1 X.2.1 d_Ar_findCommonDivisor_42 rfl (lv_at hl 0 rfl) ?_
        refine lv_aload X.1 X.2.1 d_Ar_findCommonDivisor_43 (lv_at hl 2 rfl) ?_
        refine lv_aload X.1 X.2.1 d_Ar_findCommonDivisor_45 (lv_at hl 3 rfl) ?_
        refine lv_aload_n X.1 X.2.1 d_Ar_findCommonDivisor_47 rfl (lv_at hl 0 rfl) ?_
        refine t_ar X hT w hO 1 (by decide) k_f_Ar_20 rfl d_Ar_findCommonDivisor_48 ?_
        refine w_cVv (n := 3) (i := 123) (ci := 1) (As := [.ref (ad (2 * u)), .ref (ad (2 * v)), .ref (ad (2 * 0))]) (rest := []) X w hml hl.1 (c_Ar_divide hT (G := G1) hO (k := u) (q := v) (t := 0) (by omega) (by omega) (by omega) (by omega) (by omega) (by omega) (by rw [wu]; exact hU) (by rw [wv]; exact hL) (hW 0 (by omega)) (by rw [w0]; omega)) (by omega) (by rw [mkV_O (by decide)]; exact hO.1) rfl k_m_Ar_87 k_im_Ar_divide k_se_Ar_divide k_i_Ar k_co_Ar_divide (by decide +kernel) rfl ⟨Nat.le_of_ble_eq_true rfl, Nat.le_of_ble_eq_true rfl⟩ ⟨rfl, rfl⟩ ⟨Nat.zero_le _, Nat.zero_le _⟩ rfl (Nat.le_of_ble_eq_true rfl) d_Ar_findCommonDivisor_51 (fun C' H locs hp w => ?_)
        subst hp
        obtain ⟨Gw1, eGw1⟩ : ∃ gg : Nat → Nat → Int, gg = va_up (va_up G1 0 (dvm pr inv (G1 u) (G1 v)).2) u (dvm pr inv (G1 u) (G1 v)).1 := ⟨_, rfl⟩
        rw [← eGw1] at w
        refine lv_aload X.1 X.2.1 d_Ar_findCommonDivisor_54 (lv_at hl 2 rfl) ?_
        refine lv_astore (lv' := [(7, .ref (ad (2 * u))), (0, .ref (ad (123))), (1, .ref (ad (2 * t))), (4, .ref (ad (2 * u))), (5, .ref (ad (2 * v))), (6, .int (iI (i)))]) X.1 X.2.1 d_Ar_findCommonDivisor_56 hl (by decide) rfl (fun ls hl => ?_)
        refine lv_aload X.1 X.2.1 d_Ar_findCommonDivisor_58 (lv_at hl 4 rfl) ?_
        refine lv_astore (lv' := [(4, .ref (ad (2 * v))), (7, .ref (ad (2 * u))), (0, .ref (ad (123))), (1, .ref (ad (2 * t))), (5, .ref (ad (2 * v))), (6, .int (iI (i)))]) X.1 X.2.1 d_Ar_findCommonDivisor_60 hl (by decide) rfl (fun ls hl => ?_)
        refine lv_aload X.1 X.2.1 d_Ar_findCommonDivisor_62 (lv_at hl 1 rfl) ?_
        refine lv_astore (lv' := [(5, .ref (ad (2 * u))), (4, .ref (ad (2 * v))), (7, .ref (ad (2 * u))), (0, .ref (ad (123))), (1, .ref (ad (2 * t))), (6, .int (iI (i)))]) X.1 X.2.1 d_Ar_findCommonDivisor_64 hl (by decide) rfl (fun ls hl => ?_)
        refine i_inc (k := 5) (x := i) (lv' := [(6, .int (iI (i + 1))), (5, .ref (ad (2 * u))), (4, .ref (ad (2 * v))), (7, .ref (ad (2 * u))), (0, .ref (ad (123))), (1, .ref (ad (2 * t)))]) X d_Ar_findCommonDivisor_66 hl rfl (by decide) rfl (fun ls hl => ?_)
        refine lv_goto (tgt := 27) X.1 X.2.1 d_Ar_findCommonDivisor_69 (by decide) ?_
        rw [if_neg (by omega)] at hz
        have hq := dvm_ok (inv := inv) (M := 300) (by omega) hU hL (by omega) (by omega) hpr.2 (by omega)
        have hr : okp pr 25 (dvm pr inv (G1 u) (G1 v)).1 := dvm_ok25 hO hU hL (by omega) (by omega) (by omega) (by omega)
        have fu : Gw1 u = (dvm pr inv (G1 u) (G1 v)).1 := by rw [eGw1, va_up_self]
        have fv : Gw1 v = G1 v := by rw [eGw1, va_up_ne _ _ (by omega), va_up_ne _ _ (by omega)]
        refine ih (i + 1) v u Gw1 H locs ls (by omega) (by omega) (by rw [fv]; exact hL) (by rw [fu]; exact hr) (by rw [fu, fv]; exact hz) ?_ ?_ w (lv_sub hl [4, 5, 2, 1, 0] rfl)
        · rw [eGw1]; exact (hW.up (k := 0) (hq.2.ok hpr.2)).up (k := u) (by rw [wu]; exact hr.ok hpr.2)
        · intro j j0 j2 j3; rw [eGw1, va_up_ne _ _ (by omega), va_up_ne _ _ (by omega)]; exact hF j j0 j2 j3
end GC
theorem c_Ar_findCommonDivisor {l : Launch} {D : va_G} {cs : Nat → ClassId} {A : Nat → Prop} {ad : Nat → Nat} {T : Nat} (hT : 132 ≤ T) {G : Nat → Nat → Int} {O : Nat → va_E} {pr : Int} {inv : Nat → Int} (hO : arO cs ad pr inv O) {t a b : Nat} (ht : 4 ≤ t ∧ t < 61) (ha : 4 ≤ a ∧ a < 61) (hb : 4 ≤ b ∧ b < 61) (hW : WF G) (hA : okp pr 25 (G a)) (hB : okp pr 25 (G b)) : Cv l y_Ar_findCommonDivisor ws_Ar_findCommonDivisor { frames := 3, cells := 0, slots := 0, locals := 73 } D cs A ad T [.ref (ad (123)), .ref (ad (2 * t)), .ref (ad (2 * a)), .ref (ad (2 * b))] (mkV cs ad (rV G) O) (fun C' => ∃ G', C' = mkV cs ad (rV G') O ∧ WF G' ∧ G' t = gcdP pr inv (G a) (G b) ∧ okp pr 25 (G' t) ∧ ∀ j, j ≠ 0 → j ≠ 2 → j ≠ 3 → j ≠ t → G' j = G j) := by
  refine w_bodyV (by decide) (Nat.le_of_ble_eq_true rfl) ?_
  intro p e s m below meth c X hr hlk hml w ls hl
  have hl : lv_has ls 8 [(0, .ref (ad (123))), (1, .ref (ad (2 * t))), (2, .ref (ad (2 * a))), (3, .ref (ad (2 * b)))] := hl
  have hpr := hO.2.2.1
  have wa := wd_2 (show 2 ≤ a by omega)
  have wb := wd_2 (show 2 ≤ b by omega)
  have wt := wd_2 (show 2 ≤ t by omega)
  have w2 : wd 2 = 25 := rfl
  have w3 : wd 3 = 25 := rfl
  refine lv_aload_n X.1 X.2.1 d_Ar_findCommonDivisor_0 rfl (lv_at hl 0 rfl) ?_
  refine t_ar X hT w hO 4 (by decide) k_f_Ar_27 rfl d_Ar_findCommonDivisor_1 ?_
  refine lv_astore (lv' := [(4, .ref (ad (2 * 2))), (0, .ref (ad (123))), (1, .ref (ad (2 * t))), (2, .ref (ad (2 * a))), (3, .ref (ad (2 * b)))]) X.1 X.2.1 d_Ar_findCommonDivisor_4 hl (by decide) rfl (fun ls hl => ?_)
  refine lv_aload_n X.1 X.2.1 d_Ar_findCommonDivisor_6 rfl (lv_at hl 1 rfl) ?_
  refine t_ar X hT w hO 5 (by decide) k_f_Ar_30 rfl d_Ar_findCommonDivisor_7 ?_
  refine lv_astore (lv' := [(5, .ref (ad (2 * 3))), (4, .ref (ad (2 * 2))), (0, .ref (ad (123))), (1, .ref (ad (2 * t))), (2, .ref (ad (2 * a))), (3, .ref (ad (2 * b)))]) X.1 X.2.1 d_Ar_findCommonDivisor_10 hl (by decide) rfl (fun ls hl => ?_)
  refine lv_aload X.1 X.2.1 d_Ar_findCommonDivisor_12 (lv_at hl 1 rfl) ?_
  refine lv_aload_n X.1 X.2.1 d_Ar_findCommonDivisor_14 rfl (lv_at hl 4 rfl) ?_
  refine w_cVv (n := 1) (i := 2 * 2) (ci := 0) (As := [.ref (ad (2 * a))]) (rest := []) X w hml hl.1 (c_Po_copyFrom hT (G := G) (k := 2) (q := a) (by omega) (by omega) (by omega) (hW 2 (by omega)) (hW a (by omega)) (hA.ok hpr.2)) (by omega) (mkV_o (by omega)) rfl k_m_Ar_83 k_im_Po_copyFrom k_se_Po_copyFrom k_i_Po k_co_Po_copyFrom (by decide +kernel) rfl ⟨Nat.le_of_ble_eq_true rfl, Nat.le_of_ble_eq_true rfl⟩ ⟨rfl, rfl⟩ ⟨Nat.zero_le _, Nat.zero_le _⟩ rfl (Nat.le_of_ble_eq_true rfl) d_Ar_findCommonDivisor_15 (fun C' H locs hp w => ?_)
  subst hp
  obtain ⟨Gw1, eGw1⟩ : ∃ gg : Nat → Nat → Int, gg = va_up G 2 (G a) := ⟨_, rfl⟩
  rw [← eGw1] at w
  refine lv_aload X.1 X.2.1 d_Ar_findCommonDivisor_18 (lv_at hl 0 rfl) ?_
  refine lv_aload_n X.1 X.2.1 d_Ar_findCommonDivisor_20 rfl (lv_at hl 5 rfl) ?_
  refine w_cVv (n := 1) (i := 2 * 3) (ci := 0) (As := [.ref (ad (2 * b))]) (rest := []) X w hml hl.1 (c_Po_copyFrom hT (G := Gw1) (k := 3) (q := b) (by omega) (by omega) (by omega) (by rw [eGw1, va_up_ne _ _ (by omega)]; exact hW 3 (by omega)) (by rw [eGw1, va_up_ne _ _ (by omega)]; exact hW b (by omega)) (by rw [eGw1, va_up_ne _ _ (by omega)]; exact hB.ok hpr.2)) (by omega) (mkV_o (by omega)) rfl k_m_Ar_83 k_im_Po_copyFrom k_se_Po_copyFrom k_i_Po k_co_Po_copyFrom (by decide +kernel) rfl ⟨Nat.le_of_ble_eq_true rfl, Nat.le_of_ble_eq_true rfl⟩ ⟨rfl, rfl⟩ ⟨Nat.zero_le _, Nat.zero_le _⟩ rfl (Nat.le_of_ble_eq_true rfl) d_Ar_findCommonDivisor_21 (fun C' H locs hp w => ?_)
  subst hp
  obtain ⟨Gw2, eGw2⟩ : ∃ gg : Nat → Nat → Int, gg = va_up Gw1 3 (Gw1 b) := ⟨_, rfl⟩
  rw [← eGw2] at w
  refine lv_iconst (v := iI (0)) X.1 X.2.1 d_Ar_findCommonDivisor_24 (by decide) ?_
  refine lv_istore (lv' := [(6, .int (iI (0))), (5, .ref (ad (2 * 3))), (4, .ref (ad (2 * 2))), (0, .ref (ad (123))), (1, .ref (ad (2 * t))), (2, .ref (ad (2 * a))), (3, .ref (ad (2 * b)))]) X.1 X.2.1 d_Ar_findCommonDivisor_25 hl (by decide) rfl (fun ls hl => ?_)
  have f2 : Gw2 2 = G a := by rw [eGw2, va_up_ne _ _ (by omega), eGw1, va_up_self]
  have f3 : Gw2 3 = G b := by rw [eGw2, va_up_self, eGw1, va_up_ne _ _ (by omega)]
  have eGa := eGw2
  have eGb := eGw1
  refine l_Ar_gcd (G := Gw2) (t := t) (Z := gcdL pr inv 26 (G a) (G b)) X hml hT hO (fun u G1 H locs ls w hu hZ hz hW1 hF hl => ?_) 26 0 2 3 Gw2 _ _ _ (by omega) (by omega) (by rw [f2]; exact hA) (by rw [f3]; exact hB) (by rw [f2, f3]) ?_ (fun _ _ _ _ => rfl) w (lv_sub hl [3, 4, 2, 1, 0] rfl)
  · refine lv_aload_n X.1 X.2.1 d_Ar_findCommonDivisor_72 rfl (lv_at hl 1 rfl) ?_
    refine lv_aload X.1 X.2.1 d_Ar_findCommonDivisor_73 (lv_at hl 2 rfl) ?_
    refine w_cVv (n := 1) (i := 2 * t) (ci := 0) (As := [.ref (ad (2 * u))]) (rest := []) X w hml hl.1 (c_Po_copyFrom hT (G := G1) (k := t) (q := u) (by omega) (by omega) (by omega) (hW1 t (by omega)) (hW1 u (by omega)) (by rw [hz, wt]; exact hZ.ok hpr.2)) (by omega) (mkV_o (by omega)) rfl k_m_Ar_83 k_im_Po_copyFrom k_se_Po_copyFrom k_i_Po k_co_Po_copyFrom (by decide +kernel) rfl ⟨Nat.le_of_ble_eq_true rfl, Nat.le_of_ble_eq_true rfl⟩ ⟨rfl, rfl⟩ ⟨Nat.zero_le _, Nat.zero_le _⟩ rfl (Nat.le_of_ble_eq_true rfl) d_Ar_findCommonDivisor_75 (fun C' H locs hp w => ?_)
    subst hp
    obtain ⟨Gw1, eGw1⟩ : ∃ gg : Nat → Nat → Int, gg = va_up G1 t (G1 u) := ⟨_, rfl⟩
    rw [← eGw1] at w
    refine lv_aload_n X.1 X.2.1 d_Ar_findCommonDivisor_78 rfl (lv_at hl 0 rfl) ?_
    refine lv_aload_n X.1 X.2.1 d_Ar_findCommonDivisor_79 rfl (lv_at hl 1 rfl) ?_
    refine w_cVv (n := 1) (i := 123) (ci := 1) (As := [.ref (ad (2 * t))]) (rest := []) X w hml hl.1 (c_Ar_makeMonic hT (G := Gw1) hO (k := t) (by omega) (by rw [eGw1, va_up_self, hz, wt]; exact hZ)) (by omega) (by rw [mkV_O (by decide)]; exact hO.1) rfl k_m_Ar_91 k_im_Ar_makeMonic k_se_Ar_makeMonic k_i_Ar k_co_Ar_makeMonic (by decide +kernel) rfl ⟨Nat.le_of_ble_eq_true rfl, Nat.le_of_ble_eq_true rfl⟩ ⟨rfl, rfl⟩ ⟨Nat.zero_le _, Nat.zero_le _⟩ rfl (Nat.le_of_ble_eq_true rfl) d_Ar_findCommonDivisor_80 (fun C' H locs hp w => ?_)
    subst hp
    obtain ⟨Gw2, eGw2⟩ : ∃ gg : Nat → Nat → Int, gg = va_up Gw1 t (mon pr inv (Gw1 t)) := ⟨_, rfl⟩
    rw [← eGw2] at w
    have ft : Gw2 t = gcdP pr inv (G a) (G b) := by rw [eGw2, va_up_self, eGw1, va_up_self, hz]; rfl
    have hg : okp pr 25 (gcdP pr inv (G a) (G b)) := mon_ok (by omega) hZ
    refine w_vret X hr hlk w ⟨Gw2, rfl, ?_, ft, by rw [ft]; exact hg, fun j j0 j2 j3 jt => ?_⟩ d_Ar_findCommonDivisor_83
    · rw [eGw2, eGw1]; exact (hW1.up (by rw [hz, wt]; exact hZ.ok hpr.2)).up (by rw [va_up_self, hz, wt]; exact (mon_ok (by omega) hZ).ok hpr.2)
    · rw [eGw2, va_up_ne _ _ jt, eGw1, va_up_ne _ _ jt, hF j j0 j2 j3, eGa, va_up_ne _ _ j3, eGb, va_up_ne _ _ j2]
  · rw [eGw2, eGw1]; exact (hW.up (k := 2) (hA.ok hpr.2)).up (k := 3) (by rw [va_up_ne _ _ (by omega)]; exact hB.ok hpr.2)
