/-- made monic -/
def mon (pr : Int) (inv : Nat → Int) (F : Nat → Int) : Nat → Int := if dg 300 F < 0 then F else fun x => F x * inv (F (dg 300 F).toNat).toNat % pr
theorem okp.lead {pr : Int} {n : Nat} {F : Nat → Int} (h : okp pr n F) (hd : 0 ≤ dg 300 F) : 1 ≤ F (dg 300 F).toNat ∧ F (dg 300 F).toNat < pr := by
  have h1 := h.1 (dg 300 F).toNat
  have h2 := dg_top (n := 300) (F := F) (d := (dg 300 F).toNat) (by omega)
  omega
theorem arO.inv {cs : Nat → ClassId} {ad : Nat → Nat} {pr : Int} {inv : Nat → Int} {O : Nat → va_E} (hO : arO cs ad pr inv O) {v : Int} (h : 1 ≤ v ∧ v < pr) : (1 ≤ inv v.toNat ∧ inv v.toNat < pr) ∧ (v * inv v.toNat) % pr = 1 := by
  have := hO.2.2.2 v.toNat (by omega) (by omega)
  rw [show ((v.toNat : Nat) : Int) = v by omega] at this
  exact this
theorem mon_dg {pr : Int} {n : Nat} {F : Nat → Int} {f : Int} (hF : okp pr n F) (hn : n ≤ 300) (h : 0 ≤ dg 300 F → F (dg 300 F).toNat * f % pr ≠ 0) : dg 300 (fun x => F x * f % pr) = dg 300 F := by
  have a := dg_ge 300 F
  have b := dg_lt 300 F
  refine dg_eq a b (fun x hx => ?_) (fun x hx h3 => ?_)
  · have := h (by omega)
    rw [← hx] at this
    simpa using this
  · rw [dg_above hx h3]; simp
theorem scal_ok {pr : Int} {n : Nat} {F : Nat → Int} {f : Int} (hp : 0 < pr) (hF : okp pr n F) : okp pr n (fun x => F x * f % pr) := ⟨fun x => ⟨Int.emod_nonneg _ (by omega), Int.emod_lt_of_pos _ hp⟩, fun x hx => by show F x * f % pr = 0; rw [hF.2 x hx]; simp⟩
theorem mon_ok {pr : Int} {inv : Nat → Int} {n : Nat} {F : Nat → Int} (hp : 0 < pr) (hF : okp pr n F) : okp pr n (mon pr inv F) := by
  unfold mon
  split
  · exact hF
  · exact scal_ok hp hF
theorem c_Ar_makeMonic {l : Launch} {D : va_G} {cs : Nat → ClassId} {A : Nat → Prop} {ad : Nat → Nat} {T : Nat} (hT : 132 ≤ T) {G : Nat → Nat → Int} {O : Nat → va_E} {pr : Int} {inv : Nat → Int} (hO : arO cs ad pr inv O) {k : Nat} (hk : k < 61) (hF : okp pr (wd k) (G k)) : Cv l y_Ar_makeMonic ws_Ar_makeMonic { frames := 1, cells := 0, slots := 0, locals := 23 } D cs A ad T [.ref (ad (123)), .ref (ad (2 * k))] (mkV cs ad (rV G) O) (fun C' => C' = mkV cs ad (rV (va_up G k (mon pr inv (G k)))) O) := by
  refine w_bodyV (by decide) (Nat.le_of_ble_eq_true rfl) ?_
  intro p e s m below meth c X hr hlk hml w ls hl
  have hl : lv_has ls 2 [(0, .ref (ad (123))), (1, .ref (ad (2 * k)))] := hl
  have hpr := hO.2.2.1
  have hG := hF.ok hpr.2
  have hd := hG.dlt 300
  have hd0 := dg_ge 300 (G k)
  have hw := wd_lt k
  refine lv_aload_n X.1 X.2.1 d_Ar_makeMonic_0 rfl (lv_at hl 1 rfl) ?_
  refine g_deg (k := k) X hT w (by omega) k_f_Ar_52 d_Ar_makeMonic_1 ?_
  refine z_lt (a := dg 300 (G k)) (tgt := 21) X (by omega) d_Ar_makeMonic_4 (by decide) (fun h_4 => ?_) (fun h_4 => ?_)
  · refine w_vret X hr hlk w ?_ d_Ar_makeMonic_21
    unfold mon
    rw [if_pos (by omega), va_id]
  · refine lv_aload_n X.1 X.2.1 d_Ar_makeMonic_7 rfl (lv_at hl 0 rfl) ?_
    refine lv_aload_n X.1 X.2.1 d_Ar_makeMonic_8 rfl (lv_at hl 1 rfl) ?_
    refine lv_aload_n X.1 X.2.1 d_Ar_makeMonic_9 rfl (lv_at hl 0 rfl) ?_
    refine t_ar X hT w hO 2 (by decide) k_f_Ar_9 rfl d_Ar_makeMonic_10 ?_
    refine lv_aload_n X.1 X.2.1 d_Ar_makeMonic_13 rfl (lv_at hl 1 rfl) ?_
    refine w_cVi (n := 0) (i := 2 * k) (ci := 0) (As := []) (rest := [.ref (ad (124)), .ref (ad (2 * k)), .ref (ad (123))]) X w hml hl.1 (c_Po_lead hT (G := G) (k := k) hk hG) (by omega) (mkV_o hk) rfl k_m_Ar_68 k_im_Po_lead k_se_Po_lead k_i_Po k_co_Po_lead (by decide +kernel) rfl ⟨Nat.le_of_ble_eq_true rfl, Nat.le_of_ble_eq_true rfl⟩ ⟨rfl, rfl⟩ ⟨Nat.zero_le _, Nat.zero_le _⟩ rfl (Nat.le_of_ble_eq_true rfl) d_Ar_makeMonic_14 (fun r' C' H locs hp w => ?_)
    obtain ⟨rfl, rfl⟩ := hp
    rw [if_neg (show ¬ dg 300 (G k) < 0 by omega)]
    have hld := hF.lead (by omega)
    have hiv := hO.inv hld
    refine t_in (z := G k (dg 300 (G k)).toNat) X hT w hO ((G k (dg 300 (G k)).toNat).toNat) (by omega) (by omega) d_Ar_makeMonic_17 ?_
    refine w_cVv (n := 2) (i := 123) (ci := 1) (As := [.ref (ad (2 * k)), .int (iI (inv ((G k (dg 300 (G k)).toNat).toNat)))]) (rest := []) X w hml hl.1 (c_Ar_scale hT (G := G) hO (k := k) (f := inv (G k (dg 300 (G k)).toNat).toNat) hk hG (by omega) (mon_dg hF (wd_le k) (fun _ => by rw [hiv.2]; decide))) (by omega) (by rw [mkV_O (by decide)]; exact hO.1) rfl k_m_Ar_72 k_im_Ar_scale k_se_Ar_scale k_i_Ar k_co_Ar_scale (by decide +kernel) rfl ⟨Nat.le_of_ble_eq_true rfl, Nat.le_of_ble_eq_true rfl⟩ ⟨rfl, rfl⟩ ⟨Nat.zero_le _, Nat.zero_le _⟩ rfl (Nat.le_of_ble_eq_true rfl) d_Ar_makeMonic_18 (fun C' H locs hp w => ?_)
    subst hp
    obtain ⟨Gw1, eGw1⟩ : ∃ gg : Nat → Nat → Int, gg = va_up G k (fun x => G k x * inv (G k (dg 300 (G k)).toNat).toNat % pr) := ⟨_, rfl⟩
    rw [← eGw1] at w
    refine w_vret X hr hlk w ?_ d_Ar_makeMonic_21
    unfold mon
    rw [if_neg (by omega), eGw1]
/-- the derivative -/
def der (pr : Int) (F : Nat → Int) : Nat → Int := fun x => ((x : Int) + 1) * F (x + 1) % pr
section DE
variable {p : Program} {l : Launch} {e : Env} {s : State} {m : MethodId} {args : Array Value} {below : List Frame} {meth : Method} {c : Code} {H : Heap} {locs : List Loc} {Q : State → Prop} {D : va_G} {cs : Nat → ClassId} {A : Nat → Prop} {ad : Nat → Nat} {T : Nat} {O : Nat → va_E} {pr : Int} {inv : Nat → Int}
variable {k q : Nat} {G : Nat → Nat → Int}
theorem l_Ar_derive (X : Cx p s m args c b_Ar_derive RAr) (hml : c.maxLocals = 4) (hT : 132 ≤ T) (hO : arO cs ad pr inv O) (hk : k < 61) (hq : q < 61) (hqk : q ≠ k) (hA : ok (wd q) (G q)) (ht : dg 300 (G q) ≤ wd k)
    (K : ∀ (H : Heap) (locs : List Loc) (ls : Array Slot), Wd D cs A ad T s (mkV cs ad (rV (va_up G k (der pr (G q)))) O) H locs → W p l e { frames := 2, cells := 0, slots := 0, locals := 43 } s m args below meth c H locs 0 0 Q (F0 m 40 ls [])) :
    ∀ (n i : Nat) (G1 : Nat → Nat → Int) (H : Heap) (locs : List Loc) (ls : Array Slot), dg 300 (G q) + 2 ≤ i + n → 1 ≤ i → (i : Int) ≤ dg 300 (G q) + 1 ∨ i = 1 → Wd D cs A ad T s (mkV cs ad (rV G1) O) H locs → G1 = va_up G k (fun x => if x + 1 < i then ((x : Int) + 1) * G q (x + 1) % pr else 0) → lv_has ls 4 [(0, .ref (ad (123))), (1, .ref (ad (2 * k))), (2, .ref (ad (2 * q))), (3, .int (iI (i)))] → W p l e { frames := 2, cells := 0, slots := 0, locals := 43 } s m args below meth c H locs 0 0 Q (F0 m 6 ls []) := by
  have hpr := hO.2.2.1
  have hw := wd_lt k
  have hw2 := wd_le q
  have hd := hA.dlt 300
  have hd0 := dg_ge 300 (G q)
  intro n
  induction n with
  | zero =>
    intro i G1 H locs ls h1 h2 h3 w eG hl
    have hGq : G1 q = G q := by rw [eG, va_up_ne _ _ hqk]
    have hdq : dg 300 (G1 q) = dg 300 (G q) := by rw [hGq]
    refine lv_iload_n X.1 X.2.1 d_Ar_derive_6 rfl (lv_at hl 3 rfl) ?_
    refine lv_aload_n X.1 X.2.1 d_Ar_derive_7 rfl (lv_at hl 2 rfl) ?_
    refine g_deg (k := q) X hT w (by omega) k_f_Ar_52 d_Ar_derive_8 ?_
    refine i_gt (a := i) (b := dg 300 (G1 q)) (tgt := 40) X (by omega) (by omega) d_Ar_derive_11 (by decide) (fun h_11 => ?_) (fun h_11 => ?_)
    · refine K H locs ls ?_
      rw [show va_up G k (der pr (G q)) = G1 from ?_]
      · exact w
      · rw [eG]
        congr 1
        funext x
        unfold der
        split
        · rfl
        · rw [hA.above hw2 (by omega)]; simp
    · exact absurd h_11 (by omega)
  | succ n ih =>
    intro i G1 H locs ls h1 h2 h3 w eG hl
    have hGq : G1 q = G q := by rw [eG, va_up_ne _ _ hqk]
    have hdq : dg 300 (G1 q) = dg 300 (G q) := by rw [hGq]
    have hGk : G1 k = fun x => if x + 1 < i then ((x : Int) + 1) * G q (x + 1) % pr else 0 := by rw [eG, va_up_self]
    have hqi : G1 q i = G q i := by rw [hGq]
    have hai := hA.1 i
    have hm : (i : Int) ≤ 300 → 0 ≤ (i : Int) * G1 q i ∧ (i : Int) * G1 q i ≤ 10000 := by
      intro hi
      rw [hGq]
      refine ⟨Int.mul_nonneg (by omega) hai.1, ?_⟩
      have := Int.mul_le_mul hi (show G q i ≤ 13 by omega) hai.1 (by decide)
      omega
    have hok : ok (wd k) (G1 k) ∨ ¬ (i : Int) ≤ dg 300 (G1 q) := by
      by_cases h9 : (i : Int) ≤ dg 300 (G1 q)
      · refine Or.inl ?_
        rw [hGk]
        refine ⟨fun x => ?_, fun x hx => ?_⟩
        · show 0 ≤ (if x + 1 < i then ((x : Int) + 1) * G q (x + 1) % pr else 0) ∧ (if x + 1 < i then ((x : Int) + 1) * G q (x + 1) % pr else 0) < 13
          split
          · exact ⟨Int.emod_nonneg _ (by omega), by have := Int.emod_lt_of_pos (((x : Int) + 1) * G q (x + 1)) (show 0 < pr by omega); omega⟩
          · omega
        · show (if x + 1 < i then ((x : Int) + 1) * G q (x + 1) % pr else 0) = 0
          rw [if_neg (by omega)]
      · exact Or.inr h9
    refine lv_iload_n X.1 X.2.1 d_Ar_derive_6 rfl (lv_at hl 3 rfl) ?_
    refine lv_aload_n X.1 X.2.1 d_Ar_derive_7 rfl (lv_at hl 2 rfl) ?_
    refine g_deg (k := q) X hT w (by omega) k_f_Ar_52 d_Ar_derive_8 ?_
    refine i_gt (a := i) (b := dg 300 (G1 q)) (tgt := 40) X (by omega) (by omega) d_Ar_derive_11 (by decide) (fun h_11 => ?_) (fun h_11 => ?_)
    · refine K H locs ls ?_
      rw [show va_up G k (der pr (G q)) = G1 from ?_]
      · exact w
      · rw [eG]
        congr 1
        funext x
        unfold der
        split
        · rfl
        · rw [hA.above hw2 (by omega)]; simp
    · refine lv_aload_n X.1 X.2.1 d_Ar_derive_14 rfl (lv_at hl 1 rfl) ?_
      refine lv_iload_n X.1 X.2.1 d_Ar_derive_15 rfl (lv_at hl 3 rfl) ?_
      refine lv_iconst (v := iI (1)) X.1 X.2.1 d_Ar_derive_16 (by decide) ?_
      refine i_sub (a := i) (b := 1) X d_Ar_derive_17 ?_
      rw [show (i : Int) - 1 = ((i - 1 : Nat) : Int) by omega]
      refine lv_iload_n X.1 X.2.1 d_Ar_derive_18 rfl (lv_at hl 3 rfl) ?_
      refine lv_aload_n X.1 X.2.1 d_Ar_derive_19 rfl (lv_at hl 2 rfl) ?_
      refine t_co (k := q) X hT w (by omega) k_f_Ar_55 d_Ar_derive_20 ?_
      refine lv_iload_n X.1 X.2.1 d_Ar_derive_23 rfl (lv_at hl 3 rfl) ?_
      refine g_ld (k := q) (z := i) X hT w (by omega) (i) rfl (by omega) d_Ar_derive_24 ?_
      refine i_mul (a := i) (b := G1 q i) X d_Ar_derive_25 ?_
      refine lv_aload_n X.1 X.2.1 d_Ar_derive_26 rfl (lv_at hl 0 rfl) ?_
      refine t_ar X hT w hO 0 (by decide) k_f_Ar_48 rfl d_Ar_derive_27 ?_
      refine i_rem (a := i * (G1 q i)) (b := pr) X (by have := hm (by omega); omega) (by omega) d_Ar_derive_30 ?_
      refine w_cVv (n := 2) (i := 2 * k) (ci := 0) (As := [.int (iI ((i - 1 : Nat) : Int)), .int (iI ((i * (G1 q i)) % pr))]) (rest := []) X w hml hl.1 (c_Po_put hT (G := G1) (k := k) (i := i - 1) (v := (i * G1 q i) % pr) hk (by omega) ⟨Int.emod_nonneg _ (by omega), by have := Int.emod_lt_of_pos (i * G1 q i) (show 0 < pr by omega); omega⟩ (hok.resolve_right (fun h => h h_11))) (by omega) (mkV_o hk) rfl k_m_Ar_79 k_im_Po_put k_se_Po_put k_i_Po k_co_Po_put (by decide +kernel) rfl ⟨Nat.le_of_ble_eq_true rfl, Nat.le_of_ble_eq_true rfl⟩ ⟨rfl, rfl⟩ ⟨Nat.zero_le _, Nat.zero_le _⟩ rfl (Nat.le_of_ble_eq_true rfl) d_Ar_derive_31 (fun C' H locs hp w => ?_)
      subst hp
      obtain ⟨Gw1, eGw1⟩ : ∃ gg : Nat → Nat → Int, gg = va_up G1 k (va_up (G1 k) (i - 1) ((i * G1 q i) % pr)) := ⟨_, rfl⟩
      rw [← eGw1] at w
      refine i_inc (k := 3) (x := i) (lv' := [(3, .int (iI (i + 1))), (0, .ref (ad (123))), (1, .ref (ad (2 * k))), (2, .ref (ad (2 * q)))]) X d_Ar_derive_34 hl rfl (by decide) rfl (fun ls hl => ?_)
      refine lv_goto (tgt := 6) X.1 X.2.1 d_Ar_derive_37 (by decide) ?_
      refine ih (i + 1) _ H locs ls (by omega) (by omega) (by omega) w ?_ (lv_sub hl [1, 2, 3, 0] rfl)
      rw [eGw1, eG, va_uu, va_up_self, va_up_ne _ _ hqk]
      congr 1
      funext x
      by_cases h9 : x = i - 1
      · rw [h9, va_up_self, if_pos (by omega), show i - 1 + 1 = i by omega, show ((i - 1 : Nat) : Int) + 1 = i by omega]
      · rw [va_up_ne _ _ h9]; split <;> split <;> first | rfl | (exfalso; omega)
end DE
theorem c_Ar_derive {l : Launch} {D : va_G} {cs : Nat → ClassId} {A : Nat → Prop} {ad : Nat → Nat} {T : Nat} (hT : 132 ≤ T) {G : Nat → Nat → Int} {O : Nat → va_E} {pr : Int} {inv : Nat → Int} (hO : arO cs ad pr inv O) {k q : Nat} (hk : k < 61) (hq : q < 61) (hqk : q ≠ k) (hG : ok (wd k) (G k)) (hA : ok (wd q) (G q)) (ht : dg 300 (G q) ≤ wd k) : Cv l y_Ar_derive ws_Ar_derive { frames := 2, cells := 0, slots := 0, locals := 43 } D cs A ad T [.ref (ad (123)), .ref (ad (2 * k)), .ref (ad (2 * q))] (mkV cs ad (rV G) O) (fun C' => C' = mkV cs ad (rV (va_up G k (der pr (G q)))) O) := by
  refine w_bodyV (by decide) (Nat.le_of_ble_eq_true rfl) ?_
  intro p e s m below meth c X hr hlk hml w ls hl
  have hl : lv_has ls 4 [(0, .ref (ad (123))), (1, .ref (ad (2 * k))), (2, .ref (ad (2 * q)))] := hl
  have hd0 := dg_ge 300 (G q)
  refine lv_aload_n X.1 X.2.1 d_Ar_derive_0 rfl (lv_at hl 1 rfl) ?_
  refine w_cVv (n := 0) (i := 2 * k) (ci := 0) (As := []) (rest := []) X w hml hl.1 (c_Po_clear hT (G := G) (k := k) (by omega) hG) (by omega) (mkV_o (by omega)) rfl k_m_Ar_76 k_im_Po_clear k_se_Po_clear k_i_Po k_co_Po_clear (by decide +kernel) rfl ⟨Nat.le_of_ble_eq_true rfl, Nat.le_of_ble_eq_true rfl⟩ ⟨rfl, rfl⟩ ⟨Nat.zero_le _, Nat.zero_le _⟩ rfl (Nat.le_of_ble_eq_true rfl) d_Ar_derive_1 (fun C' H locs hp w => ?_)
  subst hp
  obtain ⟨Gw1, eGw1⟩ : ∃ gg : Nat → Nat → Int, gg = va_up G k (fun _ => 0) := ⟨_, rfl⟩
  rw [← eGw1] at w
  refine lv_iconst (v := iI (1)) X.1 X.2.1 d_Ar_derive_4 (by decide) ?_
  refine lv_istore_n (lv' := [(3, .int (iI (1))), (0, .ref (ad (123))), (1, .ref (ad (2 * k))), (2, .ref (ad (2 * q)))]) X.1 X.2.1 d_Ar_derive_5 rfl hl (by decide) rfl (fun ls hl => ?_)
  have e2 : Gw1 q = G q := by rw [eGw1, va_up_ne _ _ hqk]
  refine l_Ar_derive (G := Gw1) X hml hT hO hk hq hqk (by rw [e2]; exact hA) (by rw [e2]; exact ht) (fun H locs ls w => ?_) (dg 300 (G q) + 2).toNat 1 Gw1 _ _ _ (by rw [e2]; omega) (by omega) (by omega) w ?_ (lv_sub hl [1, 2, 3, 0] rfl)
  · refine w_vret X hr hlk w ?_ d_Ar_derive_40
    rw [e2, eGw1, va_uu]
  · rw [eGw1, va_uu]
    congr 1
/-- the value at v, from the n-th coefficient down -/
def hor (pr : Int) (F : Nat → Int) (v : Int) : Nat → Int → Int
  | 0, a => a
  | n + 1, a => hor pr F v n ((a * v + F n) % pr)
section EV
variable {p : Program} {l : Launch} {e : Env} {R : Room} {s : State} {m : MethodId} {args : Array Value} {below : List Frame} {meth : Method} {c : Code} {H : Heap} {locs : List Loc} {cells slots : Nat} {Q : State → Prop} {D : va_G} {cs : Nat → ClassId} {A : Nat → Prop} {ad : Nat → Nat} {T : Nat}
variable {k : Nat} {v : Int} {O : Nat → va_E} {pr : Int} {inv : Nat → Int} {G : Nat → Nat → Int}
theorem l_Ar_evaluate (X : Cx p s m args c b_Ar_evaluate RAr) {N0 : Nat} (hT : 132 ≤ T) (hO : arO cs ad pr inv O) (hk : k < 61) (hF : ok (wd k) (G k)) (hv : 0 ≤ v ∧ v < pr) (w : Wd D cs A ad T s (mkV cs ad (rV G) O) H locs)
    (K : ∀ (ls : Array Slot) (a : Int), a = hor pr (G k) v N0 0 → lv_has ls 5 [(3, .int (iI a))] → W p l e R s m args below meth c H locs cells slots Q (F0 m 36 ls [])) :
    ∀ (n : Nat) (a : Int) (ls : Array Slot), n ≤ wd k → (0 ≤ a ∧ a < pr) → hor pr (G k) v N0 0 = hor pr (G k) v n a → lv_has ls 5 [(0, .ref (ad (123))), (1, .ref (ad (2 * k))), (2, .int (iI (v))), (3, .int (iI (a))), (4, .int (iI ((n : Int) - 1)))] → W p l e R s m args below meth c H locs cells slots Q (F0 m 8 ls []) := by
  have hw := wd_lt k
  have hpr := hO.2.2.1
  intro n
  induction n with
  | zero =>
    intro a ls hn ha hh hl
    refine lv_iload X.1 X.2.1 d_Ar_evaluate_8 (lv_at hl 4 rfl) ?_
    refine z_lt (a := ((0 : Nat) : Int) - 1) (tgt := 36) X (by omega) d_Ar_evaluate_10 (by decide) (fun h_10 => ?_) (fun h_10 => ?_)
    · exact K ls a hh.symm (lv_sub hl [3] rfl)
    · exact absurd h_10 (by omega)
  | succ n ih =>
    intro a ls hn ha hh hl
    have hai := hF.1 n
    have hm : 0 ≤ a * v ∧ a * v ≤ 169 := by
      refine ⟨Int.mul_nonneg ha.1 hv.1, ?_⟩
      have := Int.mul_le_mul (show a ≤ 13 by omega) (show v ≤ 13 by omega) hv.1 (by decide)
      omega
    refine lv_iload X.1 X.2.1 d_Ar_evaluate_8 (lv_at hl 4 rfl) ?_
    refine z_lt (a := ((n + 1 : Nat) : Int) - 1) (tgt := 36) X (by omega) d_Ar_evaluate_10 (by decide) (fun h_10 => ?_) (fun h_10 => ?_)
    · exact absurd h_10 (by omega)
    · refine lv_iload_n X.1 X.2.1 d_Ar_evaluate_13 rfl (lv_at hl 3 rfl) ?_
      refine lv_iload_n X.1 X.2.1 d_Ar_evaluate_14 rfl (lv_at hl 2 rfl) ?_
      refine i_mul (a := a) (b := v) X d_Ar_evaluate_15 ?_
      refine lv_aload_n X.1 X.2.1 d_Ar_evaluate_16 rfl (lv_at hl 1 rfl) ?_
      refine t_co (k := k) X hT w (by omega) k_f_Ar_55 d_Ar_evaluate_17 ?_
      refine lv_iload X.1 X.2.1 d_Ar_evaluate_20 (lv_at hl 4 rfl) ?_
      refine g_ld (k := k) (z := ((n + 1 : Nat) : Int) - 1) X hT w (by omega) (n) (by omega) (by omega) d_Ar_evaluate_22 ?_
      refine i_add (a := a * v) (b := G k n) X d_Ar_evaluate_23 ?_
      refine lv_aload_n X.1 X.2.1 d_Ar_evaluate_24 rfl (lv_at hl 0 rfl) ?_
      refine t_ar X hT w hO 0 (by decide) k_f_Ar_48 rfl d_Ar_evaluate_25 ?_
      refine i_rem (a := (a * v) + (G k n)) (b := pr) X (by omega) (by omega) d_Ar_evaluate_28 ?_
      refine lv_istore_n (lv' := [(3, .int (iI (((a * v) + (G k n)) % pr))), (0, .ref (ad (123))), (1, .ref (ad (2 * k))), (2, .int (iI (v))), (4, .int (iI (((n + 1 : Nat) : Int) - 1)))]) X.1 X.2.1 d_Ar_evaluate_29 rfl hl (by decide) rfl (fun ls hl => ?_)
      refine i_inc (k := 4) (x := ((n + 1 : Nat) : Int) - 1) (lv' := [(4, .int (iI ((((n + 1 : Nat) : Int) - 1) + (-1)))), (3, .int (iI (((a * v) + (G k n)) % pr))), (0, .ref (ad (123))), (1, .ref (ad (2 * k))), (2, .int (iI (v)))]) X d_Ar_evaluate_30 hl rfl (by decide) rfl (fun ls hl => ?_)
      refine lv_goto (tgt := 8) X.1 X.2.1 d_Ar_evaluate_33 (by decide) ?_
      refine ih _ ls (by omega) ⟨Int.emod_nonneg _ (by omega), Int.emod_lt_of_pos _ (by omega)⟩ hh ?_
      rw [show (n : Int) - 1 = ((n + 1 : Nat) : Int) - 1 + (-1) by omega]
      exact lv_sub hl [2, 3, 4, 1, 0] rfl
end EV
theorem c_Ar_evaluate {l : Launch} {D : va_G} {cs : Nat → ClassId} {A : Nat → Prop} {ad : Nat → Nat} {T : Nat} (hT : 132 ≤ T) {G : Nat → Nat → Int} {O : Nat → va_E} {pr : Int} {inv : Nat → Int} (hO : arO cs ad pr inv O) {k : Nat} {v : Int} (hk : k < 61) (hF : ok (wd k) (G k)) (hv : 0 ≤ v ∧ v < pr) : Ci l y_Ar_evaluate ws_Ar_evaluate { frames := 0, cells := 0, slots := 0, locals := 0 } D cs A ad T [.ref (ad (123)), .ref (ad (2 * k)), .int (iI (v))] (mkV cs ad (rV G) O) (fun r C' => r = iI (hor pr (G k) v (dg 300 (G k) + 1).toNat 0) ∧ C' = mkV cs ad (rV G) O) := by
  refine w_bodyI (by decide) (Nat.le_of_ble_eq_true rfl) ?_
  intro p e s m below meth c X hr hlk hml w ls hl
  have hl : lv_has ls 5 [(0, .ref (ad (123))), (1, .ref (ad (2 * k))), (2, .int (iI (v)))] := hl
  have hpr := hO.2.2.1
  have hd := hF.dlt 300
  have hd0 := dg_ge 300 (G k)
  have hw := wd_lt k
  refine lv_iconst (v := iI (0)) X.1 X.2.1 d_Ar_evaluate_0 (by decide) ?_
  refine lv_istore_n (lv' := [(3, .int (iI (0))), (0, .ref (ad (123))), (1, .ref (ad (2 * k))), (2, .int (iI (v)))]) X.1 X.2.1 d_Ar_evaluate_1 rfl hl (by decide) rfl (fun ls hl => ?_)
  refine lv_aload_n X.1 X.2.1 d_Ar_evaluate_2 rfl (lv_at hl 2 rfl) ?_
  refine g_deg (k := k) X hT w (by omega) k_f_Ar_52 d_Ar_evaluate_3 ?_
  refine lv_istore (lv' := [(4, .int (iI (dg 300 (G k)))), (3, .int (iI (0))), (0, .ref (ad (123))), (1, .ref (ad (2 * k))), (2, .int (iI (v)))]) X.1 X.2.1 d_Ar_evaluate_6 hl (by decide) rfl (fun ls hl => ?_)
  refine l_Ar_evaluate (N0 := (dg 300 (G k) + 1).toNat) X hT hO hk hF hv w (fun ls a ha hl => ?_) (dg 300 (G k) + 1).toNat 0 ls (by omega) ⟨by omega, by omega⟩ rfl ?_
  · refine lv_iload_n X.1 X.2.1 d_Ar_evaluate_36 rfl (lv_at hl 0 rfl) ?_
    exact w_iret X hr hlk w ⟨by rw [ha], rfl⟩ d_Ar_evaluate_37
  · rw [show (((dg 300 (G k) + 1).toNat : Nat) : Int) - 1 = dg 300 (G k) by omega]
    exact lv_sub hl [2, 3, 4, 1, 0] rfl
