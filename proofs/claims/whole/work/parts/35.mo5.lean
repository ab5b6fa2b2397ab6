theorem moO.set {cs : Nat → ClassId} {ad : Nat → Nat} {th pr fc : Int} {B : Nat → va_E} (h : moO cs ad th pr fc B) (t q f : Int) : moO cs ad t q f (va_up B 132 (.inr (5, moF ad t q f))) := ⟨va_up_self _ _ _, by rw [va_up_ne _ _ (by decide)]; exact h.2.1, by rw [va_up_ne _ _ (by decide)]; exact h.2.2⟩
/-- the reference's object with other numbers in it -/
abbrev mB (ad : Nat → Nat) (B : Nat → va_E) (t q f : Int) : Nat → va_E := va_up B 132 (.inr (5, moF ad t q f))
theorem mB_id {cs : Nat → ClassId} {ad : Nat → Nat} {th pr fc : Int} {B : Nat → va_E} (h : moO cs ad th pr fc B) : mB ad B th pr fc = B := by
  unfold mB
  rw [← h.1, va_id]
theorem mB_mB {ad : Nat → Nat} {B : Nat → va_E} {t q f t' q' f' : Int} : mB ad (mB ad B t q f) t' q' f' = mB ad B t' q' f' := va_uu _ _ _ _
def limF (q : Int) : Int := if q = 2 then 24 else if q = 3 then 18 else if q = 5 then 12 else if q = 7 then 10 else if q = 11 then 8 else if q = 13 then 8 else -1
/-- an argument out of lo .. hi: 1, else 0 -/
def outF (x lo hi : Int) : Int := if x < lo ∨ hi < x then 1 else 0
theorem c_Mo_thrown {l : Launch} {D : va_G} {cs : Nat → ClassId} {A : Nat → Prop} {ad : Nat → Nat} {T : Nat} (hT : 213 ≤ T) {M : Nat → Nat → Int} {B : Nat → va_E} {th pr fc : Int} (hB : moO cs ad th pr fc B)  : Ci l y_Mo_thrown ws_Mo_thrown { frames := 0, cells := 0, slots := 0, locals := 0 } D cs A ad T [.ref (ad (132))] (mkR cs M B) (fun r C' => r = iI th ∧ C' = mkR cs M B) := by
  refine w_bodyI (by decide) (Nat.le_of_ble_eq_true rfl) ?_
  intro p e s m below meth c X hr hlk hml w ls hl
  have hl : lv_has ls 1 [(0, .ref (ad (132)))] := hl
  refine lv_aload_n X.1 X.2.1 d_Mo_thrown_0 rfl (lv_at hl 0 rfl) ?_
  refine m_get X hT w hB 0 (by decide) k_f_Mo_7 rfl d_Mo_thrown_1 ?_
  exact w_iret X hr hlk w ⟨rfl, rfl⟩ d_Mo_thrown_4
theorem c_Mo_refuse {l : Launch} {D : va_G} {cs : Nat → ClassId} {A : Nat → Prop} {ad : Nat → Nat} {T : Nat} (hT : 213 ≤ T) {M : Nat → Nat → Int} {B : Nat → va_E} {th pr fc : Int} (hB : moO cs ad th pr fc B) {k b : Int} (hb : b = 0 ∨ b = 1) : Ci l y_Mo_refuse ws_Mo_refuse { frames := 0, cells := 0, slots := 0, locals := 0 } D cs A ad T [.ref (ad (132)), .int (iI (k)), .int (iI (b))] (mkR cs M B) (fun r C' => r = iI b ∧ C' = mkR cs M (mB ad B (if b = 0 then th else k) pr fc)) := by
  refine w_bodyI (by decide) (Nat.le_of_ble_eq_true rfl) ?_
  intro p e s m below meth c X hr hlk hml w ls hl
  have hl : lv_has ls 3 [(0, .ref (ad (132))), (1, .int (iI (k))), (2, .int (iI (b)))] := hl
  refine lv_iload_n X.1 X.2.1 d_Mo_refuse_0 rfl (lv_at hl 2 rfl) ?_
  refine z_eq (a := b) (tgt := 9) X (by omega) d_Mo_refuse_1 (by decide) (fun h_1 => ?_) (fun h_1 => ?_)
  · refine lv_iload_n X.1 X.2.1 d_Mo_refuse_9 rfl (lv_at hl 2 rfl) ?_
    exact w_zret X hr (by rcases hb with h | h <;> subst h <;> rfl) hlk w ⟨rfl, by rw [if_pos (by omega), mB_id hB]⟩ d_Mo_refuse_10
  · refine lv_aload_n X.1 X.2.1 d_Mo_refuse_4 rfl (lv_at hl 0 rfl) ?_
    refine lv_iload_n X.1 X.2.1 d_Mo_refuse_5 rfl (lv_at hl 1 rfl) ?_
    refine m_pth (z := k) X hT w hB k_f_Mo_7 d_Mo_refuse_6 (fun H locs w => ?_)
    have hB := hB.set (k) (pr) (fc)
    refine lv_iload_n X.1 X.2.1 d_Mo_refuse_9 rfl (lv_at hl 2 rfl) ?_
    exact w_zret X hr (by rcases hb with h | h <;> subst h <;> rfl) hlk w ⟨rfl, by rw [if_neg (by omega)]⟩ d_Mo_refuse_10
theorem c_Mo_none {l : Launch} {D : va_G} {cs : Nat → ClassId} {A : Nat → Prop} {ad : Nat → Nat} {T : Nat} (hT : 213 ≤ T) {M : Nat → Nat → Int} {B : Nat → va_E} {th pr fc : Int} (hB : moO cs ad th pr fc B) {x : Int} (hx : rg x) : Ci l y_Mo_none ws_Mo_none { frames := 1, cells := 0, slots := 0, locals := 22 } D cs A ad T [.ref (ad (132)), .int (iI (x))] (mkR cs M B) (fun r C' => r = iI (outF x 0 15) ∧ C' = mkR cs M (mB ad B (outF x 0 15) pr fc)) := by
  refine w_bodyI (by decide) (Nat.le_of_ble_eq_true rfl) ?_
  intro p e s m below meth c X hr hlk hml w ls hl
  have hl : lv_has ls 2 [(0, .ref (ad (132))), (1, .int (iI (x)))] := hl
  refine lv_aload_n X.1 X.2.1 d_Mo_none_0 rfl (lv_at hl 0 rfl) ?_
  refine lv_iconst (v := iI (0)) X.1 X.2.1 d_Mo_none_1 (by decide) ?_
  refine m_pth (z := 0) X hT w hB k_f_Mo_7 d_Mo_none_2 (fun H locs w => ?_)
  have hB := hB.set (0) (pr) (fc)
  refine lv_aload_n X.1 X.2.1 d_Mo_none_5 rfl (lv_at hl 0 rfl) ?_
  refine lv_iconst (v := iI (1)) X.1 X.2.1 d_Mo_none_6 (by decide) ?_
  refine lv_iload_n X.1 X.2.1 d_Mo_none_7 rfl (lv_at hl 1 rfl) ?_
  refine z_lt (a := x) (tgt := 17) X (by omega) d_Mo_none_8 (by decide) (fun h_8 => ?_) (fun h_8 => ?_)
  · refine lv_iconst (v := iI (1)) X.1 X.2.1 d_Mo_none_17 (by decide) ?_
    refine lv_goto (tgt := 22) X.1 X.2.1 d_Mo_none_18 (by decide) ?_
    refine w_cVi (n := 2) (i := 132) (ci := 5) (As := [.int (iI (1)), .int (iI (1))]) (rest := []) X w hml hl.1 (c_Mo_refuse hT (M := M) hB (k := 1) (b := 1) (by omega)) (by omega) (by rw [mkR_B (by decide)]; exact hB.1) rfl k_m_Mo_61 k_im_Mo_refuse k_se_Mo_refuse k_i_Mo k_co_Mo_refuse (by decide +kernel) rfl ⟨Nat.le_of_ble_eq_true rfl, Nat.le_of_ble_eq_true rfl⟩ ⟨rfl, rfl⟩ ⟨Nat.zero_le _, Nat.zero_le _⟩ rfl (Nat.le_of_ble_eq_true rfl) d_Mo_none_22 (fun r' C' H locs hp w => ?_)
    obtain ⟨rfl, rfl⟩ := hp
    have ho : outF x 0 15 = 1 := by unfold outF; rw [if_pos (by omega)]
    refine w_zret X hr rfl hlk w ⟨by rw [ho], ?_⟩ d_Mo_none_25
    rw [ho, mB_mB]
    rfl
  · refine lv_iload_n X.1 X.2.1 d_Mo_none_11 rfl (lv_at hl 1 rfl) ?_
    refine lv_bipush (v := iI (15)) X.1 X.2.1 d_Mo_none_12 (by decide) ?_
    refine i_le (a := x) (b := 15) (tgt := 21) X (by omega) (by omega) d_Mo_none_14 (by decide) (fun h_14 => ?_) (fun h_14 => ?_)
    · refine lv_iconst (v := iI (0)) X.1 X.2.1 d_Mo_none_21 (by decide) ?_
      refine w_cVi (n := 2) (i := 132) (ci := 5) (As := [.int (iI (1)), .int (iI (0))]) (rest := []) X w hml hl.1 (c_Mo_refuse hT (M := M) hB (k := 1) (b := 0) (by omega)) (by omega) (by rw [mkR_B (by decide)]; exact hB.1) rfl k_m_Mo_61 k_im_Mo_refuse k_se_Mo_refuse k_i_Mo k_co_Mo_refuse (by decide +kernel) rfl ⟨Nat.le_of_ble_eq_true rfl, Nat.le_of_ble_eq_true rfl⟩ ⟨rfl, rfl⟩ ⟨Nat.zero_le _, Nat.zero_le _⟩ rfl (Nat.le_of_ble_eq_true rfl) d_Mo_none_22 (fun r' C' H locs hp w => ?_)
      obtain ⟨rfl, rfl⟩ := hp
      have ho : outF x 0 15 = 0 := by unfold outF; rw [if_neg (by omega)]
      refine w_zret X hr rfl hlk w ⟨by rw [ho], ?_⟩ d_Mo_none_25
      rw [ho, mB_mB]
      rfl
    · refine lv_iconst (v := iI (1)) X.1 X.2.1 d_Mo_none_17 (by decide) ?_
      refine lv_goto (tgt := 22) X.1 X.2.1 d_Mo_none_18 (by decide) ?_
      refine w_cVi (n := 2) (i := 132) (ci := 5) (As := [.int (iI (1)), .int (iI (1))]) (rest := []) X w hml hl.1 (c_Mo_refuse hT (M := M) hB (k := 1) (b := 1) (by omega)) (by omega) (by rw [mkR_B (by decide)]; exact hB.1) rfl k_m_Mo_61 k_im_Mo_refuse k_se_Mo_refuse k_i_Mo k_co_Mo_refuse (by decide +kernel) rfl ⟨Nat.le_of_ble_eq_true rfl, Nat.le_of_ble_eq_true rfl⟩ ⟨rfl, rfl⟩ ⟨Nat.zero_le _, Nat.zero_le _⟩ rfl (Nat.le_of_ble_eq_true rfl) d_Mo_none_22 (fun r' C' H locs hp w => ?_)
      obtain ⟨rfl, rfl⟩ := hp
      have ho : outF x 0 15 = 1 := by unfold outF; rw [if_pos (by omega)]
      refine w_zret X hr rfl hlk w ⟨by rw [ho], ?_⟩ d_Mo_none_25
      rw [ho, mB_mB]
      rfl
theorem c_Mo_limit {l : Launch} {D : va_G} {cs : Nat → ClassId} {A : Nat → Prop} {ad : Nat → Nat} {T : Nat} (hT : 213 ≤ T) {M : Nat → Nat → Int} {B : Nat → va_E} {q : Int} (hq : rg q) : Ci l y_Mo_limit ws_Mo_limit { frames := 0, cells := 0, slots := 0, locals := 0 } D cs A ad T [.int (iI (q))] (mkR cs M B) (fun r C' => r = iI (limF q) ∧ C' = mkR cs M B) := by
  refine w_bodyI (by decide) (Nat.le_of_ble_eq_true rfl) ?_
  intro p e s m below meth c X hr hlk hml w ls hl
  have hl : lv_has ls 1 [(0, .int (iI (q)))] := hl
  refine lv_iload_n X.1 X.2.1 d_Mo_limit_0 rfl (lv_at hl 0 rfl) ?_
  by_cases hsw : q < 2 ∨ 13 < q
  · refine lv_tableOut (tgt := 79) X.1 X.2.1 d_Mo_limit_1 (by rw [iI_toInt (by omega)]; exact hsw) (by decide) ?_
    refine lv_iconst (v := iI (-1)) X.1 X.2.1 d_Mo_limit_79 (by decide) ?_
    exact w_iret X hr hlk w ⟨by first | rfl | (unfold limF; rw [if_neg (by omega), if_neg (by omega), if_neg (by omega), if_neg (by omega), if_neg (by omega), if_neg (by omega)]), rfl⟩ d_Mo_limit_80
  · have hsw2 : q = 2 ∨ q = 3 ∨ q = 4 ∨ q = 5 ∨ q = 6 ∨ q = 7 ∨ q = 8 ∨ q = 9 ∨ q = 10 ∨ q = 11 ∨ q = 12 ∨ q = 13 := by omega
    rcases hsw2 with hsw2 | hsw2 | hsw2 | hsw2 | hsw2 | hsw2 | hsw2 | hsw2 | hsw2 | hsw2 | hsw2 | hsw2
    · subst hsw2
      refine lv_tableIn (tgt := 64) X.1 X.2.1 d_Mo_limit_1 (by decide) (by decide) rfl (by decide) ?_
      refine lv_bipush (v := iI (24)) X.1 X.2.1 d_Mo_limit_64 (by decide) ?_
      exact w_iret X hr hlk w ⟨by first | rfl | (unfold limF; rw [if_neg (by omega), if_neg (by omega), if_neg (by omega), if_neg (by omega), if_neg (by omega), if_neg (by omega)]), rfl⟩ d_Mo_limit_66
    · subst hsw2
      refine lv_tableIn (tgt := 67) X.1 X.2.1 d_Mo_limit_1 (by decide) (by decide) rfl (by decide) ?_
      refine lv_bipush (v := iI (18)) X.1 X.2.1 d_Mo_limit_67 (by decide) ?_
      exact w_iret X hr hlk w ⟨by first | rfl | (unfold limF; rw [if_neg (by omega), if_neg (by omega), if_neg (by omega), if_neg (by omega), if_neg (by omega), if_neg (by omega)]), rfl⟩ d_Mo_limit_69
    · subst hsw2
      refine lv_tableIn (tgt := 79) X.1 X.2.1 d_Mo_limit_1 (by decide) (by decide) rfl (by decide) ?_
      refine lv_iconst (v := iI (-1)) X.1 X.2.1 d_Mo_limit_79 (by decide) ?_
      exact w_iret X hr hlk w ⟨by first | rfl | (unfold limF; rw [if_neg (by omega), if_neg (by omega), if_neg (by omega), if_neg (by omega), if_neg (by omega), if_neg (by omega)]), rfl⟩ d_Mo_limit_80
    · subst hsw2
      refine lv_tableIn (tgt := 70) X.1 X.2.1 d_Mo_limit_1 (by decide) (by decide) rfl (by decide) ?_
      refine lv_bipush (v := iI (12)) X.1 X.2.1 d_Mo_limit_70 (by decide) ?_
      exact w_iret X hr hlk w ⟨by first | rfl | (unfold limF; rw [if_neg (by omega), if_neg (by omega), if_neg (by omega), if_neg (by omega), if_neg (by omega), if_neg (by omega)]), rfl⟩ d_Mo_limit_72
    · subst hsw2
      refine lv_tableIn (tgt := 79) X.1 X.2.1 d_Mo_limit_1 (by decide) (by decide) rfl (by decide) ?_
      refine lv_iconst (v := iI (-1)) X.1 X.2.1 d_Mo_limit_79 (by decide) ?_
      exact w_iret X hr hlk w ⟨by first | rfl | (unfold limF; rw [if_neg (by omega), if_neg (by omega), if_neg (by omega), if_neg (by omega), if_neg (by omega), if_neg (by omega)]), rfl⟩ d_Mo_limit_80
    · subst hsw2
      refine lv_tableIn (tgt := 73) X.1 X.2.1 d_Mo_limit_1 (by decide) (by decide) rfl (by decide) ?_
      refine lv_bipush (v := iI (10)) X.1 X.2.1 d_Mo_limit_73 (by decide) ?_
      exact w_iret X hr hlk w ⟨by first | rfl | (unfold limF; rw [if_neg (by omega), if_neg (by omega), if_neg (by omega), if_neg (by omega), if_neg (by omega), if_neg (by omega)]), rfl⟩ d_Mo_limit_75
    · subst hsw2
      refine lv_tableIn (tgt := 79) X.1 X.2.1 d_Mo_limit_1 (by decide) (by decide) rfl (by decide) ?_
      refine lv_iconst (v := iI (-1)) X.1 X.2.1 d_Mo_limit_79 (by decide) ?_
      exact w_iret X hr hlk w ⟨by first | rfl | (unfold limF; rw [if_neg (by omega), if_neg (by omega), if_neg (by omega), if_neg (by omega), if_neg (by omega), if_neg (by omega)]), rfl⟩ d_Mo_limit_80
    · subst hsw2
      refine lv_tableIn (tgt := 79) X.1 X.2.1 d_Mo_limit_1 (by decide) (by decide) rfl (by decide) ?_
      refine lv_iconst (v := iI (-1)) X.1 X.2.1 d_Mo_limit_79 (by decide) ?_
      exact w_iret X hr hlk w ⟨by first | rfl | (unfold limF; rw [if_neg (by omega), if_neg (by omega), if_neg (by omega), if_neg (by omega), if_neg (by omega), if_neg (by omega)]), rfl⟩ d_Mo_limit_80
    · subst hsw2
      refine lv_tableIn (tgt := 79) X.1 X.2.1 d_Mo_limit_1 (by decide) (by decide) rfl (by decide) ?_
      refine lv_iconst (v := iI (-1)) X.1 X.2.1 d_Mo_limit_79 (by decide) ?_
      exact w_iret X hr hlk w ⟨by first | rfl | (unfold limF; rw [if_neg (by omega), if_neg (by omega), if_neg (by omega), if_neg (by omega), if_neg (by omega), if_neg (by omega)]), rfl⟩ d_Mo_limit_80
    · subst hsw2
      refine lv_tableIn (tgt := 76) X.1 X.2.1 d_Mo_limit_1 (by decide) (by decide) rfl (by decide) ?_
      refine lv_bipush (v := iI (8)) X.1 X.2.1 d_Mo_limit_76 (by decide) ?_
      exact w_iret X hr hlk w ⟨by first | rfl | (unfold limF; rw [if_neg (by omega), if_neg (by omega), if_neg (by omega), if_neg (by omega), if_neg (by omega), if_neg (by omega)]), rfl⟩ d_Mo_limit_78
    · subst hsw2
      refine lv_tableIn (tgt := 79) X.1 X.2.1 d_Mo_limit_1 (by decide) (by decide) rfl (by decide) ?_
      refine lv_iconst (v := iI (-1)) X.1 X.2.1 d_Mo_limit_79 (by decide) ?_
      exact w_iret X hr hlk w ⟨by first | rfl | (unfold limF; rw [if_neg (by omega), if_neg (by omega), if_neg (by omega), if_neg (by omega), if_neg (by omega), if_neg (by omega)]), rfl⟩ d_Mo_limit_80
    · subst hsw2
      refine lv_tableIn (tgt := 76) X.1 X.2.1 d_Mo_limit_1 (by decide) (by decide) rfl (by decide) ?_
      refine lv_bipush (v := iI (8)) X.1 X.2.1 d_Mo_limit_76 (by decide) ?_
      exact w_iret X hr hlk w ⟨by first | rfl | (unfold limF; rw [if_neg (by omega), if_neg (by omega), if_neg (by omega), if_neg (by omega), if_neg (by omega), if_neg (by omega)]), rfl⟩ d_Mo_limit_78
theorem c_Mo_count {l : Launch} {D : va_G} {cs : Nat → ClassId} {A : Nat → Prop} {ad : Nat → Nat} {T : Nat} (hT : 213 ≤ T) {M : Nat → Nat → Int} {B : Nat → va_E} {th pr fc : Int} (hB : moO cs ad th pr fc B) {x : Int} (hx : rg x) : Ci l y_Mo_count ws_Mo_count { frames := 0, cells := 0, slots := 0, locals := 0 } D cs A ad T [.ref (ad (132)), .int (iI (x))] (mkR cs M B) (fun r C' => r = iI (if x = 0 then pr else if x = 1 then fc else -1) ∧ C' = mkR cs M (mB ad B 0 pr fc)) := by
  refine w_bodyI (by decide) (Nat.le_of_ble_eq_true rfl) ?_
  intro p e s m below meth c X hr hlk hml w ls hl
  have hl : lv_has ls 2 [(0, .ref (ad (132))), (1, .int (iI (x)))] := hl
  refine lv_aload_n X.1 X.2.1 d_Mo_count_0 rfl (lv_at hl 0 rfl) ?_
  refine lv_iconst (v := iI (0)) X.1 X.2.1 d_Mo_count_1 (by decide) ?_
  refine m_pth (z := 0) X hT w hB k_f_Mo_7 d_Mo_count_2 (fun H locs w => ?_)
  have hB := hB.set (0) (pr) (fc)
  refine lv_iload_n X.1 X.2.1 d_Mo_count_5 rfl (lv_at hl 1 rfl) ?_
  refine z_ne (a := x) (tgt := 16) X (by omega) d_Mo_count_6 (by decide) (fun h_6 => ?_) (fun h_6 => ?_)
  · refine lv_iload_n X.1 X.2.1 d_Mo_count_16 rfl (lv_at hl 1 rfl) ?_
    refine lv_iconst (v := iI (1)) X.1 X.2.1 d_Mo_count_17 (by decide) ?_
    refine i_ne (a := x) (b := 1) (tgt := 28) X (by omega) (by omega) d_Mo_count_18 (by decide) (fun h_18 => ?_) (fun h_18 => ?_)
    · refine lv_iconst (v := iI (-1)) X.1 X.2.1 d_Mo_count_28 (by decide) ?_
      exact w_iret X hr hlk w ⟨by rw [if_neg (by omega), if_neg (by omega)], rfl⟩ d_Mo_count_29
    · refine lv_aload_n X.1 X.2.1 d_Mo_count_21 rfl (lv_at hl 0 rfl) ?_
      refine m_get X hT w hB 5 (by decide) k_f_Mo_28 rfl d_Mo_count_22 ?_
      refine lv_goto (tgt := 29) X.1 X.2.1 d_Mo_count_25 (by decide) ?_
      exact w_iret X hr hlk w ⟨by rw [if_neg (by omega), if_pos (by omega)], rfl⟩ d_Mo_count_29
  · refine lv_aload_n X.1 X.2.1 d_Mo_count_9 rfl (lv_at hl 0 rfl) ?_
    refine m_get X hT w hB 1 (by decide) k_f_Mo_13 rfl d_Mo_count_10 ?_
    refine lv_goto (tgt := 29) X.1 X.2.1 d_Mo_count_13 (by decide) ?_
    exact w_iret X hr hlk w ⟨by rw [if_pos (by omega)], rfl⟩ d_Mo_count_29
/-- the registers from i on are 0 -/
def clrM (M : Nat → Nat → Int) : Nat → Nat → Int := fun r => if r < 16 then fun _ => 0 else M r
section MFI
variable {p : Program} {l : Launch} {e : Env} {s : State} {m : MethodId} {args : Array Value} {below : List Frame} {meth : Method} {c : Code} {H : Heap} {locs : List Loc} {Q : State → Prop} {D : va_G} {cs : Nat → ClassId} {A : Nat → Prop} {ad : Nat → Nat} {T : Nat} {B : Nat → va_E} {th pr fc : Int}
variable {M : Nat → Nat → Int} {was : Int}
theorem l_Mo_field {post : Int32 → (Nat → va_E) → Prop} (X : Cx p s m args c b_Mo_field RMo) (hr : meth.sig.returnType = some .int) (hlk : meth.locks = false) (hml : c.maxLocals = 4) (hT : 213 ≤ T) (hB : moO cs ad th pr fc B) (hp : post (iI was) (mkR cs (clrM M) B)) :
    ∀ (n i : Nat) (M1 : Nat → Nat → Int) (H : Heap) (locs : List Loc) (ls : Array Slot), i + n = 16 → Wd D cs A ad T s (mkR cs M1 B) H locs → WR M1 → (∀ r, M1 r = if r < i then fun _ => 0 else M r) → lv_has ls 4 [(0, .ref (ad (132))), (2, .int (iI (was))), (3, .int (iI (i)))] → W p l e { frames := 1, cells := 0, slots := 0, locals := 22 } s m args below meth c H locs 0 0 (MQ below (va_Qi post (QW D cs ad T) A) args s 0 0 A) (F0 m 44 ls []) := by
  intro n
  induction n with
  | zero =>
    intro i M1 H locs ls h1 w hW hM hl
    have hi : i = 16 := by omega
    subst hi
    have e1 : M1 = clrM M := funext fun r => hM r
    subst e1
    refine lv_iload_n X.1 X.2.1 d_Mo_field_44 rfl (lv_at hl 2 rfl) ?_
    refine lv_bipush (v := iI (16)) X.1 X.2.1 d_Mo_field_45 (by decide) ?_
    refine i_ge (a := ((16 : Nat) : Int)) (b := 16) (tgt := 65) X (by omega) (by omega) d_Mo_field_47 (by decide) (fun h_47 => ?_) (fun h_47 => ?_)
    · refine lv_iload_n X.1 X.2.1 d_Mo_field_65 rfl (lv_at hl 1 rfl) ?_
      exact w_iret X hr hlk w hp d_Mo_field_66
    · exact absurd h_47 (by omega)
  | succ n ih =>
    intro i M1 H locs ls h1 w hW hM hl
    refine lv_iload_n X.1 X.2.1 d_Mo_field_44 rfl (lv_at hl 2 rfl) ?_
    refine lv_bipush (v := iI (16)) X.1 X.2.1 d_Mo_field_45 (by decide) ?_
    refine i_ge (a := i) (b := 16) (tgt := 65) X (by omega) (by omega) d_Mo_field_47 (by decide) (fun h_47 => ?_) (fun h_47 => ?_)
    · exact absurd h_47 (by omega)
    · refine lv_aload_n X.1 X.2.1 d_Mo_field_50 rfl (lv_at hl 0 rfl) ?_
      refine m_get X hT w hB 2 (by decide) k_f_Mo_18 rfl d_Mo_field_51 ?_
      refine lv_iload_n X.1 X.2.1 d_Mo_field_54 rfl (lv_at hl 2 rfl) ?_
      refine m_aal (i := 133) (n := 16) (pl := fun i => 138 + i) (z := i) X w (by omega) (by rw [mkR_B (by decide)]; exact hB.2.1) (i) (by omega) (by omega) (by decide) d_Mo_field_55 ?_
      refine w_cSv (n := 1) (As := [.ref (ad (138 + i))]) (rest := []) X w hml hl.1 (c_Mo_clear hT (M := M1) (B := B) (a := i) (by omega) hW) k_m_Mo_69 k_st_Mo_clear k_i_Mo k_co_Mo_clear (by decide +kernel) rfl ⟨Nat.le_of_ble_eq_true rfl, Nat.le_of_ble_eq_true rfl⟩ ⟨rfl, rfl⟩ ⟨Nat.zero_le _, Nat.zero_le _⟩ rfl (Nat.le_of_ble_eq_true rfl) d_Mo_field_56 (fun C' H locs hp w => ?_)
      subst hp
      obtain ⟨Mw1, eMw1⟩ : ∃ mm : Nat → Nat → Int, mm = va_up M1 i (fun _ => 0) := ⟨_, rfl⟩
      rw [← eMw1] at w
      refine i_inc (k := 2) (x := i) (lv' := [(3, .int (iI (i + 1))), (0, .ref (ad (132))), (2, .int (iI (was)))]) X d_Mo_field_59 hl rfl (by decide) rfl (fun ls hl => ?_)
      refine lv_goto (tgt := 44) X.1 X.2.1 d_Mo_field_62 (by decide) ?_
      refine ih (i + 1) Mw1 H locs ls (by omega) w (by rw [eMw1]; exact hW.up (ok_0 _)) (fun r => ?_) (lv_sub hl [1, 2, 0] rfl)
      rw [eMw1]
      by_cases e9 : r = i
      · rw [e9, va_up_self, if_pos (by omega)]
      · rw [va_up_ne _ _ e9, hM r]; split <;> split <;> first | rfl | (exfalso; omega)
end MFI
theorem c_Mo_field {l : Launch} {D : va_G} {cs : Nat → ClassId} {A : Nat → Prop} {ad : Nat → Nat} {T : Nat} (hT : 213 ≤ T) {M : Nat → Nat → Int} {B : Nat → va_E} {th pr fc : Int} (hB : moO cs ad th pr fc B) {q : Int} (hq : rg q) (hW : WR M) : Ci l y_Mo_field ws_Mo_field { frames := 1, cells := 0, slots := 0, locals := 22 } D cs A ad T [.ref (ad (132)), .int (iI (q))] (mkR cs M B) (fun r C' => (limF q < 0 ∧ r = iI 0 ∧ C' = mkR cs M (mB ad B 1 pr fc)) ∨ (0 ≤ limF q ∧ r = iI pr ∧ C' = mkR cs (clrM M) (mB ad B 0 q 0))) := by
  refine w_bodyI (by decide) (Nat.le_of_ble_eq_true rfl) ?_
  intro p e s m below meth c X hr hlk hml w ls hl
  have hl : lv_has ls 4 [(0, .ref (ad (132))), (1, .int (iI (q)))] := hl
  have hlr : -1 ≤ limF q ∧ limF q ≤ 24 := by unfold limF; repeat' (first | omega | split)
  refine lv_aload_n X.1 X.2.1 d_Mo_field_0 rfl (lv_at hl 0 rfl) ?_
  refine lv_iconst (v := iI (0)) X.1 X.2.1 d_Mo_field_1 (by decide) ?_
  refine m_pth (z := 0) X hT w hB k_f_Mo_7 d_Mo_field_2 (fun H locs w => ?_)
  have hB := hB.set (0) (pr) (fc)
  refine lv_aload_n X.1 X.2.1 d_Mo_field_5 rfl (lv_at hl 0 rfl) ?_
  refine lv_iconst (v := iI (1)) X.1 X.2.1 d_Mo_field_6 (by decide) ?_
  refine lv_iload_n X.1 X.2.1 d_Mo_field_7 rfl (lv_at hl 1 rfl) ?_
  refine w_cSi (n := 1) (As := [.int (iI (q))]) (rest := [.int (iI (1)), .ref (ad (132))]) X w hml hl.1 (c_Mo_limit hT (M := M) (q := q) hq) k_m_Mo_65 k_st_Mo_limit k_i_Mo k_co_Mo_limit (by decide +kernel) rfl ⟨Nat.le_of_ble_eq_true rfl, Nat.le_of_ble_eq_true rfl⟩ ⟨rfl, rfl⟩ ⟨Nat.zero_le _, Nat.zero_le _⟩ rfl (Nat.le_of_ble_eq_true rfl) d_Mo_field_8 (fun r' C' H locs hp w => ?_)
  obtain ⟨rfl, rfl⟩ := hp
  refine z_ge (a := limF q) (tgt := 18) X (by omega) d_Mo_field_11 (by decide) (fun h_11 => ?_) (fun h_11 => ?_)
  · refine lv_iconst (v := iI (0)) X.1 X.2.1 d_Mo_field_18 (by decide) ?_
    refine w_cVi (n := 2) (i := 132) (ci := 5) (As := [.int (iI (1)), .int (iI (0))]) (rest := []) X w hml hl.1 (c_Mo_refuse hT (M := M) hB (k := 1) (b := 0) (by omega)) (by omega) (by rw [mkR_B (by decide)]; exact hB.1) rfl k_m_Mo_61 k_im_Mo_refuse k_se_Mo_refuse k_i_Mo k_co_Mo_refuse (by decide +kernel) rfl ⟨Nat.le_of_ble_eq_true rfl, Nat.le_of_ble_eq_true rfl⟩ ⟨rfl, rfl⟩ ⟨Nat.zero_le _, Nat.zero_le _⟩ rfl (Nat.le_of_ble_eq_true rfl) d_Mo_field_19 (fun r' C' H locs hp w => ?_)
    obtain ⟨rfl, rfl⟩ := hp
    rw [mB_mB] at w
    have hB := hB.set (if (0 : Int) = 0 then 0 else 1) pr fc
    rw [va_uu] at hB
    refine z_eq (a := 0) (tgt := 27) X (by omega) d_Mo_field_22 (by decide) (fun h_22 => ?_) (fun h_22 => ?_)
    · refine lv_aload_n X.1 X.2.1 d_Mo_field_27 rfl (lv_at hl 0 rfl) ?_
      refine m_get X hT w hB 1 (by decide) k_f_Mo_13 rfl d_Mo_field_28 ?_
      refine lv_istore_n (lv' := [(2, .int (iI (pr))), (0, .ref (ad (132))), (1, .int (iI (q)))]) X.1 X.2.1 d_Mo_field_31 rfl hl (by decide) rfl (fun ls hl => ?_)
      refine lv_aload_n X.1 X.2.1 d_Mo_field_32 rfl (lv_at hl 1 rfl) ?_
      refine lv_iload_n X.1 X.2.1 d_Mo_field_33 rfl (lv_at hl 2 rfl) ?_
      refine m_ppr (z := q) X hT w hB k_f_Mo_13 d_Mo_field_34 (fun H locs w => ?_)
      have hB := hB.set ((if (0 : Int) = 0 then 0 else 1)) (q) (fc)
      rw [va_uu] at w hB
      refine lv_aload_n X.1 X.2.1 d_Mo_field_37 rfl (lv_at hl 1 rfl) ?_
      refine lv_iconst (v := iI (0)) X.1 X.2.1 d_Mo_field_38 (by decide) ?_
      refine m_pfc (z := 0) X hT w hB k_f_Mo_28 d_Mo_field_39 (fun H locs w => ?_)
      have hB := hB.set ((if (0 : Int) = 0 then 0 else 1)) (q) (0)
      rw [va_uu] at w hB
      refine lv_iconst (v := iI (0)) X.1 X.2.1 d_Mo_field_42 (by decide) ?_
      refine lv_istore_n (lv' := [(3, .int (iI (0))), (2, .int (iI (pr))), (0, .ref (ad (132))), (1, .int (iI (q)))]) X.1 X.2.1 d_Mo_field_43 rfl hl (by decide) rfl (fun ls hl => ?_)
      exact l_Mo_field (M := M) (was := pr) X hr hlk hml hT hB (Or.inr ⟨by omega, rfl, rfl⟩) 16 0 M _ _ _ (by omega) w hW (fun r => by rw [if_neg (by omega)]) (lv_sub hl [2, 1, 0] rfl)
    · exact absurd h_22 (by omega)
  · refine lv_iconst (v := iI (1)) X.1 X.2.1 d_Mo_field_14 (by decide) ?_
    refine lv_goto (tgt := 19) X.1 X.2.1 d_Mo_field_15 (by decide) ?_
    refine w_cVi (n := 2) (i := 132) (ci := 5) (As := [.int (iI (1)), .int (iI (1))]) (rest := []) X w hml hl.1 (c_Mo_refuse hT (M := M) hB (k := 1) (b := 1) (by omega)) (by omega) (by rw [mkR_B (by decide)]; exact hB.1) rfl k_m_Mo_61 k_im_Mo_refuse k_se_Mo_refuse k_i_Mo k_co_Mo_refuse (by decide +kernel) rfl ⟨Nat.le_of_ble_eq_true rfl, Nat.le_of_ble_eq_true rfl⟩ ⟨rfl, rfl⟩ ⟨Nat.zero_le _, Nat.zero_le _⟩ rfl (Nat.le_of_ble_eq_true rfl) d_Mo_field_19 (fun r' C' H locs hp w => ?_)
    obtain ⟨rfl, rfl⟩ := hp
    rw [mB_mB] at w
    have hB := hB.set (if (1 : Int) = 0 then 0 else 1) pr fc
    rw [va_uu] at hB
    refine z_eq (a := 1) (tgt := 27) X (by omega) d_Mo_field_22 (by decide) (fun h_22 => ?_) (fun h_22 => ?_)
    · exact absurd h_22 (by omega)
    · refine lv_iconst (v := iI (0)) X.1 X.2.1 d_Mo_field_25 (by decide) ?_
      exact w_iret X hr hlk w (Or.inl ⟨by omega, rfl, rfl⟩) d_Mo_field_26
