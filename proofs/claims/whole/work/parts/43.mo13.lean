theorem k_cn_Mo_129 : Cond.constant "FieldFactorsModel" 129 (iI 100000) ∈ TB := tb_in4 (i := 79) rfl rfl
/-- one step: times x, modulo m (of degree d, u under its lead) -/
def stp (pr u : Int) (m : Nat → Int) (d : Nat) (V : Nat → Int) : Nat → Int := fun k => if k ≤ d then ((if k = 0 then 0 else V (k - 1)) - V (d - 1) * u % pr * m k) % pr else V k
def orL (pr u : Int) (m : Nat → Int) (d : Nat) : Nat → Nat → (Nat → Int) → Int
  | 0, _, _ => 0
  | k + 1, n, V => if dg 300 (stp pr u m d V) = 0 ∧ stp pr u m d V 0 = 1 then (n : Int) else orL pr u m d k (n + 1) (stp pr u m d V)
def ordR (pr : Int) (inv : Nat → Int) (A : Nat → Int) : Int := orL pr (inv (A (dg 300 A).toNat).toNat) A (dg 300 A).toNat 100000 1 oneP
theorem stp_ok {pr u : Int} {m : Nat → Int} {d n : Nat} {V : Nat → Int} (hp : 0 < pr) (hd : d < n) (hV : okp pr n V) : okp pr n (stp pr u m d V) := by
  refine ⟨fun x => ?_, fun x hx => ?_⟩
  · unfold stp
    split
    · exact ⟨Int.emod_nonneg _ (by omega), Int.emod_lt_of_pos _ hp⟩
    · exact hV.1 x
  · unfold stp
    rw [if_neg (by omega)]
    exact hV.2 x hx
section MOR
variable {p : Program} {l : Launch} {e : Env} {s : State} {m : MethodId} {args : Array Value} {below : List Frame} {meth : Method} {c : Code} {H : Heap} {locs : List Loc} {Q : State → Prop} {D : va_G} {cs : Nat → ClassId} {A : Nat → Prop} {ad : Nat → Nat} {T : Nat} {B : Nat → va_E} {th pr fc : Int}
variable {M : Nat → Nat → Int} {inv : Nat → Int} {a d n : Nat} {u : Int}
theorem l_Mo_ord_84 (X : Cx p s m args c b_Mo_order RMo) (hml : c.maxLocals = 8) (hT : 213 ≤ T) (hB : moO cs ad th pr fc B) (hd : 1 ≤ d ∧ d ≤ 24) {V : Nat → Int}
    (K : ∀ (M1 : Nat → Nat → Int) (H : Heap) (locs : List Loc) (ls : Array Slot), Wd D cs A ad T s (mkR cs M1 B) H locs → (M1 46 = fun x => if 0 < x ∧ x ≤ d then V (x - 1) else V x) → (∀ r, r ≠ 46 → M1 r = M r) → lv_has ls 8 [(0, .ref (ad (132))), (2, .ref (ad (138 + a))), (3, .int (iI (d))), (4, .int (iI (u))), (5, .int (iI (n)))] → W p l e { frames := 2, cells := 0, slots := 0, locals := 43 } s m args below meth c H locs 0 0 Q (F0 m 111 ls [])) :
    ∀ (k : Nat) (M1 : Nat → Nat → Int) (H : Heap) (locs : List Loc) (ls : Array Slot), k ≤ d → Wd D cs A ad T s (mkR cs M1 B) H locs → (M1 46 = fun x => if k < x ∧ x ≤ d then V (x - 1) else V x) → (∀ r, r ≠ 46 → M1 r = M r) → lv_has ls 8 [(0, .ref (ad (132))), (2, .ref (ad (138 + a))), (3, .int (iI (d))), (4, .int (iI (u))), (5, .int (iI (n))), (6, .int (iI (k)))] → W p l e { frames := 2, cells := 0, slots := 0, locals := 43 } s m args below meth c H locs 0 0 Q (F0 m 84 ls []) := by
  intro k
  induction k with
  | zero =>
    intro M1 H locs ls h1 w h2 h3 hl
    refine lv_iload X.1 X.2.1 d_Mo_order_84 (lv_at hl 5 rfl) ?_
    refine z_le (a := ((0 : Nat) : Int)) (tgt := 111) X (by omega) d_Mo_order_86 (by decide) (fun h_86 => ?_) (fun h_86 => ?_)
    · exact K M1 H locs ls w h2 h3 (lv_sub hl [0, 1, 2, 3, 4] rfl)
    · exact absurd h_86 (by omega)
  | succ k ih =>
    intro M1 H locs ls h1 w h2 h3 hl
    have ek : M1 46 k = V k := by rw [h2]; show (if k + 1 < k ∧ k ≤ d then V (k - 1) else V k) = V k; rw [if_neg (by omega)]
    refine lv_iload X.1 X.2.1 d_Mo_order_84 (lv_at hl 5 rfl) ?_
    refine z_le (a := ((k + 1 : Nat) : Int)) (tgt := 111) X (by omega) d_Mo_order_86 (by decide) (fun h_86 => ?_) (fun h_86 => ?_)
    · exact absurd h_86 (by omega)
    · refine lv_aload_n X.1 X.2.1 d_Mo_order_89 rfl (lv_at hl 0 rfl) ?_
      refine m_get X hT w hB 11 (by decide) k_f_Mo_46 rfl d_Mo_order_90 ?_
      refine lv_iload X.1 X.2.1 d_Mo_order_93 (lv_at hl 5 rfl) ?_
      refine lv_aload_n X.1 X.2.1 d_Mo_order_95 rfl (lv_at hl 0 rfl) ?_
      refine m_get X hT w hB 11 (by decide) k_f_Mo_46 rfl d_Mo_order_96 ?_
      refine lv_iload X.1 X.2.1 d_Mo_order_99 (lv_at hl 5 rfl) ?_
      refine lv_iconst (v := iI (1)) X.1 X.2.1 d_Mo_order_101 (by decide) ?_
      refine i_sub (a := ((k + 1 : Nat) : Int)) (b := 1) X d_Mo_order_102 ?_
      refine m_ld (r := 46) (z := ((k + 1 : Nat) : Int) - 1) X hT w (by omega) (k) (by omega) (by omega) d_Mo_order_103 ?_
      refine m_st (r := 46) (z := ((k + 1 : Nat) : Int)) (v := M1 46 k) X hT w (by omega) (k + 1) (by omega) (by omega) d_Mo_order_104 (fun H locs w => ?_)
      obtain ⟨Mw1, eMw1⟩ : ∃ mm : Nat → Nat → Int, mm = va_up M1 46 (va_up (M1 46) (k + 1) (M1 46 k)) := ⟨_, rfl⟩
      rw [← eMw1] at w
      refine i_inc (k := 5) (x := ((k + 1 : Nat) : Int)) (lv' := [(6, .int (iI (((k + 1 : Nat) : Int) + (-1)))), (0, .ref (ad (132))), (2, .ref (ad (138 + a))), (3, .int (iI (d))), (4, .int (iI (u))), (5, .int (iI (n)))]) X d_Mo_order_105 hl rfl (by decide) rfl (fun ls hl => ?_)
      refine lv_goto (tgt := 84) X.1 X.2.1 d_Mo_order_108 (by decide) ?_
      refine ih Mw1 H locs ls (by omega) w ?_ (fun r h => by rw [eMw1, va_up_ne _ _ h]; exact h3 r h) (by rw [show (k : Int) = ((k + 1 : Nat) : Int) + (-1) by omega]; exact (lv_sub hl [1, 2, 3, 4, 5, 0] rfl))
      rw [eMw1, va_up_self]
      funext x
      by_cases e9 : x = k + 1
      · rw [e9, va_up_self, ek]; show V k = if k < k + 1 ∧ k + 1 ≤ d then V (k + 1 - 1) else V (k + 1); rw [if_pos (by omega)]; rfl
      · rw [va_up_ne _ _ e9, h2]
        show (if k + 1 < x ∧ x ≤ d then V (x - 1) else V x) = if k < x ∧ x ≤ d then V (x - 1) else V x
        split <;> split <;> first | rfl | (exfalso; omega)
theorem l_Mo_ord_137 (X : Cx p s m args c b_Mo_order RMo) (hml : c.maxLocals = 8) (hT : 213 ≤ T) (hB : moO cs ad th pr fc B) (hpr : 2 ≤ pr ∧ pr ≤ 13) (ha : a < 41) (hA : okp pr 25 (M a)) (hd : 1 ≤ d ∧ d ≤ 24) {V : Nat → Int} (hV : okp pr 25 V) {q : Int} (hq : 0 ≤ q ∧ q < pr)
    (K : ∀ (M1 : Nat → Nat → Int) (H : Heap) (locs : List Loc) (ls : Array Slot), Wd D cs A ad T s (mkR cs M1 B) H locs → (M1 46 = fun x => if x ≤ d then (V x - q * M a x) % pr else V x) → (∀ r, r ≠ 46 → M1 r = M r) → lv_has ls 8 [(0, .ref (ad (132))), (2, .ref (ad (138 + a))), (3, .int (iI (d))), (4, .int (iI (u))), (5, .int (iI (n)))] → W p l e { frames := 2, cells := 0, slots := 0, locals := 43 } s m args below meth c H locs 0 0 Q (F0 m 175 ls [])) :
    ∀ (f i : Nat) (M1 : Nat → Nat → Int) (H : Heap) (locs : List Loc) (ls : Array Slot), i + f = d + 1 → Wd D cs A ad T s (mkR cs M1 B) H locs → (M1 46 = fun x => if x < i then (V x - q * M a x) % pr else V x) → (∀ r, r ≠ 46 → M1 r = M r) → lv_has ls 8 [(0, .ref (ad (132))), (2, .ref (ad (138 + a))), (3, .int (iI (d))), (4, .int (iI (u))), (5, .int (iI (n))), (6, .int (iI (q))), (7, .int (iI (i)))] → W p l e { frames := 2, cells := 0, slots := 0, locals := 43 } s m args below meth c H locs 0 0 Q (F0 m 137 ls []) := by
  intro f
  induction f with
  | zero =>
    intro i M1 H locs ls h1 w h2 h3 hl
    refine lv_iload X.1 X.2.1 d_Mo_order_137 (lv_at hl 6 rfl) ?_
    refine lv_iload_n X.1 X.2.1 d_Mo_order_139 rfl (lv_at hl 2 rfl) ?_
    refine i_gt (a := i) (b := d) (tgt := 175) X (by omega) (by omega) d_Mo_order_140 (by decide) (fun h_140 => ?_) (fun h_140 => ?_)
    · refine K M1 H locs ls w ?_ h3 (lv_sub hl [0, 1, 2, 3, 4] rfl)
      rw [h2]
      funext x
      show (if x < i then (V x - q * M a x) % pr else V x) = if x ≤ d then (V x - q * M a x) % pr else V x
      split <;> split <;> first | rfl | (exfalso; omega)
    · exact absurd h_140 (by omega)
  | succ f ih =>
    intro i M1 H locs ls h1 w h2 h3 hl
    have e1 : M1 46 i = V i := by rw [h2]; show (if i < i then _ else V i) = V i; rw [if_neg (by omega)]
    have e2 : M1 a i = M a i := by rw [h3 a (by omega)]
    have r1 := hV.1 i
    have r2 := hA.1 i
    have hm : 0 ≤ q * M1 a i ∧ q * M1 a i ≤ 169 := by
      rw [e2]
      exact ⟨Int.mul_nonneg hq.1 r2.1, by have := Int.mul_le_mul (show q ≤ 13 by omega) (show M a i ≤ 13 by omega) r2.1 (by decide); omega⟩
    refine lv_iload X.1 X.2.1 d_Mo_order_137 (lv_at hl 6 rfl) ?_
    refine lv_iload_n X.1 X.2.1 d_Mo_order_139 rfl (lv_at hl 2 rfl) ?_
    refine i_gt (a := i) (b := d) (tgt := 175) X (by omega) (by omega) d_Mo_order_140 (by decide) (fun h_140 => ?_) (fun h_140 => ?_)
    · exact absurd h_140 (by omega)
    · refine lv_aload_n X.1 X.2.1 d_Mo_order_143 rfl (lv_at hl 0 rfl) ?_
      refine m_get X hT w hB 11 (by decide) k_f_Mo_46 rfl d_Mo_order_144 ?_
      refine lv_iload X.1 X.2.1 d_Mo_order_147 (lv_at hl 6 rfl) ?_
      refine lv_aload_n X.1 X.2.1 d_Mo_order_149 rfl (lv_at hl 0 rfl) ?_
      refine lv_aload_n X.1 X.2.1 d_Mo_order_150 rfl (lv_at hl 0 rfl) ?_
      refine m_get X hT w hB 11 (by decide) k_f_Mo_46 rfl d_Mo_order_151 ?_
      refine lv_iload X.1 X.2.1 d_Mo_order_154 (lv_at hl 6 rfl) ?_
      refine m_ld (r := 46) (z := i) X hT w (by omega) (i) (by omega) (by omega) d_Mo_order_156 ?_
      refine lv_iload X.1 X.2.1 d_Mo_order_157 (lv_at hl 5 rfl) ?_
      refine lv_aload_n X.1 X.2.1 d_Mo_order_159 rfl (lv_at hl 1 rfl) ?_
      refine lv_iload X.1 X.2.1 d_Mo_order_160 (lv_at hl 6 rfl) ?_
      refine m_ld (r := a) (z := i) X hT w (by omega) (i) (by omega) (by omega) d_Mo_order_162 ?_
      refine i_mul (a := q) (b := M1 a i) X d_Mo_order_163 ?_
      refine i_sub (a := M1 46 i) (b := q * (M1 a i)) X d_Mo_order_164 ?_
      refine w_cVi (n := 1) (i := 132) (ci := 5) (As := [.int (iI ((M1 46 i) - (q * (M1 a i))))]) (rest := [.int (iI (i)), .ref (ad (138 + 46))]) X w hml hl.1 (c_Mo_inField hT (M := M1) hB (v := M1 46 i - (q * M1 a i)) (by omega) hpr) (by omega) (by rw [mkR_B (by decide)]; exact hB.1) rfl k_m_Mo_77 k_im_Mo_inField k_se_Mo_inField k_i_Mo k_co_Mo_inField (by decide +kernel) rfl ⟨Nat.le_of_ble_eq_true rfl, Nat.le_of_ble_eq_true rfl⟩ ⟨rfl, rfl⟩ ⟨Nat.zero_le _, Nat.zero_le _⟩ rfl (Nat.le_of_ble_eq_true rfl) d_Mo_order_165 (fun r' C' H locs hp w => ?_)
      obtain ⟨rfl, rfl⟩ := hp
      refine m_st (r := 46) (z := i) (v := (M1 46 i - (q * M1 a i)) % pr) X hT w (by omega) (i) (by omega) (by omega) d_Mo_order_168 (fun H locs w => ?_)
      obtain ⟨Mw1, eMw1⟩ : ∃ mm : Nat → Nat → Int, mm = va_up M1 46 (va_up (M1 46) i ((M1 46 i - (q * M1 a i)) % pr)) := ⟨_, rfl⟩
      rw [← eMw1] at w
      refine i_inc (k := 6) (x := i) (lv' := [(7, .int (iI (i + 1))), (0, .ref (ad (132))), (2, .ref (ad (138 + a))), (3, .int (iI (d))), (4, .int (iI (u))), (5, .int (iI (n))), (6, .int (iI (q)))]) X d_Mo_order_169 hl rfl (by decide) rfl (fun ls hl => ?_)
      refine lv_goto (tgt := 137) X.1 X.2.1 d_Mo_order_172 (by decide) ?_
      refine ih (i + 1) Mw1 H locs ls (by omega) w ?_ (fun r h => by rw [eMw1, va_up_ne _ _ h]; exact h3 r h) (lv_sub hl [1, 2, 3, 4, 5, 6, 0] rfl)
      rw [eMw1, va_up_self]
      funext x
      by_cases e9 : x = i
      · rw [e9, va_up_self, e1, e2]; show _ = if i < i + 1 then (V i - q * M a i) % pr else V i; rw [if_pos (by omega)]
      · rw [va_up_ne _ _ e9, h2]
        show (if x < i then (V x - q * M a x) % pr else V x) = if x < i + 1 then (V x - q * M a x) % pr else V x
        split <;> split <;> first | rfl | (exfalso; omega)
theorem l_Mo_ord_74 {post : Int32 → (Nat → va_E) → Prop} (X : Cx p s m args c b_Mo_order RMo) (hr : meth.sig.returnType = some .int) (hlk : meth.locks = false) (hml : c.maxLocals = 8) (hT : 213 ≤ T) (hB : moO cs ad th pr fc B) (hpr : 2 ≤ pr ∧ pr ≤ 13) (ha : a < 41) (hA : okp pr 25 (M a)) (hd : 1 ≤ d ∧ d ≤ 24) (hu : 0 ≤ u ∧ u < pr) {Z : Int} (hp : ∀ M1, WR M1 → (∀ r, r ≠ 46 → M1 r = M r) → post (iI Z) (mkR cs M1 B)) :
    ∀ (f n : Nat) (M1 : Nat → Nat → Int) (H : Heap) (locs : List Loc) (ls : Array Slot), n + f = 100001 → Wd D cs A ad T s (mkR cs M1 B) H locs → orL pr u (M a) d f n (M1 46) = Z → okp pr 25 (M1 46) → WR M1 → (∀ r, r ≠ 46 → M1 r = M r) → lv_has ls 8 [(0, .ref (ad (132))), (2, .ref (ad (138 + a))), (3, .int (iI (d))), (4, .int (iI (u))), (5, .int (iI (n)))] → W p l e { frames := 2, cells := 0, slots := 0, locals := 43 } s m args below meth c H locs 0 0 (MQ below (va_Qi post (QW D cs ad T) A) args s 0 0 A) (F0 m 74 ls []) := by
  intro f
  induction f with
  | zero =>
    intro n M1 H locs ls h1 w hz h46 hW hF hl
    have hz : 0 = Z := hz
    subst hz
    refine lv_iload X.1 X.2.1 d_Mo_order_74 (lv_at hl 4 rfl) ?_
    refine lv_ldc (v := iI (100000)) X.1 X.2.1 X.2.2.1 (X.2.2.2 _ k_cn_Mo_129) d_Mo_order_76 ?_
    refine i_gt (a := n) (b := 100000) (tgt := 204) X (by omega) (by omega) d_Mo_order_78 (by decide) (fun h_78 => ?_) (fun h_78 => ?_)
    · refine lv_iconst (v := iI (0)) X.1 X.2.1 d_Mo_order_204 (by decide) ?_
      exact w_iret X hr hlk w (hp M1 hW hF) d_Mo_order_205
    · exact absurd h_78 (by omega)
  | succ f ih =>
    intro n M1 H locs ls h1 w hz h46 hW hF hl
    obtain ⟨V, hV⟩ : ∃ V : Nat → Int, V = M1 46 := ⟨_, rfl⟩
    rw [← hV] at hz h46
    have hz : (if dg 300 (stp pr u (M a) d V) = 0 ∧ stp pr u (M a) d V 0 = 1 then (n : Int) else orL pr u (M a) d f (n + 1) (stp pr u (M a) d V)) = Z := hz
    have hsk := stp_ok (u := u) (m := M a) (show 0 < pr by omega) (show d < 25 by omega) h46
    obtain ⟨Y, hY⟩ : ∃ Y : Nat → Int, Y = stp pr u (M a) d V := ⟨_, rfl⟩
    rw [← hY] at hz hsk
    have hdY := (hsk.ok hpr.2).dlt 300
    have hdY0 := dg_ge 300 Y
    have rY := hsk.1 0
    refine lv_iload X.1 X.2.1 d_Mo_order_74 (lv_at hl 4 rfl) ?_
    refine lv_ldc (v := iI (100000)) X.1 X.2.1 X.2.2.1 (X.2.2.2 _ k_cn_Mo_129) d_Mo_order_76 ?_
    refine i_gt (a := n) (b := 100000) (tgt := 204) X (by omega) (by omega) d_Mo_order_78 (by decide) (fun h_78 => ?_) (fun h_78 => ?_)
    · exact absurd h_78 (by omega)
    · refine lv_iload_n X.1 X.2.1 d_Mo_order_81 rfl (lv_at hl 2 rfl) ?_
      refine lv_istore (lv' := [(6, .int (iI (d))), (0, .ref (ad (132))), (2, .ref (ad (138 + a))), (3, .int (iI (d))), (4, .int (iI (u))), (5, .int (iI (n)))]) X.1 X.2.1 d_Mo_order_82 hl (by decide) rfl (fun ls hl => ?_)
      refine l_Mo_ord_84 (M := M) (a := a) (d := d) (n := n) (u := u) X hml hT hB hd (V := V) (fun M3 H locs ls w g2 g3 hl => ?_) d M1 H locs ls (by omega) w (by rw [← hV]; funext x; rw [if_neg (by omega)]) hF (lv_sub hl [1, 2, 3, 4, 5, 0] rfl)
      refine lv_aload_n X.1 X.2.1 d_Mo_order_111 rfl (lv_at hl 0 rfl) ?_
      refine m_get X hT w hB 11 (by decide) k_f_Mo_46 rfl d_Mo_order_112 ?_
      refine lv_iconst (v := iI (0)) X.1 X.2.1 d_Mo_order_115 (by decide) ?_
      refine lv_iconst (v := iI (0)) X.1 X.2.1 d_Mo_order_116 (by decide) ?_
      refine m_st (r := 46) (z := 0) (v := 0) X hT w (by omega) (0) (by omega) (by omega) d_Mo_order_117 (fun H locs w => ?_)
      obtain ⟨Mw1, eMw1⟩ : ∃ mm : Nat → Nat → Int, mm = va_up M3 46 (va_up (M3 46) 0 (0)) := ⟨_, rfl⟩
      rw [← eMw1] at w
      have ed : Mw1 46 d = V (d - 1) := by
        rw [eMw1, va_up_self, va_up_ne _ _ (by omega), g2]
        show (if 0 < d ∧ d ≤ d then V (d - 1) else V d) = _
        rw [if_pos (by omega)]
      have rv := h46.1 (d - 1)
      have hmq : 0 ≤ V (d - 1) * u ∧ V (d - 1) * u < 2147483648 := ⟨Int.mul_nonneg rv.1 hu.1, by have := Int.mul_le_mul (show V (d - 1) ≤ 13 by omega) (show u ≤ 13 by omega) hu.1 (by decide); omega⟩
      obtain ⟨g, hg⟩ : ∃ g : Int, g = V (d - 1) * u % pr := ⟨_, rfl⟩
      have hgr : 0 ≤ g ∧ g < pr := by rw [hg]; exact ⟨Int.emod_nonneg _ (by omega), Int.emod_lt_of_pos _ (by omega)⟩
      refine lv_aload_n X.1 X.2.1 d_Mo_order_118 rfl (lv_at hl 0 rfl) ?_
      refine m_get X hT w hB 11 (by decide) k_f_Mo_46 rfl d_Mo_order_119 ?_
      refine lv_iload_n X.1 X.2.1 d_Mo_order_122 rfl (lv_at hl 2 rfl) ?_
      refine m_ld (r := 46) (z := d) X hT w (by omega) (d) (by omega) (by omega) d_Mo_order_123 ?_
      refine lv_iload X.1 X.2.1 d_Mo_order_124 (lv_at hl 3 rfl) ?_
      refine i_mul (a := Mw1 46 d) (b := u) X d_Mo_order_126 ?_
      refine lv_aload_n X.1 X.2.1 d_Mo_order_127 rfl (lv_at hl 0 rfl) ?_
      refine m_get X hT w hB 1 (by decide) k_f_Mo_13 rfl d_Mo_order_128 ?_
      refine i_rem (a := (Mw1 46 d) * u) (b := pr) X (by rw [ed]; exact hmq) (by omega) d_Mo_order_131 ?_
      rw [ed, ← hg]
      refine lv_istore (lv' := [(6, .int (iI (g))), (0, .ref (ad (132))), (2, .ref (ad (138 + a))), (3, .int (iI (d))), (4, .int (iI (u))), (5, .int (iI (n)))]) X.1 X.2.1 d_Mo_order_132 hl (by decide) rfl (fun ls hl => ?_)
      refine lv_iconst (v := iI (0)) X.1 X.2.1 d_Mo_order_134 (by decide) ?_
      refine lv_istore (lv' := [(7, .int (iI (0))), (6, .int (iI (g))), (0, .ref (ad (132))), (2, .ref (ad (138 + a))), (3, .int (iI (d))), (4, .int (iI (u))), (5, .int (iI (n)))]) X.1 X.2.1 d_Mo_order_135 hl (by decide) rfl (fun ls hl => ?_)
      have e9 : Mw1 46 = fun x => if x = 0 then 0 else if x ≤ d then V (x - 1) else V x := by
        rw [eMw1, va_up_self, g2]
        funext x
        by_cases e9 : x = 0
        · rw [e9, va_up_self, if_pos rfl]
        · rw [va_up_ne _ _ e9, if_neg e9]
          show (if 0 < x ∧ x ≤ d then V (x - 1) else V x) = if x ≤ d then V (x - 1) else V x
          split <;> split <;> first | rfl | (exfalso; omega)
      have e8 : okp pr 25 (Mw1 46) := by
        rw [e9]
        refine ⟨fun x => ?_, fun x hx => ?_⟩
        · have y1 := h46.1 x
          have y2 := h46.1 (x - 1)
          show 0 ≤ (if x = 0 then 0 else if x ≤ d then V (x - 1) else V x) ∧ (if x = 0 then 0 else if x ≤ d then V (x - 1) else V x) < pr
          split
          · omega
          · split <;> omega
        · show (if x = 0 then 0 else if x ≤ d then V (x - 1) else V x) = 0
          rw [if_neg (by omega), if_neg (by omega)]; exact h46.2 x hx
      have fa : Mw1 a = M a := by rw [eMw1, va_up_ne _ _ (by omega)]; exact g3 a (by omega)
      refine l_Mo_ord_137 (M := Mw1) (a := a) (d := d) (n := n) (u := u) X hml hT hB hpr (by omega) (by rw [fa]; exact hA) hd (V := Mw1 46) e8 (q := g) hgr (fun M4 H locs ls w q1 q2 hl => ?_) (d + 1) 0 Mw1 H locs ls (by omega) w (by funext x; rw [if_neg (by omega)]) (fun _ _ => rfl) (lv_sub hl [2, 3, 4, 5, 6, 1, 0] rfl)
      have k46 : M4 46 = Y := by
        rw [q1, hY, fa]
        funext x
        unfold stp
        rw [e9]
        show (if x ≤ d then ((if x = 0 then 0 else if x ≤ d then V (x - 1) else V x) - g * M a x) % pr else (if x = 0 then 0 else if x ≤ d then V (x - 1) else V x)) = _
        by_cases e7 : x ≤ d
        · rw [if_pos e7, if_pos e7, if_pos e7, hg]
        · rw [if_neg e7, if_neg e7, if_neg (by omega), if_neg e7]
      have k460 : M4 46 0 = Y 0 := by rw [k46]
      have hF4 : ∀ r, r ≠ 46 → M4 r = M r := fun r h => by rw [q2 r h, eMw1, va_up_ne _ _ h]; exact g3 r h
      have hW4 : WR M4 := by
        have e7 : M4 = va_up M1 46 Y := by
          funext r
          by_cases e7 : r = 46
          · rw [e7, va_up_self, k46]
          · rw [va_up_ne _ _ e7, hF4 r e7, hF r e7]
        rw [e7]
        exact hW.up ((hsk.mono (by omega)).ok hpr.2)
      refine lv_aload_n X.1 X.2.1 d_Mo_order_175 rfl (lv_at hl 0 rfl) ?_
      refine m_get X hT w hB 11 (by decide) k_f_Mo_46 rfl d_Mo_order_176 ?_
      refine w_cSi (n := 1) (As := [.ref (ad (138 + 46))]) (rest := []) X w hml hl.1 (c_Mo_degree hT (M := M4) (a := 46) (by omega) (by rw [k46]; exact (hsk.mono (by omega)).ok hpr.2)) k_m_Mo_80 k_st_Mo_degree k_i_Mo k_co_Mo_degree (by decide +kernel) rfl ⟨Nat.le_of_ble_eq_true rfl, Nat.le_of_ble_eq_true rfl⟩ ⟨rfl, rfl⟩ ⟨Nat.zero_le _, Nat.zero_le _⟩ rfl (Nat.le_of_ble_eq_true rfl) d_Mo_order_179 (fun r' C' H locs hp1 w => ?_)
      obtain ⟨rfl, rfl⟩ := hp1
      rw [k46]
      refine z_ne (a := dg 300 Y) (tgt := 198) X (by omega) d_Mo_order_182 (by decide) (fun h_182 => ?_) (fun h_182 => ?_)
      · refine i_inc (k := 4) (x := n) (lv' := [(5, .int (iI (n + 1))), (0, .ref (ad (132))), (2, .ref (ad (138 + a))), (3, .int (iI (d))), (4, .int (iI (u)))]) X d_Mo_order_198 hl rfl (by decide) rfl (fun ls hl => ?_)
        refine lv_goto (tgt := 74) X.1 X.2.1 d_Mo_order_201 (by decide) ?_
        rw [if_neg (by omega)] at hz
        exact ih (n + 1) M4 H locs ls (by omega) w (by rw [k46]; exact hz) (by rw [k46]; exact hsk) hW4 hF4 (lv_sub hl [1, 2, 3, 4, 0] rfl)
      · refine lv_aload_n X.1 X.2.1 d_Mo_order_185 rfl (lv_at hl 0 rfl) ?_
        refine m_get X hT w hB 11 (by decide) k_f_Mo_46 rfl d_Mo_order_186 ?_
        refine lv_iconst (v := iI (0)) X.1 X.2.1 d_Mo_order_189 (by decide) ?_
        refine m_ld (r := 46) (z := 0) X hT w (by omega) (0) (by omega) (by omega) d_Mo_order_190 ?_
        refine lv_iconst (v := iI (1)) X.1 X.2.1 d_Mo_order_191 (by decide) ?_
        refine i_ne (a := M4 46 0) (b := 1) (tgt := 198) X (by omega) (by omega) d_Mo_order_192 (by decide) (fun h_192 => ?_) (fun h_192 => ?_)
        · refine i_inc (k := 4) (x := n) (lv' := [(5, .int (iI (n + 1))), (0, .ref (ad (132))), (2, .ref (ad (138 + a))), (3, .int (iI (d))), (4, .int (iI (u)))]) X d_Mo_order_198 hl rfl (by decide) rfl (fun ls hl => ?_)
          refine lv_goto (tgt := 74) X.1 X.2.1 d_Mo_order_201 (by decide) ?_
          rw [if_neg (by omega)] at hz
          exact ih (n + 1) M4 H locs ls (by omega) w (by rw [k46]; exact hz) (by rw [k46]; exact hsk) hW4 hF4 (lv_sub hl [1, 2, 3, 4, 0] rfl)
        · refine lv_iload X.1 X.2.1 d_Mo_order_195 (lv_at hl 4 rfl) ?_
          rw [if_pos ⟨by omega, by omega⟩] at hz
          subst hz
          exact w_iret X hr hlk w (hp M4 hW4 hF4) d_Mo_order_197
end MOR
theorem c_Mo_order {l : Launch} {D : va_G} {cs : Nat → ClassId} {A : Nat → Prop} {ad : Nat → Nat} {T : Nat} (hT : 213 ≤ T) {M : Nat → Nat → Int} {B : Nat → va_E} {th pr fc : Int} (hB : moO cs ad th pr fc B) {inv : Nat → Int} (hI : invP pr inv) {a : Int} (ha : rg a) (hW : WR M) (hok : ∀ r, r < 16 → okp pr 25 (M r)) : Ci l y_Mo_order ws_Mo_order { frames := 2, cells := 0, slots := 0, locals := 43 } D cs A ad T [.ref (ad (132)), .int (iI (a))] (mkR cs M B) (fun x C' => (outF a 0 15 = 1 ∧ x = iI 0 ∧ C' = mkR cs M (mB ad B 1 pr fc)) ∨ ((0 ≤ a ∧ a ≤ 15) ∧ dg 300 (M a.toNat) < 1 ∧ x = iI 0 ∧ C' = mkR cs M (mB ad B 2 pr fc)) ∨ ((0 ≤ a ∧ a ≤ 15) ∧ 1 ≤ dg 300 (M a.toNat) ∧ x = iI (ordR pr inv (M a.toNat)) ∧ ∃ M1, C' = mkR cs M1 (mB ad B 0 pr fc) ∧ WR M1 ∧ ∀ r, r < 41 → M1 r = M r)) := by
  refine w_bodyI (by decide) (Nat.le_of_ble_eq_true rfl) ?_
  intro p e s m below meth c X hr hlk hml w ls hl
  have hl : lv_has ls 8 [(0, .ref (ad (132))), (1, .int (iI (a)))] := hl
  have hpr := hI.1
  have hB0 := hB
  refine lv_aload_n X.1 X.2.1 d_Mo_order_0 rfl (lv_at hl 0 rfl) ?_
  refine lv_iload_n X.1 X.2.1 d_Mo_order_1 rfl (lv_at hl 1 rfl) ?_
  refine w_cVi (n := 1) (i := 132) (ci := 5) (As := [.int (iI (a))]) (rest := []) X w hml hl.1 (c_Mo_none hT (M := M) hB (x := a) (by omega)) (by omega) (by rw [mkR_B (by decide)]; exact hB.1) rfl k_m_Mo_73 k_im_Mo_none k_se_Mo_none k_i_Mo k_co_Mo_none (by decide +kernel) rfl ⟨Nat.le_of_ble_eq_true rfl, Nat.le_of_ble_eq_true rfl⟩ ⟨rfl, rfl⟩ ⟨Nat.zero_le _, Nat.zero_le _⟩ rfl (Nat.le_of_ble_eq_true rfl) d_Mo_order_2 (fun r' C' H locs hp w => ?_)
  obtain ⟨rfl, rfl⟩ := hp
  have hB := hB0.set (outF (a) 0 15) pr fc
  refine z_ne (a := outF (a) 0 15) (tgt := 34) X (outF_rg _ _ _) d_Mo_order_5 (by decide) (fun h_5 => ?_) (fun h_5 => ?_)
  · refine lv_iconst (v := iI (0)) X.1 X.2.1 d_Mo_order_34 (by decide) ?_
    obtain ⟨k1, k2⟩ := outF_1 h_5
    exact w_iret X hr hlk w (Or.inl ⟨k1, rfl, by rw [k1]⟩) d_Mo_order_35
  · have k0 := outF_0 h_5
    have hok9 := hok a.toNat (by omega)
    have hda := (hok9.ok hpr.2).dlt 300
    have hda0 := dg_ge 300 (M a.toNat)
    refine lv_aload_n X.1 X.2.1 d_Mo_order_8 rfl (lv_at hl 0 rfl) ?_
    refine lv_iconst (v := iI (2)) X.1 X.2.1 d_Mo_order_9 (by decide) ?_
    refine lv_aload_n X.1 X.2.1 d_Mo_order_10 rfl (lv_at hl 0 rfl) ?_
    refine m_get X hT w hB 2 (by decide) k_f_Mo_18 rfl d_Mo_order_11 ?_
    refine lv_iload_n X.1 X.2.1 d_Mo_order_14 rfl (lv_at hl 1 rfl) ?_
    refine m_aal (i := 133) (n := 16) (pl := fun i => 138 + i) (z := a) X w (by omega) (by rw [mkR_B (by decide)]; exact hB.2.1) (a.toNat) (by omega) (by omega) (by decide) d_Mo_order_15 ?_
    refine w_cSi (n := 1) (As := [.ref (ad (138 + a.toNat))]) (rest := [.int (iI (2)), .ref (ad (132))]) X w hml hl.1 (c_Mo_degree hT (M := M) (a := a.toNat) (by omega) (hW _ (by omega))) k_m_Mo_80 k_st_Mo_degree k_i_Mo k_co_Mo_degree (by decide +kernel) rfl ⟨Nat.le_of_ble_eq_true rfl, Nat.le_of_ble_eq_true rfl⟩ ⟨rfl, rfl⟩ ⟨Nat.zero_le _, Nat.zero_le _⟩ rfl (Nat.le_of_ble_eq_true rfl) d_Mo_order_16 (fun r' C' H locs hp w => ?_)
    obtain ⟨rfl, rfl⟩ := hp
    refine lv_iconst (v := iI (1)) X.1 X.2.1 d_Mo_order_19 (by decide) ?_
    refine i_ge (a := dg 300 (M a.toNat)) (b := 1) (tgt := 27) X (by omega) (by omega) d_Mo_order_20 (by decide) (fun h_20 => ?_) (fun h_20 => ?_)
    · refine lv_iconst (v := iI (0)) X.1 X.2.1 d_Mo_order_27 (by decide) ?_
      refine w_cVi (n := 2) (i := 132) (ci := 5) (As := [.int (iI (2)), .int (iI (0))]) (rest := []) X w hml hl.1 (c_Mo_refuse hT (M := M) hB (k := 2) (b := 0) (by omega)) (by omega) (by rw [mkR_B (by decide)]; exact hB.1) rfl k_m_Mo_61 k_im_Mo_refuse k_se_Mo_refuse k_i_Mo k_co_Mo_refuse (by decide +kernel) rfl ⟨Nat.le_of_ble_eq_true rfl, Nat.le_of_ble_eq_true rfl⟩ ⟨rfl, rfl⟩ ⟨Nat.zero_le _, Nat.zero_le _⟩ rfl (Nat.le_of_ble_eq_true rfl) d_Mo_order_28 (fun r' C' H locs hp w => ?_)
      obtain ⟨rfl, rfl⟩ := hp
      rw [mB_mB] at w
      have hB := hB0.set (if (0 : Int) = 0 then (outF a 0 15) else 2) pr fc
      have hth : (if (0 : Int) = 0 then (outF a 0 15) else 2) = 0 := by rw [if_pos rfl]; exact h_5
      rw [hth] at w hB
      obtain ⟨d, ed⟩ := Int.eq_ofNat_of_zero_le (show 0 ≤ dg 300 (M a.toNat) by omega)
      have hld := hok9.lead (show 0 ≤ dg 300 (M a.toNat) by omega)
      have hiv := hI.inv hld
      rw [ed, show ((d : Nat) : Int).toNat = d by omega] at hld hiv
      refine z_eq (a := 0) (tgt := 36) X (by omega) d_Mo_order_31 (by decide) (fun h_31 => ?_) (fun h_31 => ?_)
      · refine lv_aload_n X.1 X.2.1 d_Mo_order_36 rfl (lv_at hl 0 rfl) ?_
        refine m_get X hT w hB 2 (by decide) k_f_Mo_18 rfl d_Mo_order_37 ?_
        refine lv_iload_n X.1 X.2.1 d_Mo_order_40 rfl (lv_at hl 1 rfl) ?_
        refine m_aal (i := 133) (n := 16) (pl := fun i => 138 + i) (z := a) X w (by omega) (by rw [mkR_B (by decide)]; exact hB.2.1) (a.toNat) (by omega) (by omega) (by decide) d_Mo_order_41 ?_
        refine lv_astore_n (lv' := [(2, .ref (ad (138 + a.toNat))), (0, .ref (ad (132))), (1, .int (iI (a)))]) X.1 X.2.1 d_Mo_order_42 rfl hl (by decide) rfl (fun ls hl => ?_)
        refine lv_aload_n X.1 X.2.1 d_Mo_order_43 rfl (lv_at hl 0 rfl) ?_
        refine w_cSi (n := 1) (As := [.ref (ad (138 + a.toNat))]) (rest := []) X w hml hl.1 (c_Mo_degree hT (M := M) (a := a.toNat) (by omega) (hW _ (by omega))) k_m_Mo_80 k_st_Mo_degree k_i_Mo k_co_Mo_degree (by decide +kernel) rfl ⟨Nat.le_of_ble_eq_true rfl, Nat.le_of_ble_eq_true rfl⟩ ⟨rfl, rfl⟩ ⟨Nat.zero_le _, Nat.zero_le _⟩ rfl (Nat.le_of_ble_eq_true rfl) d_Mo_order_44 (fun r' C' H locs hp w => ?_)
        obtain ⟨rfl, rfl⟩ := hp
        rw [ed]
        refine lv_istore_n (lv' := [(3, .int (iI (d))), (2, .ref (ad (138 + a.toNat))), (0, .ref (ad (132))), (1, .int (iI (a)))]) X.1 X.2.1 d_Mo_order_47 rfl hl (by decide) rfl (fun ls hl => ?_)
        refine lv_aload_n X.1 X.2.1 d_Mo_order_48 rfl (lv_at hl 2 rfl) ?_
        refine lv_aload_n X.1 X.2.1 d_Mo_order_49 rfl (lv_at hl 1 rfl) ?_
        refine lv_iload_n X.1 X.2.1 d_Mo_order_50 rfl (lv_at hl 0 rfl) ?_
        refine m_ld (r := a.toNat) (z := d) X hT w (by omega) (d) (by omega) (by omega) d_Mo_order_51 ?_
        refine w_cVi (n := 1) (i := 132) (ci := 5) (As := [.int (iI (M a.toNat d))]) (rest := []) X w hml hl.1 (c_Mo_under hT (M := M) hB (v := M a.toNat d) (iv := inv (M a.toNat d).toNat) hpr hld hiv) (by omega) (by rw [mkR_B (by decide)]; exact hB.1) rfl k_m_Mo_88 k_im_Mo_under k_se_Mo_under k_i_Mo k_co_Mo_under (by decide +kernel) rfl ⟨Nat.le_of_ble_eq_true rfl, Nat.le_of_ble_eq_true rfl⟩ ⟨rfl, rfl⟩ ⟨Nat.zero_le _, Nat.zero_le _⟩ rfl (Nat.le_of_ble_eq_true rfl) d_Mo_order_52 (fun r' C' H locs hp w => ?_)
        obtain ⟨rfl, rfl⟩ := hp
        refine lv_istore (lv' := [(4, .int (iI (inv (M a.toNat d).toNat))), (3, .int (iI (d))), (2, .ref (ad (138 + a.toNat))), (0, .ref (ad (132))), (1, .int (iI (a)))]) X.1 X.2.1 d_Mo_order_55 hl (by decide) rfl (fun ls hl => ?_)
        refine lv_aload_n X.1 X.2.1 d_Mo_order_57 rfl (lv_at hl 3 rfl) ?_
        refine m_get X hT w hB 11 (by decide) k_f_Mo_46 rfl d_Mo_order_58 ?_
        refine w_cSv (n := 1) (As := [.ref (ad (138 + 46))]) (rest := []) X w hml hl.1 (c_Mo_clear hT (M := M) (a := 46) (by omega) hW) k_m_Mo_69 k_st_Mo_clear k_i_Mo k_co_Mo_clear (by decide +kernel) rfl ⟨Nat.le_of_ble_eq_true rfl, Nat.le_of_ble_eq_true rfl⟩ ⟨rfl, rfl⟩ ⟨Nat.zero_le _, Nat.zero_le _⟩ rfl (Nat.le_of_ble_eq_true rfl) d_Mo_order_61 (fun C' H locs hp w => ?_)
        subst hp
        obtain ⟨Mw1, eMw1⟩ : ∃ mm : Nat → Nat → Int, mm = va_up M 46 (fun _ => 0) := ⟨_, rfl⟩
        rw [← eMw1] at w
        refine lv_aload_n X.1 X.2.1 d_Mo_order_64 rfl (lv_at hl 3 rfl) ?_
        refine m_get X hT w hB 11 (by decide) k_f_Mo_46 rfl d_Mo_order_65 ?_
        refine lv_iconst (v := iI (0)) X.1 X.2.1 d_Mo_order_68 (by decide) ?_
        refine lv_iconst (v := iI (1)) X.1 X.2.1 d_Mo_order_69 (by decide) ?_
        refine m_st (r := 46) (z := 0) (v := 1) X hT w (by omega) (0) (by omega) (by omega) d_Mo_order_70 (fun H locs w => ?_)
        obtain ⟨Mw2, eMw2⟩ : ∃ mm : Nat → Nat → Int, mm = va_up Mw1 46 (va_up (Mw1 46) 0 (1)) := ⟨_, rfl⟩
        rw [← eMw2] at w
        refine lv_iconst (v := iI (1)) X.1 X.2.1 d_Mo_order_71 (by decide) ?_
        refine lv_istore (lv' := [(5, .int (iI (1))), (4, .int (iI (inv (M a.toNat d).toNat))), (3, .int (iI (d))), (2, .ref (ad (138 + a.toNat))), (0, .ref (ad (132))), (1, .int (iI (a)))]) X.1 X.2.1 d_Mo_order_72 hl (by decide) rfl (fun ls hl => ?_)
        have e46 : Mw2 46 = oneP := by
          rw [eMw2, va_up_self, eMw1, va_up_self]
          funext x
          unfold va_up oneP
          rfl
        have eF : ∀ r, r ≠ 46 → Mw2 r = M r := fun r h => by rw [eMw2, va_up_ne _ _ h, eMw1, va_up_ne _ _ h]
        have hone : okp pr 25 oneP := oneP_ok (by omega) (by omega)
        have hW2 : WR Mw2 := by
          have e9 : Mw2 = va_up M 46 oneP := by
            funext r
            by_cases e9 : r = 46
            · rw [e9, va_up_self, e46]
            · rw [va_up_ne _ _ e9, eF r e9]
          rw [e9]
          exact hW.up ((hone.mono (by omega)).ok hpr.2)
        refine l_Mo_ord_74 (M := M) (a := a.toNat) (d := d) (u := inv (M a.toNat d).toNat) (Z := ordR pr inv (M a.toNat)) X hr hlk hml hT hB hpr (by omega) hok9 (by omega) (by omega) (fun M1 q1 q2 => Or.inr (Or.inr ⟨k0, by omega, rfl, M1, rfl, q1, fun r h => q2 r (by omega)⟩)) 100000 1 Mw2 _ _ ls (by omega) w ?_ (by rw [e46]; exact hone) hW2 eF (lv_sub hl [4, 3, 2, 1, 0] rfl)
        rw [e46]
        unfold ordR
        rw [ed]
        rfl
      · exact absurd h_31 (by omega)
    · refine lv_iconst (v := iI (1)) X.1 X.2.1 d_Mo_order_23 (by decide) ?_
      refine lv_goto (tgt := 28) X.1 X.2.1 d_Mo_order_24 (by decide) ?_
      refine w_cVi (n := 2) (i := 132) (ci := 5) (As := [.int (iI (2)), .int (iI (1))]) (rest := []) X w hml hl.1 (c_Mo_refuse hT (M := M) hB (k := 2) (b := 1) (by omega)) (by omega) (by rw [mkR_B (by decide)]; exact hB.1) rfl k_m_Mo_61 k_im_Mo_refuse k_se_Mo_refuse k_i_Mo k_co_Mo_refuse (by decide +kernel) rfl ⟨Nat.le_of_ble_eq_true rfl, Nat.le_of_ble_eq_true rfl⟩ ⟨rfl, rfl⟩ ⟨Nat.zero_le _, Nat.zero_le _⟩ rfl (Nat.le_of_ble_eq_true rfl) d_Mo_order_28 (fun r' C' H locs hp w => ?_)
      obtain ⟨rfl, rfl⟩ := hp
      rw [mB_mB] at w
      have hB := hB0.set (if (1 : Int) = 0 then (outF a 0 15) else 2) pr fc
      refine z_eq (a := 1) (tgt := 36) X (by omega) d_Mo_order_31 (by decide) (fun h_31 => ?_) (fun h_31 => ?_)
      · exact absurd h_31 (by omega)
      · refine lv_iconst (v := iI (0)) X.1 X.2.1 d_Mo_order_34 (by decide) ?_
        exact w_iret X hr hlk w (Or.inr (Or.inl ⟨k0, by omega, rfl, by rw [if_neg (by decide)]⟩)) d_Mo_order_35
