/-- times x -/
def shf (F : Nat → Int) : Nat → Int := fun x => if x = 0 then 0 else F (x - 1)
def whK (pr : Int) (inv : Nat → Int) (A M : Nat → Int) : Nat → Nat → Int
  | 0 => A
  | c + 1 => shf (dvm pr inv (whK pr inv A M c) M).1
def matR (pr : Int) (inv : Nat → Int) (A M : Nat → Int) (n : Nat) : Nat → Nat → Int := fun i j => if j = n then (if i = 0 then 1 else 0) else (dvm pr inv (whK pr inv A M j) M).1 i
def pivR (E : Nat → Nat → Int) (c : Nat) : Nat → Nat → Nat
  | 0, r => r
  | k + 1, r => if E r c = 0 then pivR E c k (r + 1) else r
def scaR (pr : Int) (inv : Nat → Int) (c : Nat) (E : Nat → Nat → Int) : Nat → Nat → Int := va_up E c (fun k => E c k * inv (E c c).toNat % pr)
def elmR (pr : Int) (c : Nat) (E : Nat → Nat → Int) : Nat → Nat → Int := fun s => if s = c then E c else fun k => (E s k - E s c * E c k) % pr
def gauS (pr : Int) (inv : Nat → Int) (n c : Nat) (E : Nat → Nat → Int) : Nat → Nat → Int := elmR pr c (scaR pr inv c (swpR E (pivR E c (n - c) c) c))
def gauR (pr : Int) (inv : Nat → Int) (n : Nat) : Nat → Nat → (Nat → Nat → Int) → Option (Nat → Nat → Int)
  | 0, _, E => some E
  | k + 1, c, E => if pivR E c (n - c) c = n then none else gauR pr inv n k (c + 1) (gauS pr inv n c E)
def okE (pr : Int) (n : Nat) (F : Nat → Nat → Int) : Prop := ∀ i j, i < n → j ≤ n → 0 ≤ F i j ∧ F i j < pr
theorem shf_ok {pr : Int} {n : Nat} {F : Nat → Int} (hp : 0 < pr) (h : okp pr n F) : okp pr (n + 1) (shf F) := by
  refine ⟨fun x => ?_, fun x hx => ?_⟩
  · unfold shf
    split
    · omega
    · exact h.1 _
  · unfold shf
    rw [if_neg (by omega)]
    exact h.2 _ (by omega)
theorem whK_ok {pr : Int} {inv : Nat → Int} (hI : invP pr inv) {A M : Nat → Int} (hA : okp pr 25 A) (hM : okp pr 25 M) (hd : 0 ≤ dg 300 M) : ∀ c, okp pr 26 (whK pr inv A M c)
  | 0 => hA.mono (by omega)
  | c + 1 => by
    have hpr := hI.1
    have h2 := (hM.ok hpr.2).dlt 300
    exact shf_ok (by omega) (dvm_ok2 (M := 25) hI (whK_ok hI hA hM hd c) hM (by omega) (by omega) hd (by omega))
theorem pivR_sp (E : Nat → Nat → Int) (c : Nat) : ∀ (k r : Nat), r ≤ pivR E c k r ∧ pivR E c k r ≤ r + k ∧ (pivR E c k r < r + k → E (pivR E c k r) c ≠ 0)
  | 0, r => ⟨Nat.le_refl _, Nat.le_refl _, fun h => absurd h (Nat.lt_irrefl _)⟩
  | k + 1, r => by
    unfold pivR
    split
    · have := pivR_sp E c k (r + 1)
      refine ⟨by omega, by omega, fun h => this.2.2 (by omega)⟩
    · next h => exact ⟨Nat.le_refl _, by omega, fun _ => h⟩
theorem gauS_ok {pr : Int} {inv : Nat → Int} (hp : 0 < pr) {n c : Nat} {E : Nat → Nat → Int} (hE : okE pr n E) (hc : c < n) (hq : pivR E c (n - c) c < n) : okE pr n (gauS pr inv n c E) := by
  intro i j hi hj
  have hs : okE pr n (scaR pr inv c (swpR E (pivR E c (n - c) c) c)) := by
    intro i j hi hj
    unfold scaR
    by_cases e : i = c
    · rw [e, va_up_self]; exact ⟨Int.emod_nonneg _ (by omega), Int.emod_lt_of_pos _ hp⟩
    · rw [va_up_ne _ _ e]
      unfold swpR
      rw [va_up_ne _ _ e]
      by_cases e2 : i = pivR E c (n - c) c
      · rw [e2, va_up_self]; exact hE c j hc hj
      · rw [va_up_ne _ _ e2]; exact hE i j hi hj
  unfold gauS elmR
  split
  · exact hs c j hc hj
  · exact ⟨Int.emod_nonneg _ (by omega), Int.emod_lt_of_pos _ hp⟩
section MIV
variable {p : Program} {l : Launch} {e : Env} {s : State} {m : MethodId} {args : Array Value} {below : List Frame} {meth : Method} {c : Code} {H : Heap} {locs : List Loc} {Q : State → Prop} {D : va_G} {cs : Nat → ClassId} {A : Nat → Prop} {ad : Nat → Nat} {T : Nat} {B : Nat → va_E} {th pr fc : Int}
variable {M : Nat → Nat → Int} {inv : Nat → Int} {t a d : Int} {n : Nat} {pm : Nat → Nat}
theorem l_inv_103 (X : Cx p s m args c b_Mo_inverse RMo) (hml : c.maxLocals = 12) (hT : 213 ≤ T) (hn : n ≤ 24) {k : Nat} (hk : k < n) {Fa : Nat → Nat → Int}
    (K : ∀ (F1 : Nat → Nat → Int) (B1 : Nat → va_E) (H : Heap) (locs : List Loc) (ls : Array Slot), Wd D cs A ad T s (mkR cs M B1) H locs → moO cs ad th pr fc B1 → eqV cs ad n pm F1 B1 → (∀ q, q < 188 ∨ 213 ≤ q → B1 q = B q) → (∀ i j, i < n → j ≤ n → F1 i j = if j = k then M 42 i else Fa i j) → lv_has ls 12 [(0, .ref (ad (132))), (1, .int (iI (t))), (2, .int (iI (a))), (3, .int (iI (d))), (4, .int (iI (n))), (5, .int (iI (k)))] → W p l e { frames := 2, cells := 0, slots := 0, locals := 49 } s m args below meth c H locs 0 0 Q (F0 m 133 ls [])) :
    ∀ (f r : Nat) (F1 : Nat → Nat → Int) (B1 : Nat → va_E) (H : Heap) (locs : List Loc) (ls : Array Slot), r + f = n → Wd D cs A ad T s (mkR cs M B1) H locs → moO cs ad th pr fc B1 → eqV cs ad n pm F1 B1 → (∀ q, q < 188 ∨ 213 ≤ q → B1 q = B q) → (∀ i j, i < n → j ≤ n → F1 i j = if j = k ∧ i < r then M 42 i else Fa i j) → lv_has ls 12 [(0, .ref (ad (132))), (1, .int (iI (t))), (2, .int (iI (a))), (3, .int (iI (d))), (4, .int (iI (n))), (5, .int (iI (k))), (6, .int (iI (r)))] → W p l e { frames := 2, cells := 0, slots := 0, locals := 49 } s m args below meth c H locs 0 0 Q (F0 m 103 ls []) := by
  intro f
  induction f with
  | zero =>
    intro r F1 B1 H locs ls h1 w hB hE hQ h2 hl
    refine lv_iload X.1 X.2.1 d_Mo_inverse_103 (lv_at hl 6 rfl) ?_
    refine lv_iload X.1 X.2.1 d_Mo_inverse_105 (lv_at hl 4 rfl) ?_
    refine i_ge (a := r) (b := n) (tgt := 133) X (by omega) (by omega) d_Mo_inverse_107 (by decide) (fun h_107 => ?_) (fun h_107 => ?_)
    · refine K F1 B1 H locs ls w hB hE hQ (fun i j hi hj => ?_) (lv_sub hl [0, 1, 2, 3, 4, 5] rfl)
      rw [h2 i j hi hj]
      split <;> split <;> first | rfl | (exfalso; omega)
    · exact absurd h_107 (by omega)
  | succ f ih =>
    intro r F1 B1 H locs ls h1 w hB hE hQ h2 hl
    refine lv_iload X.1 X.2.1 d_Mo_inverse_103 (lv_at hl 6 rfl) ?_
    refine lv_iload X.1 X.2.1 d_Mo_inverse_105 (lv_at hl 4 rfl) ?_
    refine i_ge (a := r) (b := n) (tgt := 133) X (by omega) (by omega) d_Mo_inverse_107 (by decide) (fun h_107 => ?_) (fun h_107 => ?_)
    · exact absurd h_107 (by omega)
    · refine lv_aload_n X.1 X.2.1 d_Mo_inverse_110 rfl (lv_at hl 0 rfl) ?_
      refine m_get X hT w hB 15 (by decide) k_f_Mo_58 rfl d_Mo_inverse_111 ?_
      refine lv_iload X.1 X.2.1 d_Mo_inverse_114 (lv_at hl 6 rfl) ?_
      refine e_row (z := r) X hT w hE (r) (by omega) (by omega) d_Mo_inverse_116 ?_
      refine lv_iload X.1 X.2.1 d_Mo_inverse_117 (lv_at hl 5 rfl) ?_
      refine lv_aload_n X.1 X.2.1 d_Mo_inverse_119 rfl (lv_at hl 0 rfl) ?_
      refine m_get X hT w hB 7 (by decide) k_f_Mo_34 rfl d_Mo_inverse_120 ?_
      refine lv_iload X.1 X.2.1 d_Mo_inverse_123 (lv_at hl 6 rfl) ?_
      refine m_ld (r := 42) (z := r) X hT w (by omega) (r) (by omega) (by omega) d_Mo_inverse_125 ?_
      refine e_st (z := k) (v := M 42 r) X hT w hB hE hn (r) (by omega) (k) (by omega) (by omega) d_Mo_inverse_126 (fun Bw1 H locs w hB hE hQBw1 => ?_)
      refine i_inc (k := 6) (x := r) (lv' := [(6, .int (iI (r + 1))), (0, .ref (ad (132))), (1, .int (iI (t))), (2, .int (iI (a))), (3, .int (iI (d))), (4, .int (iI (n))), (5, .int (iI (k)))]) X d_Mo_inverse_127 hl rfl (by decide) rfl (fun ls hl => ?_)
      refine lv_goto (tgt := 103) X.1 X.2.1 d_Mo_inverse_130 (by decide) ?_
      refine ih (r + 1) _ Bw1 H locs ls (by omega) w hB hE (fun q hq => by rw [hQBw1 q hq]; exact hQ q hq) (fun i j hi hj => ?_) (lv_sub hl [1, 2, 3, 4, 5, 6, 0] rfl)
      by_cases e1 : i = r
      · subst e1
        rw [va_up_self]
        by_cases e2 : j = k
        · rw [e2, va_up_self, if_pos (by omega)]
        · rw [va_up_ne _ _ e2, h2 i j hi hj, if_neg (by omega), if_neg (by omega)]
      · rw [va_up_ne _ _ e1, h2 i j hi hj]
        split <;> split <;> first | rfl | (exfalso; omega)
theorem l_inv_137 (X : Cx p s m args c b_Mo_inverse RMo) (hml : c.maxLocals = 12) (hT : 213 ≤ T) (hn : n ≤ 24) (hB : moO cs ad th pr fc B) {k : Nat} {V : Nat → Int}
    (K : ∀ (M1 : Nat → Nat → Int) (H : Heap) (locs : List Loc) (ls : Array Slot), Wd D cs A ad T s (mkR cs M1 B) H locs → (M1 46 = fun x => if 0 < x ∧ x ≤ 25 then M 42 (x - 1) else V x) → (∀ r, r ≠ 46 → M1 r = M r) → lv_has ls 12 [(0, .ref (ad (132))), (1, .int (iI (t))), (2, .int (iI (a))), (3, .int (iI (d))), (4, .int (iI (n))), (5, .int (iI (k)))] → W p l e { frames := 2, cells := 0, slots := 0, locals := 49 } s m args below meth c H locs 0 0 Q (F0 m 164 ls [])) :
    ∀ (r : Nat) (M1 : Nat → Nat → Int) (H : Heap) (locs : List Loc) (ls : Array Slot), r ≤ 25 → Wd D cs A ad T s (mkR cs M1 B) H locs → (M1 46 = fun x => if r < x ∧ x ≤ 25 then M 42 (x - 1) else V x) → (∀ r, r ≠ 46 → M1 r = M r) → lv_has ls 12 [(0, .ref (ad (132))), (1, .int (iI (t))), (2, .int (iI (a))), (3, .int (iI (d))), (4, .int (iI (n))), (5, .int (iI (k))), (6, .int (iI (r)))] → W p l e { frames := 2, cells := 0, slots := 0, locals := 49 } s m args below meth c H locs 0 0 Q (F0 m 137 ls []) := by
  intro r
  induction r with
  | zero =>
    intro M1 H locs ls h1 w h2 h3 hl
    refine lv_iload X.1 X.2.1 d_Mo_inverse_137 (lv_at hl 6 rfl) ?_
    refine z_le (a := ((0 : Nat) : Int)) (tgt := 164) X (by omega) d_Mo_inverse_139 (by decide) (fun h_139 => ?_) (fun h_139 => ?_)
    · exact K M1 H locs ls w h2 h3 (lv_sub hl [0, 1, 2, 3, 4, 5] rfl)
    · exact absurd h_139 (by omega)
  | succ r ih =>
    intro M1 H locs ls h1 w h2 h3 hl
    have e42 : M1 42 r = M 42 r := by rw [h3 42 (by decide)]
    refine lv_iload X.1 X.2.1 d_Mo_inverse_137 (lv_at hl 6 rfl) ?_
    refine z_le (a := ((r + 1 : Nat) : Int)) (tgt := 164) X (by omega) d_Mo_inverse_139 (by decide) (fun h_139 => ?_) (fun h_139 => ?_)
    · exact absurd h_139 (by omega)
    · refine lv_aload_n X.1 X.2.1 d_Mo_inverse_142 rfl (lv_at hl 0 rfl) ?_
      refine m_get X hT w hB 11 (by decide) k_f_Mo_46 rfl d_Mo_inverse_143 ?_
      refine lv_iload X.1 X.2.1 d_Mo_inverse_146 (lv_at hl 6 rfl) ?_
      refine lv_aload_n X.1 X.2.1 d_Mo_inverse_148 rfl (lv_at hl 0 rfl) ?_
      refine m_get X hT w hB 7 (by decide) k_f_Mo_34 rfl d_Mo_inverse_149 ?_
      refine lv_iload X.1 X.2.1 d_Mo_inverse_152 (lv_at hl 6 rfl) ?_
      refine lv_iconst (v := iI (1)) X.1 X.2.1 d_Mo_inverse_154 (by decide) ?_
      refine i_sub (a := ((r + 1 : Nat) : Int)) (b := 1) X d_Mo_inverse_155 ?_
      refine m_ld (r := 42) (z := ((r + 1 : Nat) : Int) - 1) X hT w (by omega) (r) (by omega) (by omega) d_Mo_inverse_156 ?_
      refine m_st (r := 46) (z := ((r + 1 : Nat) : Int)) (v := M1 42 r) X hT w (by omega) (r + 1) (by omega) (by omega) d_Mo_inverse_157 (fun H locs w => ?_)
      obtain ⟨Mw1, eMw1⟩ : ∃ mm : Nat → Nat → Int, mm = va_up M1 46 (va_up (M1 46) (r + 1) (M1 42 r)) := ⟨_, rfl⟩
      rw [← eMw1] at w
      refine i_inc (k := 6) (x := ((r + 1 : Nat) : Int)) (lv' := [(6, .int (iI (((r + 1 : Nat) : Int) + (-1)))), (0, .ref (ad (132))), (1, .int (iI (t))), (2, .int (iI (a))), (3, .int (iI (d))), (4, .int (iI (n))), (5, .int (iI (k)))]) X d_Mo_inverse_158 hl rfl (by decide) rfl (fun ls hl => ?_)
      refine lv_goto (tgt := 137) X.1 X.2.1 d_Mo_inverse_161 (by decide) ?_
      refine ih Mw1 H locs ls (by omega) w ?_ (fun q h => by rw [eMw1, va_up_ne _ _ h]; exact h3 q h) (by rw [show (r : Int) = ((r + 1 : Nat) : Int) + (-1) by omega]; exact (lv_sub hl [1, 2, 3, 4, 5, 6, 0] rfl))
      rw [eMw1, va_up_self]
      funext x
      by_cases e9 : x = r + 1
      · rw [e9, va_up_self, e42]; show M 42 r = if r < r + 1 ∧ r + 1 ≤ 25 then M 42 (r + 1 - 1) else V (r + 1); rw [if_pos (by omega)]; rfl
      · rw [va_up_ne _ _ e9, h2]
        show (if r + 1 < x ∧ x ≤ 25 then M 42 (x - 1) else V x) = if r < x ∧ x ≤ 25 then M 42 (x - 1) else V x
        split <;> split <;> first | rfl | (exfalso; omega)
theorem l_inv_79 (X : Cx p s m args c b_Mo_inverse RMo) (hml : c.maxLocals = 12) (hT : 213 ≤ T) (hn : n ≤ 24) (hI : invP pr inv) (hd : 0 ≤ d ∧ d ≤ 15) (hD : okp pr 25 (M d.toNat)) (hdn : dg 300 (M d.toNat) = n) {V : Nat → Int} (hV : okp pr 25 V)
    (K : ∀ (M1 : Nat → Nat → Int) (F1 : Nat → Nat → Int) (B1 : Nat → va_E) (H : Heap) (locs : List Loc) (ls : Array Slot), Wd D cs A ad T s (mkR cs M1 B1) H locs → moO cs ad th pr fc B1 → eqV cs ad n pm F1 B1 → (∀ q, q < 188 ∨ 213 ≤ q → B1 q = B q) → WR M1 → (∀ i j, i < n → j < n → F1 i j = (dvm pr inv (whK pr inv V (M d.toNat) j) (M d.toNat)).1 i) → (∀ r, r ≠ 41 → r ≠ 42 → r ≠ 46 → M1 r = M r) → lv_has ls 12 [(0, .ref (ad (132))), (1, .int (iI (t))), (2, .int (iI (a))), (3, .int (iI (d))), (4, .int (iI (n)))] → W p l e { frames := 2, cells := 0, slots := 0, locals := 49 } s m args below meth c H locs 0 0 Q (F0 m 177 ls [])) :
    ∀ (f k : Nat) (M1 : Nat → Nat → Int) (F1 : Nat → Nat → Int) (B1 : Nat → va_E) (H : Heap) (locs : List Loc) (ls : Array Slot), k + f = n → Wd D cs A ad T s (mkR cs M1 B1) H locs → moO cs ad th pr fc B1 → eqV cs ad n pm F1 B1 → (∀ q, q < 188 ∨ 213 ≤ q → B1 q = B q) → WR M1 → M1 46 = whK pr inv V (M d.toNat) k → (∀ i j, i < n → j < k → F1 i j = (dvm pr inv (whK pr inv V (M d.toNat) j) (M d.toNat)).1 i) → (∀ r, r ≠ 41 → r ≠ 42 → r ≠ 46 → M1 r = M r) → lv_has ls 12 [(0, .ref (ad (132))), (1, .int (iI (t))), (2, .int (iI (a))), (3, .int (iI (d))), (4, .int (iI (n))), (5, .int (iI (k)))] → W p l e { frames := 2, cells := 0, slots := 0, locals := 49 } s m args below meth c H locs 0 0 Q (F0 m 79 ls []) := by
  have hpr := hI.1
  intro f
  induction f with
  | zero =>
    intro k M1 F1 B1 H locs ls h1 w hB hE hQ hW h46 h2 h3 hl
    refine lv_iload X.1 X.2.1 d_Mo_inverse_79 (lv_at hl 5 rfl) ?_
    refine lv_iload X.1 X.2.1 d_Mo_inverse_81 (lv_at hl 4 rfl) ?_
    refine i_ge (a := k) (b := n) (tgt := 177) X (by omega) (by omega) d_Mo_inverse_83 (by decide) (fun h_83 => ?_) (fun h_83 => ?_)
    · exact K M1 F1 B1 H locs ls w hB hE hQ hW (fun i j hi hj => h2 i j hi (by omega)) h3 (lv_sub hl [0, 1, 2, 3, 4] rfl)
    · exact absurd h_83 (by omega)
  | succ f ih =>
    intro k M1 F1 B1 H locs ls h1 w hB hE hQ hW h46 h2 h3 hl
    have ed : M1 d.toNat = M d.toNat := h3 _ (by omega) (by omega) (by omega)
    obtain ⟨Y, hY⟩ : ∃ Y : Nat → Int, Y = whK pr inv V (M d.toNat) k := ⟨_, rfl⟩
    have hYk : okp pr 26 Y := by rw [hY]; exact whK_ok hI hV hD (by omega) k
    rw [← hY] at h46
    have hq9 := dvm_ok (inv := inv) (M := 50) (by omega) hYk hD (by omega) (by omega) hpr.2 (by have := (hYk.ok hpr.2).dlt 300; omega)
    have hr25 : okp pr 25 (dvm pr inv Y (M d.toNat)).1 := dvm_ok2 hI hYk hD (by omega) (by omega) (by omega) (by omega)
    refine lv_iload X.1 X.2.1 d_Mo_inverse_79 (lv_at hl 5 rfl) ?_
    refine lv_iload X.1 X.2.1 d_Mo_inverse_81 (lv_at hl 4 rfl) ?_
    refine i_ge (a := k) (b := n) (tgt := 177) X (by omega) (by omega) d_Mo_inverse_83 (by decide) (fun h_83 => ?_) (fun h_83 => ?_)
    · exact absurd h_83 (by omega)
    · refine lv_aload_n X.1 X.2.1 d_Mo_inverse_86 rfl (lv_at hl 0 rfl) ?_
      refine lv_aload_n X.1 X.2.1 d_Mo_inverse_87 rfl (lv_at hl 0 rfl) ?_
      refine m_get X hT w hB 11 (by decide) k_f_Mo_46 rfl d_Mo_inverse_88 ?_
      refine lv_aload_n X.1 X.2.1 d_Mo_inverse_91 rfl (lv_at hl 0 rfl) ?_
      refine m_get X hT w hB 2 (by decide) k_f_Mo_18 rfl d_Mo_inverse_92 ?_
      refine lv_iload_n X.1 X.2.1 d_Mo_inverse_95 rfl (lv_at hl 3 rfl) ?_
      refine m_aal (i := 133) (n := 16) (pl := fun i => 138 + i) (z := d) X w (by omega) (by rw [mkR_B (by decide)]; exact hB.2.1) (d.toNat) (by omega) (by omega) (by decide) d_Mo_inverse_96 ?_
      refine w_cVv (n := 2) (i := 132) (ci := 5) (As := [.ref (ad (138 + 46)), .ref (ad (138 + d.toNat))]) (rest := []) X w hml hl.1 (c_Mo_divided hT (M := M1) (B := B1) hB hI (a := 46) (b := d.toNat) (by omega) (by omega) hW (by rw [h46]; exact hYk.mono (by omega)) (by rw [ed]; exact hD.mono (by omega)) (by rw [ed]; omega)) (by omega) (by rw [mkR_B (by decide)]; exact hB.1) rfl k_m_Mo_91 k_im_Mo_divided k_se_Mo_divided k_i_Mo k_co_Mo_divided (by decide +kernel) rfl ⟨Nat.le_of_ble_eq_true rfl, Nat.le_of_ble_eq_true rfl⟩ ⟨rfl, rfl⟩ ⟨Nat.zero_le _, Nat.zero_le _⟩ rfl (Nat.le_of_ble_eq_true rfl) d_Mo_inverse_97 (fun C' H locs hp w => ?_)
      subst hp
      obtain ⟨Mw1, eMw1⟩ : ∃ mm : Nat → Nat → Int, mm = va_up (va_up M1 41 (dvm pr inv (M1 46) (M1 d.toNat)).2) 42 (dvm pr inv (M1 46) (M1 d.toNat)).1 := ⟨_, rfl⟩
      rw [← eMw1] at w
      rw [h46, ed] at eMw1
      have hW1 : WR Mw1 := by rw [eMw1]; exact (hW.up (hq9.2.ok hpr.2)).up ((hr25.mono (by omega)).ok hpr.2)
      have a42 : Mw1 42 = (dvm pr inv Y (M d.toNat)).1 := by rw [eMw1, va_up_self]
      have aF : ∀ r, r ≠ 41 → r ≠ 42 → Mw1 r = M1 r := fun r r1 r2 => by rw [eMw1, va_up_ne _ _ r2, va_up_ne _ _ r1]
      refine lv_iconst (v := iI (0)) X.1 X.2.1 d_Mo_inverse_100 (by decide) ?_
      refine lv_istore (lv' := [(6, .int (iI (0))), (0, .ref (ad (132))), (1, .int (iI (t))), (2, .int (iI (a))), (3, .int (iI (d))), (4, .int (iI (n))), (5, .int (iI (k)))]) X.1 X.2.1 d_Mo_inverse_101 hl (by decide) rfl (fun ls hl => ?_)
      refine l_inv_103 (M := Mw1) (B := B1) (n := n) (t := t) (a := a) (d := d) (pm := pm) X hml hT hn (k := k) (by omega) (Fa := F1) (fun F2 B2 H locs ls w gB gE gQ gF hl => ?_) n 0 F1 B1 H locs ls (by omega) w hB hE (fun _ _ => rfl) (fun i j hi hj => by rw [if_neg (by omega)]) (lv_sub hl [1, 2, 3, 4, 5, 6, 0] rfl)
      have hB := gB
      have hE := gE
      refine lv_bipush (v := iI (25)) X.1 X.2.1 d_Mo_inverse_133 (by decide) ?_
      refine lv_istore (lv' := [(6, .int (iI (25))), (0, .ref (ad (132))), (1, .int (iI (t))), (2, .int (iI (a))), (3, .int (iI (d))), (4, .int (iI (n))), (5, .int (iI (k)))]) X.1 X.2.1 d_Mo_inverse_135 hl (by decide) rfl (fun ls hl => ?_)
      refine l_inv_137 (M := Mw1) (B := B2) (n := n) (t := t) (a := a) (d := d) X hml hT hn gB (k := k) (V := Mw1 46) (fun M3 H locs ls w s2 s3 hl => ?_) 25 Mw1 H locs ls (by omega) w (by funext x; rw [if_neg (by omega)]) (fun _ _ => rfl) (lv_sub hl [1, 2, 3, 4, 5, 6, 0] rfl)
      refine lv_aload_n X.1 X.2.1 d_Mo_inverse_164 rfl (lv_at hl 0 rfl) ?_
      refine m_get X hT w hB 11 (by decide) k_f_Mo_46 rfl d_Mo_inverse_165 ?_
      refine lv_iconst (v := iI (0)) X.1 X.2.1 d_Mo_inverse_168 (by decide) ?_
      refine lv_iconst (v := iI (0)) X.1 X.2.1 d_Mo_inverse_169 (by decide) ?_
      refine m_st (r := 46) (z := 0) (v := 0) X hT w (by omega) (0) (by omega) (by omega) d_Mo_inverse_170 (fun H locs w => ?_)
      obtain ⟨Mx1, eMx1⟩ : ∃ mm : Nat → Nat → Int, mm = va_up M3 46 (va_up (M3 46) 0 (0)) := ⟨_, rfl⟩
      rw [← eMx1] at w
      refine i_inc (k := 5) (x := k) (lv' := [(5, .int (iI (k + 1))), (0, .ref (ad (132))), (1, .int (iI (t))), (2, .int (iI (a))), (3, .int (iI (d))), (4, .int (iI (n)))]) X d_Mo_inverse_171 hl rfl (by decide) rfl (fun ls hl => ?_)
      refine lv_goto (tgt := 79) X.1 X.2.1 d_Mo_inverse_174 (by decide) ?_
      have k46 : Mx1 46 = whK pr inv V (M d.toNat) (k + 1) := by
        show _ = shf (dvm pr inv (whK pr inv V (M d.toNat) k) (M d.toNat)).1
        rw [eMx1, va_up_self, s2, ← hY]
        funext x
        unfold shf
        by_cases e9 : x = 0
        · rw [e9, va_up_self, if_pos rfl]
        · rw [va_up_ne _ _ e9, if_neg e9, a42]
          show (if 0 < x ∧ x ≤ 25 then (dvm pr inv Y (M d.toNat)).1 (x - 1) else Mw1 46 x) = _
          split
          · rfl
          · rw [aF 46 (by decide) (by decide), h46, hYk.2 x (by omega), hr25.2 (x - 1) (by omega)]
      have hW3 : WR Mx1 := by
        have e4 : Mx1 = va_up Mw1 46 (whK pr inv V (M d.toNat) (k + 1)) := by
          funext r
          by_cases e9 : r = 46
          · rw [e9, k46, va_up_self]
          · rw [eMx1, va_up_ne _ _ e9, va_up_ne _ _ e9, s3 r e9]
        rw [e4]
        exact hW1.up (((whK_ok hI hV hD (by omega) (k + 1)).mono (by omega)).ok hpr.2)
      refine ih (k + 1) Mx1 F2 B2 H locs ls (by omega) w gB gE (fun q hq => by rw [gQ q hq]; exact hQ q hq) hW3 k46 (fun i j hi hj => ?_) (fun r r1 r2 r3 => by rw [eMx1, va_up_ne _ _ r3, s3 r r3, aF r r1 r2]; exact h3 r r1 r2 r3) (lv_sub hl [1, 2, 3, 4, 5, 0] rfl)
      rw [gF i j hi (by omega)]
      split
      · next e => rw [e, a42, hY]
      · next e => exact h2 i j hi (by omega)
theorem l_inv_180 (X : Cx p s m args c b_Mo_inverse RMo) (hml : c.maxLocals = 12) (hT : 213 ≤ T) (hn : n ≤ 24) {Fa : Nat → Nat → Int}
    (K : ∀ (F1 : Nat → Nat → Int) (B1 : Nat → va_E) (H : Heap) (locs : List Loc) (ls : Array Slot), Wd D cs A ad T s (mkR cs M B1) H locs → moO cs ad th pr fc B1 → eqV cs ad n pm F1 B1 → (∀ q, q < 188 ∨ 213 ≤ q → B1 q = B q) → (∀ i j, i < n → j ≤ n → F1 i j = if j = n then (if i = 0 then 1 else 0) else Fa i j) → lv_has ls 12 [(0, .ref (ad (132))), (1, .int (iI (t))), (2, .int (iI (a))), (3, .int (iI (d))), (4, .int (iI (n)))] → W p l e { frames := 2, cells := 0, slots := 0, locals := 49 } s m args below meth c H locs 0 0 Q (F0 m 213 ls [])) :
    ∀ (f k : Nat) (F1 : Nat → Nat → Int) (B1 : Nat → va_E) (H : Heap) (locs : List Loc) (ls : Array Slot), k + f = n → Wd D cs A ad T s (mkR cs M B1) H locs → moO cs ad th pr fc B1 → eqV cs ad n pm F1 B1 → (∀ q, q < 188 ∨ 213 ≤ q → B1 q = B q) → (∀ i j, i < n → j ≤ n → F1 i j = if j = n ∧ i < k then (if i = 0 then 1 else 0) else Fa i j) → lv_has ls 12 [(0, .ref (ad (132))), (1, .int (iI (t))), (2, .int (iI (a))), (3, .int (iI (d))), (4, .int (iI (n))), (5, .int (iI (k)))] → W p l e { frames := 2, cells := 0, slots := 0, locals := 49 } s m args below meth c H locs 0 0 Q (F0 m 180 ls []) := by
  intro f
  induction f with
  | zero =>
    intro k F1 B1 H locs ls h1 w hB hE hQ h2 hl
    refine lv_iload X.1 X.2.1 d_Mo_inverse_180 (lv_at hl 5 rfl) ?_
    refine lv_iload X.1 X.2.1 d_Mo_inverse_182 (lv_at hl 4 rfl) ?_
    refine i_ge (a := k) (b := n) (tgt := 213) X (by omega) (by omega) d_Mo_inverse_184 (by decide) (fun h_184 => ?_) (fun h_184 => ?_)
    · refine K F1 B1 H locs ls w hB hE hQ (fun i j hi hj => ?_) (lv_sub hl [0, 1, 2, 3, 4] rfl)
      rw [h2 i j hi hj]
      by_cases e : j = n
      · rw [if_pos ⟨e, by omega⟩, if_pos e]
      · rw [if_neg (fun h => e h.1), if_neg e]
    · exact absurd h_184 (by omega)
  | succ f ih =>
    intro k F1 B1 H locs ls h1 w hB hE hQ h2 hl
    refine lv_iload X.1 X.2.1 d_Mo_inverse_180 (lv_at hl 5 rfl) ?_
    refine lv_iload X.1 X.2.1 d_Mo_inverse_182 (lv_at hl 4 rfl) ?_
    refine i_ge (a := k) (b := n) (tgt := 213) X (by omega) (by omega) d_Mo_inverse_184 (by decide) (fun h_184 => ?_) (fun h_184 => ?_)
    · exact absurd h_184 (by omega)
    · refine lv_aload_n X.1 X.2.1 d_Mo_inverse_187 rfl (lv_at hl 0 rfl) ?_
      refine m_get X hT w hB 15 (by decide) k_f_Mo_58 rfl d_Mo_inverse_188 ?_
      refine lv_iload X.1 X.2.1 d_Mo_inverse_191 (lv_at hl 5 rfl) ?_
      refine e_row (z := k) X hT w hE (k) (by omega) (by omega) d_Mo_inverse_193 ?_
      refine lv_iload X.1 X.2.1 d_Mo_inverse_194 (lv_at hl 4 rfl) ?_
      refine lv_iload X.1 X.2.1 d_Mo_inverse_196 (lv_at hl 5 rfl) ?_
      refine z_ne (a := k) (tgt := 205) X (by omega) d_Mo_inverse_198 (by decide) (fun h_198 => ?_) (fun h_198 => ?_)
      · refine lv_iconst (v := iI (0)) X.1 X.2.1 d_Mo_inverse_205 (by decide) ?_
        refine e_st (z := n) (v := 0) X hT w hB hE hn (k) (by omega) (n) (by omega) (by omega) d_Mo_inverse_206 (fun Bw1 H locs w hB hE hQBw1 => ?_)
        refine i_inc (k := 5) (x := k) (lv' := [(5, .int (iI (k + 1))), (0, .ref (ad (132))), (1, .int (iI (t))), (2, .int (iI (a))), (3, .int (iI (d))), (4, .int (iI (n)))]) X d_Mo_inverse_207 hl rfl (by decide) rfl (fun ls hl => ?_)
        refine lv_goto (tgt := 180) X.1 X.2.1 d_Mo_inverse_210 (by decide) ?_
        refine ih (k + 1) _ Bw1 H locs ls (by omega) w hB hE (fun q hq => by rw [hQBw1 q hq]; exact hQ q hq) (fun i j hi hj => ?_) (lv_sub hl [1, 2, 3, 4, 5, 0] rfl)
        by_cases e1 : i = k
        · subst e1
          rw [va_up_self]
          by_cases e2 : j = n
          · rw [e2, va_up_self, if_pos ⟨rfl, by omega⟩]; first | rw [if_pos (by omega)] | rw [if_neg (by omega)]
          · rw [va_up_ne _ _ e2, h2 i j hi hj, if_neg (fun h => e2 h.1), if_neg (fun h => e2 h.1)]
        · rw [va_up_ne _ _ e1, h2 i j hi hj]
          by_cases e2 : j = n ∧ i < k
          · rw [if_pos e2, if_pos (show j = n ∧ i < k + 1 from ⟨e2.1, by omega⟩)]
          · rw [if_neg e2, if_neg (fun h => e2 ⟨h.1, by omega⟩)]
      · refine lv_iconst (v := iI (1)) X.1 X.2.1 d_Mo_inverse_201 (by decide) ?_
        refine lv_goto (tgt := 206) X.1 X.2.1 d_Mo_inverse_202 (by decide) ?_
        refine e_st (z := n) (v := 1) X hT w hB hE hn (k) (by omega) (n) (by omega) (by omega) d_Mo_inverse_206 (fun Bw1 H locs w hB hE hQBw1 => ?_)
        refine i_inc (k := 5) (x := k) (lv' := [(5, .int (iI (k + 1))), (0, .ref (ad (132))), (1, .int (iI (t))), (2, .int (iI (a))), (3, .int (iI (d))), (4, .int (iI (n)))]) X d_Mo_inverse_207 hl rfl (by decide) rfl (fun ls hl => ?_)
        refine lv_goto (tgt := 180) X.1 X.2.1 d_Mo_inverse_210 (by decide) ?_
        refine ih (k + 1) _ Bw1 H locs ls (by omega) w hB hE (fun q hq => by rw [hQBw1 q hq]; exact hQ q hq) (fun i j hi hj => ?_) (lv_sub hl [1, 2, 3, 4, 5, 0] rfl)
        by_cases e1 : i = k
        · subst e1
          rw [va_up_self]
          by_cases e2 : j = n
          · rw [e2, va_up_self, if_pos ⟨rfl, by omega⟩]; first | rw [if_pos (by omega)] | rw [if_neg (by omega)]
          · rw [va_up_ne _ _ e2, h2 i j hi hj, if_neg (fun h => e2 h.1), if_neg (fun h => e2 h.1)]
        · rw [va_up_ne _ _ e1, h2 i j hi hj]
          by_cases e2 : j = n ∧ i < k
          · rw [if_pos e2, if_pos (show j = n ∧ i < k + 1 from ⟨e2.1, by omega⟩)]
          · rw [if_neg e2, if_neg (fun h => e2 ⟨h.1, by omega⟩)]
end MIV
