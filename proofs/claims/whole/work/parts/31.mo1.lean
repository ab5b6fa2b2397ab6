/-! the reference: its object at the place 132, the outer arrays at 133 (registers), 134 (factors), 136 (equation), how often at 135; 50 rows of 50 ints at 138 + r: registers 0 .. 15, factors 16 .. 40, quotient 41, rest 42, product 43, one 44, two 45, whole 46, candidate 47, base 48, sum 49; the equation's 25 rows of 26 at 188 .. 212 -/
def mkR (cs : Nat → ClassId) (M : Nat → Nat → Int) (B : Nat → va_E) : Nat → va_E := fun i => if 138 ≤ i ∧ i < 188 then aI cs 50 (M (i - 138)) else B i
theorem mkR_r {cs : Nat → ClassId} {M : Nat → Nat → Int} {B : Nat → va_E} {r : Nat} (h : r < 50) : mkR cs M B (138 + r) = aI cs 50 (M r) := by
  unfold mkR
  rw [if_pos (by omega), show 138 + r - 138 = r by omega]
theorem mkR_B {cs : Nat → ClassId} {M : Nat → Nat → Int} {B : Nat → va_E} {i : Nat} (h : i < 138 ∨ 188 ≤ i) : mkR cs M B i = B i := by
  unfold mkR
  rw [if_neg (by omega)]
theorem mkR_sr {cs : Nat → ClassId} {M : Nat → Nat → Int} {B : Nat → va_E} {r : Nat} {F : Nat → Int} (h : r < 50) : va_up (mkR cs M B) (138 + r) (aI cs 50 F) = mkR cs (va_up M r F) B := by
  funext i
  by_cases hi : i = 138 + r
  · subst hi
    rw [va_up_self, mkR_r h, va_up_self]
  · rw [va_up_ne _ _ hi]
    unfold mkR
    split
    · rw [va_up_ne _ _ (by omega)]
    · rfl
theorem mkR_sB {cs : Nat → ClassId} {M : Nat → Nat → Int} {B : Nat → va_E} {i : Nat} {x : va_E} (h : i < 138 ∨ 188 ≤ i) : va_up (mkR cs M B) i x = mkR cs M (va_up B i x) := by
  funext j
  by_cases hj : j = i
  · subst hj
    rw [va_up_self, mkR_B h, va_up_self]
  · rw [va_up_ne _ _ hj]
    unfold mkR
    split
    · rfl
    · rw [va_up_ne _ _ hj]
def moF (ad : Nat → Nat) (th pr fc : Int) : List Value := [.int (iI th), .int (iI pr), .ref (ad 133), .ref (ad 134), .ref (ad 135), .int (iI fc), .ref (ad (138 + 41)), .ref (ad (138 + 42)), .ref (ad (138 + 43)), .ref (ad (138 + 44)), .ref (ad (138 + 45)), .ref (ad (138 + 46)), .ref (ad (138 + 47)), .ref (ad (138 + 48)), .ref (ad (138 + 49)), .ref (ad 136)]
def aG (cs : Nat → ClassId) (ad : Nat → Nat) (n : Nat) (pl : Nat → Nat) : va_E := .inl (cs 3, n, .inr (.inr (.inr (.inr (fun i => some (ad (pl i)))))))
def moO (cs : Nat → ClassId) (ad : Nat → Nat) (th pr fc : Int) (B : Nat → va_E) : Prop := B 132 = .inr (5, moF ad th pr fc) ∧ B 133 = aG cs ad 16 (fun i => 138 + i) ∧ B 134 = aG cs ad 25 (fun i => 138 + (16 + i))
def invP (pr : Int) (inv : Nat → Int) : Prop := (2 ≤ pr ∧ pr ≤ 13) ∧ ∀ v : Nat, 1 ≤ v → (v : Int) < pr → (1 ≤ inv v ∧ inv v < pr) ∧ (v * inv v) % pr = 1
theorem invP.inv {pr : Int} {inv : Nat → Int} (h : invP pr inv) {v : Int} (hv : 1 ≤ v ∧ v < pr) : (1 ≤ inv v.toNat ∧ inv v.toNat < pr) ∧ (v * inv v.toNat) % pr = 1 := by
  have := h.2 v.toNat (by omega) (by omega)
  rw [show ((v.toNat : Nat) : Int) = v by omega] at this
  exact this
/-- all rows are in order -/
def WR (M : Nat → Nat → Int) : Prop := ∀ r, r < 50 → ok 50 (M r)
theorem WR.up {M : Nat → Nat → Int} (h : WR M) {k : Nat} {F : Nat → Int} (hF : ok 50 F) : WR (va_up M k F) := by
  intro j hj
  by_cases e : j = k
  · subst e; rw [va_up_self]; exact hF
  · rw [va_up_ne _ _ e]; exact h j hj
section MR
variable {p : Program} {l : Launch} {e : Env} {R : Room} {s : State} {m : MethodId} {args : Array Value} {below : List Frame} {meth : Method} {c : Code} {H : Heap} {locs : List Loc} {cells slots : Nat} {Q : State → Prop} {D : va_G} {cs : Nat → ClassId} {A : Nat → Prop} {ad : Nat → Nat} {T : Nat}
variable {cc : ByteArray} {own : String} {pc : Nat} {ls : Array Slot} {rest st : List Value} {M : Nat → Nat → Int} {B : Nat → va_E} {th pr fc : Int}
theorem m_get {index : Nat} (X : Cx p s m args c cc own) (hT : 213 ≤ T) (w : Wd D cs A ad T s (mkR cs M B) H locs) (hB : moO cs ad th pr fc B) (k : Nat) (hk : k < 16) (hlink : Cond.fieldLink own index (FMo k).1 (FMo k).2.1 (FMo k).2.2.1 ∈ TB) {v : Value} (hv : (moF ad th pr fc)[k]? = some v) (hdg : decode cc pc = .ok (.getfield index, 3))
    (kk : W p l e R s m args below meth c H locs cells slots Q (F0 m (pc + 3) ls (v :: rest))) : W p l e R s m args below meth c H locs cells slots Q (F0 m pc ls (.ref (ad 132) :: rest)) :=
  w_get X w (Nat.lt_of_lt_of_le (by decide) hT) (by rw [mkR_B (by decide)]; exact hB.1) (ci := 5) rfl k_l_Mo k hk hlink hv hdg kk
theorem m_ld {r : Nat} {z : Int} (X : Cx p s m args c cc own) (hT : 213 ≤ T) (w : Wd D cs A ad T s (mkR cs M B) H locs) (hr : r < 50) (j : Nat) (hz : z = (j : Int)) (hj : j < 50) (hdg : decode cc pc = .ok (.iaload, 1))
    (kk : W p l e R s m args below meth c H locs cells slots Q (F0 m (pc + 1) ls (.int (iI (M r j)) :: rest))) : W p l e R s m args below meth c H locs cells slots Q (F0 m pc ls (.int (iI z) :: .ref (ad (138 + r)) :: rest)) :=
  w_ild X w (Nat.lt_of_lt_of_le (by omega) hT) (mkR_r hr) j hz hj (by decide) hdg kk
theorem m_st {r : Nat} {z v : Int} (X : Cx p s m args c cc own) (hT : 213 ≤ T) (w : Wd D cs A ad T s (mkR cs M B) H locs) (hr : r < 50) (j : Nat) (hz : z = (j : Int)) (hj : j < 50) (hdg : decode cc pc = .ok (.iastore, 1))
    (kk : ∀ (H1 : Heap) (locs1 : List Loc), Wd D cs A ad T s (mkR cs (va_up M r (va_up (M r) j v)) B) H1 locs1 → W p l e R s m args below meth c H1 locs1 cells slots Q (F0 m (pc + 1) ls rest)) : W p l e R s m args below meth c H locs cells slots Q (F0 m pc ls (.int (iI v) :: .int (iI z) :: .ref (ad (138 + r)) :: rest)) :=
  w_ist X w (Nat.lt_of_lt_of_le (by omega) hT) (mkR_r hr) j hz hj (by decide) hdg (fun H1 locs1 h => kk H1 locs1 (by rw [mkR_sr hr] at h; exact h))
theorem m_aal {i n : Nat} {pl : Nat → Nat} {C : Nat → va_E} {z : Int} (X : Cx p s m args c cc own) (w : Wd D cs A ad T s C H locs) (hi : i < T) (hC : C i = aG cs ad n pl) (j : Nat) (hz : z = (j : Int)) (hj : j < n) (hn : n < 2147483648) (hdg : decode cc pc = .ok (.aaload, 1))
    (kk : W p l e R s m args below meth c H locs cells slots Q (F0 m (pc + 1) ls (.ref (ad (pl j)) :: rest))) : W p l e R s m args below meth c H locs cells slots Q (F0 m pc ls (.int (iI z) :: .ref (ad i) :: rest)) := by
  subst hz
  have hP := w.2.2.2.1
  have ha : (vW ad C T)[i]? = some (ad i, .inl (cs 3, n, .inr (.inr (.inr (.inr (fun i => some (ad (pl i)))))))) := by rw [vW_get hi, hC]; rfl
  have hin := iI_in hj hn
  exact W.aald (v := va_rf (some (ad (pl j)))) (ty := .array .int) X.1 X.2.1 (hP i _ ha) ((w.1.2 3 _ rfl).1 n (fun j => va_rf (some (ad (pl j))))) rfl (fun q => by cases q) (by show ¬ (_ < 0 ∨ (arrV _ _ _).slots.size ≤ _); rw [arrV_size]; exact hin) (by show (arrV _ _ _).slots[_]? = _; rw [arrV_read _ _ (by rw [iI_clamp (by omega)]; exact hj), iI_clamp (by omega)]) rfl rfl hdg kk
theorem m_pth {index : Nat} {z : Int} (X : Cx p s m args c cc own) (hT : 213 ≤ T) (w : Wd D cs A ad T s (mkR cs M B) H locs) (hB : moO cs ad th pr fc B) (hlink : Cond.fieldLink own index "FieldFactorsModel" "thrown" "I" ∈ TB) (hdg : decode cc pc = .ok (.putfield index, 3))
    (kk : ∀ (H1 : Heap) (locs1 : List Loc), Wd D cs A ad T s (mkR cs M (va_up B 132 (.inr (5, moF ad z pr fc)))) H1 locs1 → W p l e R s m args below meth c H1 locs1 cells slots Q (F0 m (pc + 3) ls rest)) : W p l e R s m args below meth c H locs cells slots Q (F0 m pc ls (.int (iI z) :: .ref (ad 132) :: rest)) :=
  w_put X w (Nat.lt_of_lt_of_le (by decide) hT) (by rw [mkR_B (by decide)]; exact hB.1) (ci := 5) rfl k_l_Mo tMo tyMo nMo 0 (by decide) hlink rfl rfl rfl (Nat.le_of_ble_eq_true rfl) hdg (fun H1 locs1 h => kk H1 locs1 (by rw [mkR_sB (by decide)] at h; exact h))
theorem m_ppr {index : Nat} {z : Int} (X : Cx p s m args c cc own) (hT : 213 ≤ T) (w : Wd D cs A ad T s (mkR cs M B) H locs) (hB : moO cs ad th pr fc B) (hlink : Cond.fieldLink own index "FieldFactorsModel" "p" "I" ∈ TB) (hdg : decode cc pc = .ok (.putfield index, 3))
    (kk : ∀ (H1 : Heap) (locs1 : List Loc), Wd D cs A ad T s (mkR cs M (va_up B 132 (.inr (5, moF ad th z fc)))) H1 locs1 → W p l e R s m args below meth c H1 locs1 cells slots Q (F0 m (pc + 3) ls rest)) : W p l e R s m args below meth c H locs cells slots Q (F0 m pc ls (.int (iI z) :: .ref (ad 132) :: rest)) :=
  w_put X w (Nat.lt_of_lt_of_le (by decide) hT) (by rw [mkR_B (by decide)]; exact hB.1) (ci := 5) rfl k_l_Mo tMo tyMo nMo 1 (by decide) hlink rfl rfl rfl (Nat.le_of_ble_eq_true rfl) hdg (fun H1 locs1 h => kk H1 locs1 (by rw [mkR_sB (by decide)] at h; exact h))
theorem m_pfc {index : Nat} {z : Int} (X : Cx p s m args c cc own) (hT : 213 ≤ T) (w : Wd D cs A ad T s (mkR cs M B) H locs) (hB : moO cs ad th pr fc B) (hlink : Cond.fieldLink own index "FieldFactorsModel" "factors" "I" ∈ TB) (hdg : decode cc pc = .ok (.putfield index, 3))
    (kk : ∀ (H1 : Heap) (locs1 : List Loc), Wd D cs A ad T s (mkR cs M (va_up B 132 (.inr (5, moF ad th pr z)))) H1 locs1 → W p l e R s m args below meth c H1 locs1 cells slots Q (F0 m (pc + 3) ls rest)) : W p l e R s m args below meth c H locs cells slots Q (F0 m pc ls (.int (iI z) :: .ref (ad 132) :: rest)) :=
  w_put X w (Nat.lt_of_lt_of_le (by decide) hT) (by rw [mkR_B (by decide)]; exact hB.1) (ci := 5) rfl k_l_Mo tMo tyMo nMo 5 (by decide) hlink rfl rfl rfl (Nat.le_of_ble_eq_true rfl) hdg (fun H1 locs1 h => kk H1 locs1 (by rw [mkR_sB (by decide)] at h; exact h))
theorem iI_remT {a b : Int} (ha : rg a) (hb : 0 < b ∧ b < 2147483648) : iI a - iI a / iI b * iI b = iI (a.tmod b) := by
  have h1 : iI a / iI b = iI (a.tdiv b) := by
    apply Int32.toInt_inj.mp
    have hr : rg (a.tdiv b) := by
      have h2 : (a.tdiv b).natAbs ≤ a.natAbs := by rw [Int.natAbs_tdiv]; exact Nat.div_le_self _ _
      have h3 : a = -2147483648 → a.tdiv b ≤ 0 := fun e => by
        have := Int.tdiv_nonneg (a := -a) (b := b) (by omega) (by omega)
        rw [Int.neg_tdiv] at this
        omega
      omega
    rw [Int32.toInt_div, iI_toInt ha, iI_toInt (by omega), iI_toInt hr]
    exact Int.bmod_eq_of_le (by omega) (by omega)
  rw [h1, iI_mul, iI_sub, Int.tmod_def, Int.mul_comm b]
theorem i_remT (X : Cx p s m args c cc own) {a b : Int} (ha : rg a) (hb : 0 < b ∧ b < 2147483648) (hdg : decode cc pc = .ok (.irem, 1)) (kk : W p l e R s m args below meth c H locs cells slots Q (F0 m (pc + 1) ls (.int (iI (a.tmod b)) :: rest))) : W p l e R s m args below meth c H locs cells slots Q (F0 m pc ls (.int (iI b) :: .int (iI a) :: rest)) :=
  lv_irem X.1 X.2.1 hdg (fun h => by rw [iI_0, iI_eq ⟨by omega, by omega⟩ ⟨by omega, by omega⟩] at h; omega) (by rw [iI_remT ha hb]; exact kk)
end MR
theorem tmod_fix {a b : Int} (hb : 0 < b) : (a.tmod b + b) % b = a % b ∧ 0 ≤ a.tmod b + b ∧ a.tmod b + b < 2 * b := by
  have h1 : a.tmod b = a - b * a.tdiv b := Int.tmod_def a b
  have h2 := Int.tmod_lt_of_pos a hb
  have h3 : -b < a.tmod b := by
    have := Int.tmod_lt_of_pos (-a) hb
    rw [Int.neg_tmod] at this
    omega
  refine ⟨?_, by omega, by omega⟩
  rw [Int.add_emod_right, h1, Int.sub_emod, Int.mul_emod_right, Int.sub_zero, Int.emod_emod]
theorem inv_uniq {pr a b c : Int} (ha : 1 ≤ a ∧ a < pr) (hb : 1 ≤ b ∧ b < pr) (h1 : a * c % pr = 1) (h2 : c * b % pr = 1) : a = b := by
  have e1 := Int.mul_ediv_add_emod (a * c) pr
  have e2 := Int.mul_ediv_add_emod (c * b) pr
  rw [h1] at e1
  rw [h2] at e2
  have h3 : a - b = pr * (a * c / pr * b - a * (c * b / pr)) := by grind
  obtain ⟨k, hk⟩ : ∃ k : Int, k = a * c / pr * b - a * (c * b / pr) := ⟨_, rfl⟩
  rw [← hk] at h3
  have h4 : ¬ 1 ≤ k := fun h => by have := Int.mul_le_mul_of_nonneg_left h (show 0 ≤ pr by omega); omega
  have h5 : ¬ k ≤ -1 := fun h => by have := Int.mul_le_mul_of_nonneg_left h (show 0 ≤ pr by omega); omega
  have h6 : k = 0 := by omega
  rw [h6] at h3
  omega
section MC
variable {p : Program} {l : Launch} {e : Env} {s : State} {m : MethodId} {args : Array Value} {below : List Frame} {meth : Method} {c : Code} {H : Heap} {locs : List Loc} {Q : State → Prop} {D : va_G} {cs : Nat → ClassId} {A : Nat → Prop} {ad : Nat → Nat} {T : Nat} {B : Nat → va_E} {th pr fc : Int}
variable {a b : Nat}
theorem l_Mo_clear (X : Cx p s m args c b_Mo_clear RMo) (hT : 213 ≤ T) (ha : a < 50) {M : Nat → Nat → Int}
    (K : ∀ (M1 : Nat → Nat → Int) (H : Heap) (locs : List Loc) (ls : Array Slot), Wd D cs A ad T s (mkR cs M1 B) H locs → (∀ x, M1 a x = if x < 50 then 0 else M a x) → (∀ j, j ≠ a → M1 j = M j) → W p l e { frames := 0, cells := 0, slots := 0, locals := 0 } s m args below meth c H locs 0 0 Q (F0 m 18 ls [])) :
    ∀ (n i : Nat) (M1 : Nat → Nat → Int) (H : Heap) (locs : List Loc) (ls : Array Slot), i + n = 50 → Wd D cs A ad T s (mkR cs M1 B) H locs → (∀ x, M1 a x = if x < i then 0 else M a x) → (∀ j, j ≠ a → M1 j = M j) → lv_has ls 2 [(0, .ref (ad (138 + a))), (1, .int (iI (i)))] → W p l e { frames := 0, cells := 0, slots := 0, locals := 0 } s m args below meth c H locs 0 0 Q (F0 m 2 ls []) := by
  intro n
  induction n with
  | zero =>
    intro i M1 H locs ls h1 w h2 h3 hl
    have hi : i = 50 := by omega
    subst hi
    refine lv_iload_n X.1 X.2.1 d_Mo_clear_2 rfl (lv_at hl 1 rfl) ?_
    refine lv_bipush (v := iI (50)) X.1 X.2.1 d_Mo_clear_3 (by decide) ?_
    refine i_ge (a := ((50 : Nat) : Int)) (b := 50) (tgt := 18) X (by omega) (by omega) d_Mo_clear_5 (by decide) (fun h_5 => ?_) (fun h_5 => ?_)
    · exact K M1 H locs ls w h2 h3
    · exact absurd h_5 (by omega)
  | succ n ih =>
    intro i M1 H locs ls h1 w h2 h3 hl
    refine lv_iload_n X.1 X.2.1 d_Mo_clear_2 rfl (lv_at hl 1 rfl) ?_
    refine lv_bipush (v := iI (50)) X.1 X.2.1 d_Mo_clear_3 (by decide) ?_
    refine i_ge (a := i) (b := 50) (tgt := 18) X (by omega) (by omega) d_Mo_clear_5 (by decide) (fun h_5 => ?_) (fun h_5 => ?_)
    · exact absurd h_5 (by omega)
    · refine lv_aload_n X.1 X.2.1 d_Mo_clear_8 rfl (lv_at hl 0 rfl) ?_
      refine lv_iload_n X.1 X.2.1 d_Mo_clear_9 rfl (lv_at hl 1 rfl) ?_
      refine lv_iconst (v := iI (0)) X.1 X.2.1 d_Mo_clear_10 (by decide) ?_
      refine m_st (r := a) (z := i) (v := 0) X hT w (by omega) (i) (by omega) (by omega) d_Mo_clear_11 (fun H locs w => ?_)
      obtain ⟨Mw1, eMw1⟩ : ∃ mm : Nat → Nat → Int, mm = va_up M1 a (va_up (M1 a) i (0)) := ⟨_, rfl⟩
      rw [← eMw1] at w
      refine i_inc (k := 1) (x := i) (lv' := [(1, .int (iI (i + 1))), (0, .ref (ad (138 + a)))]) X d_Mo_clear_12 hl rfl (by decide) rfl (fun ls hl => ?_)
      refine lv_goto (tgt := 2) X.1 X.2.1 d_Mo_clear_15 (by decide) ?_
      exact ih (i + 1) Mw1 H locs ls (by omega) w (fun x => by rw [eMw1, va_up_self]; unfold va_up; rw [h2 x]; split <;> split <;> first | rfl | (exfalso; omega) | (split <;> first | rfl | (exfalso; omega))) (fun j hj => by rw [eMw1, va_up_ne _ _ hj]; exact h3 j hj) (lv_sub hl [1, 0] rfl)
theorem l_Mo_copy (X : Cx p s m args c b_Mo_copy RMo) (hT : 213 ≤ T) (ha : a < 50) (hb : b < 50) {M : Nat → Nat → Int}
    (K : ∀ (M1 : Nat → Nat → Int) (H : Heap) (locs : List Loc) (ls : Array Slot), Wd D cs A ad T s (mkR cs M1 B) H locs → (∀ x, M1 b x = if x < 50 then M a x else M b x) → (∀ j, j ≠ b → M1 j = M j) → W p l e { frames := 0, cells := 0, slots := 0, locals := 0 } s m args below meth c H locs 0 0 Q (F0 m 20 ls [])) :
    ∀ (n i : Nat) (M1 : Nat → Nat → Int) (H : Heap) (locs : List Loc) (ls : Array Slot), i + n = 50 → Wd D cs A ad T s (mkR cs M1 B) H locs → (∀ x, M1 b x = if x < i then M a x else M b x) → (∀ j, j ≠ b → M1 j = M j) → lv_has ls 3 [(0, .ref (ad (138 + a))), (1, .ref (ad (138 + b))), (2, .int (iI (i)))] → W p l e { frames := 0, cells := 0, slots := 0, locals := 0 } s m args below meth c H locs 0 0 Q (F0 m 2 ls []) := by
  intro n
  induction n with
  | zero =>
    intro i M1 H locs ls h1 w h2 h3 hl
    have hi : i = 50 := by omega
    subst hi
    refine lv_iload_n X.1 X.2.1 d_Mo_copy_2 rfl (lv_at hl 2 rfl) ?_
    refine lv_bipush (v := iI (50)) X.1 X.2.1 d_Mo_copy_3 (by decide) ?_
    refine i_ge (a := ((50 : Nat) : Int)) (b := 50) (tgt := 20) X (by omega) (by omega) d_Mo_copy_5 (by decide) (fun h_5 => ?_) (fun h_5 => ?_)
    · exact K M1 H locs ls w h2 h3
    · exact absurd h_5 (by omega)
  | succ n ih =>
    intro i M1 H locs ls h1 w h2 h3 hl
    have hai : M1 a i = M a i := by
      by_cases e : a = b
      · subst e; rw [h2 i, if_neg (by omega)]
      · rw [h3 a e]
    refine lv_iload_n X.1 X.2.1 d_Mo_copy_2 rfl (lv_at hl 2 rfl) ?_
    refine lv_bipush (v := iI (50)) X.1 X.2.1 d_Mo_copy_3 (by decide) ?_
    refine i_ge (a := i) (b := 50) (tgt := 20) X (by omega) (by omega) d_Mo_copy_5 (by decide) (fun h_5 => ?_) (fun h_5 => ?_)
    · exact absurd h_5 (by omega)
    · refine lv_aload_n X.1 X.2.1 d_Mo_copy_8 rfl (lv_at hl 1 rfl) ?_
      refine lv_iload_n X.1 X.2.1 d_Mo_copy_9 rfl (lv_at hl 2 rfl) ?_
      refine lv_aload_n X.1 X.2.1 d_Mo_copy_10 rfl (lv_at hl 0 rfl) ?_
      refine lv_iload_n X.1 X.2.1 d_Mo_copy_11 rfl (lv_at hl 2 rfl) ?_
      refine m_ld (r := a) (z := i) X hT w (by omega) (i) (by omega) (by omega) d_Mo_copy_12 ?_
      refine m_st (r := b) (z := i) (v := M1 a i) X hT w (by omega) (i) (by omega) (by omega) d_Mo_copy_13 (fun H locs w => ?_)
      obtain ⟨Mw1, eMw1⟩ : ∃ mm : Nat → Nat → Int, mm = va_up M1 b (va_up (M1 b) i (M1 a i)) := ⟨_, rfl⟩
      rw [← eMw1] at w
      refine i_inc (k := 2) (x := i) (lv' := [(2, .int (iI (i + 1))), (0, .ref (ad (138 + a))), (1, .ref (ad (138 + b)))]) X d_Mo_copy_14 hl rfl (by decide) rfl (fun ls hl => ?_)
      refine lv_goto (tgt := 2) X.1 X.2.1 d_Mo_copy_17 (by decide) ?_
      have hu : ∀ x, Mw1 b x = if x < i + 1 then M a x else M b x := by
        intro x
        rw [eMw1, va_up_self]
        by_cases e : x = i
        · subst e; rw [va_up_self, hai, if_pos (by omega)]
        · rw [va_up_ne _ _ e, h2 x]; split <;> split <;> first | rfl | (exfalso; omega)
      exact ih (i + 1) Mw1 H locs ls (by omega) w hu (fun j hj => by rw [eMw1, va_up_ne _ _ hj]; exact h3 j hj) (lv_sub hl [1, 2, 0] rfl)
theorem l_Mo_degree {post : Int32 → (Nat → va_E) → Prop} (X : Cx p s m args c b_Mo_degree RMo) (hr : meth.sig.returnType = some .int) (hlk : meth.locks = false) (hT : 213 ≤ T) (ha : a < 50) {M : Nat → Nat → Int} (hM : ok 50 (M a)) (w : Wd D cs A ad T s (mkR cs M B) H locs) (hp : post (iI (dg 300 (M a))) (mkR cs M B)) :
    ∀ (n : Nat) (ls : Array Slot), n ≤ 50 → (∀ x : Nat, n ≤ x → M a x = 0) → lv_has ls 2 [(0, .ref (ad (138 + a))), (1, .int (iI ((n : Int) - 1)))] → W p l e { frames := 0, cells := 0, slots := 0, locals := 0 } s m args below meth c H locs 0 0 (MQ below (va_Qi post (QW D cs ad T) A) args s 0 0 A) (F0 m 3 ls []) := by
  intro n
  induction n with
  | zero =>
    intro ls hn h2 hl
    have hd : dg 300 (M a) = ((0 : Nat) : Int) - 1 := dg_eq (by omega) (by omega) (fun x hx => by omega) (fun x hx _ => h2 x (by omega))
    refine lv_iload_n X.1 X.2.1 d_Mo_degree_3 rfl (lv_at hl 1 rfl) ?_
    refine z_lt (a := ((0 : Nat) : Int) - 1) (tgt := 19) X (by omega) d_Mo_degree_4 (by decide) (fun h_4 => ?_) (fun h_4 => ?_)
    · refine lv_iload_n X.1 X.2.1 d_Mo_degree_19 rfl (lv_at hl 1 rfl) ?_
      rw [← hd]
      exact w_iret X hr hlk w hp d_Mo_degree_20
    · exact absurd h_4 (by omega)
  | succ n ih =>
    intro ls hn h2 hl
    have hb := hM.1 n
    refine lv_iload_n X.1 X.2.1 d_Mo_degree_3 rfl (lv_at hl 1 rfl) ?_
    refine z_lt (a := ((n + 1 : Nat) : Int) - 1) (tgt := 19) X (by omega) d_Mo_degree_4 (by decide) (fun h_4 => ?_) (fun h_4 => ?_)
    · exact absurd h_4 (by omega)
    · refine lv_aload_n X.1 X.2.1 d_Mo_degree_7 rfl (lv_at hl 0 rfl) ?_
      refine lv_iload_n X.1 X.2.1 d_Mo_degree_8 rfl (lv_at hl 1 rfl) ?_
      refine m_ld (r := a) (z := ((n + 1 : Nat) : Int) - 1) X hT w (by omega) (n) (by omega) (by omega) d_Mo_degree_9 ?_
      refine z_ne (a := M a n) (tgt := 19) X (by omega) d_Mo_degree_10 (by decide) (fun h_10 => ?_) (fun h_10 => ?_)
      · refine lv_iload_n X.1 X.2.1 d_Mo_degree_19 rfl (lv_at hl 1 rfl) ?_
        have hd : dg 300 (M a) = ((n + 1 : Nat) : Int) - 1 := dg_eq (by omega) (by omega) (fun x hx => by rw [show x = n by omega]; exact h_10) (fun x hx _ => h2 x (by omega))
        rw [← hd]
        exact w_iret X hr hlk w hp d_Mo_degree_20
      · refine i_inc (k := 1) (x := ((n + 1 : Nat) : Int) - 1) (lv' := [(1, .int (iI ((((n + 1 : Nat) : Int) - 1) + (-1)))), (0, .ref (ad (138 + a)))]) X d_Mo_degree_13 hl rfl (by decide) rfl (fun ls hl => ?_)
        refine lv_goto (tgt := 3) X.1 X.2.1 d_Mo_degree_16 (by decide) ?_
        refine ih ls (by omega) (fun x hx => ?_) ?_
        · by_cases e : x = n
          · rw [e]; exact h_10
          · exact h2 x (by omega)
        · rw [show (n : Int) - 1 = ((n + 1 : Nat) : Int) - 1 + (-1) by omega]; exact (lv_sub hl [1, 0] rfl)
end MC
theorem c_Mo_clear {l : Launch} {D : va_G} {cs : Nat → ClassId} {A : Nat → Prop} {ad : Nat → Nat} {T : Nat} (hT : 213 ≤ T) {M : Nat → Nat → Int} {B : Nat → va_E} {a : Nat} (ha : a < 50) (hW : WR M) : Cv l y_Mo_clear ws_Mo_clear { frames := 0, cells := 0, slots := 0, locals := 0 } D cs A ad T [.ref (ad (138 + a))] (mkR cs M B) (fun C' => C' = mkR cs (va_up M a (fun _ => 0)) B) := by
  refine w_bodyV (by decide) (Nat.le_of_ble_eq_true rfl) ?_
  intro p e s m below meth c X hr hlk hml w ls hl
  have hl : lv_has ls 2 [(0, .ref (ad (138 + a)))] := hl
  refine lv_iconst (v := iI (0)) X.1 X.2.1 d_Mo_clear_0 (by decide) ?_
  refine lv_istore_n (lv' := [(1, .int (iI (0))), (0, .ref (ad (138 + a)))]) X.1 X.2.1 d_Mo_clear_1 rfl hl (by decide) rfl (fun ls hl => ?_)
  refine l_Mo_clear X hT ha (M := M) (fun M1 H locs ls w h2 h3 => ?_) 50 0 M _ _ _ (by omega) w (fun x => by rw [if_neg (by omega)]) (fun _ _ => rfl) (lv_sub hl [1, 0] rfl)
  refine w_vret X hr hlk w ?_ d_Mo_clear_18
  congr 1
  funext j
  by_cases e : j = a
  · rw [e, va_up_self]; funext x; rw [h2 x]; split; rfl; exact (hW a ha).2 x (by omega)
  · rw [va_up_ne _ _ e, h3 j e]
theorem c_Mo_copy {l : Launch} {D : va_G} {cs : Nat → ClassId} {A : Nat → Prop} {ad : Nat → Nat} {T : Nat} (hT : 213 ≤ T) {M : Nat → Nat → Int} {B : Nat → va_E} {a b : Nat} (ha : a < 50) (hb : b < 50) (hW : WR M) : Cv l y_Mo_copy ws_Mo_copy { frames := 0, cells := 0, slots := 0, locals := 0 } D cs A ad T [.ref (ad (138 + a)), .ref (ad (138 + b))] (mkR cs M B) (fun C' => C' = mkR cs (va_up M b (M a)) B) := by
  refine w_bodyV (by decide) (Nat.le_of_ble_eq_true rfl) ?_
  intro p e s m below meth c X hr hlk hml w ls hl
  have hl : lv_has ls 3 [(0, .ref (ad (138 + a))), (1, .ref (ad (138 + b)))] := hl
  refine lv_iconst (v := iI (0)) X.1 X.2.1 d_Mo_copy_0 (by decide) ?_
  refine lv_istore_n (lv' := [(2, .int (iI (0))), (0, .ref (ad (138 + a))), (1, .ref (ad (138 + b)))]) X.1 X.2.1 d_Mo_copy_1 rfl hl (by decide) rfl (fun ls hl => ?_)
  refine l_Mo_copy X hT ha hb (M := M) (fun M1 H locs ls w h2 h3 => ?_) 50 0 M _ _ _ (by omega) w (fun x => by rw [if_neg (by omega)]) (fun _ _ => rfl) (lv_sub hl [1, 2, 0] rfl)
  refine w_vret X hr hlk w ?_ d_Mo_copy_20
  congr 1
  funext j
  by_cases e : j = b
  · rw [e, va_up_self]; funext x; rw [h2 x]; split; rfl; rw [(hW b hb).2 x (by omega), (hW a ha).2 x (by omega)]
  · rw [va_up_ne _ _ e, h3 j e]
theorem c_Mo_degree {l : Launch} {D : va_G} {cs : Nat → ClassId} {A : Nat → Prop} {ad : Nat → Nat} {T : Nat} (hT : 213 ≤ T) {M : Nat → Nat → Int} {B : Nat → va_E} {a : Nat} (ha : a < 50) (hM : ok 50 (M a)) : Ci l y_Mo_degree ws_Mo_degree { frames := 0, cells := 0, slots := 0, locals := 0 } D cs A ad T [.ref (ad (138 + a))] (mkR cs M B) (fun r C' => r = iI (dg 300 (M a)) ∧ C' = mkR cs M B) := by
  refine w_bodyI (by decide) (Nat.le_of_ble_eq_true rfl) ?_
  intro p e s m below meth c X hr hlk hml w ls hl
  have hl : lv_has ls 2 [(0, .ref (ad (138 + a)))] := hl
  refine lv_bipush (v := iI (49)) X.1 X.2.1 d_Mo_degree_0 (by decide) ?_
  refine lv_istore_n (lv' := [(1, .int (iI (49))), (0, .ref (ad (138 + a)))]) X.1 X.2.1 d_Mo_degree_2 rfl hl (by decide) rfl (fun ls hl => ?_)
  exact l_Mo_degree X hr hlk hT ha hM w ⟨rfl, rfl⟩ 50 ls (by omega) hM.2 (lv_sub hl [1, 0] rfl)
theorem c_Mo_inField {l : Launch} {D : va_G} {cs : Nat → ClassId} {A : Nat → Prop} {ad : Nat → Nat} {T : Nat} (hT : 213 ≤ T) {M : Nat → Nat → Int} {B : Nat → va_E} {th pr fc : Int} (hB : moO cs ad th pr fc B) {v : Int} (hv : rg v) (hpr : 2 ≤ pr ∧ pr ≤ 13) : Ci l y_Mo_inField ws_Mo_inField { frames := 0, cells := 0, slots := 0, locals := 0 } D cs A ad T [.ref (ad (132)), .int (iI (v))] (mkR cs M B) (fun r C' => r = iI (v % pr) ∧ C' = mkR cs M B) := by
  refine w_bodyI (by decide) (Nat.le_of_ble_eq_true rfl) ?_
  intro p e s m below meth c X hr hlk hml w ls hl
  have hl : lv_has ls 2 [(0, .ref (ad (132))), (1, .int (iI (v)))] := hl
  have ht := tmod_fix (a := v) (show 0 < pr by omega)
  refine lv_iload_n X.1 X.2.1 d_Mo_inField_0 rfl (lv_at hl 1 rfl) ?_
  refine lv_aload_n X.1 X.2.1 d_Mo_inField_1 rfl (lv_at hl 0 rfl) ?_
  refine m_get X hT w hB 1 (by decide) k_f_Mo_13 rfl d_Mo_inField_2 ?_
  refine i_remT (a := v) (b := pr) X (by omega) (by omega) d_Mo_inField_5 ?_
  refine lv_aload_n X.1 X.2.1 d_Mo_inField_6 rfl (lv_at hl 0 rfl) ?_
  refine m_get X hT w hB 1 (by decide) k_f_Mo_13 rfl d_Mo_inField_7 ?_
  refine i_add (a := v.tmod pr) (b := pr) X d_Mo_inField_10 ?_
  refine lv_aload_n X.1 X.2.1 d_Mo_inField_11 rfl (lv_at hl 0 rfl) ?_
  refine m_get X hT w hB 1 (by decide) k_f_Mo_13 rfl d_Mo_inField_12 ?_
  refine i_rem (a := (v.tmod pr) + pr) (b := pr) X (by omega) (by omega) d_Mo_inField_15 ?_
  rw [ht.1]
  exact w_iret X hr hlk w ⟨rfl, rfl⟩ d_Mo_inField_16
section MU
variable {p : Program} {l : Launch} {e : Env} {s : State} {m : MethodId} {args : Array Value} {below : List Frame} {meth : Method} {c : Code} {H : Heap} {locs : List Loc} {Q : State → Prop} {D : va_G} {cs : Nat → ClassId} {A : Nat → Prop} {ad : Nat → Nat} {T : Nat} {B : Nat → va_E} {th pr fc : Int}
variable {v iv : Int}
theorem l_Mo_under {post : Int32 → (Nat → va_E) → Prop} (X : Cx p s m args c b_Mo_under RMo) (hr : meth.sig.returnType = some .int) (hlk : meth.locks = false) (hT : 213 ≤ T) {M : Nat → Nat → Int} (hB : moO cs ad th pr fc B) (hpr : 2 ≤ pr ∧ pr ≤ 13) (hv : 1 ≤ v ∧ v < pr) (hiv : (1 ≤ iv ∧ iv < pr) ∧ v * iv % pr = 1) (w : Wd D cs A ad T s (mkR cs M B) H locs) (hp : post (iI iv) (mkR cs M B)) :
    ∀ (n : Nat) (k : Int) (ls : Array Slot), k + n = iv → 1 ≤ k → lv_has ls 3 [(0, .ref (ad (132))), (1, .int (iI (v))), (2, .int (iI (k)))] → W p l e { frames := 0, cells := 0, slots := 0, locals := 0 } s m args below meth c H locs 0 0 (MQ below (va_Qi post (QW D cs ad T) A) args s 0 0 A) (F0 m 2 ls []) := by
  intro n
  induction n with
  | zero =>
    intro k ls h1 hk hl
    have e1 : k = iv := by omega
    subst e1
    have hm : 0 ≤ k * v ∧ k * v ≤ 169 := ⟨Int.mul_nonneg (by omega) (by omega), by have := Int.mul_le_mul (show k ≤ 13 by omega) (show v ≤ 13 by omega) (by omega) (by decide); omega⟩
    have h9 : k * v % pr = 1 := by rw [Int.mul_comm]; exact hiv.2
    refine lv_iload_n X.1 X.2.1 d_Mo_under_2 rfl (lv_at hl 2 rfl) ?_
    refine lv_iload_n X.1 X.2.1 d_Mo_under_3 rfl (lv_at hl 1 rfl) ?_
    refine i_mul (a := k) (b := v) X d_Mo_under_4 ?_
    refine lv_aload_n X.1 X.2.1 d_Mo_under_5 rfl (lv_at hl 0 rfl) ?_
    refine m_get X hT w hB 1 (by decide) k_f_Mo_13 rfl d_Mo_under_6 ?_
    refine i_rem (a := k * v) (b := pr) X (by omega) (by omega) d_Mo_under_9 ?_
    refine lv_iconst (v := iI (1)) X.1 X.2.1 d_Mo_under_10 (by decide) ?_
    refine i_eq (a := (k * v) % pr) (b := 1) (tgt := 20) X (by rw [h9]; decide) (by decide) d_Mo_under_11 (by decide) (fun h_11 => ?_) (fun h_11 => ?_)
    · refine lv_iload_n X.1 X.2.1 d_Mo_under_20 rfl (lv_at hl 2 rfl) ?_
      exact w_iret X hr hlk w hp d_Mo_under_21
    · exact absurd h9 h_11
  | succ n ih =>
    intro k ls h1 hk hl
    have hm : 0 ≤ k * v ∧ k * v ≤ 169 := ⟨Int.mul_nonneg (by omega) (by omega), by have := Int.mul_le_mul (show k ≤ 13 by omega) (show v ≤ 13 by omega) (by omega) (by decide); omega⟩
    have h9 : k * v % pr ≠ 1 := fun h => by have := inv_uniq (a := k) (b := iv) (c := v) (by omega) hiv.1 h hiv.2; omega
    have h8 : 0 ≤ k * v % pr ∧ k * v % pr < pr := ⟨Int.emod_nonneg _ (by omega), Int.emod_lt_of_pos _ (by omega)⟩
    refine lv_iload_n X.1 X.2.1 d_Mo_under_2 rfl (lv_at hl 2 rfl) ?_
    refine lv_iload_n X.1 X.2.1 d_Mo_under_3 rfl (lv_at hl 1 rfl) ?_
    refine i_mul (a := k) (b := v) X d_Mo_under_4 ?_
    refine lv_aload_n X.1 X.2.1 d_Mo_under_5 rfl (lv_at hl 0 rfl) ?_
    refine m_get X hT w hB 1 (by decide) k_f_Mo_13 rfl d_Mo_under_6 ?_
    refine i_rem (a := k * v) (b := pr) X (by omega) (by omega) d_Mo_under_9 ?_
    refine lv_iconst (v := iI (1)) X.1 X.2.1 d_Mo_under_10 (by decide) ?_
    refine i_eq (a := (k * v) % pr) (b := 1) (tgt := 20) X (by omega) (by omega) d_Mo_under_11 (by decide) (fun h_11 => ?_) (fun h_11 => ?_)
    · exact absurd h_11 h9
    · refine i_inc (k := 2) (x := k) (lv' := [(2, .int (iI (k + 1))), (0, .ref (ad (132))), (1, .int (iI (v)))]) X d_Mo_under_14 hl rfl (by decide) rfl (fun ls hl => ?_)
      refine lv_goto (tgt := 2) X.1 X.2.1 d_Mo_under_17 (by decide) ?_
      exact ih (k + 1) ls (by omega) (by omega) (lv_sub hl [1, 2, 0] rfl)
end MU
theorem c_Mo_under {l : Launch} {D : va_G} {cs : Nat → ClassId} {A : Nat → Prop} {ad : Nat → Nat} {T : Nat} (hT : 213 ≤ T) {M : Nat → Nat → Int} {B : Nat → va_E} {th pr fc : Int} (hB : moO cs ad th pr fc B) {v iv : Int} (hpr : 2 ≤ pr ∧ pr ≤ 13) (hv : 1 ≤ v ∧ v < pr) (hiv : (1 ≤ iv ∧ iv < pr) ∧ v * iv % pr = 1) : Ci l y_Mo_under ws_Mo_under { frames := 0, cells := 0, slots := 0, locals := 0 } D cs A ad T [.ref (ad (132)), .int (iI (v))] (mkR cs M B) (fun r C' => r = iI iv ∧ C' = mkR cs M B) := by
  refine w_bodyI (by decide) (Nat.le_of_ble_eq_true rfl) ?_
  intro p e s m below meth c X hr hlk hml w ls hl
  have hl : lv_has ls 3 [(0, .ref (ad (132))), (1, .int (iI (v)))] := hl
  refine lv_iconst (v := iI (1)) X.1 X.2.1 d_Mo_under_0 (by decide) ?_
  refine lv_istore_n (lv' := [(2, .int (iI (1))), (0, .ref (ad (132))), (1, .int (iI (v)))]) X.1 X.2.1 d_Mo_under_1 rfl hl (by decide) rfl (fun ls hl => ?_)
  exact l_Mo_under X hr hlk hT hB hpr hv hiv w ⟨rfl, rfl⟩ (iv - 1).toNat 1 ls (by omega) (by omega) (lv_sub hl [1, 2, 0] rfl)
