/-! the law: its calls, one after the other -/
theorem LI122 {cs : Nat → ClassId} {ad : Nat → Nat} {th : Int} {C : Nat → va_E} (h : LIt cs ad th C) : C 122 = .inr (4, ffF ad) := by
  obtain ⟨ov, pr, inv, K, KR, Rg, M, hc, hm, hr, ho⟩ := h
  exact (CLI_f hc).2.2.2.2
theorem LI132 {cs : Nat → ClassId} {ad : Nat → Nat} {th : Int} {C : Nat → va_E} (h : LIt cs ad th C) : ∃ fs, C 132 = .inr (5, fs) := by
  obtain ⟨ov, pr, inv, K, KR, Rg, M, hc, hm, hr, ho⟩ := h
  exact ⟨_, MOI_f hm⟩
theorem LIo_o {cs : Nat → ClassId} {ad : Nat → Nat} {th : Int} {C : Nat → va_E} {ov : Nat → Int} (h : LIo cs ad th C ov) : C 137 = aL cs 1 ov := by
  obtain ⟨pr, inv, K, KR, Rg, M, hc, hm, hr, ho⟩ := h
  exact ho
theorem cd_N {E : String} {k k' : Int} (h : (E = xNSE ∧ k = 1) ∨ (E = xIAE ∧ k = 2)) (h' : (E = xNSE ∧ k' = 1) ∨ (E = xIAE ∧ k' = 2)) : k' = k ∧ 1 ≤ k ∧ k ≤ 3 := by
  rcases h with ⟨a, b⟩ | ⟨a, b⟩ <;> rcases h' with ⟨c, d⟩ | ⟨c, d⟩ <;> first | omega | exact absurd (a.symm.trans c) (by decide)
theorem cd_1 {E : String} {k k' : Int} (h : E = xNSE ∧ k = 1) (h' : E = xNSE ∧ k' = 1) : k' = k ∧ 1 ≤ k ∧ k ≤ 3 := by omega
theorem cd_I {E : String} {k k' : Int} (h : E = xIAE ∧ k = 1) (h' : E = xIAE ∧ k' = 1) : k' = k ∧ 1 ≤ k ∧ k ≤ 3 := by omega
theorem cd_A {E : String} {k k' : Int} (h : (E = xNSE ∧ k = 1) ∨ (E = xIAE ∧ k = 2) ∨ (E = xARE ∧ k = 3)) (h' : (E = xNSE ∧ k' = 1) ∨ (E = xIAE ∧ k' = 2) ∨ (E = xARE ∧ k' = 3)) : k' = k ∧ 1 ≤ k ∧ k ≤ 3 := by
  rcases h with ⟨a, b⟩ | ⟨a, b⟩ | ⟨a, b⟩ <;> rcases h' with ⟨c, d⟩ | ⟨c, d⟩ | ⟨c, d⟩ <;> first | omega | exact absurd (a.symm.trans c) (by decide)
theorem cd_S {E : String} {k k' : Int} (h : (E = xNSE ∧ k = 1) ∨ (E = xIAE ∧ k = 2) ∨ (E = xISE ∧ k = 3)) (h' : (E = xNSE ∧ k' = 1) ∨ (E = xIAE ∧ k' = 2) ∨ (E = xISE ∧ k' = 3)) : k' = k ∧ 1 ≤ k ∧ k ≤ 3 := by
  rcases h with ⟨a, b⟩ | ⟨a, b⟩ | ⟨a, b⟩ <;> rcases h' with ⟨c, d⟩ | ⟨c, d⟩ | ⟨c, d⟩ <;> first | omega | exact absurd (a.symm.trans c) (by decide)
section LAW1
variable {p : Program} {l : Launch} {e : Env} {R : Room} {s : State} {m : MethodId} {args : Array Value} {below : List Frame} {meth : Method} {c : Code} {H : Heap} {locs : List Loc} {cells slots : Nat} {Q : State → Prop} {cc : ByteArray} {own : String} {pc : Nat} {ls : Array Slot} {rest : List Value} {D : va_G} {cs : Nat → ClassId} {ad : Nat → Nat} {T b L : Nat} {xs : Nat → Int32} {C : Nat → va_E}
theorem l_sc (X : Cx p s m args c cc own) (hX : va_X b L xs s s.heap) (hbl : b < s.heap.size) (hL : L ≤ 2560) (w : Wd D cs (fun q : Nat => s.heap.size ≤ q) ad T s C H locs) {z : Int} (q : Nat) (hz : z = (q : Int)) (hq : q < L) (hdg : decode cc pc = .ok (.iaload, 1))
    (kk : W p l e R s m args below meth c H locs cells slots Q (F0 m (pc + 1) ls (.int (iI (xs q).toInt) :: rest))) : W p l e R s m args below meth c H locs cells slots Q (F0 m pc ls (.int (iI z) :: .ref b :: rest)) := by
  subst hz
  refine va_sld X.1 X.2.1 hX hbl (Nat.not_le.mpr hbl) w.2.2.2.2 (iI_in hq (by omega)) hdg ?_
  rw [iI_clamp (by omega)]
  rw [iI_back] at kk
  exact kk
end LAW1
section LAW2
variable {p : Program} {l : Launch} {e : Env} {s : State} {m : MethodId} {below : List Frame} {meth : Method} {c : Code} {cells slots : Nat} {Q : State → Prop} {D : va_G} {cs : Nat → ClassId} {ad : Nat → Nat} {T b L j : Nat} {xs : Nat → Int32}
theorem k_La_field (hst : l.stackTraces = false) (hT : 213 ≤ T) (X : Cx p s m #[Value.ref b] c b_La_law RLa) (ev : EV (fun q : Nat => s.heap.size ≤ q) s) (hml : c.maxLocals = 7) (hX : va_X b L xs s s.heap) (hbl : b < s.heap.size) (hL : L ≤ 2560) (hj : 5 * j + 5 ≤ L) (hce : cells + 5 ≤ 601024) (hsl : slots + 30 ≤ 7293034)
    (K : ∀ (th : Int) (C : Nat → va_E) (H : Heap) (locs : List Loc) (ls : Array Slot), LIt cs ad th C → Wd D cs (fun q : Nat => s.heap.size ≤ q) ad T s C H locs → lv_has ls 7 [(4, .int (iI ((5 * j : Nat) : Int))), (0, .ref b), (1, .ref (ad 122)), (2, .ref (ad 132)), (3, .ref (ad 137))] → W p l e room_1 s m #[Value.ref b] below meth c H locs (cells + 5) (slots + 30) Q (F0 m 1036 ls []))
    {th : Int} {C : Nat → va_E} {H : Heap} {locs : List Loc} {ls : Array Slot} (hLI : LIt cs ad th C) (w : Wd D cs (fun q : Nat => s.heap.size ≤ q) ad T s C H locs) (hl : lv_has ls 7 [(4, .int (iI ((5 * j : Nat) : Int))), (0, .ref b), (1, .ref (ad 122)), (2, .ref (ad 132)), (3, .ref (ad 137))]) : W p l e room_1 s m #[Value.ref b] below meth c H locs cells slots Q (F0 m 108 ls []) := by
  obtain ⟨P, px, hF, hok, hex⟩ := o_field (D := D) (A := (fun q : Nat => s.heap.size ≤ q)) hst hT hLI (rg_back (xs (5 * j + 1)))
  refine lv_aload_n X.1 X.2.1 d_La_law_108 rfl (lv_at hl 2 rfl) ?_
  refine lv_aload_n X.1 X.2.1 d_La_law_109 rfl (lv_at hl 1 rfl) ?_
  refine lv_iload X.1 X.2.1 d_La_law_110 (lv_at hl 0 rfl) ?_
  refine lv_iconst (v := iI (1)) X.1 X.2.1 d_La_law_112 (by decide) ?_
  refine i_add (a := ((5 * j : Nat) : Int)) (b := 1) X d_La_law_113 ?_
  refine l_sc X hX hbl hL w (5 * j + 1) (by omega) (by omega) d_La_law_114 ?_
  refine lv_aload_n X.1 X.2.1 d_La_law_115 rfl (lv_at hl 4 rfl) ?_
  refine y_cS (n := 3) (k1 := 1) (As := [.ref (ad 122), .int (iI (xs (5 * j + 1)).toInt), .ref (ad 137)]) (rest := []) X ev w hml hl.1 (c_La_field hT (LI122 hLI) hF (fun x C1 h => (hok x C1 h).1) (fun E C1 h => ⟨_, (hex E C1 h).choose_spec.1⟩)) k_m_La_65 k_st_La_field k_i_La k_co_La_field (by decide +kernel) rfl ⟨(Nat.le_of_ble_eq_true rfl), (Nat.le_of_ble_eq_true rfl)⟩ ⟨rfl, rfl⟩ ⟨by show cells + 1 ≤ 601024; omega, by show slots + 6 * 1 ≤ 7293034; omega⟩ rfl (Nat.le_of_ble_eq_true rfl) d_La_law_116 (fun r C1 H locs hp w => ?_)
  rcases hp with ⟨hr0, x, C2, ov, hP1, ho1, hC1⟩ | ⟨E, k, hx, hk, hr0⟩
  · rw [hr0]
    rw [hC1] at w
    obtain ⟨_, ⟨fs9, hfs9⟩, hR9⟩ := hok x C2 hP1
    obtain ⟨R9, hR, hRes⟩ := hR9 (va_up ov 0 (vfI x))
    refine lv_istore (lv' := [(5, .int (iI 0)), (4, .int (iI ((5 * j : Nat) : Int))), (0, .ref b), (1, .ref (ad 122)), (2, .ref (ad 132)), (3, .ref (ad 137))]) X.1 X.2.1 d_La_law_119 hl (by decide) rfl (fun ls hl => ?_)
    refine lv_aload_n X.1 X.2.1 d_La_law_121 rfl (lv_at hl 4 rfl) ?_
    refine lv_aload_n X.1 X.2.1 d_La_law_122 rfl (lv_at hl 2 rfl) ?_
    refine lv_iload X.1 X.2.1 d_La_law_123 (lv_at hl 1 rfl) ?_
    refine lv_iconst (v := iI (1)) X.1 X.2.1 d_La_law_125 (by decide) ?_
    refine i_add (a := ((5 * j : Nat) : Int)) (b := 1) X d_La_law_126 ?_
    refine l_sc X hX hbl hL w (5 * j + 1) (by omega) (by omega) d_La_law_127 ?_
    refine y_cR (n := 1) (i := 132) (ci := 5) (As := [.int (iI (xs (5 * j + 1)).toInt)]) (rest := []) X ev w hml hl.1 hR (by omega) (by rw [va_up_ne _ _ (by decide)]; exact hfs9) rfl k_m_La_70 k_im_Mo_field k_se_Mo_field k_i_Mo k_co_Mo_field (by decide +kernel) rfl ⟨(Nat.le_of_ble_eq_true rfl), (Nat.le_of_ble_eq_true rfl)⟩ ⟨rfl, rfl⟩ ⟨by show cells + 1 ≤ 601024; omega, by show slots + 6 * 1 ≤ 7293034; omega⟩ rfl (Nat.le_of_ble_eq_true rfl) d_La_law_128 (fun y C3 H locs hp w => ?_)
    obtain ⟨hLI3, hyx⟩ := hRes y C3 hp
    rw [hyx]
    refine lv_istore (lv' := [(6, .int x), (5, .int (iI 0)), (4, .int (iI ((5 * j : Nat) : Int))), (0, .ref b), (1, .ref (ad 122)), (2, .ref (ad 132)), (3, .ref (ad 137))]) X.1 X.2.1 d_La_law_131 hl (by decide) rfl (fun ls hl => ?_)
    refine lv_aload_n X.1 X.2.1 d_La_law_133 rfl (lv_at hl 5 rfl) ?_
    obtain ⟨fs8, hfs8⟩ := LI132 (⟨_, hLI3⟩ : LIt cs ad 0 C3)
    refine y_cR (n := 0) (i := 132) (ci := 5) (As := []) (rest := []) X ev w hml hl.1 (o_thrown hT ⟨_, hLI3⟩) (by omega) hfs8 rfl k_m_La_71 k_im_Mo_thrown k_se_Mo_thrown k_i_Mo k_co_Mo_thrown (by decide +kernel) rfl ⟨(Nat.le_of_ble_eq_true rfl), (Nat.le_of_ble_eq_true rfl)⟩ ⟨rfl, rfl⟩ ⟨by show cells + 1 ≤ 601024; omega, by show slots + 6 * 1 ≤ 7293034; omega⟩ rfl (Nat.le_of_ble_eq_true rfl) d_La_law_134 (fun r9 C4 H locs hp w => ?_)
    obtain ⟨e9, e8⟩ := hp
    rw [e9]
    rw [e8] at w
    refine lv_iload X.1 X.2.1 d_La_law_137 (lv_at hl 1 rfl) ?_
    refine i_eq (a := 0) (b := 0) (tgt := 144) X (by decide) (by decide) d_La_law_139 (by decide) (fun _ => ?_) (fun h9 => absurd rfl h9)
    refine lv_iload X.1 X.2.1 d_La_law_144 (lv_at hl 1 rfl) ?_
    refine z_ne (a := 0) (tgt := 161) X (by decide) d_La_law_146 (by decide) (fun h9 => absurd rfl h9) (fun _ => ?_)
    refine lv_aload_n X.1 X.2.1 d_La_law_149 rfl (lv_at hl 6 rfl) ?_
    refine lv_iconst (v := iI (0)) X.1 X.2.1 d_La_law_150 (by decide) ?_
    refine w_lld (i := 137) (n := 1) (F := va_up ov 0 (vfI x)) (z := 0) X w (by omega) (LIo_o hLI3) 0 rfl (by decide) (by decide) d_La_law_151 ?_
    refine lv_iload X.1 X.2.1 d_La_law_152 (lv_at hl 0 rfl) ?_
    refine W.eq (g2 := F0 m 154 ls [.int (iI x.toInt), .long (lI x.toInt)]) (by rw [iI_back, va_up_self]; rfl) ?_
    refine l_i2l X (rg_back x) d_La_law_154 ?_
    have hrg := rg_back x
    refine l_cmp (a := x.toInt) (b := x.toInt) X (by omega) (by omega) d_La_law_155 ?_
    refine z_eq (a := lcI x.toInt x.toInt) (tgt := 161) X (lcI_rg _ _) d_La_law_156 (by decide) (fun _ => ?_) (fun h9 => absurd (lcI_0.2 rfl) h9)
    refine lv_goto (tgt := 1036) X.1 X.2.1 d_La_law_161 (by decide) ?_
    exact W.widen (k := cells + 5) (n := slots + 30) (by omega) (by omega) (K 0 C3 H locs ls ⟨_, hLI3⟩ w (lv_sub hl [2, 3, 4, 5, 6] rfl))
  · rw [hr0]
    obtain ⟨k2, hk2, ⟨fs9, hfs9⟩, R9, hR, hRes⟩ := hex E C1 hx
    obtain ⟨hkk, hk1, hk3⟩ := cd_I hk hk2
    rw [hkk] at hRes
    refine lv_istore (lv' := [(5, .int (iI k)), (4, .int (iI ((5 * j : Nat) : Int))), (0, .ref b), (1, .ref (ad 122)), (2, .ref (ad 132)), (3, .ref (ad 137))]) X.1 X.2.1 d_La_law_119 hl (by decide) rfl (fun ls hl => ?_)
    refine lv_aload_n X.1 X.2.1 d_La_law_121 rfl (lv_at hl 4 rfl) ?_
    refine lv_aload_n X.1 X.2.1 d_La_law_122 rfl (lv_at hl 2 rfl) ?_
    refine lv_iload X.1 X.2.1 d_La_law_123 (lv_at hl 1 rfl) ?_
    refine lv_iconst (v := iI (1)) X.1 X.2.1 d_La_law_125 (by decide) ?_
    refine i_add (a := ((5 * j : Nat) : Int)) (b := 1) X d_La_law_126 ?_
    refine l_sc X hX hbl hL w (5 * j + 1) (by omega) (by omega) d_La_law_127 ?_
    refine y_cR (n := 1) (i := 132) (ci := 5) (As := [.int (iI (xs (5 * j + 1)).toInt)]) (rest := []) X ev w hml hl.1 hR (by omega) hfs9 rfl k_m_La_70 k_im_Mo_field k_se_Mo_field k_i_Mo k_co_Mo_field (by decide +kernel) rfl ⟨(Nat.le_of_ble_eq_true rfl), (Nat.le_of_ble_eq_true rfl)⟩ ⟨rfl, rfl⟩ ⟨by show cells + 1 ≤ 601024; omega, by show slots + 6 * 1 ≤ 7293034; omega⟩ rfl (Nat.le_of_ble_eq_true rfl) d_La_law_128 (fun y C3 H locs hp w => ?_)
    have hLI3 := hRes y C3 hp
    refine lv_istore (lv' := [(6, .int y), (5, .int (iI k)), (4, .int (iI ((5 * j : Nat) : Int))), (0, .ref b), (1, .ref (ad 122)), (2, .ref (ad 132)), (3, .ref (ad 137))]) X.1 X.2.1 d_La_law_131 hl (by decide) rfl (fun ls hl => ?_)
    refine lv_aload_n X.1 X.2.1 d_La_law_133 rfl (lv_at hl 5 rfl) ?_
    obtain ⟨fs8, hfs8⟩ := LI132 hLI3
    refine y_cR (n := 0) (i := 132) (ci := 5) (As := []) (rest := []) X ev w hml hl.1 (o_thrown hT hLI3) (by omega) hfs8 rfl k_m_La_71 k_im_Mo_thrown k_se_Mo_thrown k_i_Mo k_co_Mo_thrown (by decide +kernel) rfl ⟨(Nat.le_of_ble_eq_true rfl), (Nat.le_of_ble_eq_true rfl)⟩ ⟨rfl, rfl⟩ ⟨by show cells + 1 ≤ 601024; omega, by show slots + 6 * 1 ≤ 7293034; omega⟩ rfl (Nat.le_of_ble_eq_true rfl) d_La_law_134 (fun r9 C4 H locs hp w => ?_)
    obtain ⟨e9, e8⟩ := hp
    rw [e9]
    rw [e8] at w
    refine lv_iload X.1 X.2.1 d_La_law_137 (lv_at hl 1 rfl) ?_
    refine i_eq (a := k) (b := k) (tgt := 144) X (by omega) (by omega) d_La_law_139 (by decide) (fun _ => ?_) (fun h9 => absurd rfl h9)
    refine lv_iload X.1 X.2.1 d_La_law_144 (lv_at hl 1 rfl) ?_
    refine z_ne (a := k) (tgt := 161) X (by omega) d_La_law_146 (by decide) (fun _ => ?_) (fun h9 => absurd h9 (by omega))
    refine lv_goto (tgt := 1036) X.1 X.2.1 d_La_law_161 (by decide) ?_
    exact W.widen (k := cells + 5) (n := slots + 30) (by omega) (by omega) (K k C3 H locs ls hLI3 w (lv_sub hl [2, 3, 4, 5, 6] rfl))
theorem k_La_set (hst : l.stackTraces = false) (hT : 213 ≤ T) (X : Cx p s m #[Value.ref b] c b_La_law RLa) (ev : EV (fun q : Nat => s.heap.size ≤ q) s) (hml : c.maxLocals = 7) (hX : va_X b L xs s s.heap) (hbl : b < s.heap.size) (hL : L ≤ 2560) (hj : 5 * j + 5 ≤ L) (hce : cells + 5 ≤ 601024) (hsl : slots + 30 ≤ 7293034)
    (K : ∀ (th : Int) (C : Nat → va_E) (H : Heap) (locs : List Loc) (ls : Array Slot), LIt cs ad th C → Wd D cs (fun q : Nat => s.heap.size ≤ q) ad T s C H locs → lv_has ls 7 [(4, .int (iI ((5 * j : Nat) : Int))), (0, .ref b), (1, .ref (ad 122)), (2, .ref (ad 132)), (3, .ref (ad 137))] → W p l e room_1 s m #[Value.ref b] below meth c H locs (cells + 5) (slots + 30) Q (F0 m 1036 ls []))
    {th : Int} {C : Nat → va_E} {H : Heap} {locs : List Loc} {ls : Array Slot} (hLI : LIt cs ad th C) (w : Wd D cs (fun q : Nat => s.heap.size ≤ q) ad T s C H locs) (hl : lv_has ls 7 [(4, .int (iI ((5 * j : Nat) : Int))), (0, .ref b), (1, .ref (ad 122)), (2, .ref (ad 132)), (3, .ref (ad 137))]) : W p l e room_1 s m #[Value.ref b] below meth c H locs cells slots Q (F0 m 164 ls []) := by
  obtain ⟨P, px, hF, hok, hex⟩ := o_set (D := D) (A := (fun q : Nat => s.heap.size ≤ q)) hst hT hLI (rg_back (xs (5 * j + 1))) (rg_back (xs (5 * j + 2))) (rg_back (xs (5 * j + 3)))
  refine lv_aload_n X.1 X.2.1 d_La_law_164 rfl (lv_at hl 2 rfl) ?_
  refine lv_aload_n X.1 X.2.1 d_La_law_165 rfl (lv_at hl 1 rfl) ?_
  refine lv_iload X.1 X.2.1 d_La_law_166 (lv_at hl 0 rfl) ?_
  refine lv_iconst (v := iI (1)) X.1 X.2.1 d_La_law_168 (by decide) ?_
  refine i_add (a := ((5 * j : Nat) : Int)) (b := 1) X d_La_law_169 ?_
  refine l_sc X hX hbl hL w (5 * j + 1) (by omega) (by omega) d_La_law_170 ?_
  refine lv_aload_n X.1 X.2.1 d_La_law_171 rfl (lv_at hl 1 rfl) ?_
  refine lv_iload X.1 X.2.1 d_La_law_172 (lv_at hl 0 rfl) ?_
  refine lv_iconst (v := iI (2)) X.1 X.2.1 d_La_law_174 (by decide) ?_
  refine i_add (a := ((5 * j : Nat) : Int)) (b := 2) X d_La_law_175 ?_
  refine l_sc X hX hbl hL w (5 * j + 2) (by omega) (by omega) d_La_law_176 ?_
  refine lv_aload_n X.1 X.2.1 d_La_law_177 rfl (lv_at hl 1 rfl) ?_
  refine lv_iload X.1 X.2.1 d_La_law_178 (lv_at hl 0 rfl) ?_
  refine lv_iconst (v := iI (3)) X.1 X.2.1 d_La_law_180 (by decide) ?_
  refine i_add (a := ((5 * j : Nat) : Int)) (b := 3) X d_La_law_181 ?_
  refine l_sc X hX hbl hL w (5 * j + 3) (by omega) (by omega) d_La_law_182 ?_
  refine lv_aload_n X.1 X.2.1 d_La_law_183 rfl (lv_at hl 4 rfl) ?_
  refine y_cS (n := 5) (k1 := 2) (As := [.ref (ad 122), .int (iI (xs (5 * j + 1)).toInt), .int (iI (xs (5 * j + 2)).toInt), .int (iI (xs (5 * j + 3)).toInt), .ref (ad 137)]) (rest := []) X ev w hml hl.1 (c_La_set hT (LI122 hLI) hF (fun x C1 h => (hok x C1 h).1) (fun E C1 h => ⟨_, (hex E C1 h).choose_spec.1⟩)) k_m_La_75 k_st_La_set k_i_La k_co_La_set (by decide +kernel) rfl ⟨(Nat.le_of_ble_eq_true rfl), (Nat.le_of_ble_eq_true rfl)⟩ ⟨rfl, rfl⟩ ⟨by show cells + 2 ≤ 601024; omega, by show slots + 6 * 2 ≤ 7293034; omega⟩ rfl (Nat.le_of_ble_eq_true rfl) d_La_law_184 (fun r C1 H locs hp w => ?_)
  rcases hp with ⟨hr0, x, C2, ov, hP1, ho1, hC1⟩ | ⟨E, k, hx, hk, hr0⟩
  · rw [hr0]
    rw [hC1] at w
    obtain ⟨_, ⟨fs9, hfs9⟩, hR9⟩ := hok x C2 hP1
    obtain ⟨R9, hR, hRes⟩ := hR9 (va_up ov 0 (vfI x))
    refine lv_istore (lv' := [(5, .int (iI 0)), (4, .int (iI ((5 * j : Nat) : Int))), (0, .ref b), (1, .ref (ad 122)), (2, .ref (ad 132)), (3, .ref (ad 137))]) X.1 X.2.1 d_La_law_187 hl (by decide) rfl (fun ls hl => ?_)
    refine lv_aload_n X.1 X.2.1 d_La_law_189 rfl (lv_at hl 4 rfl) ?_
    refine lv_aload_n X.1 X.2.1 d_La_law_190 rfl (lv_at hl 2 rfl) ?_
    refine lv_iload X.1 X.2.1 d_La_law_191 (lv_at hl 1 rfl) ?_
    refine lv_iconst (v := iI (1)) X.1 X.2.1 d_La_law_193 (by decide) ?_
    refine i_add (a := ((5 * j : Nat) : Int)) (b := 1) X d_La_law_194 ?_
    refine l_sc X hX hbl hL w (5 * j + 1) (by omega) (by omega) d_La_law_195 ?_
    refine lv_aload_n X.1 X.2.1 d_La_law_196 rfl (lv_at hl 2 rfl) ?_
    refine lv_iload X.1 X.2.1 d_La_law_197 (lv_at hl 1 rfl) ?_
    refine lv_iconst (v := iI (2)) X.1 X.2.1 d_La_law_199 (by decide) ?_
    refine i_add (a := ((5 * j : Nat) : Int)) (b := 2) X d_La_law_200 ?_
    refine l_sc X hX hbl hL w (5 * j + 2) (by omega) (by omega) d_La_law_201 ?_
    refine lv_aload_n X.1 X.2.1 d_La_law_202 rfl (lv_at hl 2 rfl) ?_
    refine lv_iload X.1 X.2.1 d_La_law_203 (lv_at hl 1 rfl) ?_
    refine lv_iconst (v := iI (3)) X.1 X.2.1 d_La_law_205 (by decide) ?_
    refine i_add (a := ((5 * j : Nat) : Int)) (b := 3) X d_La_law_206 ?_
    refine l_sc X hX hbl hL w (5 * j + 3) (by omega) (by omega) d_La_law_207 ?_
    refine y_cR (n := 3) (i := 132) (ci := 5) (As := [.int (iI (xs (5 * j + 1)).toInt), .int (iI (xs (5 * j + 2)).toInt), .int (iI (xs (5 * j + 3)).toInt)]) (rest := []) X ev w hml hl.1 hR (by omega) (by rw [va_up_ne _ _ (by decide)]; exact hfs9) rfl k_m_La_78 k_im_Mo_set k_se_Mo_set k_i_Mo k_co_Mo_set (by decide +kernel) rfl ⟨(Nat.le_of_ble_eq_true rfl), (Nat.le_of_ble_eq_true rfl)⟩ ⟨rfl, rfl⟩ ⟨by show cells + 2 ≤ 601024; omega, by show slots + 6 * 2 ≤ 7293034; omega⟩ rfl (Nat.le_of_ble_eq_true rfl) d_La_law_208 (fun y C3 H locs hp w => ?_)
    obtain ⟨hLI3, hyx⟩ := hRes y C3 hp
    rw [hyx]
    refine lv_istore (lv' := [(6, .int x), (5, .int (iI 0)), (4, .int (iI ((5 * j : Nat) : Int))), (0, .ref b), (1, .ref (ad 122)), (2, .ref (ad 132)), (3, .ref (ad 137))]) X.1 X.2.1 d_La_law_211 hl (by decide) rfl (fun ls hl => ?_)
    refine lv_aload_n X.1 X.2.1 d_La_law_213 rfl (lv_at hl 5 rfl) ?_
    obtain ⟨fs8, hfs8⟩ := LI132 (⟨_, hLI3⟩ : LIt cs ad 0 C3)
    refine y_cR (n := 0) (i := 132) (ci := 5) (As := []) (rest := []) X ev w hml hl.1 (o_thrown hT ⟨_, hLI3⟩) (by omega) hfs8 rfl k_m_La_71 k_im_Mo_thrown k_se_Mo_thrown k_i_Mo k_co_Mo_thrown (by decide +kernel) rfl ⟨(Nat.le_of_ble_eq_true rfl), (Nat.le_of_ble_eq_true rfl)⟩ ⟨rfl, rfl⟩ ⟨by show cells + 2 ≤ 601024; omega, by show slots + 6 * 2 ≤ 7293034; omega⟩ rfl (Nat.le_of_ble_eq_true rfl) d_La_law_214 (fun r9 C4 H locs hp w => ?_)
    obtain ⟨e9, e8⟩ := hp
    rw [e9]
    rw [e8] at w
    refine lv_iload X.1 X.2.1 d_La_law_217 (lv_at hl 1 rfl) ?_
    refine i_eq (a := 0) (b := 0) (tgt := 224) X (by decide) (by decide) d_La_law_219 (by decide) (fun _ => ?_) (fun h9 => absurd rfl h9)
    refine lv_iload X.1 X.2.1 d_La_law_224 (lv_at hl 1 rfl) ?_
    refine z_ne (a := 0) (tgt := 241) X (by decide) d_La_law_226 (by decide) (fun h9 => absurd rfl h9) (fun _ => ?_)
    refine lv_aload_n X.1 X.2.1 d_La_law_229 rfl (lv_at hl 6 rfl) ?_
    refine lv_iconst (v := iI (0)) X.1 X.2.1 d_La_law_230 (by decide) ?_
    refine w_lld (i := 137) (n := 1) (F := va_up ov 0 (vfI x)) (z := 0) X w (by omega) (LIo_o hLI3) 0 rfl (by decide) (by decide) d_La_law_231 ?_
    refine lv_iload X.1 X.2.1 d_La_law_232 (lv_at hl 0 rfl) ?_
    refine W.eq (g2 := F0 m 234 ls [.int (iI x.toInt), .long (lI x.toInt)]) (by rw [iI_back, va_up_self]; rfl) ?_
    refine l_i2l X (rg_back x) d_La_law_234 ?_
    have hrg := rg_back x
    refine l_cmp (a := x.toInt) (b := x.toInt) X (by omega) (by omega) d_La_law_235 ?_
    refine z_eq (a := lcI x.toInt x.toInt) (tgt := 241) X (lcI_rg _ _) d_La_law_236 (by decide) (fun _ => ?_) (fun h9 => absurd (lcI_0.2 rfl) h9)
    refine lv_goto (tgt := 1036) X.1 X.2.1 d_La_law_241 (by decide) ?_
    exact W.widen (k := cells + 5) (n := slots + 30) (by omega) (by omega) (K 0 C3 H locs ls ⟨_, hLI3⟩ w (lv_sub hl [2, 3, 4, 5, 6] rfl))
  · rw [hr0]
    obtain ⟨k2, hk2, ⟨fs9, hfs9⟩, R9, hR, hRes⟩ := hex E C1 hx
    obtain ⟨hkk, hk1, hk3⟩ := cd_N hk hk2
    rw [hkk] at hRes
    refine lv_istore (lv' := [(5, .int (iI k)), (4, .int (iI ((5 * j : Nat) : Int))), (0, .ref b), (1, .ref (ad 122)), (2, .ref (ad 132)), (3, .ref (ad 137))]) X.1 X.2.1 d_La_law_187 hl (by decide) rfl (fun ls hl => ?_)
    refine lv_aload_n X.1 X.2.1 d_La_law_189 rfl (lv_at hl 4 rfl) ?_
    refine lv_aload_n X.1 X.2.1 d_La_law_190 rfl (lv_at hl 2 rfl) ?_
    refine lv_iload X.1 X.2.1 d_La_law_191 (lv_at hl 1 rfl) ?_
    refine lv_iconst (v := iI (1)) X.1 X.2.1 d_La_law_193 (by decide) ?_
    refine i_add (a := ((5 * j : Nat) : Int)) (b := 1) X d_La_law_194 ?_
    refine l_sc X hX hbl hL w (5 * j + 1) (by omega) (by omega) d_La_law_195 ?_
    refine lv_aload_n X.1 X.2.1 d_La_law_196 rfl (lv_at hl 2 rfl) ?_
    refine lv_iload X.1 X.2.1 d_La_law_197 (lv_at hl 1 rfl) ?_
    refine lv_iconst (v := iI (2)) X.1 X.2.1 d_La_law_199 (by decide) ?_
    refine i_add (a := ((5 * j : Nat) : Int)) (b := 2) X d_La_law_200 ?_
    refine l_sc X hX hbl hL w (5 * j + 2) (by omega) (by omega) d_La_law_201 ?_
    refine lv_aload_n X.1 X.2.1 d_La_law_202 rfl (lv_at hl 2 rfl) ?_
    refine lv_iload X.1 X.2.1 d_La_law_203 (lv_at hl 1 rfl) ?_
    refine lv_iconst (v := iI (3)) X.1 X.2.1 d_La_law_205 (by decide) ?_
    refine i_add (a := ((5 * j : Nat) : Int)) (b := 3) X d_La_law_206 ?_
    refine l_sc X hX hbl hL w (5 * j + 3) (by omega) (by omega) d_La_law_207 ?_
    refine y_cR (n := 3) (i := 132) (ci := 5) (As := [.int (iI (xs (5 * j + 1)).toInt), .int (iI (xs (5 * j + 2)).toInt), .int (iI (xs (5 * j + 3)).toInt)]) (rest := []) X ev w hml hl.1 hR (by omega) hfs9 rfl k_m_La_78 k_im_Mo_set k_se_Mo_set k_i_Mo k_co_Mo_set (by decide +kernel) rfl ⟨(Nat.le_of_ble_eq_true rfl), (Nat.le_of_ble_eq_true rfl)⟩ ⟨rfl, rfl⟩ ⟨by show cells + 2 ≤ 601024; omega, by show slots + 6 * 2 ≤ 7293034; omega⟩ rfl (Nat.le_of_ble_eq_true rfl) d_La_law_208 (fun y C3 H locs hp w => ?_)
    have hLI3 := hRes y C3 hp
    refine lv_istore (lv' := [(6, .int y), (5, .int (iI k)), (4, .int (iI ((5 * j : Nat) : Int))), (0, .ref b), (1, .ref (ad 122)), (2, .ref (ad 132)), (3, .ref (ad 137))]) X.1 X.2.1 d_La_law_211 hl (by decide) rfl (fun ls hl => ?_)
    refine lv_aload_n X.1 X.2.1 d_La_law_213 rfl (lv_at hl 5 rfl) ?_
    obtain ⟨fs8, hfs8⟩ := LI132 hLI3
    refine y_cR (n := 0) (i := 132) (ci := 5) (As := []) (rest := []) X ev w hml hl.1 (o_thrown hT hLI3) (by omega) hfs8 rfl k_m_La_71 k_im_Mo_thrown k_se_Mo_thrown k_i_Mo k_co_Mo_thrown (by decide +kernel) rfl ⟨(Nat.le_of_ble_eq_true rfl), (Nat.le_of_ble_eq_true rfl)⟩ ⟨rfl, rfl⟩ ⟨by show cells + 2 ≤ 601024; omega, by show slots + 6 * 2 ≤ 7293034; omega⟩ rfl (Nat.le_of_ble_eq_true rfl) d_La_law_214 (fun r9 C4 H locs hp w => ?_)
    obtain ⟨e9, e8⟩ := hp
    rw [e9]
    rw [e8] at w
    refine lv_iload X.1 X.2.1 d_La_law_217 (lv_at hl 1 rfl) ?_
    refine i_eq (a := k) (b := k) (tgt := 224) X (by omega) (by omega) d_La_law_219 (by decide) (fun _ => ?_) (fun h9 => absurd rfl h9)
    refine lv_iload X.1 X.2.1 d_La_law_224 (lv_at hl 1 rfl) ?_
    refine z_ne (a := k) (tgt := 241) X (by omega) d_La_law_226 (by decide) (fun _ => ?_) (fun h9 => absurd h9 (by omega))
    refine lv_goto (tgt := 1036) X.1 X.2.1 d_La_law_241 (by decide) ?_
    exact W.widen (k := cells + 5) (n := slots + 30) (by omega) (by omega) (K k C3 H locs ls hLI3 w (lv_sub hl [2, 3, 4, 5, 6] rfl))
theorem k_La_get (hst : l.stackTraces = false) (hT : 213 ≤ T) (X : Cx p s m #[Value.ref b] c b_La_law RLa) (ev : EV (fun q : Nat => s.heap.size ≤ q) s) (hml : c.maxLocals = 7) (hX : va_X b L xs s s.heap) (hbl : b < s.heap.size) (hL : L ≤ 2560) (hj : 5 * j + 5 ≤ L) (hce : cells + 5 ≤ 601024) (hsl : slots + 30 ≤ 7293034)
    (K : ∀ (th : Int) (C : Nat → va_E) (H : Heap) (locs : List Loc) (ls : Array Slot), LIt cs ad th C → Wd D cs (fun q : Nat => s.heap.size ≤ q) ad T s C H locs → lv_has ls 7 [(4, .int (iI ((5 * j : Nat) : Int))), (0, .ref b), (1, .ref (ad 122)), (2, .ref (ad 132)), (3, .ref (ad 137))] → W p l e room_1 s m #[Value.ref b] below meth c H locs (cells + 5) (slots + 30) Q (F0 m 1036 ls []))
    {th : Int} {C : Nat → va_E} {H : Heap} {locs : List Loc} {ls : Array Slot} (hLI : LIt cs ad th C) (w : Wd D cs (fun q : Nat => s.heap.size ≤ q) ad T s C H locs) (hl : lv_has ls 7 [(4, .int (iI ((5 * j : Nat) : Int))), (0, .ref b), (1, .ref (ad 122)), (2, .ref (ad 132)), (3, .ref (ad 137))]) : W p l e room_1 s m #[Value.ref b] below meth c H locs cells slots Q (F0 m 244 ls []) := by
  obtain ⟨P, px, hF, hok, hex⟩ := o_get (D := D) (A := (fun q : Nat => s.heap.size ≤ q)) hst hT hLI (rg_back (xs (5 * j + 1))) (rg_back (xs (5 * j + 2)))
  refine lv_aload_n X.1 X.2.1 d_La_law_244 rfl (lv_at hl 2 rfl) ?_
  refine lv_aload_n X.1 X.2.1 d_La_law_245 rfl (lv_at hl 1 rfl) ?_
  refine lv_iload X.1 X.2.1 d_La_law_246 (lv_at hl 0 rfl) ?_
  refine lv_iconst (v := iI (1)) X.1 X.2.1 d_La_law_248 (by decide) ?_
  refine i_add (a := ((5 * j : Nat) : Int)) (b := 1) X d_La_law_249 ?_
  refine l_sc X hX hbl hL w (5 * j + 1) (by omega) (by omega) d_La_law_250 ?_
  refine lv_aload_n X.1 X.2.1 d_La_law_251 rfl (lv_at hl 1 rfl) ?_
  refine lv_iload X.1 X.2.1 d_La_law_252 (lv_at hl 0 rfl) ?_
  refine lv_iconst (v := iI (2)) X.1 X.2.1 d_La_law_254 (by decide) ?_
  refine i_add (a := ((5 * j : Nat) : Int)) (b := 2) X d_La_law_255 ?_
  refine l_sc X hX hbl hL w (5 * j + 2) (by omega) (by omega) d_La_law_256 ?_
  refine lv_aload_n X.1 X.2.1 d_La_law_257 rfl (lv_at hl 4 rfl) ?_
  refine y_cS (n := 4) (k1 := 2) (As := [.ref (ad 122), .int (iI (xs (5 * j + 1)).toInt), .int (iI (xs (5 * j + 2)).toInt), .ref (ad 137)]) (rest := []) X ev w hml hl.1 (c_La_get hT (LI122 hLI) hF (fun x C1 h => (hok x C1 h).1) (fun E C1 h => ⟨_, (hex E C1 h).choose_spec.1⟩)) k_m_La_79 k_st_La_get k_i_La k_co_La_get (by decide +kernel) rfl ⟨(Nat.le_of_ble_eq_true rfl), (Nat.le_of_ble_eq_true rfl)⟩ ⟨rfl, rfl⟩ ⟨by show cells + 2 ≤ 601024; omega, by show slots + 6 * 2 ≤ 7293034; omega⟩ rfl (Nat.le_of_ble_eq_true rfl) d_La_law_258 (fun r C1 H locs hp w => ?_)
  rcases hp with ⟨hr0, x, C2, ov, hP1, ho1, hC1⟩ | ⟨E, k, hx, hk, hr0⟩
  · rw [hr0]
    rw [hC1] at w
    obtain ⟨_, ⟨fs9, hfs9⟩, hR9⟩ := hok x C2 hP1
    obtain ⟨R9, hR, hRes⟩ := hR9 (va_up ov 0 (vfI x))
    refine lv_istore (lv' := [(5, .int (iI 0)), (4, .int (iI ((5 * j : Nat) : Int))), (0, .ref b), (1, .ref (ad 122)), (2, .ref (ad 132)), (3, .ref (ad 137))]) X.1 X.2.1 d_La_law_261 hl (by decide) rfl (fun ls hl => ?_)
    refine lv_aload_n X.1 X.2.1 d_La_law_263 rfl (lv_at hl 4 rfl) ?_
    refine lv_aload_n X.1 X.2.1 d_La_law_264 rfl (lv_at hl 2 rfl) ?_
    refine lv_iload X.1 X.2.1 d_La_law_265 (lv_at hl 1 rfl) ?_
    refine lv_iconst (v := iI (1)) X.1 X.2.1 d_La_law_267 (by decide) ?_
    refine i_add (a := ((5 * j : Nat) : Int)) (b := 1) X d_La_law_268 ?_
    refine l_sc X hX hbl hL w (5 * j + 1) (by omega) (by omega) d_La_law_269 ?_
    refine lv_aload_n X.1 X.2.1 d_La_law_270 rfl (lv_at hl 2 rfl) ?_
    refine lv_iload X.1 X.2.1 d_La_law_271 (lv_at hl 1 rfl) ?_
    refine lv_iconst (v := iI (2)) X.1 X.2.1 d_La_law_273 (by decide) ?_
    refine i_add (a := ((5 * j : Nat) : Int)) (b := 2) X d_La_law_274 ?_
    refine l_sc X hX hbl hL w (5 * j + 2) (by omega) (by omega) d_La_law_275 ?_
    refine y_cR (n := 2) (i := 132) (ci := 5) (As := [.int (iI (xs (5 * j + 1)).toInt), .int (iI (xs (5 * j + 2)).toInt)]) (rest := []) X ev w hml hl.1 hR (by omega) (by rw [va_up_ne _ _ (by decide)]; exact hfs9) rfl k_m_La_82 k_im_Mo_get k_se_Mo_get k_i_Mo k_co_Mo_get (by decide +kernel) rfl ⟨(Nat.le_of_ble_eq_true rfl), (Nat.le_of_ble_eq_true rfl)⟩ ⟨rfl, rfl⟩ ⟨by show cells + 2 ≤ 601024; omega, by show slots + 6 * 2 ≤ 7293034; omega⟩ rfl (Nat.le_of_ble_eq_true rfl) d_La_law_276 (fun y C3 H locs hp w => ?_)
    obtain ⟨hLI3, hyx⟩ := hRes y C3 hp
    rw [hyx]
    refine lv_istore (lv' := [(6, .int x), (5, .int (iI 0)), (4, .int (iI ((5 * j : Nat) : Int))), (0, .ref b), (1, .ref (ad 122)), (2, .ref (ad 132)), (3, .ref (ad 137))]) X.1 X.2.1 d_La_law_279 hl (by decide) rfl (fun ls hl => ?_)
    refine lv_aload_n X.1 X.2.1 d_La_law_281 rfl (lv_at hl 5 rfl) ?_
    obtain ⟨fs8, hfs8⟩ := LI132 (⟨_, hLI3⟩ : LIt cs ad 0 C3)
    refine y_cR (n := 0) (i := 132) (ci := 5) (As := []) (rest := []) X ev w hml hl.1 (o_thrown hT ⟨_, hLI3⟩) (by omega) hfs8 rfl k_m_La_71 k_im_Mo_thrown k_se_Mo_thrown k_i_Mo k_co_Mo_thrown (by decide +kernel) rfl ⟨(Nat.le_of_ble_eq_true rfl), (Nat.le_of_ble_eq_true rfl)⟩ ⟨rfl, rfl⟩ ⟨by show cells + 2 ≤ 601024; omega, by show slots + 6 * 2 ≤ 7293034; omega⟩ rfl (Nat.le_of_ble_eq_true rfl) d_La_law_282 (fun r9 C4 H locs hp w => ?_)
    obtain ⟨e9, e8⟩ := hp
    rw [e9]
    rw [e8] at w
    refine lv_iload X.1 X.2.1 d_La_law_285 (lv_at hl 1 rfl) ?_
    refine i_eq (a := 0) (b := 0) (tgt := 292) X (by decide) (by decide) d_La_law_287 (by decide) (fun _ => ?_) (fun h9 => absurd rfl h9)
    refine lv_iload X.1 X.2.1 d_La_law_292 (lv_at hl 1 rfl) ?_
    refine z_ne (a := 0) (tgt := 309) X (by decide) d_La_law_294 (by decide) (fun h9 => absurd rfl h9) (fun _ => ?_)
    refine lv_aload_n X.1 X.2.1 d_La_law_297 rfl (lv_at hl 6 rfl) ?_
    refine lv_iconst (v := iI (0)) X.1 X.2.1 d_La_law_298 (by decide) ?_
    refine w_lld (i := 137) (n := 1) (F := va_up ov 0 (vfI x)) (z := 0) X w (by omega) (LIo_o hLI3) 0 rfl (by decide) (by decide) d_La_law_299 ?_
    refine lv_iload X.1 X.2.1 d_La_law_300 (lv_at hl 0 rfl) ?_
    refine W.eq (g2 := F0 m 302 ls [.int (iI x.toInt), .long (lI x.toInt)]) (by rw [iI_back, va_up_self]; rfl) ?_
    refine l_i2l X (rg_back x) d_La_law_302 ?_
    have hrg := rg_back x
    refine l_cmp (a := x.toInt) (b := x.toInt) X (by omega) (by omega) d_La_law_303 ?_
    refine z_eq (a := lcI x.toInt x.toInt) (tgt := 309) X (lcI_rg _ _) d_La_law_304 (by decide) (fun _ => ?_) (fun h9 => absurd (lcI_0.2 rfl) h9)
    refine lv_goto (tgt := 1036) X.1 X.2.1 d_La_law_309 (by decide) ?_
    exact W.widen (k := cells + 5) (n := slots + 30) (by omega) (by omega) (K 0 C3 H locs ls ⟨_, hLI3⟩ w (lv_sub hl [2, 3, 4, 5, 6] rfl))
  · rw [hr0]
    obtain ⟨k2, hk2, ⟨fs9, hfs9⟩, R9, hR, hRes⟩ := hex E C1 hx
    obtain ⟨hkk, hk1, hk3⟩ := cd_N hk hk2
    rw [hkk] at hRes
    refine lv_istore (lv' := [(5, .int (iI k)), (4, .int (iI ((5 * j : Nat) : Int))), (0, .ref b), (1, .ref (ad 122)), (2, .ref (ad 132)), (3, .ref (ad 137))]) X.1 X.2.1 d_La_law_261 hl (by decide) rfl (fun ls hl => ?_)
    refine lv_aload_n X.1 X.2.1 d_La_law_263 rfl (lv_at hl 4 rfl) ?_
    refine lv_aload_n X.1 X.2.1 d_La_law_264 rfl (lv_at hl 2 rfl) ?_
    refine lv_iload X.1 X.2.1 d_La_law_265 (lv_at hl 1 rfl) ?_
    refine lv_iconst (v := iI (1)) X.1 X.2.1 d_La_law_267 (by decide) ?_
    refine i_add (a := ((5 * j : Nat) : Int)) (b := 1) X d_La_law_268 ?_
    refine l_sc X hX hbl hL w (5 * j + 1) (by omega) (by omega) d_La_law_269 ?_
    refine lv_aload_n X.1 X.2.1 d_La_law_270 rfl (lv_at hl 2 rfl) ?_
    refine lv_iload X.1 X.2.1 d_La_law_271 (lv_at hl 1 rfl) ?_
    refine lv_iconst (v := iI (2)) X.1 X.2.1 d_La_law_273 (by decide) ?_
    refine i_add (a := ((5 * j : Nat) : Int)) (b := 2) X d_La_law_274 ?_
    refine l_sc X hX hbl hL w (5 * j + 2) (by omega) (by omega) d_La_law_275 ?_
    refine y_cR (n := 2) (i := 132) (ci := 5) (As := [.int (iI (xs (5 * j + 1)).toInt), .int (iI (xs (5 * j + 2)).toInt)]) (rest := []) X ev w hml hl.1 hR (by omega) hfs9 rfl k_m_La_82 k_im_Mo_get k_se_Mo_get k_i_Mo k_co_Mo_get (by decide +kernel) rfl ⟨(Nat.le_of_ble_eq_true rfl), (Nat.le_of_ble_eq_true rfl)⟩ ⟨rfl, rfl⟩ ⟨by show cells + 2 ≤ 601024; omega, by show slots + 6 * 2 ≤ 7293034; omega⟩ rfl (Nat.le_of_ble_eq_true rfl) d_La_law_276 (fun y C3 H locs hp w => ?_)
    have hLI3 := hRes y C3 hp
    refine lv_istore (lv' := [(6, .int y), (5, .int (iI k)), (4, .int (iI ((5 * j : Nat) : Int))), (0, .ref b), (1, .ref (ad 122)), (2, .ref (ad 132)), (3, .ref (ad 137))]) X.1 X.2.1 d_La_law_279 hl (by decide) rfl (fun ls hl => ?_)
    refine lv_aload_n X.1 X.2.1 d_La_law_281 rfl (lv_at hl 5 rfl) ?_
    obtain ⟨fs8, hfs8⟩ := LI132 hLI3
    refine y_cR (n := 0) (i := 132) (ci := 5) (As := []) (rest := []) X ev w hml hl.1 (o_thrown hT hLI3) (by omega) hfs8 rfl k_m_La_71 k_im_Mo_thrown k_se_Mo_thrown k_i_Mo k_co_Mo_thrown (by decide +kernel) rfl ⟨(Nat.le_of_ble_eq_true rfl), (Nat.le_of_ble_eq_true rfl)⟩ ⟨rfl, rfl⟩ ⟨by show cells + 2 ≤ 601024; omega, by show slots + 6 * 2 ≤ 7293034; omega⟩ rfl (Nat.le_of_ble_eq_true rfl) d_La_law_282 (fun r9 C4 H locs hp w => ?_)
    obtain ⟨e9, e8⟩ := hp
    rw [e9]
    rw [e8] at w
    refine lv_iload X.1 X.2.1 d_La_law_285 (lv_at hl 1 rfl) ?_
    refine i_eq (a := k) (b := k) (tgt := 292) X (by omega) (by omega) d_La_law_287 (by decide) (fun _ => ?_) (fun h9 => absurd rfl h9)
    refine lv_iload X.1 X.2.1 d_La_law_292 (lv_at hl 1 rfl) ?_
    refine z_ne (a := k) (tgt := 309) X (by omega) d_La_law_294 (by decide) (fun _ => ?_) (fun h9 => absurd h9 (by omega))
    refine lv_goto (tgt := 1036) X.1 X.2.1 d_La_law_309 (by decide) ?_
    exact W.widen (k := cells + 5) (n := slots + 30) (by omega) (by omega) (K k C3 H locs ls hLI3 w (lv_sub hl [2, 3, 4, 5, 6] rfl))
theorem k_La_join (hst : l.stackTraces = false) (hT : 213 ≤ T) (X : Cx p s m #[Value.ref b] c b_La_law RLa) (ev : EV (fun q : Nat => s.heap.size ≤ q) s) (hml : c.maxLocals = 7) (hX : va_X b L xs s s.heap) (hbl : b < s.heap.size) (hL : L ≤ 2560) (hj : 5 * j + 5 ≤ L) (hce : cells + 5 ≤ 601024) (hsl : slots + 30 ≤ 7293034)
    (K : ∀ (th : Int) (C : Nat → va_E) (H : Heap) (locs : List Loc) (ls : Array Slot), LIt cs ad th C → Wd D cs (fun q : Nat => s.heap.size ≤ q) ad T s C H locs → lv_has ls 7 [(4, .int (iI ((5 * j : Nat) : Int))), (0, .ref b), (1, .ref (ad 122)), (2, .ref (ad 132)), (3, .ref (ad 137))] → W p l e room_1 s m #[Value.ref b] below meth c H locs (cells + 5) (slots + 30) Q (F0 m 1036 ls []))
    {th : Int} {C : Nat → va_E} {H : Heap} {locs : List Loc} {ls : Array Slot} (hLI : LIt cs ad th C) (w : Wd D cs (fun q : Nat => s.heap.size ≤ q) ad T s C H locs) (hl : lv_has ls 7 [(4, .int (iI ((5 * j : Nat) : Int))), (0, .ref b), (1, .ref (ad 122)), (2, .ref (ad 132)), (3, .ref (ad 137))]) : W p l e room_1 s m #[Value.ref b] below meth c H locs cells slots Q (F0 m 312 ls []) := by
  obtain ⟨P, px, hF, hok, hex⟩ := o_join (D := D) (A := (fun q : Nat => s.heap.size ≤ q)) hst hT hLI (rg_back (xs (5 * j + 1))) (rg_back (xs (5 * j + 2))) (rg_back (xs (5 * j + 3))) (rg_back (xs (5 * j + 4)))
  refine lv_aload_n X.1 X.2.1 d_La_law_312 rfl (lv_at hl 2 rfl) ?_
  refine lv_aload_n X.1 X.2.1 d_La_law_313 rfl (lv_at hl 1 rfl) ?_
  refine lv_iload X.1 X.2.1 d_La_law_314 (lv_at hl 0 rfl) ?_
  refine lv_iconst (v := iI (1)) X.1 X.2.1 d_La_law_316 (by decide) ?_
  refine i_add (a := ((5 * j : Nat) : Int)) (b := 1) X d_La_law_317 ?_
  refine l_sc X hX hbl hL w (5 * j + 1) (by omega) (by omega) d_La_law_318 ?_
  refine lv_aload_n X.1 X.2.1 d_La_law_319 rfl (lv_at hl 1 rfl) ?_
  refine lv_iload X.1 X.2.1 d_La_law_320 (lv_at hl 0 rfl) ?_
  refine lv_iconst (v := iI (2)) X.1 X.2.1 d_La_law_322 (by decide) ?_
  refine i_add (a := ((5 * j : Nat) : Int)) (b := 2) X d_La_law_323 ?_
  refine l_sc X hX hbl hL w (5 * j + 2) (by omega) (by omega) d_La_law_324 ?_
  refine lv_aload_n X.1 X.2.1 d_La_law_325 rfl (lv_at hl 1 rfl) ?_
  refine lv_iload X.1 X.2.1 d_La_law_326 (lv_at hl 0 rfl) ?_
  refine lv_iconst (v := iI (3)) X.1 X.2.1 d_La_law_328 (by decide) ?_
  refine i_add (a := ((5 * j : Nat) : Int)) (b := 3) X d_La_law_329 ?_
  refine l_sc X hX hbl hL w (5 * j + 3) (by omega) (by omega) d_La_law_330 ?_
  refine lv_aload_n X.1 X.2.1 d_La_law_331 rfl (lv_at hl 1 rfl) ?_
  refine lv_iload X.1 X.2.1 d_La_law_332 (lv_at hl 0 rfl) ?_
  refine lv_iconst (v := iI (4)) X.1 X.2.1 d_La_law_334 (by decide) ?_
  refine i_add (a := ((5 * j : Nat) : Int)) (b := 4) X d_La_law_335 ?_
  refine l_sc X hX hbl hL w (5 * j + 4) (by omega) (by omega) d_La_law_336 ?_
  refine lv_aload_n X.1 X.2.1 d_La_law_337 rfl (lv_at hl 4 rfl) ?_
  refine y_cS (n := 6) (k1 := 4) (As := [.ref (ad 122), .int (iI (xs (5 * j + 1)).toInt), .int (iI (xs (5 * j + 2)).toInt), .int (iI (xs (5 * j + 3)).toInt), .int (iI (xs (5 * j + 4)).toInt), .ref (ad 137)]) (rest := []) X ev w hml hl.1 (c_La_join hT (LI122 hLI) hF (fun x C1 h => (hok x C1 h).1) (fun E C1 h => ⟨_, (hex E C1 h).choose_spec.1⟩)) k_m_La_83 k_st_La_join k_i_La k_co_La_join (by decide +kernel) rfl ⟨(Nat.le_of_ble_eq_true rfl), (Nat.le_of_ble_eq_true rfl)⟩ ⟨rfl, rfl⟩ ⟨by show cells + 4 ≤ 601024; omega, by show slots + 6 * 4 ≤ 7293034; omega⟩ rfl (Nat.le_of_ble_eq_true rfl) d_La_law_338 (fun r C1 H locs hp w => ?_)
  rcases hp with ⟨hr0, x, C2, ov, hP1, ho1, hC1⟩ | ⟨E, k, hx, hk, hr0⟩
  · rw [hr0]
    rw [hC1] at w
    obtain ⟨_, ⟨fs9, hfs9⟩, hR9⟩ := hok x C2 hP1
    obtain ⟨R9, hR, hRes⟩ := hR9 (va_up ov 0 (vfI x))
    refine lv_istore (lv' := [(5, .int (iI 0)), (4, .int (iI ((5 * j : Nat) : Int))), (0, .ref b), (1, .ref (ad 122)), (2, .ref (ad 132)), (3, .ref (ad 137))]) X.1 X.2.1 d_La_law_341 hl (by decide) rfl (fun ls hl => ?_)
    refine lv_aload_n X.1 X.2.1 d_La_law_343 rfl (lv_at hl 4 rfl) ?_
    refine lv_aload_n X.1 X.2.1 d_La_law_344 rfl (lv_at hl 2 rfl) ?_
    refine lv_iload X.1 X.2.1 d_La_law_345 (lv_at hl 1 rfl) ?_
    refine lv_iconst (v := iI (1)) X.1 X.2.1 d_La_law_347 (by decide) ?_
    refine i_add (a := ((5 * j : Nat) : Int)) (b := 1) X d_La_law_348 ?_
    refine l_sc X hX hbl hL w (5 * j + 1) (by omega) (by omega) d_La_law_349 ?_
    refine lv_aload_n X.1 X.2.1 d_La_law_350 rfl (lv_at hl 2 rfl) ?_
    refine lv_iload X.1 X.2.1 d_La_law_351 (lv_at hl 1 rfl) ?_
    refine lv_iconst (v := iI (2)) X.1 X.2.1 d_La_law_353 (by decide) ?_
    refine i_add (a := ((5 * j : Nat) : Int)) (b := 2) X d_La_law_354 ?_
    refine l_sc X hX hbl hL w (5 * j + 2) (by omega) (by omega) d_La_law_355 ?_
    refine lv_aload_n X.1 X.2.1 d_La_law_356 rfl (lv_at hl 2 rfl) ?_
    refine lv_iload X.1 X.2.1 d_La_law_357 (lv_at hl 1 rfl) ?_
    refine lv_iconst (v := iI (3)) X.1 X.2.1 d_La_law_359 (by decide) ?_
    refine i_add (a := ((5 * j : Nat) : Int)) (b := 3) X d_La_law_360 ?_
    refine l_sc X hX hbl hL w (5 * j + 3) (by omega) (by omega) d_La_law_361 ?_
    refine lv_aload_n X.1 X.2.1 d_La_law_362 rfl (lv_at hl 2 rfl) ?_
    refine lv_iload X.1 X.2.1 d_La_law_363 (lv_at hl 1 rfl) ?_
    refine lv_iconst (v := iI (4)) X.1 X.2.1 d_La_law_365 (by decide) ?_
    refine i_add (a := ((5 * j : Nat) : Int)) (b := 4) X d_La_law_366 ?_
    refine l_sc X hX hbl hL w (5 * j + 4) (by omega) (by omega) d_La_law_367 ?_
    refine y_cR (n := 4) (i := 132) (ci := 5) (As := [.int (iI (xs (5 * j + 1)).toInt), .int (iI (xs (5 * j + 2)).toInt), .int (iI (xs (5 * j + 3)).toInt), .int (iI (xs (5 * j + 4)).toInt)]) (rest := []) X ev w hml hl.1 hR (by omega) (by rw [va_up_ne _ _ (by decide)]; exact hfs9) rfl k_m_La_86 k_im_Mo_join k_se_Mo_join k_i_Mo k_co_Mo_join (by decide +kernel) rfl ⟨(Nat.le_of_ble_eq_true rfl), (Nat.le_of_ble_eq_true rfl)⟩ ⟨rfl, rfl⟩ ⟨by show cells + 4 ≤ 601024; omega, by show slots + 6 * 4 ≤ 7293034; omega⟩ rfl (Nat.le_of_ble_eq_true rfl) d_La_law_368 (fun y C3 H locs hp w => ?_)
    obtain ⟨hLI3, hyx⟩ := hRes y C3 hp
    rw [hyx]
    refine lv_istore (lv' := [(6, .int x), (5, .int (iI 0)), (4, .int (iI ((5 * j : Nat) : Int))), (0, .ref b), (1, .ref (ad 122)), (2, .ref (ad 132)), (3, .ref (ad 137))]) X.1 X.2.1 d_La_law_371 hl (by decide) rfl (fun ls hl => ?_)
    refine lv_aload_n X.1 X.2.1 d_La_law_373 rfl (lv_at hl 5 rfl) ?_
    obtain ⟨fs8, hfs8⟩ := LI132 (⟨_, hLI3⟩ : LIt cs ad 0 C3)
    refine y_cR (n := 0) (i := 132) (ci := 5) (As := []) (rest := []) X ev w hml hl.1 (o_thrown hT ⟨_, hLI3⟩) (by omega) hfs8 rfl k_m_La_71 k_im_Mo_thrown k_se_Mo_thrown k_i_Mo k_co_Mo_thrown (by decide +kernel) rfl ⟨(Nat.le_of_ble_eq_true rfl), (Nat.le_of_ble_eq_true rfl)⟩ ⟨rfl, rfl⟩ ⟨by show cells + 4 ≤ 601024; omega, by show slots + 6 * 4 ≤ 7293034; omega⟩ rfl (Nat.le_of_ble_eq_true rfl) d_La_law_374 (fun r9 C4 H locs hp w => ?_)
    obtain ⟨e9, e8⟩ := hp
    rw [e9]
    rw [e8] at w
    refine lv_iload X.1 X.2.1 d_La_law_377 (lv_at hl 1 rfl) ?_
    refine i_eq (a := 0) (b := 0) (tgt := 384) X (by decide) (by decide) d_La_law_379 (by decide) (fun _ => ?_) (fun h9 => absurd rfl h9)
    refine lv_iload X.1 X.2.1 d_La_law_384 (lv_at hl 1 rfl) ?_
    refine z_ne (a := 0) (tgt := 401) X (by decide) d_La_law_386 (by decide) (fun h9 => absurd rfl h9) (fun _ => ?_)
    refine lv_aload_n X.1 X.2.1 d_La_law_389 rfl (lv_at hl 6 rfl) ?_
    refine lv_iconst (v := iI (0)) X.1 X.2.1 d_La_law_390 (by decide) ?_
    refine w_lld (i := 137) (n := 1) (F := va_up ov 0 (vfI x)) (z := 0) X w (by omega) (LIo_o hLI3) 0 rfl (by decide) (by decide) d_La_law_391 ?_
    refine lv_iload X.1 X.2.1 d_La_law_392 (lv_at hl 0 rfl) ?_
    refine W.eq (g2 := F0 m 394 ls [.int (iI x.toInt), .long (lI x.toInt)]) (by rw [iI_back, va_up_self]; rfl) ?_
    refine l_i2l X (rg_back x) d_La_law_394 ?_
    have hrg := rg_back x
    refine l_cmp (a := x.toInt) (b := x.toInt) X (by omega) (by omega) d_La_law_395 ?_
    refine z_eq (a := lcI x.toInt x.toInt) (tgt := 401) X (lcI_rg _ _) d_La_law_396 (by decide) (fun _ => ?_) (fun h9 => absurd (lcI_0.2 rfl) h9)
    refine lv_goto (tgt := 1036) X.1 X.2.1 d_La_law_401 (by decide) ?_
    exact W.widen (k := cells + 5) (n := slots + 30) (by omega) (by omega) (K 0 C3 H locs ls ⟨_, hLI3⟩ w (lv_sub hl [2, 3, 4, 5, 6] rfl))
  · rw [hr0]
    obtain ⟨k2, hk2, ⟨fs9, hfs9⟩, R9, hR, hRes⟩ := hex E C1 hx
    obtain ⟨hkk, hk1, hk3⟩ := cd_A hk hk2
    rw [hkk] at hRes
    refine lv_istore (lv' := [(5, .int (iI k)), (4, .int (iI ((5 * j : Nat) : Int))), (0, .ref b), (1, .ref (ad 122)), (2, .ref (ad 132)), (3, .ref (ad 137))]) X.1 X.2.1 d_La_law_341 hl (by decide) rfl (fun ls hl => ?_)
    refine lv_aload_n X.1 X.2.1 d_La_law_343 rfl (lv_at hl 4 rfl) ?_
    refine lv_aload_n X.1 X.2.1 d_La_law_344 rfl (lv_at hl 2 rfl) ?_
    refine lv_iload X.1 X.2.1 d_La_law_345 (lv_at hl 1 rfl) ?_
    refine lv_iconst (v := iI (1)) X.1 X.2.1 d_La_law_347 (by decide) ?_
    refine i_add (a := ((5 * j : Nat) : Int)) (b := 1) X d_La_law_348 ?_
    refine l_sc X hX hbl hL w (5 * j + 1) (by omega) (by omega) d_La_law_349 ?_
    refine lv_aload_n X.1 X.2.1 d_La_law_350 rfl (lv_at hl 2 rfl) ?_
    refine lv_iload X.1 X.2.1 d_La_law_351 (lv_at hl 1 rfl) ?_
    refine lv_iconst (v := iI (2)) X.1 X.2.1 d_La_law_353 (by decide) ?_
    refine i_add (a := ((5 * j : Nat) : Int)) (b := 2) X d_La_law_354 ?_
    refine l_sc X hX hbl hL w (5 * j + 2) (by omega) (by omega) d_La_law_355 ?_
    refine lv_aload_n X.1 X.2.1 d_La_law_356 rfl (lv_at hl 2 rfl) ?_
    refine lv_iload X.1 X.2.1 d_La_law_357 (lv_at hl 1 rfl) ?_
    refine lv_iconst (v := iI (3)) X.1 X.2.1 d_La_law_359 (by decide) ?_
    refine i_add (a := ((5 * j : Nat) : Int)) (b := 3) X d_La_law_360 ?_
    refine l_sc X hX hbl hL w (5 * j + 3) (by omega) (by omega) d_La_law_361 ?_
    refine lv_aload_n X.1 X.2.1 d_La_law_362 rfl (lv_at hl 2 rfl) ?_
    refine lv_iload X.1 X.2.1 d_La_law_363 (lv_at hl 1 rfl) ?_
    refine lv_iconst (v := iI (4)) X.1 X.2.1 d_La_law_365 (by decide) ?_
    refine i_add (a := ((5 * j : Nat) : Int)) (b := 4) X d_La_law_366 ?_
    refine l_sc X hX hbl hL w (5 * j + 4) (by omega) (by omega) d_La_law_367 ?_
    refine y_cR (n := 4) (i := 132) (ci := 5) (As := [.int (iI (xs (5 * j + 1)).toInt), .int (iI (xs (5 * j + 2)).toInt), .int (iI (xs (5 * j + 3)).toInt), .int (iI (xs (5 * j + 4)).toInt)]) (rest := []) X ev w hml hl.1 hR (by omega) hfs9 rfl k_m_La_86 k_im_Mo_join k_se_Mo_join k_i_Mo k_co_Mo_join (by decide +kernel) rfl ⟨(Nat.le_of_ble_eq_true rfl), (Nat.le_of_ble_eq_true rfl)⟩ ⟨rfl, rfl⟩ ⟨by show cells + 4 ≤ 601024; omega, by show slots + 6 * 4 ≤ 7293034; omega⟩ rfl (Nat.le_of_ble_eq_true rfl) d_La_law_368 (fun y C3 H locs hp w => ?_)
    have hLI3 := hRes y C3 hp
    refine lv_istore (lv' := [(6, .int y), (5, .int (iI k)), (4, .int (iI ((5 * j : Nat) : Int))), (0, .ref b), (1, .ref (ad 122)), (2, .ref (ad 132)), (3, .ref (ad 137))]) X.1 X.2.1 d_La_law_371 hl (by decide) rfl (fun ls hl => ?_)
    refine lv_aload_n X.1 X.2.1 d_La_law_373 rfl (lv_at hl 5 rfl) ?_
    obtain ⟨fs8, hfs8⟩ := LI132 hLI3
    refine y_cR (n := 0) (i := 132) (ci := 5) (As := []) (rest := []) X ev w hml hl.1 (o_thrown hT hLI3) (by omega) hfs8 rfl k_m_La_71 k_im_Mo_thrown k_se_Mo_thrown k_i_Mo k_co_Mo_thrown (by decide +kernel) rfl ⟨(Nat.le_of_ble_eq_true rfl), (Nat.le_of_ble_eq_true rfl)⟩ ⟨rfl, rfl⟩ ⟨by show cells + 4 ≤ 601024; omega, by show slots + 6 * 4 ≤ 7293034; omega⟩ rfl (Nat.le_of_ble_eq_true rfl) d_La_law_374 (fun r9 C4 H locs hp w => ?_)
    obtain ⟨e9, e8⟩ := hp
    rw [e9]
    rw [e8] at w
    refine lv_iload X.1 X.2.1 d_La_law_377 (lv_at hl 1 rfl) ?_
    refine i_eq (a := k) (b := k) (tgt := 384) X (by omega) (by omega) d_La_law_379 (by decide) (fun _ => ?_) (fun h9 => absurd rfl h9)
    refine lv_iload X.1 X.2.1 d_La_law_384 (lv_at hl 1 rfl) ?_
    refine z_ne (a := k) (tgt := 401) X (by omega) d_La_law_386 (by decide) (fun _ => ?_) (fun h9 => absurd h9 (by omega))
    refine lv_goto (tgt := 1036) X.1 X.2.1 d_La_law_401 (by decide) ?_
    exact W.widen (k := cells + 5) (n := slots + 30) (by omega) (by omega) (K k C3 H locs ls hLI3 w (lv_sub hl [2, 3, 4, 5, 6] rfl))
theorem k_La_power (hst : l.stackTraces = false) (hT : 213 ≤ T) (X : Cx p s m #[Value.ref b] c b_La_law RLa) (ev : EV (fun q : Nat => s.heap.size ≤ q) s) (hml : c.maxLocals = 7) (hX : va_X b L xs s s.heap) (hbl : b < s.heap.size) (hL : L ≤ 2560) (hj : 5 * j + 5 ≤ L) (hce : cells + 5 ≤ 601024) (hsl : slots + 30 ≤ 7293034)
    (K : ∀ (th : Int) (C : Nat → va_E) (H : Heap) (locs : List Loc) (ls : Array Slot), LIt cs ad th C → Wd D cs (fun q : Nat => s.heap.size ≤ q) ad T s C H locs → lv_has ls 7 [(4, .int (iI ((5 * j : Nat) : Int))), (0, .ref b), (1, .ref (ad 122)), (2, .ref (ad 132)), (3, .ref (ad 137))] → W p l e room_1 s m #[Value.ref b] below meth c H locs (cells + 5) (slots + 30) Q (F0 m 1036 ls []))
    {th : Int} {C : Nat → va_E} {H : Heap} {locs : List Loc} {ls : Array Slot} (hLI : LIt cs ad th C) (w : Wd D cs (fun q : Nat => s.heap.size ≤ q) ad T s C H locs) (hl : lv_has ls 7 [(4, .int (iI ((5 * j : Nat) : Int))), (0, .ref b), (1, .ref (ad 122)), (2, .ref (ad 132)), (3, .ref (ad 137))]) : W p l e room_1 s m #[Value.ref b] below meth c H locs cells slots Q (F0 m 404 ls []) := by
  obtain ⟨P, px, hF, hok, hex⟩ := o_power (D := D) (A := (fun q : Nat => s.heap.size ≤ q)) hst hT hLI (rg_back (xs (5 * j + 1))) (rg_back (xs (5 * j + 2))) (rg_back (xs (5 * j + 3))) (rg_back (xs (5 * j + 4)))
  refine lv_aload_n X.1 X.2.1 d_La_law_404 rfl (lv_at hl 2 rfl) ?_
  refine lv_aload_n X.1 X.2.1 d_La_law_405 rfl (lv_at hl 1 rfl) ?_
  refine lv_iload X.1 X.2.1 d_La_law_406 (lv_at hl 0 rfl) ?_
  refine lv_iconst (v := iI (1)) X.1 X.2.1 d_La_law_408 (by decide) ?_
  refine i_add (a := ((5 * j : Nat) : Int)) (b := 1) X d_La_law_409 ?_
  refine l_sc X hX hbl hL w (5 * j + 1) (by omega) (by omega) d_La_law_410 ?_
  refine lv_aload_n X.1 X.2.1 d_La_law_411 rfl (lv_at hl 1 rfl) ?_
  refine lv_iload X.1 X.2.1 d_La_law_412 (lv_at hl 0 rfl) ?_
  refine lv_iconst (v := iI (2)) X.1 X.2.1 d_La_law_414 (by decide) ?_
  refine i_add (a := ((5 * j : Nat) : Int)) (b := 2) X d_La_law_415 ?_
  refine l_sc X hX hbl hL w (5 * j + 2) (by omega) (by omega) d_La_law_416 ?_
  refine lv_aload_n X.1 X.2.1 d_La_law_417 rfl (lv_at hl 1 rfl) ?_
  refine lv_iload X.1 X.2.1 d_La_law_418 (lv_at hl 0 rfl) ?_
  refine lv_iconst (v := iI (3)) X.1 X.2.1 d_La_law_420 (by decide) ?_
  refine i_add (a := ((5 * j : Nat) : Int)) (b := 3) X d_La_law_421 ?_
  refine l_sc X hX hbl hL w (5 * j + 3) (by omega) (by omega) d_La_law_422 ?_
  refine lv_aload_n X.1 X.2.1 d_La_law_423 rfl (lv_at hl 1 rfl) ?_
  refine lv_iload X.1 X.2.1 d_La_law_424 (lv_at hl 0 rfl) ?_
  refine lv_iconst (v := iI (4)) X.1 X.2.1 d_La_law_426 (by decide) ?_
  refine i_add (a := ((5 * j : Nat) : Int)) (b := 4) X d_La_law_427 ?_
  refine l_sc X hX hbl hL w (5 * j + 4) (by omega) (by omega) d_La_law_428 ?_
  refine lv_aload_n X.1 X.2.1 d_La_law_429 rfl (lv_at hl 4 rfl) ?_
  refine y_cS (n := 6) (k1 := 4) (As := [.ref (ad 122), .int (iI (xs (5 * j + 1)).toInt), .int (iI (xs (5 * j + 2)).toInt), .int (iI (xs (5 * j + 3)).toInt), .int (iI (xs (5 * j + 4)).toInt), .ref (ad 137)]) (rest := []) X ev w hml hl.1 (c_La_power hT (LI122 hLI) hF (fun x C1 h => (hok x C1 h).1) (fun E C1 h => ⟨_, (hex E C1 h).choose_spec.1⟩)) k_m_La_87 k_st_La_power k_i_La k_co_La_power (by decide +kernel) rfl ⟨(Nat.le_of_ble_eq_true rfl), (Nat.le_of_ble_eq_true rfl)⟩ ⟨rfl, rfl⟩ ⟨by show cells + 4 ≤ 601024; omega, by show slots + 6 * 4 ≤ 7293034; omega⟩ rfl (Nat.le_of_ble_eq_true rfl) d_La_law_430 (fun r C1 H locs hp w => ?_)
  rcases hp with ⟨hr0, x, C2, ov, hP1, ho1, hC1⟩ | ⟨E, k, hx, hk, hr0⟩
  · rw [hr0]
    rw [hC1] at w
    obtain ⟨_, ⟨fs9, hfs9⟩, hR9⟩ := hok x C2 hP1
    obtain ⟨R9, hR, hRes⟩ := hR9 (va_up ov 0 (vfI x))
    refine lv_istore (lv' := [(5, .int (iI 0)), (4, .int (iI ((5 * j : Nat) : Int))), (0, .ref b), (1, .ref (ad 122)), (2, .ref (ad 132)), (3, .ref (ad 137))]) X.1 X.2.1 d_La_law_433 hl (by decide) rfl (fun ls hl => ?_)
    refine lv_aload_n X.1 X.2.1 d_La_law_435 rfl (lv_at hl 4 rfl) ?_
    refine lv_aload_n X.1 X.2.1 d_La_law_436 rfl (lv_at hl 2 rfl) ?_
    refine lv_iload X.1 X.2.1 d_La_law_437 (lv_at hl 1 rfl) ?_
    refine lv_iconst (v := iI (1)) X.1 X.2.1 d_La_law_439 (by decide) ?_
    refine i_add (a := ((5 * j : Nat) : Int)) (b := 1) X d_La_law_440 ?_
    refine l_sc X hX hbl hL w (5 * j + 1) (by omega) (by omega) d_La_law_441 ?_
    refine lv_aload_n X.1 X.2.1 d_La_law_442 rfl (lv_at hl 2 rfl) ?_
    refine lv_iload X.1 X.2.1 d_La_law_443 (lv_at hl 1 rfl) ?_
    refine lv_iconst (v := iI (2)) X.1 X.2.1 d_La_law_445 (by decide) ?_
    refine i_add (a := ((5 * j : Nat) : Int)) (b := 2) X d_La_law_446 ?_
    refine l_sc X hX hbl hL w (5 * j + 2) (by omega) (by omega) d_La_law_447 ?_
    refine lv_aload_n X.1 X.2.1 d_La_law_448 rfl (lv_at hl 2 rfl) ?_
    refine lv_iload X.1 X.2.1 d_La_law_449 (lv_at hl 1 rfl) ?_
    refine lv_iconst (v := iI (3)) X.1 X.2.1 d_La_law_451 (by decide) ?_
    refine i_add (a := ((5 * j : Nat) : Int)) (b := 3) X d_La_law_452 ?_
    refine l_sc X hX hbl hL w (5 * j + 3) (by omega) (by omega) d_La_law_453 ?_
    refine lv_aload_n X.1 X.2.1 d_La_law_454 rfl (lv_at hl 2 rfl) ?_
    refine lv_iload X.1 X.2.1 d_La_law_455 (lv_at hl 1 rfl) ?_
    refine lv_iconst (v := iI (4)) X.1 X.2.1 d_La_law_457 (by decide) ?_
    refine i_add (a := ((5 * j : Nat) : Int)) (b := 4) X d_La_law_458 ?_
    refine l_sc X hX hbl hL w (5 * j + 4) (by omega) (by omega) d_La_law_459 ?_
    refine y_cR (n := 4) (i := 132) (ci := 5) (As := [.int (iI (xs (5 * j + 1)).toInt), .int (iI (xs (5 * j + 2)).toInt), .int (iI (xs (5 * j + 3)).toInt), .int (iI (xs (5 * j + 4)).toInt)]) (rest := []) X ev w hml hl.1 hR (by omega) (by rw [va_up_ne _ _ (by decide)]; exact hfs9) rfl k_m_La_89 k_im_Mo_power k_se_Mo_power k_i_Mo k_co_Mo_power (by decide +kernel) rfl ⟨(Nat.le_of_ble_eq_true rfl), (Nat.le_of_ble_eq_true rfl)⟩ ⟨rfl, rfl⟩ ⟨by show cells + 4 ≤ 601024; omega, by show slots + 6 * 4 ≤ 7293034; omega⟩ rfl (Nat.le_of_ble_eq_true rfl) d_La_law_460 (fun y C3 H locs hp w => ?_)
    obtain ⟨hLI3, hyx⟩ := hRes y C3 hp
    rw [hyx]
    refine lv_istore (lv' := [(6, .int x), (5, .int (iI 0)), (4, .int (iI ((5 * j : Nat) : Int))), (0, .ref b), (1, .ref (ad 122)), (2, .ref (ad 132)), (3, .ref (ad 137))]) X.1 X.2.1 d_La_law_463 hl (by decide) rfl (fun ls hl => ?_)
    refine lv_aload_n X.1 X.2.1 d_La_law_465 rfl (lv_at hl 5 rfl) ?_
    obtain ⟨fs8, hfs8⟩ := LI132 (⟨_, hLI3⟩ : LIt cs ad 0 C3)
    refine y_cR (n := 0) (i := 132) (ci := 5) (As := []) (rest := []) X ev w hml hl.1 (o_thrown hT ⟨_, hLI3⟩) (by omega) hfs8 rfl k_m_La_71 k_im_Mo_thrown k_se_Mo_thrown k_i_Mo k_co_Mo_thrown (by decide +kernel) rfl ⟨(Nat.le_of_ble_eq_true rfl), (Nat.le_of_ble_eq_true rfl)⟩ ⟨rfl, rfl⟩ ⟨by show cells + 4 ≤ 601024; omega, by show slots + 6 * 4 ≤ 7293034; omega⟩ rfl (Nat.le_of_ble_eq_true rfl) d_La_law_466 (fun r9 C4 H locs hp w => ?_)
    obtain ⟨e9, e8⟩ := hp
    rw [e9]
    rw [e8] at w
    refine lv_iload X.1 X.2.1 d_La_law_469 (lv_at hl 1 rfl) ?_
    refine i_eq (a := 0) (b := 0) (tgt := 476) X (by decide) (by decide) d_La_law_471 (by decide) (fun _ => ?_) (fun h9 => absurd rfl h9)
    refine lv_iload X.1 X.2.1 d_La_law_476 (lv_at hl 1 rfl) ?_
    refine z_ne (a := 0) (tgt := 493) X (by decide) d_La_law_478 (by decide) (fun h9 => absurd rfl h9) (fun _ => ?_)
    refine lv_aload_n X.1 X.2.1 d_La_law_481 rfl (lv_at hl 6 rfl) ?_
    refine lv_iconst (v := iI (0)) X.1 X.2.1 d_La_law_482 (by decide) ?_
    refine w_lld (i := 137) (n := 1) (F := va_up ov 0 (vfI x)) (z := 0) X w (by omega) (LIo_o hLI3) 0 rfl (by decide) (by decide) d_La_law_483 ?_
    refine lv_iload X.1 X.2.1 d_La_law_484 (lv_at hl 0 rfl) ?_
    refine W.eq (g2 := F0 m 486 ls [.int (iI x.toInt), .long (lI x.toInt)]) (by rw [iI_back, va_up_self]; rfl) ?_
    refine l_i2l X (rg_back x) d_La_law_486 ?_
    have hrg := rg_back x
    refine l_cmp (a := x.toInt) (b := x.toInt) X (by omega) (by omega) d_La_law_487 ?_
    refine z_eq (a := lcI x.toInt x.toInt) (tgt := 493) X (lcI_rg _ _) d_La_law_488 (by decide) (fun _ => ?_) (fun h9 => absurd (lcI_0.2 rfl) h9)
    refine lv_goto (tgt := 1036) X.1 X.2.1 d_La_law_493 (by decide) ?_
    exact W.widen (k := cells + 5) (n := slots + 30) (by omega) (by omega) (K 0 C3 H locs ls ⟨_, hLI3⟩ w (lv_sub hl [2, 3, 4, 5, 6] rfl))
  · rw [hr0]
    obtain ⟨k2, hk2, ⟨fs9, hfs9⟩, R9, hR, hRes⟩ := hex E C1 hx
    obtain ⟨hkk, hk1, hk3⟩ := cd_N hk hk2
    rw [hkk] at hRes
    refine lv_istore (lv' := [(5, .int (iI k)), (4, .int (iI ((5 * j : Nat) : Int))), (0, .ref b), (1, .ref (ad 122)), (2, .ref (ad 132)), (3, .ref (ad 137))]) X.1 X.2.1 d_La_law_433 hl (by decide) rfl (fun ls hl => ?_)
    refine lv_aload_n X.1 X.2.1 d_La_law_435 rfl (lv_at hl 4 rfl) ?_
    refine lv_aload_n X.1 X.2.1 d_La_law_436 rfl (lv_at hl 2 rfl) ?_
    refine lv_iload X.1 X.2.1 d_La_law_437 (lv_at hl 1 rfl) ?_
    refine lv_iconst (v := iI (1)) X.1 X.2.1 d_La_law_439 (by decide) ?_
    refine i_add (a := ((5 * j : Nat) : Int)) (b := 1) X d_La_law_440 ?_
    refine l_sc X hX hbl hL w (5 * j + 1) (by omega) (by omega) d_La_law_441 ?_
    refine lv_aload_n X.1 X.2.1 d_La_law_442 rfl (lv_at hl 2 rfl) ?_
    refine lv_iload X.1 X.2.1 d_La_law_443 (lv_at hl 1 rfl) ?_
    refine lv_iconst (v := iI (2)) X.1 X.2.1 d_La_law_445 (by decide) ?_
    refine i_add (a := ((5 * j : Nat) : Int)) (b := 2) X d_La_law_446 ?_
    refine l_sc X hX hbl hL w (5 * j + 2) (by omega) (by omega) d_La_law_447 ?_
    refine lv_aload_n X.1 X.2.1 d_La_law_448 rfl (lv_at hl 2 rfl) ?_
    refine lv_iload X.1 X.2.1 d_La_law_449 (lv_at hl 1 rfl) ?_
    refine lv_iconst (v := iI (3)) X.1 X.2.1 d_La_law_451 (by decide) ?_
    refine i_add (a := ((5 * j : Nat) : Int)) (b := 3) X d_La_law_452 ?_
    refine l_sc X hX hbl hL w (5 * j + 3) (by omega) (by omega) d_La_law_453 ?_
    refine lv_aload_n X.1 X.2.1 d_La_law_454 rfl (lv_at hl 2 rfl) ?_
    refine lv_iload X.1 X.2.1 d_La_law_455 (lv_at hl 1 rfl) ?_
    refine lv_iconst (v := iI (4)) X.1 X.2.1 d_La_law_457 (by decide) ?_
    refine i_add (a := ((5 * j : Nat) : Int)) (b := 4) X d_La_law_458 ?_
    refine l_sc X hX hbl hL w (5 * j + 4) (by omega) (by omega) d_La_law_459 ?_
    refine y_cR (n := 4) (i := 132) (ci := 5) (As := [.int (iI (xs (5 * j + 1)).toInt), .int (iI (xs (5 * j + 2)).toInt), .int (iI (xs (5 * j + 3)).toInt), .int (iI (xs (5 * j + 4)).toInt)]) (rest := []) X ev w hml hl.1 hR (by omega) hfs9 rfl k_m_La_89 k_im_Mo_power k_se_Mo_power k_i_Mo k_co_Mo_power (by decide +kernel) rfl ⟨(Nat.le_of_ble_eq_true rfl), (Nat.le_of_ble_eq_true rfl)⟩ ⟨rfl, rfl⟩ ⟨by show cells + 4 ≤ 601024; omega, by show slots + 6 * 4 ≤ 7293034; omega⟩ rfl (Nat.le_of_ble_eq_true rfl) d_La_law_460 (fun y C3 H locs hp w => ?_)
    have hLI3 := hRes y C3 hp
    refine lv_istore (lv' := [(6, .int y), (5, .int (iI k)), (4, .int (iI ((5 * j : Nat) : Int))), (0, .ref b), (1, .ref (ad 122)), (2, .ref (ad 132)), (3, .ref (ad 137))]) X.1 X.2.1 d_La_law_463 hl (by decide) rfl (fun ls hl => ?_)
    refine lv_aload_n X.1 X.2.1 d_La_law_465 rfl (lv_at hl 5 rfl) ?_
    obtain ⟨fs8, hfs8⟩ := LI132 hLI3
    refine y_cR (n := 0) (i := 132) (ci := 5) (As := []) (rest := []) X ev w hml hl.1 (o_thrown hT hLI3) (by omega) hfs8 rfl k_m_La_71 k_im_Mo_thrown k_se_Mo_thrown k_i_Mo k_co_Mo_thrown (by decide +kernel) rfl ⟨(Nat.le_of_ble_eq_true rfl), (Nat.le_of_ble_eq_true rfl)⟩ ⟨rfl, rfl⟩ ⟨by show cells + 4 ≤ 601024; omega, by show slots + 6 * 4 ≤ 7293034; omega⟩ rfl (Nat.le_of_ble_eq_true rfl) d_La_law_466 (fun r9 C4 H locs hp w => ?_)
    obtain ⟨e9, e8⟩ := hp
    rw [e9]
    rw [e8] at w
    refine lv_iload X.1 X.2.1 d_La_law_469 (lv_at hl 1 rfl) ?_
    refine i_eq (a := k) (b := k) (tgt := 476) X (by omega) (by omega) d_La_law_471 (by decide) (fun _ => ?_) (fun h9 => absurd rfl h9)
    refine lv_iload X.1 X.2.1 d_La_law_476 (lv_at hl 1 rfl) ?_
    refine z_ne (a := k) (tgt := 493) X (by omega) d_La_law_478 (by decide) (fun _ => ?_) (fun h9 => absurd h9 (by omega))
    refine lv_goto (tgt := 1036) X.1 X.2.1 d_La_law_493 (by decide) ?_
    exact W.widen (k := cells + 5) (n := slots + 30) (by omega) (by omega) (K k C3 H locs ls hLI3 w (lv_sub hl [2, 3, 4, 5, 6] rfl))
theorem k_La_inverse (hst : l.stackTraces = false) (hT : 213 ≤ T) (X : Cx p s m #[Value.ref b] c b_La_law RLa) (ev : EV (fun q : Nat => s.heap.size ≤ q) s) (hml : c.maxLocals = 7) (hX : va_X b L xs s s.heap) (hbl : b < s.heap.size) (hL : L ≤ 2560) (hj : 5 * j + 5 ≤ L) (hce : cells + 5 ≤ 601024) (hsl : slots + 30 ≤ 7293034)
    (K : ∀ (th : Int) (C : Nat → va_E) (H : Heap) (locs : List Loc) (ls : Array Slot), LIt cs ad th C → Wd D cs (fun q : Nat => s.heap.size ≤ q) ad T s C H locs → lv_has ls 7 [(4, .int (iI ((5 * j : Nat) : Int))), (0, .ref b), (1, .ref (ad 122)), (2, .ref (ad 132)), (3, .ref (ad 137))] → W p l e room_1 s m #[Value.ref b] below meth c H locs (cells + 5) (slots + 30) Q (F0 m 1036 ls []))
    {th : Int} {C : Nat → va_E} {H : Heap} {locs : List Loc} {ls : Array Slot} (hLI : LIt cs ad th C) (w : Wd D cs (fun q : Nat => s.heap.size ≤ q) ad T s C H locs) (hl : lv_has ls 7 [(4, .int (iI ((5 * j : Nat) : Int))), (0, .ref b), (1, .ref (ad 122)), (2, .ref (ad 132)), (3, .ref (ad 137))]) : W p l e room_1 s m #[Value.ref b] below meth c H locs cells slots Q (F0 m 496 ls []) := by
  obtain ⟨P, px, hF, hok, hex⟩ := o_inverse (D := D) (A := (fun q : Nat => s.heap.size ≤ q)) hst hT hLI (rg_back (xs (5 * j + 1))) (rg_back (xs (5 * j + 2))) (rg_back (xs (5 * j + 3)))
  refine lv_aload_n X.1 X.2.1 d_La_law_496 rfl (lv_at hl 2 rfl) ?_
  refine lv_aload_n X.1 X.2.1 d_La_law_497 rfl (lv_at hl 1 rfl) ?_
  refine lv_iload X.1 X.2.1 d_La_law_498 (lv_at hl 0 rfl) ?_
  refine lv_iconst (v := iI (1)) X.1 X.2.1 d_La_law_500 (by decide) ?_
  refine i_add (a := ((5 * j : Nat) : Int)) (b := 1) X d_La_law_501 ?_
  refine l_sc X hX hbl hL w (5 * j + 1) (by omega) (by omega) d_La_law_502 ?_
  refine lv_aload_n X.1 X.2.1 d_La_law_503 rfl (lv_at hl 1 rfl) ?_
  refine lv_iload X.1 X.2.1 d_La_law_504 (lv_at hl 0 rfl) ?_
  refine lv_iconst (v := iI (2)) X.1 X.2.1 d_La_law_506 (by decide) ?_
  refine i_add (a := ((5 * j : Nat) : Int)) (b := 2) X d_La_law_507 ?_
  refine l_sc X hX hbl hL w (5 * j + 2) (by omega) (by omega) d_La_law_508 ?_
  refine lv_aload_n X.1 X.2.1 d_La_law_509 rfl (lv_at hl 1 rfl) ?_
  refine lv_iload X.1 X.2.1 d_La_law_510 (lv_at hl 0 rfl) ?_
  refine lv_iconst (v := iI (3)) X.1 X.2.1 d_La_law_512 (by decide) ?_
  refine i_add (a := ((5 * j : Nat) : Int)) (b := 3) X d_La_law_513 ?_
  refine l_sc X hX hbl hL w (5 * j + 3) (by omega) (by omega) d_La_law_514 ?_
  refine lv_aload_n X.1 X.2.1 d_La_law_515 rfl (lv_at hl 4 rfl) ?_
  refine y_cS (n := 5) (k1 := 5) (As := [.ref (ad 122), .int (iI (xs (5 * j + 1)).toInt), .int (iI (xs (5 * j + 2)).toInt), .int (iI (xs (5 * j + 3)).toInt), .ref (ad 137)]) (rest := []) X ev w hml hl.1 (c_La_inverse hT (LI122 hLI) hF (fun x C1 h => (hok x C1 h).1) (fun E C1 h => ⟨_, (hex E C1 h).choose_spec.1⟩)) k_m_La_90 k_st_La_inverse k_i_La k_co_La_inverse (by decide +kernel) rfl ⟨(Nat.le_of_ble_eq_true rfl), (Nat.le_of_ble_eq_true rfl)⟩ ⟨rfl, rfl⟩ ⟨by show cells + 5 ≤ 601024; omega, by show slots + 6 * 5 ≤ 7293034; omega⟩ rfl (Nat.le_of_ble_eq_true rfl) d_La_law_516 (fun r C1 H locs hp w => ?_)
  rcases hp with ⟨hr0, x, C2, ov, hP1, ho1, hC1⟩ | ⟨E, k, hx, hk, hr0⟩
  · rw [hr0]
    rw [hC1] at w
    obtain ⟨_, ⟨fs9, hfs9⟩, hR9⟩ := hok x C2 hP1
    obtain ⟨R9, hR, hRes⟩ := hR9 (va_up ov 0 (vfI x))
    refine lv_istore (lv' := [(5, .int (iI 0)), (4, .int (iI ((5 * j : Nat) : Int))), (0, .ref b), (1, .ref (ad 122)), (2, .ref (ad 132)), (3, .ref (ad 137))]) X.1 X.2.1 d_La_law_519 hl (by decide) rfl (fun ls hl => ?_)
    refine lv_aload_n X.1 X.2.1 d_La_law_521 rfl (lv_at hl 4 rfl) ?_
    refine lv_aload_n X.1 X.2.1 d_La_law_522 rfl (lv_at hl 2 rfl) ?_
    refine lv_iload X.1 X.2.1 d_La_law_523 (lv_at hl 1 rfl) ?_
    refine lv_iconst (v := iI (1)) X.1 X.2.1 d_La_law_525 (by decide) ?_
    refine i_add (a := ((5 * j : Nat) : Int)) (b := 1) X d_La_law_526 ?_
    refine l_sc X hX hbl hL w (5 * j + 1) (by omega) (by omega) d_La_law_527 ?_
    refine lv_aload_n X.1 X.2.1 d_La_law_528 rfl (lv_at hl 2 rfl) ?_
    refine lv_iload X.1 X.2.1 d_La_law_529 (lv_at hl 1 rfl) ?_
    refine lv_iconst (v := iI (2)) X.1 X.2.1 d_La_law_531 (by decide) ?_
    refine i_add (a := ((5 * j : Nat) : Int)) (b := 2) X d_La_law_532 ?_
    refine l_sc X hX hbl hL w (5 * j + 2) (by omega) (by omega) d_La_law_533 ?_
    refine lv_aload_n X.1 X.2.1 d_La_law_534 rfl (lv_at hl 2 rfl) ?_
    refine lv_iload X.1 X.2.1 d_La_law_535 (lv_at hl 1 rfl) ?_
    refine lv_iconst (v := iI (3)) X.1 X.2.1 d_La_law_537 (by decide) ?_
    refine i_add (a := ((5 * j : Nat) : Int)) (b := 3) X d_La_law_538 ?_
    refine l_sc X hX hbl hL w (5 * j + 3) (by omega) (by omega) d_La_law_539 ?_
    refine y_cR (n := 3) (i := 132) (ci := 5) (As := [.int (iI (xs (5 * j + 1)).toInt), .int (iI (xs (5 * j + 2)).toInt), .int (iI (xs (5 * j + 3)).toInt)]) (rest := []) X ev w hml hl.1 hR (by omega) (by rw [va_up_ne _ _ (by decide)]; exact hfs9) rfl k_m_La_92 k_im_Mo_inverse k_se_Mo_inverse k_i_Mo k_co_Mo_inverse (by decide +kernel) rfl ⟨(Nat.le_of_ble_eq_true rfl), (Nat.le_of_ble_eq_true rfl)⟩ ⟨rfl, rfl⟩ ⟨by show cells + 5 ≤ 601024; omega, by show slots + 6 * 5 ≤ 7293034; omega⟩ rfl (Nat.le_of_ble_eq_true rfl) d_La_law_540 (fun y C3 H locs hp w => ?_)
    obtain ⟨hLI3, hyx⟩ := hRes y C3 hp
    rw [hyx]
    refine lv_istore (lv' := [(6, .int x), (5, .int (iI 0)), (4, .int (iI ((5 * j : Nat) : Int))), (0, .ref b), (1, .ref (ad 122)), (2, .ref (ad 132)), (3, .ref (ad 137))]) X.1 X.2.1 d_La_law_543 hl (by decide) rfl (fun ls hl => ?_)
    refine lv_aload_n X.1 X.2.1 d_La_law_545 rfl (lv_at hl 5 rfl) ?_
    obtain ⟨fs8, hfs8⟩ := LI132 (⟨_, hLI3⟩ : LIt cs ad 0 C3)
    refine y_cR (n := 0) (i := 132) (ci := 5) (As := []) (rest := []) X ev w hml hl.1 (o_thrown hT ⟨_, hLI3⟩) (by omega) hfs8 rfl k_m_La_71 k_im_Mo_thrown k_se_Mo_thrown k_i_Mo k_co_Mo_thrown (by decide +kernel) rfl ⟨(Nat.le_of_ble_eq_true rfl), (Nat.le_of_ble_eq_true rfl)⟩ ⟨rfl, rfl⟩ ⟨by show cells + 5 ≤ 601024; omega, by show slots + 6 * 5 ≤ 7293034; omega⟩ rfl (Nat.le_of_ble_eq_true rfl) d_La_law_546 (fun r9 C4 H locs hp w => ?_)
    obtain ⟨e9, e8⟩ := hp
    rw [e9]
    rw [e8] at w
    refine lv_iload X.1 X.2.1 d_La_law_549 (lv_at hl 1 rfl) ?_
    refine i_eq (a := 0) (b := 0) (tgt := 556) X (by decide) (by decide) d_La_law_551 (by decide) (fun _ => ?_) (fun h9 => absurd rfl h9)
    refine lv_iload X.1 X.2.1 d_La_law_556 (lv_at hl 1 rfl) ?_
    refine z_ne (a := 0) (tgt := 573) X (by decide) d_La_law_558 (by decide) (fun h9 => absurd rfl h9) (fun _ => ?_)
    refine lv_aload_n X.1 X.2.1 d_La_law_561 rfl (lv_at hl 6 rfl) ?_
    refine lv_iconst (v := iI (0)) X.1 X.2.1 d_La_law_562 (by decide) ?_
    refine w_lld (i := 137) (n := 1) (F := va_up ov 0 (vfI x)) (z := 0) X w (by omega) (LIo_o hLI3) 0 rfl (by decide) (by decide) d_La_law_563 ?_
    refine lv_iload X.1 X.2.1 d_La_law_564 (lv_at hl 0 rfl) ?_
    refine W.eq (g2 := F0 m 566 ls [.int (iI x.toInt), .long (lI x.toInt)]) (by rw [iI_back, va_up_self]; rfl) ?_
    refine l_i2l X (rg_back x) d_La_law_566 ?_
    have hrg := rg_back x
    refine l_cmp (a := x.toInt) (b := x.toInt) X (by omega) (by omega) d_La_law_567 ?_
    refine z_eq (a := lcI x.toInt x.toInt) (tgt := 573) X (lcI_rg _ _) d_La_law_568 (by decide) (fun _ => ?_) (fun h9 => absurd (lcI_0.2 rfl) h9)
    refine lv_goto (tgt := 1036) X.1 X.2.1 d_La_law_573 (by decide) ?_
    exact W.widen (k := cells + 5) (n := slots + 30) (by omega) (by omega) (K 0 C3 H locs ls ⟨_, hLI3⟩ w (lv_sub hl [2, 3, 4, 5, 6] rfl))
  · rw [hr0]
    obtain ⟨k2, hk2, ⟨fs9, hfs9⟩, R9, hR, hRes⟩ := hex E C1 hx
    obtain ⟨hkk, hk1, hk3⟩ := cd_S hk hk2
    rw [hkk] at hRes
    refine lv_istore (lv' := [(5, .int (iI k)), (4, .int (iI ((5 * j : Nat) : Int))), (0, .ref b), (1, .ref (ad 122)), (2, .ref (ad 132)), (3, .ref (ad 137))]) X.1 X.2.1 d_La_law_519 hl (by decide) rfl (fun ls hl => ?_)
    refine lv_aload_n X.1 X.2.1 d_La_law_521 rfl (lv_at hl 4 rfl) ?_
    refine lv_aload_n X.1 X.2.1 d_La_law_522 rfl (lv_at hl 2 rfl) ?_
    refine lv_iload X.1 X.2.1 d_La_law_523 (lv_at hl 1 rfl) ?_
    refine lv_iconst (v := iI (1)) X.1 X.2.1 d_La_law_525 (by decide) ?_
    refine i_add (a := ((5 * j : Nat) : Int)) (b := 1) X d_La_law_526 ?_
    refine l_sc X hX hbl hL w (5 * j + 1) (by omega) (by omega) d_La_law_527 ?_
    refine lv_aload_n X.1 X.2.1 d_La_law_528 rfl (lv_at hl 2 rfl) ?_
    refine lv_iload X.1 X.2.1 d_La_law_529 (lv_at hl 1 rfl) ?_
    refine lv_iconst (v := iI (2)) X.1 X.2.1 d_La_law_531 (by decide) ?_
    refine i_add (a := ((5 * j : Nat) : Int)) (b := 2) X d_La_law_532 ?_
    refine l_sc X hX hbl hL w (5 * j + 2) (by omega) (by omega) d_La_law_533 ?_
    refine lv_aload_n X.1 X.2.1 d_La_law_534 rfl (lv_at hl 2 rfl) ?_
    refine lv_iload X.1 X.2.1 d_La_law_535 (lv_at hl 1 rfl) ?_
    refine lv_iconst (v := iI (3)) X.1 X.2.1 d_La_law_537 (by decide) ?_
    refine i_add (a := ((5 * j : Nat) : Int)) (b := 3) X d_La_law_538 ?_
    refine l_sc X hX hbl hL w (5 * j + 3) (by omega) (by omega) d_La_law_539 ?_
    refine y_cR (n := 3) (i := 132) (ci := 5) (As := [.int (iI (xs (5 * j + 1)).toInt), .int (iI (xs (5 * j + 2)).toInt), .int (iI (xs (5 * j + 3)).toInt)]) (rest := []) X ev w hml hl.1 hR (by omega) hfs9 rfl k_m_La_92 k_im_Mo_inverse k_se_Mo_inverse k_i_Mo k_co_Mo_inverse (by decide +kernel) rfl ⟨(Nat.le_of_ble_eq_true rfl), (Nat.le_of_ble_eq_true rfl)⟩ ⟨rfl, rfl⟩ ⟨by show cells + 5 ≤ 601024; omega, by show slots + 6 * 5 ≤ 7293034; omega⟩ rfl (Nat.le_of_ble_eq_true rfl) d_La_law_540 (fun y C3 H locs hp w => ?_)
    have hLI3 := hRes y C3 hp
    refine lv_istore (lv' := [(6, .int y), (5, .int (iI k)), (4, .int (iI ((5 * j : Nat) : Int))), (0, .ref b), (1, .ref (ad 122)), (2, .ref (ad 132)), (3, .ref (ad 137))]) X.1 X.2.1 d_La_law_543 hl (by decide) rfl (fun ls hl => ?_)
    refine lv_aload_n X.1 X.2.1 d_La_law_545 rfl (lv_at hl 5 rfl) ?_
    obtain ⟨fs8, hfs8⟩ := LI132 hLI3
    refine y_cR (n := 0) (i := 132) (ci := 5) (As := []) (rest := []) X ev w hml hl.1 (o_thrown hT hLI3) (by omega) hfs8 rfl k_m_La_71 k_im_Mo_thrown k_se_Mo_thrown k_i_Mo k_co_Mo_thrown (by decide +kernel) rfl ⟨(Nat.le_of_ble_eq_true rfl), (Nat.le_of_ble_eq_true rfl)⟩ ⟨rfl, rfl⟩ ⟨by show cells + 5 ≤ 601024; omega, by show slots + 6 * 5 ≤ 7293034; omega⟩ rfl (Nat.le_of_ble_eq_true rfl) d_La_law_546 (fun r9 C4 H locs hp w => ?_)
    obtain ⟨e9, e8⟩ := hp
    rw [e9]
    rw [e8] at w
    refine lv_iload X.1 X.2.1 d_La_law_549 (lv_at hl 1 rfl) ?_
    refine i_eq (a := k) (b := k) (tgt := 556) X (by omega) (by omega) d_La_law_551 (by decide) (fun _ => ?_) (fun h9 => absurd rfl h9)
    refine lv_iload X.1 X.2.1 d_La_law_556 (lv_at hl 1 rfl) ?_
    refine z_ne (a := k) (tgt := 573) X (by omega) d_La_law_558 (by decide) (fun _ => ?_) (fun h9 => absurd h9 (by omega))
    refine lv_goto (tgt := 1036) X.1 X.2.1 d_La_law_573 (by decide) ?_
    exact W.widen (k := cells + 5) (n := slots + 30) (by omega) (by omega) (K k C3 H locs ls hLI3 w (lv_sub hl [2, 3, 4, 5, 6] rfl))
theorem k_La_value (hst : l.stackTraces = false) (hT : 213 ≤ T) (X : Cx p s m #[Value.ref b] c b_La_law RLa) (ev : EV (fun q : Nat => s.heap.size ≤ q) s) (hml : c.maxLocals = 7) (hX : va_X b L xs s s.heap) (hbl : b < s.heap.size) (hL : L ≤ 2560) (hj : 5 * j + 5 ≤ L) (hce : cells + 5 ≤ 601024) (hsl : slots + 30 ≤ 7293034)
    (K : ∀ (th : Int) (C : Nat → va_E) (H : Heap) (locs : List Loc) (ls : Array Slot), LIt cs ad th C → Wd D cs (fun q : Nat => s.heap.size ≤ q) ad T s C H locs → lv_has ls 7 [(4, .int (iI ((5 * j : Nat) : Int))), (0, .ref b), (1, .ref (ad 122)), (2, .ref (ad 132)), (3, .ref (ad 137))] → W p l e room_1 s m #[Value.ref b] below meth c H locs (cells + 5) (slots + 30) Q (F0 m 1036 ls []))
    {th : Int} {C : Nat → va_E} {H : Heap} {locs : List Loc} {ls : Array Slot} (hLI : LIt cs ad th C) (w : Wd D cs (fun q : Nat => s.heap.size ≤ q) ad T s C H locs) (hl : lv_has ls 7 [(4, .int (iI ((5 * j : Nat) : Int))), (0, .ref b), (1, .ref (ad 122)), (2, .ref (ad 132)), (3, .ref (ad 137))]) : W p l e room_1 s m #[Value.ref b] below meth c H locs cells slots Q (F0 m 576 ls []) := by
  obtain ⟨P, px, hF, hok, hex⟩ := o_value (D := D) (A := (fun q : Nat => s.heap.size ≤ q)) hst hT hLI (rg_back (xs (5 * j + 1))) (rg_back (xs (5 * j + 2)))
  refine lv_aload_n X.1 X.2.1 d_La_law_576 rfl (lv_at hl 2 rfl) ?_
  refine lv_aload_n X.1 X.2.1 d_La_law_577 rfl (lv_at hl 1 rfl) ?_
  refine lv_iload X.1 X.2.1 d_La_law_578 (lv_at hl 0 rfl) ?_
  refine lv_iconst (v := iI (1)) X.1 X.2.1 d_La_law_580 (by decide) ?_
  refine i_add (a := ((5 * j : Nat) : Int)) (b := 1) X d_La_law_581 ?_
  refine l_sc X hX hbl hL w (5 * j + 1) (by omega) (by omega) d_La_law_582 ?_
  refine lv_aload_n X.1 X.2.1 d_La_law_583 rfl (lv_at hl 1 rfl) ?_
  refine lv_iload X.1 X.2.1 d_La_law_584 (lv_at hl 0 rfl) ?_
  refine lv_iconst (v := iI (2)) X.1 X.2.1 d_La_law_586 (by decide) ?_
  refine i_add (a := ((5 * j : Nat) : Int)) (b := 2) X d_La_law_587 ?_
  refine l_sc X hX hbl hL w (5 * j + 2) (by omega) (by omega) d_La_law_588 ?_
  refine lv_aload_n X.1 X.2.1 d_La_law_589 rfl (lv_at hl 4 rfl) ?_
  refine y_cS (n := 4) (k1 := 1) (As := [.ref (ad 122), .int (iI (xs (5 * j + 1)).toInt), .int (iI (xs (5 * j + 2)).toInt), .ref (ad 137)]) (rest := []) X ev w hml hl.1 (c_La_value hT (LI122 hLI) hF (fun x C1 h => (hok x C1 h).1) (fun E C1 h => ⟨_, (hex E C1 h).choose_spec.1⟩)) k_m_La_93 k_st_La_value k_i_La k_co_La_value (by decide +kernel) rfl ⟨(Nat.le_of_ble_eq_true rfl), (Nat.le_of_ble_eq_true rfl)⟩ ⟨rfl, rfl⟩ ⟨by show cells + 1 ≤ 601024; omega, by show slots + 6 * 1 ≤ 7293034; omega⟩ rfl (Nat.le_of_ble_eq_true rfl) d_La_law_590 (fun r C1 H locs hp w => ?_)
  rcases hp with ⟨hr0, x, C2, ov, hP1, ho1, hC1⟩ | ⟨E, k, hx, hk, hr0⟩
  · rw [hr0]
    rw [hC1] at w
    obtain ⟨_, ⟨fs9, hfs9⟩, hR9⟩ := hok x C2 hP1
    obtain ⟨R9, hR, hRes⟩ := hR9 (va_up ov 0 (vfI x))
    refine lv_istore (lv' := [(5, .int (iI 0)), (4, .int (iI ((5 * j : Nat) : Int))), (0, .ref b), (1, .ref (ad 122)), (2, .ref (ad 132)), (3, .ref (ad 137))]) X.1 X.2.1 d_La_law_593 hl (by decide) rfl (fun ls hl => ?_)
    refine lv_aload_n X.1 X.2.1 d_La_law_595 rfl (lv_at hl 4 rfl) ?_
    refine lv_aload_n X.1 X.2.1 d_La_law_596 rfl (lv_at hl 2 rfl) ?_
    refine lv_iload X.1 X.2.1 d_La_law_597 (lv_at hl 1 rfl) ?_
    refine lv_iconst (v := iI (1)) X.1 X.2.1 d_La_law_599 (by decide) ?_
    refine i_add (a := ((5 * j : Nat) : Int)) (b := 1) X d_La_law_600 ?_
    refine l_sc X hX hbl hL w (5 * j + 1) (by omega) (by omega) d_La_law_601 ?_
    refine lv_aload_n X.1 X.2.1 d_La_law_602 rfl (lv_at hl 2 rfl) ?_
    refine lv_iload X.1 X.2.1 d_La_law_603 (lv_at hl 1 rfl) ?_
    refine lv_iconst (v := iI (2)) X.1 X.2.1 d_La_law_605 (by decide) ?_
    refine i_add (a := ((5 * j : Nat) : Int)) (b := 2) X d_La_law_606 ?_
    refine l_sc X hX hbl hL w (5 * j + 2) (by omega) (by omega) d_La_law_607 ?_
    refine y_cR (n := 2) (i := 132) (ci := 5) (As := [.int (iI (xs (5 * j + 1)).toInt), .int (iI (xs (5 * j + 2)).toInt)]) (rest := []) X ev w hml hl.1 hR (by omega) (by rw [va_up_ne _ _ (by decide)]; exact hfs9) rfl k_m_La_95 k_im_Mo_value k_se_Mo_value k_i_Mo k_co_Mo_value (by decide +kernel) rfl ⟨(Nat.le_of_ble_eq_true rfl), (Nat.le_of_ble_eq_true rfl)⟩ ⟨rfl, rfl⟩ ⟨by show cells + 1 ≤ 601024; omega, by show slots + 6 * 1 ≤ 7293034; omega⟩ rfl (Nat.le_of_ble_eq_true rfl) d_La_law_608 (fun y C3 H locs hp w => ?_)
    obtain ⟨hLI3, hyx⟩ := hRes y C3 hp
    rw [hyx]
    refine lv_istore (lv' := [(6, .int x), (5, .int (iI 0)), (4, .int (iI ((5 * j : Nat) : Int))), (0, .ref b), (1, .ref (ad 122)), (2, .ref (ad 132)), (3, .ref (ad 137))]) X.1 X.2.1 d_La_law_611 hl (by decide) rfl (fun ls hl => ?_)
    refine lv_aload_n X.1 X.2.1 d_La_law_613 rfl (lv_at hl 5 rfl) ?_
    obtain ⟨fs8, hfs8⟩ := LI132 (⟨_, hLI3⟩ : LIt cs ad 0 C3)
    refine y_cR (n := 0) (i := 132) (ci := 5) (As := []) (rest := []) X ev w hml hl.1 (o_thrown hT ⟨_, hLI3⟩) (by omega) hfs8 rfl k_m_La_71 k_im_Mo_thrown k_se_Mo_thrown k_i_Mo k_co_Mo_thrown (by decide +kernel) rfl ⟨(Nat.le_of_ble_eq_true rfl), (Nat.le_of_ble_eq_true rfl)⟩ ⟨rfl, rfl⟩ ⟨by show cells + 1 ≤ 601024; omega, by show slots + 6 * 1 ≤ 7293034; omega⟩ rfl (Nat.le_of_ble_eq_true rfl) d_La_law_614 (fun r9 C4 H locs hp w => ?_)
    obtain ⟨e9, e8⟩ := hp
    rw [e9]
    rw [e8] at w
    refine lv_iload X.1 X.2.1 d_La_law_617 (lv_at hl 1 rfl) ?_
    refine i_eq (a := 0) (b := 0) (tgt := 624) X (by decide) (by decide) d_La_law_619 (by decide) (fun _ => ?_) (fun h9 => absurd rfl h9)
    refine lv_iload X.1 X.2.1 d_La_law_624 (lv_at hl 1 rfl) ?_
    refine z_ne (a := 0) (tgt := 641) X (by decide) d_La_law_626 (by decide) (fun h9 => absurd rfl h9) (fun _ => ?_)
    refine lv_aload_n X.1 X.2.1 d_La_law_629 rfl (lv_at hl 6 rfl) ?_
    refine lv_iconst (v := iI (0)) X.1 X.2.1 d_La_law_630 (by decide) ?_
    refine w_lld (i := 137) (n := 1) (F := va_up ov 0 (vfI x)) (z := 0) X w (by omega) (LIo_o hLI3) 0 rfl (by decide) (by decide) d_La_law_631 ?_
    refine lv_iload X.1 X.2.1 d_La_law_632 (lv_at hl 0 rfl) ?_
    refine W.eq (g2 := F0 m 634 ls [.int (iI x.toInt), .long (lI x.toInt)]) (by rw [iI_back, va_up_self]; rfl) ?_
    refine l_i2l X (rg_back x) d_La_law_634 ?_
    have hrg := rg_back x
    refine l_cmp (a := x.toInt) (b := x.toInt) X (by omega) (by omega) d_La_law_635 ?_
    refine z_eq (a := lcI x.toInt x.toInt) (tgt := 641) X (lcI_rg _ _) d_La_law_636 (by decide) (fun _ => ?_) (fun h9 => absurd (lcI_0.2 rfl) h9)
    refine lv_goto (tgt := 1036) X.1 X.2.1 d_La_law_641 (by decide) ?_
    exact W.widen (k := cells + 5) (n := slots + 30) (by omega) (by omega) (K 0 C3 H locs ls ⟨_, hLI3⟩ w (lv_sub hl [2, 3, 4, 5, 6] rfl))
  · rw [hr0]
    obtain ⟨k2, hk2, ⟨fs9, hfs9⟩, R9, hR, hRes⟩ := hex E C1 hx
    obtain ⟨hkk, hk1, hk3⟩ := cd_1 hk hk2
    rw [hkk] at hRes
    refine lv_istore (lv' := [(5, .int (iI k)), (4, .int (iI ((5 * j : Nat) : Int))), (0, .ref b), (1, .ref (ad 122)), (2, .ref (ad 132)), (3, .ref (ad 137))]) X.1 X.2.1 d_La_law_593 hl (by decide) rfl (fun ls hl => ?_)
    refine lv_aload_n X.1 X.2.1 d_La_law_595 rfl (lv_at hl 4 rfl) ?_
    refine lv_aload_n X.1 X.2.1 d_La_law_596 rfl (lv_at hl 2 rfl) ?_
    refine lv_iload X.1 X.2.1 d_La_law_597 (lv_at hl 1 rfl) ?_
    refine lv_iconst (v := iI (1)) X.1 X.2.1 d_La_law_599 (by decide) ?_
    refine i_add (a := ((5 * j : Nat) : Int)) (b := 1) X d_La_law_600 ?_
    refine l_sc X hX hbl hL w (5 * j + 1) (by omega) (by omega) d_La_law_601 ?_
    refine lv_aload_n X.1 X.2.1 d_La_law_602 rfl (lv_at hl 2 rfl) ?_
    refine lv_iload X.1 X.2.1 d_La_law_603 (lv_at hl 1 rfl) ?_
    refine lv_iconst (v := iI (2)) X.1 X.2.1 d_La_law_605 (by decide) ?_
    refine i_add (a := ((5 * j : Nat) : Int)) (b := 2) X d_La_law_606 ?_
    refine l_sc X hX hbl hL w (5 * j + 2) (by omega) (by omega) d_La_law_607 ?_
    refine y_cR (n := 2) (i := 132) (ci := 5) (As := [.int (iI (xs (5 * j + 1)).toInt), .int (iI (xs (5 * j + 2)).toInt)]) (rest := []) X ev w hml hl.1 hR (by omega) hfs9 rfl k_m_La_95 k_im_Mo_value k_se_Mo_value k_i_Mo k_co_Mo_value (by decide +kernel) rfl ⟨(Nat.le_of_ble_eq_true rfl), (Nat.le_of_ble_eq_true rfl)⟩ ⟨rfl, rfl⟩ ⟨by show cells + 1 ≤ 601024; omega, by show slots + 6 * 1 ≤ 7293034; omega⟩ rfl (Nat.le_of_ble_eq_true rfl) d_La_law_608 (fun y C3 H locs hp w => ?_)
    have hLI3 := hRes y C3 hp
    refine lv_istore (lv' := [(6, .int y), (5, .int (iI k)), (4, .int (iI ((5 * j : Nat) : Int))), (0, .ref b), (1, .ref (ad 122)), (2, .ref (ad 132)), (3, .ref (ad 137))]) X.1 X.2.1 d_La_law_611 hl (by decide) rfl (fun ls hl => ?_)
    refine lv_aload_n X.1 X.2.1 d_La_law_613 rfl (lv_at hl 5 rfl) ?_
    obtain ⟨fs8, hfs8⟩ := LI132 hLI3
    refine y_cR (n := 0) (i := 132) (ci := 5) (As := []) (rest := []) X ev w hml hl.1 (o_thrown hT hLI3) (by omega) hfs8 rfl k_m_La_71 k_im_Mo_thrown k_se_Mo_thrown k_i_Mo k_co_Mo_thrown (by decide +kernel) rfl ⟨(Nat.le_of_ble_eq_true rfl), (Nat.le_of_ble_eq_true rfl)⟩ ⟨rfl, rfl⟩ ⟨by show cells + 1 ≤ 601024; omega, by show slots + 6 * 1 ≤ 7293034; omega⟩ rfl (Nat.le_of_ble_eq_true rfl) d_La_law_614 (fun r9 C4 H locs hp w => ?_)
    obtain ⟨e9, e8⟩ := hp
    rw [e9]
    rw [e8] at w
    refine lv_iload X.1 X.2.1 d_La_law_617 (lv_at hl 1 rfl) ?_
    refine i_eq (a := k) (b := k) (tgt := 624) X (by omega) (by omega) d_La_law_619 (by decide) (fun _ => ?_) (fun h9 => absurd rfl h9)
    refine lv_iload X.1 X.2.1 d_La_law_624 (lv_at hl 1 rfl) ?_
    refine z_ne (a := k) (tgt := 641) X (by omega) d_La_law_626 (by decide) (fun _ => ?_) (fun h9 => absurd h9 (by omega))
    refine lv_goto (tgt := 1036) X.1 X.2.1 d_La_law_641 (by decide) ?_
    exact W.widen (k := cells + 5) (n := slots + 30) (by omega) (by omega) (K k C3 H locs ls hLI3 w (lv_sub hl [2, 3, 4, 5, 6] rfl))
theorem k_La_zeros (hst : l.stackTraces = false) (hT : 213 ≤ T) (X : Cx p s m #[Value.ref b] c b_La_law RLa) (ev : EV (fun q : Nat => s.heap.size ≤ q) s) (hml : c.maxLocals = 7) (hX : va_X b L xs s s.heap) (hbl : b < s.heap.size) (hL : L ≤ 2560) (hj : 5 * j + 5 ≤ L) (hce : cells + 5 ≤ 601024) (hsl : slots + 30 ≤ 7293034)
    (K : ∀ (th : Int) (C : Nat → va_E) (H : Heap) (locs : List Loc) (ls : Array Slot), LIt cs ad th C → Wd D cs (fun q : Nat => s.heap.size ≤ q) ad T s C H locs → lv_has ls 7 [(4, .int (iI ((5 * j : Nat) : Int))), (0, .ref b), (1, .ref (ad 122)), (2, .ref (ad 132)), (3, .ref (ad 137))] → W p l e room_1 s m #[Value.ref b] below meth c H locs (cells + 5) (slots + 30) Q (F0 m 1036 ls []))
    {th : Int} {C : Nat → va_E} {H : Heap} {locs : List Loc} {ls : Array Slot} (hLI : LIt cs ad th C) (w : Wd D cs (fun q : Nat => s.heap.size ≤ q) ad T s C H locs) (hl : lv_has ls 7 [(4, .int (iI ((5 * j : Nat) : Int))), (0, .ref b), (1, .ref (ad 122)), (2, .ref (ad 132)), (3, .ref (ad 137))]) : W p l e room_1 s m #[Value.ref b] below meth c H locs cells slots Q (F0 m 644 ls []) := by
  obtain ⟨P, px, hF, hok, hex⟩ := o_zeros (D := D) (A := (fun q : Nat => s.heap.size ≤ q)) hst hT hLI (rg_back (xs (5 * j + 1)))
  refine lv_aload_n X.1 X.2.1 d_La_law_644 rfl (lv_at hl 2 rfl) ?_
  refine lv_aload_n X.1 X.2.1 d_La_law_645 rfl (lv_at hl 1 rfl) ?_
  refine lv_iload X.1 X.2.1 d_La_law_646 (lv_at hl 0 rfl) ?_
  refine lv_iconst (v := iI (1)) X.1 X.2.1 d_La_law_648 (by decide) ?_
  refine i_add (a := ((5 * j : Nat) : Int)) (b := 1) X d_La_law_649 ?_
  refine l_sc X hX hbl hL w (5 * j + 1) (by omega) (by omega) d_La_law_650 ?_
  refine lv_aload_n X.1 X.2.1 d_La_law_651 rfl (lv_at hl 4 rfl) ?_
  refine y_cS (n := 3) (k1 := 1) (As := [.ref (ad 122), .int (iI (xs (5 * j + 1)).toInt), .ref (ad 137)]) (rest := []) X ev w hml hl.1 (c_La_zeros hT (LI122 hLI) hF (fun x C1 h => (hok x C1 h).1) (fun E C1 h => ⟨_, (hex E C1 h).choose_spec.1⟩)) k_m_La_96 k_st_La_zeros k_i_La k_co_La_zeros (by decide +kernel) rfl ⟨(Nat.le_of_ble_eq_true rfl), (Nat.le_of_ble_eq_true rfl)⟩ ⟨rfl, rfl⟩ ⟨by show cells + 1 ≤ 601024; omega, by show slots + 6 * 1 ≤ 7293034; omega⟩ rfl (Nat.le_of_ble_eq_true rfl) d_La_law_652 (fun r C1 H locs hp w => ?_)
  rcases hp with ⟨hr0, x, C2, ov, hP1, ho1, hC1⟩ | ⟨E, k, hx, hk, hr0⟩
  · rw [hr0]
    rw [hC1] at w
    obtain ⟨_, ⟨fs9, hfs9⟩, hR9⟩ := hok x C2 hP1
    obtain ⟨R9, hR, hRes⟩ := hR9 (va_up ov 0 (vfI x))
    refine lv_istore (lv' := [(5, .int (iI 0)), (4, .int (iI ((5 * j : Nat) : Int))), (0, .ref b), (1, .ref (ad 122)), (2, .ref (ad 132)), (3, .ref (ad 137))]) X.1 X.2.1 d_La_law_655 hl (by decide) rfl (fun ls hl => ?_)
    refine lv_aload_n X.1 X.2.1 d_La_law_657 rfl (lv_at hl 4 rfl) ?_
    refine lv_aload_n X.1 X.2.1 d_La_law_658 rfl (lv_at hl 2 rfl) ?_
    refine lv_iload X.1 X.2.1 d_La_law_659 (lv_at hl 1 rfl) ?_
    refine lv_iconst (v := iI (1)) X.1 X.2.1 d_La_law_661 (by decide) ?_
    refine i_add (a := ((5 * j : Nat) : Int)) (b := 1) X d_La_law_662 ?_
    refine l_sc X hX hbl hL w (5 * j + 1) (by omega) (by omega) d_La_law_663 ?_
    refine y_cR (n := 1) (i := 132) (ci := 5) (As := [.int (iI (xs (5 * j + 1)).toInt)]) (rest := []) X ev w hml hl.1 hR (by omega) (by rw [va_up_ne _ _ (by decide)]; exact hfs9) rfl k_m_La_98 k_im_Mo_zeros k_se_Mo_zeros k_i_Mo k_co_Mo_zeros (by decide +kernel) rfl ⟨(Nat.le_of_ble_eq_true rfl), (Nat.le_of_ble_eq_true rfl)⟩ ⟨rfl, rfl⟩ ⟨by show cells + 1 ≤ 601024; omega, by show slots + 6 * 1 ≤ 7293034; omega⟩ rfl (Nat.le_of_ble_eq_true rfl) d_La_law_664 (fun y C3 H locs hp w => ?_)
    obtain ⟨hLI3, hyx⟩ := hRes y C3 hp
    rw [hyx]
    refine lv_istore (lv' := [(6, .int x), (5, .int (iI 0)), (4, .int (iI ((5 * j : Nat) : Int))), (0, .ref b), (1, .ref (ad 122)), (2, .ref (ad 132)), (3, .ref (ad 137))]) X.1 X.2.1 d_La_law_667 hl (by decide) rfl (fun ls hl => ?_)
    refine lv_aload_n X.1 X.2.1 d_La_law_669 rfl (lv_at hl 5 rfl) ?_
    obtain ⟨fs8, hfs8⟩ := LI132 (⟨_, hLI3⟩ : LIt cs ad 0 C3)
    refine y_cR (n := 0) (i := 132) (ci := 5) (As := []) (rest := []) X ev w hml hl.1 (o_thrown hT ⟨_, hLI3⟩) (by omega) hfs8 rfl k_m_La_71 k_im_Mo_thrown k_se_Mo_thrown k_i_Mo k_co_Mo_thrown (by decide +kernel) rfl ⟨(Nat.le_of_ble_eq_true rfl), (Nat.le_of_ble_eq_true rfl)⟩ ⟨rfl, rfl⟩ ⟨by show cells + 1 ≤ 601024; omega, by show slots + 6 * 1 ≤ 7293034; omega⟩ rfl (Nat.le_of_ble_eq_true rfl) d_La_law_670 (fun r9 C4 H locs hp w => ?_)
    obtain ⟨e9, e8⟩ := hp
    rw [e9]
    rw [e8] at w
    refine lv_iload X.1 X.2.1 d_La_law_673 (lv_at hl 1 rfl) ?_
    refine i_eq (a := 0) (b := 0) (tgt := 680) X (by decide) (by decide) d_La_law_675 (by decide) (fun _ => ?_) (fun h9 => absurd rfl h9)
    refine lv_iload X.1 X.2.1 d_La_law_680 (lv_at hl 1 rfl) ?_
    refine z_ne (a := 0) (tgt := 697) X (by decide) d_La_law_682 (by decide) (fun h9 => absurd rfl h9) (fun _ => ?_)
    refine lv_aload_n X.1 X.2.1 d_La_law_685 rfl (lv_at hl 6 rfl) ?_
    refine lv_iconst (v := iI (0)) X.1 X.2.1 d_La_law_686 (by decide) ?_
    refine w_lld (i := 137) (n := 1) (F := va_up ov 0 (vfI x)) (z := 0) X w (by omega) (LIo_o hLI3) 0 rfl (by decide) (by decide) d_La_law_687 ?_
    refine lv_iload X.1 X.2.1 d_La_law_688 (lv_at hl 0 rfl) ?_
    refine W.eq (g2 := F0 m 690 ls [.int (iI x.toInt), .long (lI x.toInt)]) (by rw [iI_back, va_up_self]; rfl) ?_
    refine l_i2l X (rg_back x) d_La_law_690 ?_
    have hrg := rg_back x
    refine l_cmp (a := x.toInt) (b := x.toInt) X (by omega) (by omega) d_La_law_691 ?_
    refine z_eq (a := lcI x.toInt x.toInt) (tgt := 697) X (lcI_rg _ _) d_La_law_692 (by decide) (fun _ => ?_) (fun h9 => absurd (lcI_0.2 rfl) h9)
    refine lv_goto (tgt := 1036) X.1 X.2.1 d_La_law_697 (by decide) ?_
    exact W.widen (k := cells + 5) (n := slots + 30) (by omega) (by omega) (K 0 C3 H locs ls ⟨_, hLI3⟩ w (lv_sub hl [2, 3, 4, 5, 6] rfl))
  · rw [hr0]
    obtain ⟨k2, hk2, ⟨fs9, hfs9⟩, R9, hR, hRes⟩ := hex E C1 hx
    obtain ⟨hkk, hk1, hk3⟩ := cd_1 hk hk2
    rw [hkk] at hRes
    refine lv_istore (lv' := [(5, .int (iI k)), (4, .int (iI ((5 * j : Nat) : Int))), (0, .ref b), (1, .ref (ad 122)), (2, .ref (ad 132)), (3, .ref (ad 137))]) X.1 X.2.1 d_La_law_655 hl (by decide) rfl (fun ls hl => ?_)
    refine lv_aload_n X.1 X.2.1 d_La_law_657 rfl (lv_at hl 4 rfl) ?_
    refine lv_aload_n X.1 X.2.1 d_La_law_658 rfl (lv_at hl 2 rfl) ?_
    refine lv_iload X.1 X.2.1 d_La_law_659 (lv_at hl 1 rfl) ?_
    refine lv_iconst (v := iI (1)) X.1 X.2.1 d_La_law_661 (by decide) ?_
    refine i_add (a := ((5 * j : Nat) : Int)) (b := 1) X d_La_law_662 ?_
    refine l_sc X hX hbl hL w (5 * j + 1) (by omega) (by omega) d_La_law_663 ?_
    refine y_cR (n := 1) (i := 132) (ci := 5) (As := [.int (iI (xs (5 * j + 1)).toInt)]) (rest := []) X ev w hml hl.1 hR (by omega) hfs9 rfl k_m_La_98 k_im_Mo_zeros k_se_Mo_zeros k_i_Mo k_co_Mo_zeros (by decide +kernel) rfl ⟨(Nat.le_of_ble_eq_true rfl), (Nat.le_of_ble_eq_true rfl)⟩ ⟨rfl, rfl⟩ ⟨by show cells + 1 ≤ 601024; omega, by show slots + 6 * 1 ≤ 7293034; omega⟩ rfl (Nat.le_of_ble_eq_true rfl) d_La_law_664 (fun y C3 H locs hp w => ?_)
    have hLI3 := hRes y C3 hp
    refine lv_istore (lv' := [(6, .int y), (5, .int (iI k)), (4, .int (iI ((5 * j : Nat) : Int))), (0, .ref b), (1, .ref (ad 122)), (2, .ref (ad 132)), (3, .ref (ad 137))]) X.1 X.2.1 d_La_law_667 hl (by decide) rfl (fun ls hl => ?_)
    refine lv_aload_n X.1 X.2.1 d_La_law_669 rfl (lv_at hl 5 rfl) ?_
    obtain ⟨fs8, hfs8⟩ := LI132 hLI3
    refine y_cR (n := 0) (i := 132) (ci := 5) (As := []) (rest := []) X ev w hml hl.1 (o_thrown hT hLI3) (by omega) hfs8 rfl k_m_La_71 k_im_Mo_thrown k_se_Mo_thrown k_i_Mo k_co_Mo_thrown (by decide +kernel) rfl ⟨(Nat.le_of_ble_eq_true rfl), (Nat.le_of_ble_eq_true rfl)⟩ ⟨rfl, rfl⟩ ⟨by show cells + 1 ≤ 601024; omega, by show slots + 6 * 1 ≤ 7293034; omega⟩ rfl (Nat.le_of_ble_eq_true rfl) d_La_law_670 (fun r9 C4 H locs hp w => ?_)
    obtain ⟨e9, e8⟩ := hp
    rw [e9]
    rw [e8] at w
    refine lv_iload X.1 X.2.1 d_La_law_673 (lv_at hl 1 rfl) ?_
    refine i_eq (a := k) (b := k) (tgt := 680) X (by omega) (by omega) d_La_law_675 (by decide) (fun _ => ?_) (fun h9 => absurd rfl h9)
    refine lv_iload X.1 X.2.1 d_La_law_680 (lv_at hl 1 rfl) ?_
    refine z_ne (a := k) (tgt := 697) X (by omega) d_La_law_682 (by decide) (fun _ => ?_) (fun h9 => absurd h9 (by omega))
    refine lv_goto (tgt := 1036) X.1 X.2.1 d_La_law_697 (by decide) ?_
    exact W.widen (k := cells + 5) (n := slots + 30) (by omega) (by omega) (K k C3 H locs ls hLI3 w (lv_sub hl [2, 3, 4, 5, 6] rfl))
theorem k_La_factor (hst : l.stackTraces = false) (hT : 213 ≤ T) (X : Cx p s m #[Value.ref b] c b_La_law RLa) (ev : EV (fun q : Nat => s.heap.size ≤ q) s) (hml : c.maxLocals = 7) (hX : va_X b L xs s s.heap) (hbl : b < s.heap.size) (hL : L ≤ 2560) (hj : 5 * j + 5 ≤ L) (hce : cells + 5 ≤ 601024) (hsl : slots + 30 ≤ 7293034)
    (K : ∀ (th : Int) (C : Nat → va_E) (H : Heap) (locs : List Loc) (ls : Array Slot), LIt cs ad th C → Wd D cs (fun q : Nat => s.heap.size ≤ q) ad T s C H locs → lv_has ls 7 [(4, .int (iI ((5 * j : Nat) : Int))), (0, .ref b), (1, .ref (ad 122)), (2, .ref (ad 132)), (3, .ref (ad 137))] → W p l e room_1 s m #[Value.ref b] below meth c H locs (cells + 5) (slots + 30) Q (F0 m 1036 ls []))
    {th : Int} {C : Nat → va_E} {H : Heap} {locs : List Loc} {ls : Array Slot} (hLI : LIt cs ad th C) (w : Wd D cs (fun q : Nat => s.heap.size ≤ q) ad T s C H locs) (hl : lv_has ls 7 [(4, .int (iI ((5 * j : Nat) : Int))), (0, .ref b), (1, .ref (ad 122)), (2, .ref (ad 132)), (3, .ref (ad 137))]) : W p l e room_1 s m #[Value.ref b] below meth c H locs cells slots Q (F0 m 700 ls []) := by
  obtain ⟨P, px, hF, hok, hex⟩ := o_factor (D := D) (A := (fun q : Nat => s.heap.size ≤ q)) hst hT hLI (rg_back (xs (5 * j + 1)))
  refine lv_aload_n X.1 X.2.1 d_La_law_700 rfl (lv_at hl 2 rfl) ?_
  refine lv_aload_n X.1 X.2.1 d_La_law_701 rfl (lv_at hl 1 rfl) ?_
  refine lv_iload X.1 X.2.1 d_La_law_702 (lv_at hl 0 rfl) ?_
  refine lv_iconst (v := iI (1)) X.1 X.2.1 d_La_law_704 (by decide) ?_
  refine i_add (a := ((5 * j : Nat) : Int)) (b := 1) X d_La_law_705 ?_
  refine l_sc X hX hbl hL w (5 * j + 1) (by omega) (by omega) d_La_law_706 ?_
  refine lv_aload_n X.1 X.2.1 d_La_law_707 rfl (lv_at hl 4 rfl) ?_
  refine y_cS (n := 3) (k1 := 3) (As := [.ref (ad 122), .int (iI (xs (5 * j + 1)).toInt), .ref (ad 137)]) (rest := []) X ev w hml hl.1 (c_La_factor hT (LI122 hLI) hF (fun x C1 h => (hok x C1 h).1) (fun E C1 h => ⟨_, (hex E C1 h).choose_spec.1⟩)) k_m_La_99 k_st_La_factor k_i_La k_co_La_factor (by decide +kernel) rfl ⟨(Nat.le_of_ble_eq_true rfl), (Nat.le_of_ble_eq_true rfl)⟩ ⟨rfl, rfl⟩ ⟨by show cells + 3 ≤ 601024; omega, by show slots + 6 * 3 ≤ 7293034; omega⟩ rfl (Nat.le_of_ble_eq_true rfl) d_La_law_708 (fun r C1 H locs hp w => ?_)
  rcases hp with ⟨hr0, x, C2, ov, hP1, ho1, hC1⟩ | ⟨E, k, hx, hk, hr0⟩
  · rw [hr0]
    rw [hC1] at w
    obtain ⟨_, ⟨fs9, hfs9⟩, hR9⟩ := hok x C2 hP1
    obtain ⟨R9, hR, hRes⟩ := hR9 (va_up ov 0 (vfI x))
    refine lv_istore (lv' := [(5, .int (iI 0)), (4, .int (iI ((5 * j : Nat) : Int))), (0, .ref b), (1, .ref (ad 122)), (2, .ref (ad 132)), (3, .ref (ad 137))]) X.1 X.2.1 d_La_law_711 hl (by decide) rfl (fun ls hl => ?_)
    refine lv_aload_n X.1 X.2.1 d_La_law_713 rfl (lv_at hl 4 rfl) ?_
    refine lv_aload_n X.1 X.2.1 d_La_law_714 rfl (lv_at hl 2 rfl) ?_
    refine lv_iload X.1 X.2.1 d_La_law_715 (lv_at hl 1 rfl) ?_
    refine lv_iconst (v := iI (1)) X.1 X.2.1 d_La_law_717 (by decide) ?_
    refine i_add (a := ((5 * j : Nat) : Int)) (b := 1) X d_La_law_718 ?_
    refine l_sc X hX hbl hL w (5 * j + 1) (by omega) (by omega) d_La_law_719 ?_
    refine y_cR (n := 1) (i := 132) (ci := 5) (As := [.int (iI (xs (5 * j + 1)).toInt)]) (rest := []) X ev w hml hl.1 hR (by omega) (by rw [va_up_ne _ _ (by decide)]; exact hfs9) rfl k_m_La_101 k_im_Mo_factor k_se_Mo_factor k_i_Mo k_co_Mo_factor (by decide +kernel) rfl ⟨(Nat.le_of_ble_eq_true rfl), (Nat.le_of_ble_eq_true rfl)⟩ ⟨rfl, rfl⟩ ⟨by show cells + 3 ≤ 601024; omega, by show slots + 6 * 3 ≤ 7293034; omega⟩ rfl (Nat.le_of_ble_eq_true rfl) d_La_law_720 (fun y C3 H locs hp w => ?_)
    obtain ⟨hLI3, hyx⟩ := hRes y C3 hp
    rw [hyx]
    refine lv_istore (lv' := [(6, .int x), (5, .int (iI 0)), (4, .int (iI ((5 * j : Nat) : Int))), (0, .ref b), (1, .ref (ad 122)), (2, .ref (ad 132)), (3, .ref (ad 137))]) X.1 X.2.1 d_La_law_723 hl (by decide) rfl (fun ls hl => ?_)
    refine lv_aload_n X.1 X.2.1 d_La_law_725 rfl (lv_at hl 5 rfl) ?_
    obtain ⟨fs8, hfs8⟩ := LI132 (⟨_, hLI3⟩ : LIt cs ad 0 C3)
    refine y_cR (n := 0) (i := 132) (ci := 5) (As := []) (rest := []) X ev w hml hl.1 (o_thrown hT ⟨_, hLI3⟩) (by omega) hfs8 rfl k_m_La_71 k_im_Mo_thrown k_se_Mo_thrown k_i_Mo k_co_Mo_thrown (by decide +kernel) rfl ⟨(Nat.le_of_ble_eq_true rfl), (Nat.le_of_ble_eq_true rfl)⟩ ⟨rfl, rfl⟩ ⟨by show cells + 3 ≤ 601024; omega, by show slots + 6 * 3 ≤ 7293034; omega⟩ rfl (Nat.le_of_ble_eq_true rfl) d_La_law_726 (fun r9 C4 H locs hp w => ?_)
    obtain ⟨e9, e8⟩ := hp
    rw [e9]
    rw [e8] at w
    refine lv_iload X.1 X.2.1 d_La_law_729 (lv_at hl 1 rfl) ?_
    refine i_eq (a := 0) (b := 0) (tgt := 736) X (by decide) (by decide) d_La_law_731 (by decide) (fun _ => ?_) (fun h9 => absurd rfl h9)
    refine lv_iload X.1 X.2.1 d_La_law_736 (lv_at hl 1 rfl) ?_
    refine z_ne (a := 0) (tgt := 753) X (by decide) d_La_law_738 (by decide) (fun h9 => absurd rfl h9) (fun _ => ?_)
    refine lv_aload_n X.1 X.2.1 d_La_law_741 rfl (lv_at hl 6 rfl) ?_
    refine lv_iconst (v := iI (0)) X.1 X.2.1 d_La_law_742 (by decide) ?_
    refine w_lld (i := 137) (n := 1) (F := va_up ov 0 (vfI x)) (z := 0) X w (by omega) (LIo_o hLI3) 0 rfl (by decide) (by decide) d_La_law_743 ?_
    refine lv_iload X.1 X.2.1 d_La_law_744 (lv_at hl 0 rfl) ?_
    refine W.eq (g2 := F0 m 746 ls [.int (iI x.toInt), .long (lI x.toInt)]) (by rw [iI_back, va_up_self]; rfl) ?_
    refine l_i2l X (rg_back x) d_La_law_746 ?_
    have hrg := rg_back x
    refine l_cmp (a := x.toInt) (b := x.toInt) X (by omega) (by omega) d_La_law_747 ?_
    refine z_eq (a := lcI x.toInt x.toInt) (tgt := 753) X (lcI_rg _ _) d_La_law_748 (by decide) (fun _ => ?_) (fun h9 => absurd (lcI_0.2 rfl) h9)
    refine lv_goto (tgt := 1036) X.1 X.2.1 d_La_law_753 (by decide) ?_
    exact W.widen (k := cells + 5) (n := slots + 30) (by omega) (by omega) (K 0 C3 H locs ls ⟨_, hLI3⟩ w (lv_sub hl [2, 3, 4, 5, 6] rfl))
  · rw [hr0]
    obtain ⟨k2, hk2, ⟨fs9, hfs9⟩, R9, hR, hRes⟩ := hex E C1 hx
    obtain ⟨hkk, hk1, hk3⟩ := cd_N hk hk2
    rw [hkk] at hRes
    refine lv_istore (lv' := [(5, .int (iI k)), (4, .int (iI ((5 * j : Nat) : Int))), (0, .ref b), (1, .ref (ad 122)), (2, .ref (ad 132)), (3, .ref (ad 137))]) X.1 X.2.1 d_La_law_711 hl (by decide) rfl (fun ls hl => ?_)
    refine lv_aload_n X.1 X.2.1 d_La_law_713 rfl (lv_at hl 4 rfl) ?_
    refine lv_aload_n X.1 X.2.1 d_La_law_714 rfl (lv_at hl 2 rfl) ?_
    refine lv_iload X.1 X.2.1 d_La_law_715 (lv_at hl 1 rfl) ?_
    refine lv_iconst (v := iI (1)) X.1 X.2.1 d_La_law_717 (by decide) ?_
    refine i_add (a := ((5 * j : Nat) : Int)) (b := 1) X d_La_law_718 ?_
    refine l_sc X hX hbl hL w (5 * j + 1) (by omega) (by omega) d_La_law_719 ?_
    refine y_cR (n := 1) (i := 132) (ci := 5) (As := [.int (iI (xs (5 * j + 1)).toInt)]) (rest := []) X ev w hml hl.1 hR (by omega) hfs9 rfl k_m_La_101 k_im_Mo_factor k_se_Mo_factor k_i_Mo k_co_Mo_factor (by decide +kernel) rfl ⟨(Nat.le_of_ble_eq_true rfl), (Nat.le_of_ble_eq_true rfl)⟩ ⟨rfl, rfl⟩ ⟨by show cells + 3 ≤ 601024; omega, by show slots + 6 * 3 ≤ 7293034; omega⟩ rfl (Nat.le_of_ble_eq_true rfl) d_La_law_720 (fun y C3 H locs hp w => ?_)
    have hLI3 := hRes y C3 hp
    refine lv_istore (lv' := [(6, .int y), (5, .int (iI k)), (4, .int (iI ((5 * j : Nat) : Int))), (0, .ref b), (1, .ref (ad 122)), (2, .ref (ad 132)), (3, .ref (ad 137))]) X.1 X.2.1 d_La_law_723 hl (by decide) rfl (fun ls hl => ?_)
    refine lv_aload_n X.1 X.2.1 d_La_law_725 rfl (lv_at hl 5 rfl) ?_
    obtain ⟨fs8, hfs8⟩ := LI132 hLI3
    refine y_cR (n := 0) (i := 132) (ci := 5) (As := []) (rest := []) X ev w hml hl.1 (o_thrown hT hLI3) (by omega) hfs8 rfl k_m_La_71 k_im_Mo_thrown k_se_Mo_thrown k_i_Mo k_co_Mo_thrown (by decide +kernel) rfl ⟨(Nat.le_of_ble_eq_true rfl), (Nat.le_of_ble_eq_true rfl)⟩ ⟨rfl, rfl⟩ ⟨by show cells + 3 ≤ 601024; omega, by show slots + 6 * 3 ≤ 7293034; omega⟩ rfl (Nat.le_of_ble_eq_true rfl) d_La_law_726 (fun r9 C4 H locs hp w => ?_)
    obtain ⟨e9, e8⟩ := hp
    rw [e9]
    rw [e8] at w
    refine lv_iload X.1 X.2.1 d_La_law_729 (lv_at hl 1 rfl) ?_
    refine i_eq (a := k) (b := k) (tgt := 736) X (by omega) (by omega) d_La_law_731 (by decide) (fun _ => ?_) (fun h9 => absurd rfl h9)
    refine lv_iload X.1 X.2.1 d_La_law_736 (lv_at hl 1 rfl) ?_
    refine z_ne (a := k) (tgt := 753) X (by omega) d_La_law_738 (by decide) (fun _ => ?_) (fun h9 => absurd h9 (by omega))
    refine lv_goto (tgt := 1036) X.1 X.2.1 d_La_law_753 (by decide) ?_
    exact W.widen (k := cells + 5) (n := slots + 30) (by omega) (by omega) (K k C3 H locs ls hLI3 w (lv_sub hl [2, 3, 4, 5, 6] rfl))
theorem k_La_piece (hst : l.stackTraces = false) (hT : 213 ≤ T) (X : Cx p s m #[Value.ref b] c b_La_law RLa) (ev : EV (fun q : Nat => s.heap.size ≤ q) s) (hml : c.maxLocals = 7) (hX : va_X b L xs s s.heap) (hbl : b < s.heap.size) (hL : L ≤ 2560) (hj : 5 * j + 5 ≤ L) (hce : cells + 5 ≤ 601024) (hsl : slots + 30 ≤ 7293034)
    (K : ∀ (th : Int) (C : Nat → va_E) (H : Heap) (locs : List Loc) (ls : Array Slot), LIt cs ad th C → Wd D cs (fun q : Nat => s.heap.size ≤ q) ad T s C H locs → lv_has ls 7 [(4, .int (iI ((5 * j : Nat) : Int))), (0, .ref b), (1, .ref (ad 122)), (2, .ref (ad 132)), (3, .ref (ad 137))] → W p l e room_1 s m #[Value.ref b] below meth c H locs (cells + 5) (slots + 30) Q (F0 m 1036 ls []))
    {th : Int} {C : Nat → va_E} {H : Heap} {locs : List Loc} {ls : Array Slot} (hLI : LIt cs ad th C) (w : Wd D cs (fun q : Nat => s.heap.size ≤ q) ad T s C H locs) (hl : lv_has ls 7 [(4, .int (iI ((5 * j : Nat) : Int))), (0, .ref b), (1, .ref (ad 122)), (2, .ref (ad 132)), (3, .ref (ad 137))]) : W p l e room_1 s m #[Value.ref b] below meth c H locs cells slots Q (F0 m 756 ls []) := by
  obtain ⟨P, px, hF, hok, hex⟩ := o_piece (D := D) (A := (fun q : Nat => s.heap.size ≤ q)) hst hT hLI (rg_back (xs (5 * j + 1))) (rg_back (xs (5 * j + 2)))
  refine lv_aload_n X.1 X.2.1 d_La_law_756 rfl (lv_at hl 2 rfl) ?_
  refine lv_aload_n X.1 X.2.1 d_La_law_757 rfl (lv_at hl 1 rfl) ?_
  refine lv_iload X.1 X.2.1 d_La_law_758 (lv_at hl 0 rfl) ?_
  refine lv_iconst (v := iI (1)) X.1 X.2.1 d_La_law_760 (by decide) ?_
  refine i_add (a := ((5 * j : Nat) : Int)) (b := 1) X d_La_law_761 ?_
  refine l_sc X hX hbl hL w (5 * j + 1) (by omega) (by omega) d_La_law_762 ?_
  refine lv_aload_n X.1 X.2.1 d_La_law_763 rfl (lv_at hl 1 rfl) ?_
  refine lv_iload X.1 X.2.1 d_La_law_764 (lv_at hl 0 rfl) ?_
  refine lv_iconst (v := iI (2)) X.1 X.2.1 d_La_law_766 (by decide) ?_
  refine i_add (a := ((5 * j : Nat) : Int)) (b := 2) X d_La_law_767 ?_
  refine l_sc X hX hbl hL w (5 * j + 2) (by omega) (by omega) d_La_law_768 ?_
  refine lv_aload_n X.1 X.2.1 d_La_law_769 rfl (lv_at hl 4 rfl) ?_
  refine y_cS (n := 4) (k1 := 2) (As := [.ref (ad 122), .int (iI (xs (5 * j + 1)).toInt), .int (iI (xs (5 * j + 2)).toInt), .ref (ad 137)]) (rest := []) X ev w hml hl.1 (c_La_piece hT (LI122 hLI) hF (fun x C1 h => (hok x C1 h).1) (fun E C1 h => ⟨_, (hex E C1 h).choose_spec.1⟩)) k_m_La_102 k_st_La_piece k_i_La k_co_La_piece (by decide +kernel) rfl ⟨(Nat.le_of_ble_eq_true rfl), (Nat.le_of_ble_eq_true rfl)⟩ ⟨rfl, rfl⟩ ⟨by show cells + 2 ≤ 601024; omega, by show slots + 6 * 2 ≤ 7293034; omega⟩ rfl (Nat.le_of_ble_eq_true rfl) d_La_law_770 (fun r C1 H locs hp w => ?_)
  rcases hp with ⟨hr0, x, C2, ov, hP1, ho1, hC1⟩ | ⟨E, k, hx, hk, hr0⟩
  · rw [hr0]
    rw [hC1] at w
    obtain ⟨_, ⟨fs9, hfs9⟩, hR9⟩ := hok x C2 hP1
    obtain ⟨R9, hR, hRes⟩ := hR9 (va_up ov 0 (vfI x))
    refine lv_istore (lv' := [(5, .int (iI 0)), (4, .int (iI ((5 * j : Nat) : Int))), (0, .ref b), (1, .ref (ad 122)), (2, .ref (ad 132)), (3, .ref (ad 137))]) X.1 X.2.1 d_La_law_773 hl (by decide) rfl (fun ls hl => ?_)
    refine lv_aload_n X.1 X.2.1 d_La_law_775 rfl (lv_at hl 4 rfl) ?_
    refine lv_aload_n X.1 X.2.1 d_La_law_776 rfl (lv_at hl 2 rfl) ?_
    refine lv_iload X.1 X.2.1 d_La_law_777 (lv_at hl 1 rfl) ?_
    refine lv_iconst (v := iI (1)) X.1 X.2.1 d_La_law_779 (by decide) ?_
    refine i_add (a := ((5 * j : Nat) : Int)) (b := 1) X d_La_law_780 ?_
    refine l_sc X hX hbl hL w (5 * j + 1) (by omega) (by omega) d_La_law_781 ?_
    refine lv_aload_n X.1 X.2.1 d_La_law_782 rfl (lv_at hl 2 rfl) ?_
    refine lv_iload X.1 X.2.1 d_La_law_783 (lv_at hl 1 rfl) ?_
    refine lv_iconst (v := iI (2)) X.1 X.2.1 d_La_law_785 (by decide) ?_
    refine i_add (a := ((5 * j : Nat) : Int)) (b := 2) X d_La_law_786 ?_
    refine l_sc X hX hbl hL w (5 * j + 2) (by omega) (by omega) d_La_law_787 ?_
    refine y_cR (n := 2) (i := 132) (ci := 5) (As := [.int (iI (xs (5 * j + 1)).toInt), .int (iI (xs (5 * j + 2)).toInt)]) (rest := []) X ev w hml hl.1 hR (by omega) (by rw [va_up_ne _ _ (by decide)]; exact hfs9) rfl k_m_La_104 k_im_Mo_piece k_se_Mo_piece k_i_Mo k_co_Mo_piece (by decide +kernel) rfl ⟨(Nat.le_of_ble_eq_true rfl), (Nat.le_of_ble_eq_true rfl)⟩ ⟨rfl, rfl⟩ ⟨by show cells + 2 ≤ 601024; omega, by show slots + 6 * 2 ≤ 7293034; omega⟩ rfl (Nat.le_of_ble_eq_true rfl) d_La_law_788 (fun y C3 H locs hp w => ?_)
    obtain ⟨hLI3, hyx⟩ := hRes y C3 hp
    rw [hyx]
    refine lv_istore (lv' := [(6, .int x), (5, .int (iI 0)), (4, .int (iI ((5 * j : Nat) : Int))), (0, .ref b), (1, .ref (ad 122)), (2, .ref (ad 132)), (3, .ref (ad 137))]) X.1 X.2.1 d_La_law_791 hl (by decide) rfl (fun ls hl => ?_)
    refine lv_aload_n X.1 X.2.1 d_La_law_793 rfl (lv_at hl 5 rfl) ?_
    obtain ⟨fs8, hfs8⟩ := LI132 (⟨_, hLI3⟩ : LIt cs ad 0 C3)
    refine y_cR (n := 0) (i := 132) (ci := 5) (As := []) (rest := []) X ev w hml hl.1 (o_thrown hT ⟨_, hLI3⟩) (by omega) hfs8 rfl k_m_La_71 k_im_Mo_thrown k_se_Mo_thrown k_i_Mo k_co_Mo_thrown (by decide +kernel) rfl ⟨(Nat.le_of_ble_eq_true rfl), (Nat.le_of_ble_eq_true rfl)⟩ ⟨rfl, rfl⟩ ⟨by show cells + 2 ≤ 601024; omega, by show slots + 6 * 2 ≤ 7293034; omega⟩ rfl (Nat.le_of_ble_eq_true rfl) d_La_law_794 (fun r9 C4 H locs hp w => ?_)
    obtain ⟨e9, e8⟩ := hp
    rw [e9]
    rw [e8] at w
    refine lv_iload X.1 X.2.1 d_La_law_797 (lv_at hl 1 rfl) ?_
    refine i_eq (a := 0) (b := 0) (tgt := 804) X (by decide) (by decide) d_La_law_799 (by decide) (fun _ => ?_) (fun h9 => absurd rfl h9)
    refine lv_iload X.1 X.2.1 d_La_law_804 (lv_at hl 1 rfl) ?_
    refine z_ne (a := 0) (tgt := 821) X (by decide) d_La_law_806 (by decide) (fun h9 => absurd rfl h9) (fun _ => ?_)
    refine lv_aload_n X.1 X.2.1 d_La_law_809 rfl (lv_at hl 6 rfl) ?_
    refine lv_iconst (v := iI (0)) X.1 X.2.1 d_La_law_810 (by decide) ?_
    refine w_lld (i := 137) (n := 1) (F := va_up ov 0 (vfI x)) (z := 0) X w (by omega) (LIo_o hLI3) 0 rfl (by decide) (by decide) d_La_law_811 ?_
    refine lv_iload X.1 X.2.1 d_La_law_812 (lv_at hl 0 rfl) ?_
    refine W.eq (g2 := F0 m 814 ls [.int (iI x.toInt), .long (lI x.toInt)]) (by rw [iI_back, va_up_self]; rfl) ?_
    refine l_i2l X (rg_back x) d_La_law_814 ?_
    have hrg := rg_back x
    refine l_cmp (a := x.toInt) (b := x.toInt) X (by omega) (by omega) d_La_law_815 ?_
    refine z_eq (a := lcI x.toInt x.toInt) (tgt := 821) X (lcI_rg _ _) d_La_law_816 (by decide) (fun _ => ?_) (fun h9 => absurd (lcI_0.2 rfl) h9)
    refine lv_goto (tgt := 1036) X.1 X.2.1 d_La_law_821 (by decide) ?_
    exact W.widen (k := cells + 5) (n := slots + 30) (by omega) (by omega) (K 0 C3 H locs ls ⟨_, hLI3⟩ w (lv_sub hl [2, 3, 4, 5, 6] rfl))
  · rw [hr0]
    obtain ⟨k2, hk2, ⟨fs9, hfs9⟩, R9, hR, hRes⟩ := hex E C1 hx
    obtain ⟨hkk, hk1, hk3⟩ := cd_1 hk hk2
    rw [hkk] at hRes
    refine lv_istore (lv' := [(5, .int (iI k)), (4, .int (iI ((5 * j : Nat) : Int))), (0, .ref b), (1, .ref (ad 122)), (2, .ref (ad 132)), (3, .ref (ad 137))]) X.1 X.2.1 d_La_law_773 hl (by decide) rfl (fun ls hl => ?_)
    refine lv_aload_n X.1 X.2.1 d_La_law_775 rfl (lv_at hl 4 rfl) ?_
    refine lv_aload_n X.1 X.2.1 d_La_law_776 rfl (lv_at hl 2 rfl) ?_
    refine lv_iload X.1 X.2.1 d_La_law_777 (lv_at hl 1 rfl) ?_
    refine lv_iconst (v := iI (1)) X.1 X.2.1 d_La_law_779 (by decide) ?_
    refine i_add (a := ((5 * j : Nat) : Int)) (b := 1) X d_La_law_780 ?_
    refine l_sc X hX hbl hL w (5 * j + 1) (by omega) (by omega) d_La_law_781 ?_
    refine lv_aload_n X.1 X.2.1 d_La_law_782 rfl (lv_at hl 2 rfl) ?_
    refine lv_iload X.1 X.2.1 d_La_law_783 (lv_at hl 1 rfl) ?_
    refine lv_iconst (v := iI (2)) X.1 X.2.1 d_La_law_785 (by decide) ?_
    refine i_add (a := ((5 * j : Nat) : Int)) (b := 2) X d_La_law_786 ?_
    refine l_sc X hX hbl hL w (5 * j + 2) (by omega) (by omega) d_La_law_787 ?_
    refine y_cR (n := 2) (i := 132) (ci := 5) (As := [.int (iI (xs (5 * j + 1)).toInt), .int (iI (xs (5 * j + 2)).toInt)]) (rest := []) X ev w hml hl.1 hR (by omega) hfs9 rfl k_m_La_104 k_im_Mo_piece k_se_Mo_piece k_i_Mo k_co_Mo_piece (by decide +kernel) rfl ⟨(Nat.le_of_ble_eq_true rfl), (Nat.le_of_ble_eq_true rfl)⟩ ⟨rfl, rfl⟩ ⟨by show cells + 2 ≤ 601024; omega, by show slots + 6 * 2 ≤ 7293034; omega⟩ rfl (Nat.le_of_ble_eq_true rfl) d_La_law_788 (fun y C3 H locs hp w => ?_)
    have hLI3 := hRes y C3 hp
    refine lv_istore (lv' := [(6, .int y), (5, .int (iI k)), (4, .int (iI ((5 * j : Nat) : Int))), (0, .ref b), (1, .ref (ad 122)), (2, .ref (ad 132)), (3, .ref (ad 137))]) X.1 X.2.1 d_La_law_791 hl (by decide) rfl (fun ls hl => ?_)
    refine lv_aload_n X.1 X.2.1 d_La_law_793 rfl (lv_at hl 5 rfl) ?_
    obtain ⟨fs8, hfs8⟩ := LI132 hLI3
    refine y_cR (n := 0) (i := 132) (ci := 5) (As := []) (rest := []) X ev w hml hl.1 (o_thrown hT hLI3) (by omega) hfs8 rfl k_m_La_71 k_im_Mo_thrown k_se_Mo_thrown k_i_Mo k_co_Mo_thrown (by decide +kernel) rfl ⟨(Nat.le_of_ble_eq_true rfl), (Nat.le_of_ble_eq_true rfl)⟩ ⟨rfl, rfl⟩ ⟨by show cells + 2 ≤ 601024; omega, by show slots + 6 * 2 ≤ 7293034; omega⟩ rfl (Nat.le_of_ble_eq_true rfl) d_La_law_794 (fun r9 C4 H locs hp w => ?_)
    obtain ⟨e9, e8⟩ := hp
    rw [e9]
    rw [e8] at w
    refine lv_iload X.1 X.2.1 d_La_law_797 (lv_at hl 1 rfl) ?_
    refine i_eq (a := k) (b := k) (tgt := 804) X (by omega) (by omega) d_La_law_799 (by decide) (fun _ => ?_) (fun h9 => absurd rfl h9)
    refine lv_iload X.1 X.2.1 d_La_law_804 (lv_at hl 1 rfl) ?_
    refine z_ne (a := k) (tgt := 821) X (by omega) d_La_law_806 (by decide) (fun _ => ?_) (fun h9 => absurd h9 (by omega))
    refine lv_goto (tgt := 1036) X.1 X.2.1 d_La_law_821 (by decide) ?_
    exact W.widen (k := cells + 5) (n := slots + 30) (by omega) (by omega) (K k C3 H locs ls hLI3 w (lv_sub hl [2, 3, 4, 5, 6] rfl))
theorem k_La_irreducible (hst : l.stackTraces = false) (hT : 213 ≤ T) (X : Cx p s m #[Value.ref b] c b_La_law RLa) (ev : EV (fun q : Nat => s.heap.size ≤ q) s) (hml : c.maxLocals = 7) (hX : va_X b L xs s s.heap) (hbl : b < s.heap.size) (hL : L ≤ 2560) (hj : 5 * j + 5 ≤ L) (hce : cells + 5 ≤ 601024) (hsl : slots + 30 ≤ 7293034)
    (K : ∀ (th : Int) (C : Nat → va_E) (H : Heap) (locs : List Loc) (ls : Array Slot), LIt cs ad th C → Wd D cs (fun q : Nat => s.heap.size ≤ q) ad T s C H locs → lv_has ls 7 [(4, .int (iI ((5 * j : Nat) : Int))), (0, .ref b), (1, .ref (ad 122)), (2, .ref (ad 132)), (3, .ref (ad 137))] → W p l e room_1 s m #[Value.ref b] below meth c H locs (cells + 5) (slots + 30) Q (F0 m 1036 ls []))
    {th : Int} {C : Nat → va_E} {H : Heap} {locs : List Loc} {ls : Array Slot} (hLI : LIt cs ad th C) (w : Wd D cs (fun q : Nat => s.heap.size ≤ q) ad T s C H locs) (hl : lv_has ls 7 [(4, .int (iI ((5 * j : Nat) : Int))), (0, .ref b), (1, .ref (ad 122)), (2, .ref (ad 132)), (3, .ref (ad 137))]) : W p l e room_1 s m #[Value.ref b] below meth c H locs cells slots Q (F0 m 824 ls []) := by
  obtain ⟨P, px, hF, hok, hex⟩ := o_irreducible (D := D) (A := (fun q : Nat => s.heap.size ≤ q)) hst hT hLI (rg_back (xs (5 * j + 1)))
  refine lv_aload_n X.1 X.2.1 d_La_law_824 rfl (lv_at hl 2 rfl) ?_
  refine lv_aload_n X.1 X.2.1 d_La_law_825 rfl (lv_at hl 1 rfl) ?_
  refine lv_iload X.1 X.2.1 d_La_law_826 (lv_at hl 0 rfl) ?_
  refine lv_iconst (v := iI (1)) X.1 X.2.1 d_La_law_828 (by decide) ?_
  refine i_add (a := ((5 * j : Nat) : Int)) (b := 1) X d_La_law_829 ?_
  refine l_sc X hX hbl hL w (5 * j + 1) (by omega) (by omega) d_La_law_830 ?_
  refine lv_aload_n X.1 X.2.1 d_La_law_831 rfl (lv_at hl 4 rfl) ?_
  refine y_cS (n := 3) (k1 := 1) (As := [.ref (ad 122), .int (iI (xs (5 * j + 1)).toInt), .ref (ad 137)]) (rest := []) X ev w hml hl.1 (c_La_irreducible hT (LI122 hLI) hF (fun x C1 h => (hok x C1 h).1) (fun E C1 h => ⟨_, (hex E C1 h).choose_spec.1⟩)) k_m_La_105 k_st_La_irreducible k_i_La k_co_La_irreducible (by decide +kernel) rfl ⟨(Nat.le_of_ble_eq_true rfl), (Nat.le_of_ble_eq_true rfl)⟩ ⟨rfl, rfl⟩ ⟨by show cells + 1 ≤ 601024; omega, by show slots + 6 * 1 ≤ 7293034; omega⟩ rfl (Nat.le_of_ble_eq_true rfl) d_La_law_832 (fun r C1 H locs hp w => ?_)
  rcases hp with ⟨hr0, x, C2, ov, hP1, ho1, hC1⟩ | ⟨E, k, hx, hk, hr0⟩
  · rw [hr0]
    rw [hC1] at w
    obtain ⟨_, ⟨fs9, hfs9⟩, hR9⟩ := hok x C2 hP1
    obtain ⟨R9, hR, hRes⟩ := hR9 (va_up ov 0 (vfZ x))
    refine lv_istore (lv' := [(5, .int (iI 0)), (4, .int (iI ((5 * j : Nat) : Int))), (0, .ref b), (1, .ref (ad 122)), (2, .ref (ad 132)), (3, .ref (ad 137))]) X.1 X.2.1 d_La_law_835 hl (by decide) rfl (fun ls hl => ?_)
    refine lv_aload_n X.1 X.2.1 d_La_law_837 rfl (lv_at hl 4 rfl) ?_
    refine lv_aload_n X.1 X.2.1 d_La_law_838 rfl (lv_at hl 2 rfl) ?_
    refine lv_iload X.1 X.2.1 d_La_law_839 (lv_at hl 1 rfl) ?_
    refine lv_iconst (v := iI (1)) X.1 X.2.1 d_La_law_841 (by decide) ?_
    refine i_add (a := ((5 * j : Nat) : Int)) (b := 1) X d_La_law_842 ?_
    refine l_sc X hX hbl hL w (5 * j + 1) (by omega) (by omega) d_La_law_843 ?_
    refine y_cR (n := 1) (i := 132) (ci := 5) (As := [.int (iI (xs (5 * j + 1)).toInt)]) (rest := []) X ev w hml hl.1 hR (by omega) (by rw [va_up_ne _ _ (by decide)]; exact hfs9) rfl k_m_La_107 k_im_Mo_irreducible k_se_Mo_irreducible k_i_Mo k_co_Mo_irreducible (by decide +kernel) rfl ⟨(Nat.le_of_ble_eq_true rfl), (Nat.le_of_ble_eq_true rfl)⟩ ⟨rfl, rfl⟩ ⟨by show cells + 1 ≤ 601024; omega, by show slots + 6 * 1 ≤ 7293034; omega⟩ rfl (Nat.le_of_ble_eq_true rfl) d_La_law_844 (fun y C3 H locs hp w => ?_)
    obtain ⟨hLI3, hyx⟩ := hRes y C3 hp
    rw [hyx]
    refine lv_istore (lv' := [(6, .int x), (5, .int (iI 0)), (4, .int (iI ((5 * j : Nat) : Int))), (0, .ref b), (1, .ref (ad 122)), (2, .ref (ad 132)), (3, .ref (ad 137))]) X.1 X.2.1 d_La_law_847 hl (by decide) rfl (fun ls hl => ?_)
    refine lv_aload_n X.1 X.2.1 d_La_law_849 rfl (lv_at hl 5 rfl) ?_
    obtain ⟨fs8, hfs8⟩ := LI132 (⟨_, hLI3⟩ : LIt cs ad 0 C3)
    refine y_cR (n := 0) (i := 132) (ci := 5) (As := []) (rest := []) X ev w hml hl.1 (o_thrown hT ⟨_, hLI3⟩) (by omega) hfs8 rfl k_m_La_71 k_im_Mo_thrown k_se_Mo_thrown k_i_Mo k_co_Mo_thrown (by decide +kernel) rfl ⟨(Nat.le_of_ble_eq_true rfl), (Nat.le_of_ble_eq_true rfl)⟩ ⟨rfl, rfl⟩ ⟨by show cells + 1 ≤ 601024; omega, by show slots + 6 * 1 ≤ 7293034; omega⟩ rfl (Nat.le_of_ble_eq_true rfl) d_La_law_850 (fun r9 C4 H locs hp w => ?_)
    obtain ⟨e9, e8⟩ := hp
    rw [e9]
    rw [e8] at w
    refine lv_iload X.1 X.2.1 d_La_law_853 (lv_at hl 1 rfl) ?_
    refine i_eq (a := 0) (b := 0) (tgt := 860) X (by decide) (by decide) d_La_law_855 (by decide) (fun _ => ?_) (fun h9 => absurd rfl h9)
    refine lv_iload X.1 X.2.1 d_La_law_860 (lv_at hl 1 rfl) ?_
    refine z_ne (a := 0) (tgt := 884) X (by decide) d_La_law_862 (by decide) (fun h9 => absurd rfl h9) (fun _ => ?_)
    refine lv_aload_n X.1 X.2.1 d_La_law_865 rfl (lv_at hl 6 rfl) ?_
    refine lv_iconst (v := iI (0)) X.1 X.2.1 d_La_law_866 (by decide) ?_
    refine w_lld (i := 137) (n := 1) (F := va_up ov 0 (vfZ x)) (z := 0) X w (by omega) (LIo_o hLI3) 0 rfl (by decide) (by decide) d_La_law_867 ?_
    refine lv_iload X.1 X.2.1 d_La_law_868 (lv_at hl 0 rfl) ?_
    refine W.eq (g2 := F0 m 870 ls [.int (iI x.toInt), .long (lI (vfZ x))]) (by rw [iI_back, va_up_self]) ?_
    refine z_eq (a := x.toInt) (tgt := 877) X (rg_back x) d_La_law_870 (by decide) (fun h_7 => ?_) (fun h_7 => ?_)
    · have hz : vfZ x = 0 := by unfold vfZ; rw [if_pos (by rw [← h_7, iI_back])]
      refine lv_lconst (v := lI (0)) X.1 X.2.1 d_La_law_877 (by decide) ?_
      refine W.eq (g2 := F0 m 878 ls [.long (lI (0)), .long (lI (0))]) (by rw [hz]) ?_
      refine l_cmp (a := 0) (b := 0) X (by decide) (by decide) d_La_law_878 ?_
      refine z_eq (a := lcI 0 0) (tgt := 884) X (lcI_rg _ _) d_La_law_879 (by decide) (fun _ => ?_) (fun h9 => absurd (lcI_0.2 rfl) h9)
      refine lv_goto (tgt := 1036) X.1 X.2.1 d_La_law_884 (by decide) ?_
      exact W.widen (k := cells + 5) (n := slots + 30) (by omega) (by omega) (K 0 C3 H locs ls ⟨_, hLI3⟩ w (lv_sub hl [2, 3, 4, 5, 6] rfl))
    · have hz : vfZ x = 1 := by unfold vfZ; rw [if_neg (fun e9 => h_7 (by rw [e9]; rfl))]
      refine lv_lconst (v := lI (1)) X.1 X.2.1 d_La_law_873 (by decide) ?_
      refine lv_goto (tgt := 878) X.1 X.2.1 d_La_law_874 (by decide) ?_
      refine W.eq (g2 := F0 m 878 ls [.long (lI (1)), .long (lI (1))]) (by rw [hz]) ?_
      refine l_cmp (a := 1) (b := 1) X (by decide) (by decide) d_La_law_878 ?_
      refine z_eq (a := lcI 1 1) (tgt := 884) X (lcI_rg _ _) d_La_law_879 (by decide) (fun _ => ?_) (fun h9 => absurd (lcI_0.2 rfl) h9)
      refine lv_goto (tgt := 1036) X.1 X.2.1 d_La_law_884 (by decide) ?_
      exact W.widen (k := cells + 5) (n := slots + 30) (by omega) (by omega) (K 0 C3 H locs ls ⟨_, hLI3⟩ w (lv_sub hl [2, 3, 4, 5, 6] rfl))
  · rw [hr0]
    obtain ⟨k2, hk2, ⟨fs9, hfs9⟩, R9, hR, hRes⟩ := hex E C1 hx
    obtain ⟨hkk, hk1, hk3⟩ := cd_1 hk hk2
    rw [hkk] at hRes
    refine lv_istore (lv' := [(5, .int (iI k)), (4, .int (iI ((5 * j : Nat) : Int))), (0, .ref b), (1, .ref (ad 122)), (2, .ref (ad 132)), (3, .ref (ad 137))]) X.1 X.2.1 d_La_law_835 hl (by decide) rfl (fun ls hl => ?_)
    refine lv_aload_n X.1 X.2.1 d_La_law_837 rfl (lv_at hl 4 rfl) ?_
    refine lv_aload_n X.1 X.2.1 d_La_law_838 rfl (lv_at hl 2 rfl) ?_
    refine lv_iload X.1 X.2.1 d_La_law_839 (lv_at hl 1 rfl) ?_
    refine lv_iconst (v := iI (1)) X.1 X.2.1 d_La_law_841 (by decide) ?_
    refine i_add (a := ((5 * j : Nat) : Int)) (b := 1) X d_La_law_842 ?_
    refine l_sc X hX hbl hL w (5 * j + 1) (by omega) (by omega) d_La_law_843 ?_
    refine y_cR (n := 1) (i := 132) (ci := 5) (As := [.int (iI (xs (5 * j + 1)).toInt)]) (rest := []) X ev w hml hl.1 hR (by omega) hfs9 rfl k_m_La_107 k_im_Mo_irreducible k_se_Mo_irreducible k_i_Mo k_co_Mo_irreducible (by decide +kernel) rfl ⟨(Nat.le_of_ble_eq_true rfl), (Nat.le_of_ble_eq_true rfl)⟩ ⟨rfl, rfl⟩ ⟨by show cells + 1 ≤ 601024; omega, by show slots + 6 * 1 ≤ 7293034; omega⟩ rfl (Nat.le_of_ble_eq_true rfl) d_La_law_844 (fun y C3 H locs hp w => ?_)
    have hLI3 := hRes y C3 hp
    refine lv_istore (lv' := [(6, .int y), (5, .int (iI k)), (4, .int (iI ((5 * j : Nat) : Int))), (0, .ref b), (1, .ref (ad 122)), (2, .ref (ad 132)), (3, .ref (ad 137))]) X.1 X.2.1 d_La_law_847 hl (by decide) rfl (fun ls hl => ?_)
    refine lv_aload_n X.1 X.2.1 d_La_law_849 rfl (lv_at hl 5 rfl) ?_
    obtain ⟨fs8, hfs8⟩ := LI132 hLI3
    refine y_cR (n := 0) (i := 132) (ci := 5) (As := []) (rest := []) X ev w hml hl.1 (o_thrown hT hLI3) (by omega) hfs8 rfl k_m_La_71 k_im_Mo_thrown k_se_Mo_thrown k_i_Mo k_co_Mo_thrown (by decide +kernel) rfl ⟨(Nat.le_of_ble_eq_true rfl), (Nat.le_of_ble_eq_true rfl)⟩ ⟨rfl, rfl⟩ ⟨by show cells + 1 ≤ 601024; omega, by show slots + 6 * 1 ≤ 7293034; omega⟩ rfl (Nat.le_of_ble_eq_true rfl) d_La_law_850 (fun r9 C4 H locs hp w => ?_)
    obtain ⟨e9, e8⟩ := hp
    rw [e9]
    rw [e8] at w
    refine lv_iload X.1 X.2.1 d_La_law_853 (lv_at hl 1 rfl) ?_
    refine i_eq (a := k) (b := k) (tgt := 860) X (by omega) (by omega) d_La_law_855 (by decide) (fun _ => ?_) (fun h9 => absurd rfl h9)
    refine lv_iload X.1 X.2.1 d_La_law_860 (lv_at hl 1 rfl) ?_
    refine z_ne (a := k) (tgt := 884) X (by omega) d_La_law_862 (by decide) (fun _ => ?_) (fun h9 => absurd h9 (by omega))
    refine lv_goto (tgt := 1036) X.1 X.2.1 d_La_law_884 (by decide) ?_
    exact W.widen (k := cells + 5) (n := slots + 30) (by omega) (by omega) (K k C3 H locs ls hLI3 w (lv_sub hl [2, 3, 4, 5, 6] rfl))
theorem k_La_order (hst : l.stackTraces = false) (hT : 213 ≤ T) (X : Cx p s m #[Value.ref b] c b_La_law RLa) (ev : EV (fun q : Nat => s.heap.size ≤ q) s) (hml : c.maxLocals = 7) (hX : va_X b L xs s s.heap) (hbl : b < s.heap.size) (hL : L ≤ 2560) (hj : 5 * j + 5 ≤ L) (hce : cells + 5 ≤ 601024) (hsl : slots + 30 ≤ 7293034)
    (K : ∀ (th : Int) (C : Nat → va_E) (H : Heap) (locs : List Loc) (ls : Array Slot), LIt cs ad th C → Wd D cs (fun q : Nat => s.heap.size ≤ q) ad T s C H locs → lv_has ls 7 [(4, .int (iI ((5 * j : Nat) : Int))), (0, .ref b), (1, .ref (ad 122)), (2, .ref (ad 132)), (3, .ref (ad 137))] → W p l e room_1 s m #[Value.ref b] below meth c H locs (cells + 5) (slots + 30) Q (F0 m 1036 ls []))
    {th : Int} {C : Nat → va_E} {H : Heap} {locs : List Loc} {ls : Array Slot} (hLI : LIt cs ad th C) (w : Wd D cs (fun q : Nat => s.heap.size ≤ q) ad T s C H locs) (hl : lv_has ls 7 [(4, .int (iI ((5 * j : Nat) : Int))), (0, .ref b), (1, .ref (ad 122)), (2, .ref (ad 132)), (3, .ref (ad 137))]) : W p l e room_1 s m #[Value.ref b] below meth c H locs cells slots Q (F0 m 887 ls []) := by
  obtain ⟨P, px, hF, hok, hex⟩ := o_order (D := D) (A := (fun q : Nat => s.heap.size ≤ q)) hst hT hLI (rg_back (xs (5 * j + 1)))
  refine lv_aload_n X.1 X.2.1 d_La_law_887 rfl (lv_at hl 2 rfl) ?_
  refine lv_aload_n X.1 X.2.1 d_La_law_888 rfl (lv_at hl 1 rfl) ?_
  refine lv_iload X.1 X.2.1 d_La_law_889 (lv_at hl 0 rfl) ?_
  refine lv_iconst (v := iI (1)) X.1 X.2.1 d_La_law_891 (by decide) ?_
  refine i_add (a := ((5 * j : Nat) : Int)) (b := 1) X d_La_law_892 ?_
  refine l_sc X hX hbl hL w (5 * j + 1) (by omega) (by omega) d_La_law_893 ?_
  refine lv_aload_n X.1 X.2.1 d_La_law_894 rfl (lv_at hl 4 rfl) ?_
  refine y_cS (n := 3) (k1 := 2) (As := [.ref (ad 122), .int (iI (xs (5 * j + 1)).toInt), .ref (ad 137)]) (rest := []) X ev w hml hl.1 (c_La_order hT (LI122 hLI) hF (fun x C1 h => (hok x C1 h).1) (fun E C1 h => ⟨_, (hex E C1 h).choose_spec.1⟩)) k_m_La_108 k_st_La_order k_i_La k_co_La_order (by decide +kernel) rfl ⟨(Nat.le_of_ble_eq_true rfl), (Nat.le_of_ble_eq_true rfl)⟩ ⟨rfl, rfl⟩ ⟨by show cells + 2 ≤ 601024; omega, by show slots + 6 * 2 ≤ 7293034; omega⟩ rfl (Nat.le_of_ble_eq_true rfl) d_La_law_895 (fun r C1 H locs hp w => ?_)
  rcases hp with ⟨hr0, x, C2, ov, hP1, ho1, hC1⟩ | ⟨E, k, hx, hk, hr0⟩
  · rw [hr0]
    rw [hC1] at w
    obtain ⟨_, ⟨fs9, hfs9⟩, hR9⟩ := hok x C2 hP1
    obtain ⟨R9, hR, hRes⟩ := hR9 (va_up ov 0 (vfI x))
    refine lv_istore (lv' := [(5, .int (iI 0)), (4, .int (iI ((5 * j : Nat) : Int))), (0, .ref b), (1, .ref (ad 122)), (2, .ref (ad 132)), (3, .ref (ad 137))]) X.1 X.2.1 d_La_law_898 hl (by decide) rfl (fun ls hl => ?_)
    refine lv_aload_n X.1 X.2.1 d_La_law_900 rfl (lv_at hl 4 rfl) ?_
    refine lv_aload_n X.1 X.2.1 d_La_law_901 rfl (lv_at hl 2 rfl) ?_
    refine lv_iload X.1 X.2.1 d_La_law_902 (lv_at hl 1 rfl) ?_
    refine lv_iconst (v := iI (1)) X.1 X.2.1 d_La_law_904 (by decide) ?_
    refine i_add (a := ((5 * j : Nat) : Int)) (b := 1) X d_La_law_905 ?_
    refine l_sc X hX hbl hL w (5 * j + 1) (by omega) (by omega) d_La_law_906 ?_
    refine y_cR (n := 1) (i := 132) (ci := 5) (As := [.int (iI (xs (5 * j + 1)).toInt)]) (rest := []) X ev w hml hl.1 hR (by omega) (by rw [va_up_ne _ _ (by decide)]; exact hfs9) rfl k_m_La_110 k_im_Mo_order k_se_Mo_order k_i_Mo k_co_Mo_order (by decide +kernel) rfl ⟨(Nat.le_of_ble_eq_true rfl), (Nat.le_of_ble_eq_true rfl)⟩ ⟨rfl, rfl⟩ ⟨by show cells + 2 ≤ 601024; omega, by show slots + 6 * 2 ≤ 7293034; omega⟩ rfl (Nat.le_of_ble_eq_true rfl) d_La_law_907 (fun y C3 H locs hp w => ?_)
    obtain ⟨hLI3, hyx⟩ := hRes y C3 hp
    rw [hyx]
    refine lv_istore (lv' := [(6, .int x), (5, .int (iI 0)), (4, .int (iI ((5 * j : Nat) : Int))), (0, .ref b), (1, .ref (ad 122)), (2, .ref (ad 132)), (3, .ref (ad 137))]) X.1 X.2.1 d_La_law_910 hl (by decide) rfl (fun ls hl => ?_)
    refine lv_aload_n X.1 X.2.1 d_La_law_912 rfl (lv_at hl 5 rfl) ?_
    obtain ⟨fs8, hfs8⟩ := LI132 (⟨_, hLI3⟩ : LIt cs ad 0 C3)
    refine y_cR (n := 0) (i := 132) (ci := 5) (As := []) (rest := []) X ev w hml hl.1 (o_thrown hT ⟨_, hLI3⟩) (by omega) hfs8 rfl k_m_La_71 k_im_Mo_thrown k_se_Mo_thrown k_i_Mo k_co_Mo_thrown (by decide +kernel) rfl ⟨(Nat.le_of_ble_eq_true rfl), (Nat.le_of_ble_eq_true rfl)⟩ ⟨rfl, rfl⟩ ⟨by show cells + 2 ≤ 601024; omega, by show slots + 6 * 2 ≤ 7293034; omega⟩ rfl (Nat.le_of_ble_eq_true rfl) d_La_law_913 (fun r9 C4 H locs hp w => ?_)
    obtain ⟨e9, e8⟩ := hp
    rw [e9]
    rw [e8] at w
    refine lv_iload X.1 X.2.1 d_La_law_916 (lv_at hl 1 rfl) ?_
    refine i_eq (a := 0) (b := 0) (tgt := 923) X (by decide) (by decide) d_La_law_918 (by decide) (fun _ => ?_) (fun h9 => absurd rfl h9)
    refine lv_iload X.1 X.2.1 d_La_law_923 (lv_at hl 1 rfl) ?_
    refine z_ne (a := 0) (tgt := 940) X (by decide) d_La_law_925 (by decide) (fun h9 => absurd rfl h9) (fun _ => ?_)
    refine lv_aload_n X.1 X.2.1 d_La_law_928 rfl (lv_at hl 6 rfl) ?_
    refine lv_iconst (v := iI (0)) X.1 X.2.1 d_La_law_929 (by decide) ?_
    refine w_lld (i := 137) (n := 1) (F := va_up ov 0 (vfI x)) (z := 0) X w (by omega) (LIo_o hLI3) 0 rfl (by decide) (by decide) d_La_law_930 ?_
    refine lv_iload X.1 X.2.1 d_La_law_931 (lv_at hl 0 rfl) ?_
    refine W.eq (g2 := F0 m 933 ls [.int (iI x.toInt), .long (lI x.toInt)]) (by rw [iI_back, va_up_self]; rfl) ?_
    refine l_i2l X (rg_back x) d_La_law_933 ?_
    have hrg := rg_back x
    refine l_cmp (a := x.toInt) (b := x.toInt) X (by omega) (by omega) d_La_law_934 ?_
    refine z_eq (a := lcI x.toInt x.toInt) (tgt := 940) X (lcI_rg _ _) d_La_law_935 (by decide) (fun _ => ?_) (fun h9 => absurd (lcI_0.2 rfl) h9)
    refine lv_goto (tgt := 1036) X.1 X.2.1 d_La_law_940 (by decide) ?_
    exact W.widen (k := cells + 5) (n := slots + 30) (by omega) (by omega) (K 0 C3 H locs ls ⟨_, hLI3⟩ w (lv_sub hl [2, 3, 4, 5, 6] rfl))
  · rw [hr0]
    obtain ⟨k2, hk2, ⟨fs9, hfs9⟩, R9, hR, hRes⟩ := hex E C1 hx
    obtain ⟨hkk, hk1, hk3⟩ := cd_N hk hk2
    rw [hkk] at hRes
    refine lv_istore (lv' := [(5, .int (iI k)), (4, .int (iI ((5 * j : Nat) : Int))), (0, .ref b), (1, .ref (ad 122)), (2, .ref (ad 132)), (3, .ref (ad 137))]) X.1 X.2.1 d_La_law_898 hl (by decide) rfl (fun ls hl => ?_)
    refine lv_aload_n X.1 X.2.1 d_La_law_900 rfl (lv_at hl 4 rfl) ?_
    refine lv_aload_n X.1 X.2.1 d_La_law_901 rfl (lv_at hl 2 rfl) ?_
    refine lv_iload X.1 X.2.1 d_La_law_902 (lv_at hl 1 rfl) ?_
    refine lv_iconst (v := iI (1)) X.1 X.2.1 d_La_law_904 (by decide) ?_
    refine i_add (a := ((5 * j : Nat) : Int)) (b := 1) X d_La_law_905 ?_
    refine l_sc X hX hbl hL w (5 * j + 1) (by omega) (by omega) d_La_law_906 ?_
    refine y_cR (n := 1) (i := 132) (ci := 5) (As := [.int (iI (xs (5 * j + 1)).toInt)]) (rest := []) X ev w hml hl.1 hR (by omega) hfs9 rfl k_m_La_110 k_im_Mo_order k_se_Mo_order k_i_Mo k_co_Mo_order (by decide +kernel) rfl ⟨(Nat.le_of_ble_eq_true rfl), (Nat.le_of_ble_eq_true rfl)⟩ ⟨rfl, rfl⟩ ⟨by show cells + 2 ≤ 601024; omega, by show slots + 6 * 2 ≤ 7293034; omega⟩ rfl (Nat.le_of_ble_eq_true rfl) d_La_law_907 (fun y C3 H locs hp w => ?_)
    have hLI3 := hRes y C3 hp
    refine lv_istore (lv' := [(6, .int y), (5, .int (iI k)), (4, .int (iI ((5 * j : Nat) : Int))), (0, .ref b), (1, .ref (ad 122)), (2, .ref (ad 132)), (3, .ref (ad 137))]) X.1 X.2.1 d_La_law_910 hl (by decide) rfl (fun ls hl => ?_)
    refine lv_aload_n X.1 X.2.1 d_La_law_912 rfl (lv_at hl 5 rfl) ?_
    obtain ⟨fs8, hfs8⟩ := LI132 hLI3
    refine y_cR (n := 0) (i := 132) (ci := 5) (As := []) (rest := []) X ev w hml hl.1 (o_thrown hT hLI3) (by omega) hfs8 rfl k_m_La_71 k_im_Mo_thrown k_se_Mo_thrown k_i_Mo k_co_Mo_thrown (by decide +kernel) rfl ⟨(Nat.le_of_ble_eq_true rfl), (Nat.le_of_ble_eq_true rfl)⟩ ⟨rfl, rfl⟩ ⟨by show cells + 2 ≤ 601024; omega, by show slots + 6 * 2 ≤ 7293034; omega⟩ rfl (Nat.le_of_ble_eq_true rfl) d_La_law_913 (fun r9 C4 H locs hp w => ?_)
    obtain ⟨e9, e8⟩ := hp
    rw [e9]
    rw [e8] at w
    refine lv_iload X.1 X.2.1 d_La_law_916 (lv_at hl 1 rfl) ?_
    refine i_eq (a := k) (b := k) (tgt := 923) X (by omega) (by omega) d_La_law_918 (by decide) (fun _ => ?_) (fun h9 => absurd rfl h9)
    refine lv_iload X.1 X.2.1 d_La_law_923 (lv_at hl 1 rfl) ?_
    refine z_ne (a := k) (tgt := 940) X (by omega) d_La_law_925 (by decide) (fun _ => ?_) (fun h9 => absurd h9 (by omega))
    refine lv_goto (tgt := 1036) X.1 X.2.1 d_La_law_940 (by decide) ?_
    exact W.widen (k := cells + 5) (n := slots + 30) (by omega) (by omega) (K k C3 H locs ls hLI3 w (lv_sub hl [2, 3, 4, 5, 6] rfl))
theorem k_La_linear (hst : l.stackTraces = false) (hT : 213 ≤ T) (X : Cx p s m #[Value.ref b] c b_La_law RLa) (ev : EV (fun q : Nat => s.heap.size ≤ q) s) (hml : c.maxLocals = 7) (hX : va_X b L xs s s.heap) (hbl : b < s.heap.size) (hL : L ≤ 2560) (hj : 5 * j + 5 ≤ L) (hce : cells + 5 ≤ 601024) (hsl : slots + 30 ≤ 7293034)
    (K : ∀ (th : Int) (C : Nat → va_E) (H : Heap) (locs : List Loc) (ls : Array Slot), LIt cs ad th C → Wd D cs (fun q : Nat => s.heap.size ≤ q) ad T s C H locs → lv_has ls 7 [(4, .int (iI ((5 * j : Nat) : Int))), (0, .ref b), (1, .ref (ad 122)), (2, .ref (ad 132)), (3, .ref (ad 137))] → W p l e room_1 s m #[Value.ref b] below meth c H locs (cells + 5) (slots + 30) Q (F0 m 1036 ls []))
    {th : Int} {C : Nat → va_E} {H : Heap} {locs : List Loc} {ls : Array Slot} (hLI : LIt cs ad th C) (w : Wd D cs (fun q : Nat => s.heap.size ≤ q) ad T s C H locs) (hl : lv_has ls 7 [(4, .int (iI ((5 * j : Nat) : Int))), (0, .ref b), (1, .ref (ad 122)), (2, .ref (ad 132)), (3, .ref (ad 137))]) : W p l e room_1 s m #[Value.ref b] below meth c H locs cells slots Q (F0 m 943 ls []) := by
  obtain ⟨P, px, hF, hok, hex⟩ := o_linear (D := D) (A := (fun q : Nat => s.heap.size ≤ q)) hst hT hLI (rg_back (xs (5 * j + 1))) (rg_back (xs (5 * j + 2)))
  refine lv_aload_n X.1 X.2.1 d_La_law_943 rfl (lv_at hl 2 rfl) ?_
  refine lv_aload_n X.1 X.2.1 d_La_law_944 rfl (lv_at hl 1 rfl) ?_
  refine lv_iload X.1 X.2.1 d_La_law_945 (lv_at hl 0 rfl) ?_
  refine lv_iconst (v := iI (1)) X.1 X.2.1 d_La_law_947 (by decide) ?_
  refine i_add (a := ((5 * j : Nat) : Int)) (b := 1) X d_La_law_948 ?_
  refine l_sc X hX hbl hL w (5 * j + 1) (by omega) (by omega) d_La_law_949 ?_
  refine lv_aload_n X.1 X.2.1 d_La_law_950 rfl (lv_at hl 1 rfl) ?_
  refine lv_iload X.1 X.2.1 d_La_law_951 (lv_at hl 0 rfl) ?_
  refine lv_iconst (v := iI (2)) X.1 X.2.1 d_La_law_953 (by decide) ?_
  refine i_add (a := ((5 * j : Nat) : Int)) (b := 2) X d_La_law_954 ?_
  refine l_sc X hX hbl hL w (5 * j + 2) (by omega) (by omega) d_La_law_955 ?_
  refine lv_aload_n X.1 X.2.1 d_La_law_956 rfl (lv_at hl 4 rfl) ?_
  refine y_cS (n := 4) (k1 := 3) (As := [.ref (ad 122), .int (iI (xs (5 * j + 1)).toInt), .int (iI (xs (5 * j + 2)).toInt), .ref (ad 137)]) (rest := []) X ev w hml hl.1 (c_La_linear hT (LI122 hLI) hF (fun x C1 h => (hok x C1 h).1) (fun E C1 h => ⟨_, (hex E C1 h).choose_spec.1⟩)) k_m_La_111 k_st_La_linear k_i_La k_co_La_linear (by decide +kernel) rfl ⟨(Nat.le_of_ble_eq_true rfl), (Nat.le_of_ble_eq_true rfl)⟩ ⟨rfl, rfl⟩ ⟨by show cells + 3 ≤ 601024; omega, by show slots + 6 * 3 ≤ 7293034; omega⟩ rfl (Nat.le_of_ble_eq_true rfl) d_La_law_957 (fun r C1 H locs hp w => ?_)
  rcases hp with ⟨hr0, x, C2, ov, hP1, ho1, hC1⟩ | ⟨E, k, hx, hk, hr0⟩
  · rw [hr0]
    rw [hC1] at w
    obtain ⟨_, ⟨fs9, hfs9⟩, hR9⟩ := hok x C2 hP1
    obtain ⟨R9, hR, hRes⟩ := hR9 (va_up ov 0 (vfI x))
    refine lv_istore (lv' := [(5, .int (iI 0)), (4, .int (iI ((5 * j : Nat) : Int))), (0, .ref b), (1, .ref (ad 122)), (2, .ref (ad 132)), (3, .ref (ad 137))]) X.1 X.2.1 d_La_law_960 hl (by decide) rfl (fun ls hl => ?_)
    refine lv_aload_n X.1 X.2.1 d_La_law_962 rfl (lv_at hl 4 rfl) ?_
    refine lv_aload_n X.1 X.2.1 d_La_law_963 rfl (lv_at hl 2 rfl) ?_
    refine lv_iload X.1 X.2.1 d_La_law_964 (lv_at hl 1 rfl) ?_
    refine lv_iconst (v := iI (1)) X.1 X.2.1 d_La_law_966 (by decide) ?_
    refine i_add (a := ((5 * j : Nat) : Int)) (b := 1) X d_La_law_967 ?_
    refine l_sc X hX hbl hL w (5 * j + 1) (by omega) (by omega) d_La_law_968 ?_
    refine lv_aload_n X.1 X.2.1 d_La_law_969 rfl (lv_at hl 2 rfl) ?_
    refine lv_iload X.1 X.2.1 d_La_law_970 (lv_at hl 1 rfl) ?_
    refine lv_iconst (v := iI (2)) X.1 X.2.1 d_La_law_972 (by decide) ?_
    refine i_add (a := ((5 * j : Nat) : Int)) (b := 2) X d_La_law_973 ?_
    refine l_sc X hX hbl hL w (5 * j + 2) (by omega) (by omega) d_La_law_974 ?_
    refine y_cR (n := 2) (i := 132) (ci := 5) (As := [.int (iI (xs (5 * j + 1)).toInt), .int (iI (xs (5 * j + 2)).toInt)]) (rest := []) X ev w hml hl.1 hR (by omega) (by rw [va_up_ne _ _ (by decide)]; exact hfs9) rfl k_m_La_113 k_im_Mo_linear k_se_Mo_linear k_i_Mo k_co_Mo_linear (by decide +kernel) rfl ⟨(Nat.le_of_ble_eq_true rfl), (Nat.le_of_ble_eq_true rfl)⟩ ⟨rfl, rfl⟩ ⟨by show cells + 3 ≤ 601024; omega, by show slots + 6 * 3 ≤ 7293034; omega⟩ rfl (Nat.le_of_ble_eq_true rfl) d_La_law_975 (fun y C3 H locs hp w => ?_)
    obtain ⟨hLI3, hyx⟩ := hRes y C3 hp
    rw [hyx]
    refine lv_istore (lv' := [(6, .int x), (5, .int (iI 0)), (4, .int (iI ((5 * j : Nat) : Int))), (0, .ref b), (1, .ref (ad 122)), (2, .ref (ad 132)), (3, .ref (ad 137))]) X.1 X.2.1 d_La_law_978 hl (by decide) rfl (fun ls hl => ?_)
    refine lv_aload_n X.1 X.2.1 d_La_law_980 rfl (lv_at hl 5 rfl) ?_
    obtain ⟨fs8, hfs8⟩ := LI132 (⟨_, hLI3⟩ : LIt cs ad 0 C3)
    refine y_cR (n := 0) (i := 132) (ci := 5) (As := []) (rest := []) X ev w hml hl.1 (o_thrown hT ⟨_, hLI3⟩) (by omega) hfs8 rfl k_m_La_71 k_im_Mo_thrown k_se_Mo_thrown k_i_Mo k_co_Mo_thrown (by decide +kernel) rfl ⟨(Nat.le_of_ble_eq_true rfl), (Nat.le_of_ble_eq_true rfl)⟩ ⟨rfl, rfl⟩ ⟨by show cells + 3 ≤ 601024; omega, by show slots + 6 * 3 ≤ 7293034; omega⟩ rfl (Nat.le_of_ble_eq_true rfl) d_La_law_981 (fun r9 C4 H locs hp w => ?_)
    obtain ⟨e9, e8⟩ := hp
    rw [e9]
    rw [e8] at w
    refine lv_iload X.1 X.2.1 d_La_law_984 (lv_at hl 1 rfl) ?_
    refine i_eq (a := 0) (b := 0) (tgt := 991) X (by decide) (by decide) d_La_law_986 (by decide) (fun _ => ?_) (fun h9 => absurd rfl h9)
    refine lv_iload X.1 X.2.1 d_La_law_991 (lv_at hl 1 rfl) ?_
    refine z_ne (a := 0) (tgt := 1008) X (by decide) d_La_law_993 (by decide) (fun h9 => absurd rfl h9) (fun _ => ?_)
    refine lv_aload_n X.1 X.2.1 d_La_law_996 rfl (lv_at hl 6 rfl) ?_
    refine lv_iconst (v := iI (0)) X.1 X.2.1 d_La_law_997 (by decide) ?_
    refine w_lld (i := 137) (n := 1) (F := va_up ov 0 (vfI x)) (z := 0) X w (by omega) (LIo_o hLI3) 0 rfl (by decide) (by decide) d_La_law_998 ?_
    refine lv_iload X.1 X.2.1 d_La_law_999 (lv_at hl 0 rfl) ?_
    refine W.eq (g2 := F0 m 1001 ls [.int (iI x.toInt), .long (lI x.toInt)]) (by rw [iI_back, va_up_self]; rfl) ?_
    refine l_i2l X (rg_back x) d_La_law_1001 ?_
    have hrg := rg_back x
    refine l_cmp (a := x.toInt) (b := x.toInt) X (by omega) (by omega) d_La_law_1002 ?_
    refine z_eq (a := lcI x.toInt x.toInt) (tgt := 1008) X (lcI_rg _ _) d_La_law_1003 (by decide) (fun _ => ?_) (fun h9 => absurd (lcI_0.2 rfl) h9)
    refine lv_goto (tgt := 1036) X.1 X.2.1 d_La_law_1008 (by decide) ?_
    exact W.widen (k := cells + 5) (n := slots + 30) (by omega) (by omega) (K 0 C3 H locs ls ⟨_, hLI3⟩ w (lv_sub hl [2, 3, 4, 5, 6] rfl))
  · rw [hr0]
    obtain ⟨k2, hk2, ⟨fs9, hfs9⟩, R9, hR, hRes⟩ := hex E C1 hx
    obtain ⟨hkk, hk1, hk3⟩ := cd_N hk hk2
    rw [hkk] at hRes
    refine lv_istore (lv' := [(5, .int (iI k)), (4, .int (iI ((5 * j : Nat) : Int))), (0, .ref b), (1, .ref (ad 122)), (2, .ref (ad 132)), (3, .ref (ad 137))]) X.1 X.2.1 d_La_law_960 hl (by decide) rfl (fun ls hl => ?_)
    refine lv_aload_n X.1 X.2.1 d_La_law_962 rfl (lv_at hl 4 rfl) ?_
    refine lv_aload_n X.1 X.2.1 d_La_law_963 rfl (lv_at hl 2 rfl) ?_
    refine lv_iload X.1 X.2.1 d_La_law_964 (lv_at hl 1 rfl) ?_
    refine lv_iconst (v := iI (1)) X.1 X.2.1 d_La_law_966 (by decide) ?_
    refine i_add (a := ((5 * j : Nat) : Int)) (b := 1) X d_La_law_967 ?_
    refine l_sc X hX hbl hL w (5 * j + 1) (by omega) (by omega) d_La_law_968 ?_
    refine lv_aload_n X.1 X.2.1 d_La_law_969 rfl (lv_at hl 2 rfl) ?_
    refine lv_iload X.1 X.2.1 d_La_law_970 (lv_at hl 1 rfl) ?_
    refine lv_iconst (v := iI (2)) X.1 X.2.1 d_La_law_972 (by decide) ?_
    refine i_add (a := ((5 * j : Nat) : Int)) (b := 2) X d_La_law_973 ?_
    refine l_sc X hX hbl hL w (5 * j + 2) (by omega) (by omega) d_La_law_974 ?_
    refine y_cR (n := 2) (i := 132) (ci := 5) (As := [.int (iI (xs (5 * j + 1)).toInt), .int (iI (xs (5 * j + 2)).toInt)]) (rest := []) X ev w hml hl.1 hR (by omega) hfs9 rfl k_m_La_113 k_im_Mo_linear k_se_Mo_linear k_i_Mo k_co_Mo_linear (by decide +kernel) rfl ⟨(Nat.le_of_ble_eq_true rfl), (Nat.le_of_ble_eq_true rfl)⟩ ⟨rfl, rfl⟩ ⟨by show cells + 3 ≤ 601024; omega, by show slots + 6 * 3 ≤ 7293034; omega⟩ rfl (Nat.le_of_ble_eq_true rfl) d_La_law_975 (fun y C3 H locs hp w => ?_)
    have hLI3 := hRes y C3 hp
    refine lv_istore (lv' := [(6, .int y), (5, .int (iI k)), (4, .int (iI ((5 * j : Nat) : Int))), (0, .ref b), (1, .ref (ad 122)), (2, .ref (ad 132)), (3, .ref (ad 137))]) X.1 X.2.1 d_La_law_978 hl (by decide) rfl (fun ls hl => ?_)
    refine lv_aload_n X.1 X.2.1 d_La_law_980 rfl (lv_at hl 5 rfl) ?_
    obtain ⟨fs8, hfs8⟩ := LI132 hLI3
    refine y_cR (n := 0) (i := 132) (ci := 5) (As := []) (rest := []) X ev w hml hl.1 (o_thrown hT hLI3) (by omega) hfs8 rfl k_m_La_71 k_im_Mo_thrown k_se_Mo_thrown k_i_Mo k_co_Mo_thrown (by decide +kernel) rfl ⟨(Nat.le_of_ble_eq_true rfl), (Nat.le_of_ble_eq_true rfl)⟩ ⟨rfl, rfl⟩ ⟨by show cells + 3 ≤ 601024; omega, by show slots + 6 * 3 ≤ 7293034; omega⟩ rfl (Nat.le_of_ble_eq_true rfl) d_La_law_981 (fun r9 C4 H locs hp w => ?_)
    obtain ⟨e9, e8⟩ := hp
    rw [e9]
    rw [e8] at w
    refine lv_iload X.1 X.2.1 d_La_law_984 (lv_at hl 1 rfl) ?_
    refine i_eq (a := k) (b := k) (tgt := 991) X (by omega) (by omega) d_La_law_986 (by decide) (fun _ => ?_) (fun h9 => absurd rfl h9)
    refine lv_iload X.1 X.2.1 d_La_law_991 (lv_at hl 1 rfl) ?_
    refine z_ne (a := k) (tgt := 1008) X (by omega) d_La_law_993 (by decide) (fun _ => ?_) (fun h9 => absurd h9 (by omega))
    refine lv_goto (tgt := 1036) X.1 X.2.1 d_La_law_1008 (by decide) ?_
    exact W.widen (k := cells + 5) (n := slots + 30) (by omega) (by omega) (K k C3 H locs ls hLI3 w (lv_sub hl [2, 3, 4, 5, 6] rfl))
theorem k_La_count (hst : l.stackTraces = false) (hT : 213 ≤ T) (X : Cx p s m #[Value.ref b] c b_La_law RLa) (ev : EV (fun q : Nat => s.heap.size ≤ q) s) (hml : c.maxLocals = 7) (hX : va_X b L xs s s.heap) (hbl : b < s.heap.size) (hL : L ≤ 2560) (hj : 5 * j + 5 ≤ L) (hce : cells + 5 ≤ 601024) (hsl : slots + 30 ≤ 7293034)
    (K : ∀ (th : Int) (C : Nat → va_E) (H : Heap) (locs : List Loc) (ls : Array Slot), LIt cs ad th C → Wd D cs (fun q : Nat => s.heap.size ≤ q) ad T s C H locs → lv_has ls 7 [(4, .int (iI ((5 * j : Nat) : Int))), (0, .ref b), (1, .ref (ad 122)), (2, .ref (ad 132)), (3, .ref (ad 137))] → W p l e room_1 s m #[Value.ref b] below meth c H locs (cells + 5) (slots + 30) Q (F0 m 1036 ls []))
    {th : Int} {C : Nat → va_E} {H : Heap} {locs : List Loc} {ls : Array Slot} (hLI : LIt cs ad th C) (w : Wd D cs (fun q : Nat => s.heap.size ≤ q) ad T s C H locs) (hl : lv_has ls 7 [(4, .int (iI ((5 * j : Nat) : Int))), (0, .ref b), (1, .ref (ad 122)), (2, .ref (ad 132)), (3, .ref (ad 137))]) : W p l e room_1 s m #[Value.ref b] below meth c H locs cells slots Q (F0 m 1011 ls []) := by
  obtain ⟨v, hF, R9, hR, hRes⟩ := o_count (l := l) (D := D) (A := (fun q : Nat => s.heap.size ≤ q)) hT hLI (rg_back (xs (5 * j + 1)))
  refine lv_aload_n X.1 X.2.1 d_La_law_1011 rfl (lv_at hl 2 rfl) ?_
  refine lv_aload_n X.1 X.2.1 d_La_law_1012 rfl (lv_at hl 1 rfl) ?_
  refine lv_iload X.1 X.2.1 d_La_law_1013 (lv_at hl 0 rfl) ?_
  refine lv_iconst (v := iI (1)) X.1 X.2.1 d_La_law_1015 (by decide) ?_
  refine i_add (a := ((5 * j : Nat) : Int)) (b := 1) X d_La_law_1016 ?_
  refine l_sc X hX hbl hL w (5 * j + 1) (by omega) (by omega) d_La_law_1017 ?_
  refine y_cR (n := 1) (i := 122) (ci := 4) (As := [.int (iI (xs (5 * j + 1)).toInt)]) (rest := []) X ev w hml hl.1 hF (by omega) (LI122 hLI) rfl k_m_La_114 k_im_Ff_count k_se_Ff_count k_i_Ff k_co_Ff_count (by decide +kernel) rfl ⟨(Nat.le_of_ble_eq_true rfl), (Nat.le_of_ble_eq_true rfl)⟩ ⟨rfl, rfl⟩ ⟨by show cells ≤ 601024; omega, by show slots ≤ 7293034; omega⟩ rfl (Nat.le_of_ble_eq_true rfl) d_La_law_1018 (fun r C1 H locs hp w => ?_)
  obtain ⟨e9, e8⟩ := hp
  rw [e9]
  rw [e8] at w
  refine lv_aload_n X.1 X.2.1 d_La_law_1021 rfl (lv_at hl 3 rfl) ?_
  refine lv_aload_n X.1 X.2.1 d_La_law_1022 rfl (lv_at hl 1 rfl) ?_
  refine lv_iload X.1 X.2.1 d_La_law_1023 (lv_at hl 0 rfl) ?_
  refine lv_iconst (v := iI (1)) X.1 X.2.1 d_La_law_1025 (by decide) ?_
  refine i_add (a := ((5 * j : Nat) : Int)) (b := 1) X d_La_law_1026 ?_
  refine l_sc X hX hbl hL w (5 * j + 1) (by omega) (by omega) d_La_law_1027 ?_
  obtain ⟨fs9, hfs9⟩ := LI132 hLI
  refine y_cR (n := 1) (i := 132) (ci := 5) (As := [.int (iI (xs (5 * j + 1)).toInt)]) (rest := [.int (iI v)]) X ev w hml hl.1 hR (by omega) hfs9 rfl k_m_La_117 k_im_Mo_count k_se_Mo_count k_i_Mo k_co_Mo_count (by decide +kernel) rfl ⟨(Nat.le_of_ble_eq_true rfl), (Nat.le_of_ble_eq_true rfl)⟩ ⟨rfl, rfl⟩ ⟨by show cells ≤ 601024; omega, by show slots ≤ 7293034; omega⟩ rfl (Nat.le_of_ble_eq_true rfl) d_La_law_1028 (fun y C2 H locs hp w => ?_)
  obtain ⟨e7, hLI2⟩ := hRes y C2 hp
  rw [e7]
  refine lv_icmp_eq (tgt := 1036) X.1 X.2.1 d_La_law_1031 (by decide) (fun _ => ?_) (fun h9 => absurd rfl h9)
  exact W.widen (k := cells + 5) (n := slots + 30) (by omega) (by omega) (K 0 C2 H locs ls hLI2 w (lv_sub hl [0, 1, 2, 3, 4] rfl))
end LAW2
