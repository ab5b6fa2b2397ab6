theorem i_neg {p : Program} {l : Launch} {e : Env} {R : Room} {s : State} {m : MethodId} {args : Array Value} {below : List Frame} {meth : Method} {c : Code} {H : Heap} {locs : List Loc} {cells slots : Nat} {Q : State → Prop} {cc : ByteArray} {own : String} {pc : Nat} {ls : Array Slot} {rest : List Value} (X : Cx p s m args c cc own) {a : Int} (hdg : decode cc pc = .ok (.ineg, 1)) (kk : W p l e R s m args below meth c H locs cells slots Q (F0 m (pc + 1) ls (.int (iI (- a)) :: rest))) : W p l e R s m args below meth c H locs cells slots Q (F0 m pc ls (.int (iI a) :: rest)) := lv_ineg X.1 X.2.1 hdg (by rw [iI_neg]; exact kk)
def lnI (pr : Int) (inv : Nat → Int) (cd : Nat → Int) : Nat → P2 → P2
  | 0, s => s
  | f + 1, s => if 0 < dg 300 s.1 then (if dg 300 (dvm pr inv s.1 cd).1 < 0 then lnI pr inv cd f ((dvm pr inv s.1 cd).2, prd pr s.2 cd) else s) else s
def lrL (pr : Int) (inv : Nat → Int) : Nat → Nat → P2 → P2
  | 0, _, s => s
  | k + 1, v, s => lrL pr inv k (v + 1) (lnI pr inv (lnS pr v) 25 s)
theorem lnS_okR {pr : Int} (hp : 2 ≤ pr) (v : Nat) : okp pr 25 (lnS pr v) := by
  unfold lnS
  refine up_okp ⟨fun x => ?_, fun x hx => ?_⟩ (by omega) ⟨Int.emod_nonneg _ (by omega), Int.emod_lt_of_pos _ (by omega)⟩
  · unfold xP; split <;> omega
  · unfold xP; rw [if_neg (by omega)]
theorem lnS_dgR (pr : Int) (v : Nat) : dg 300 (lnS pr v) = 1 := by
  refine dg_eq (by omega) (by omega) (fun x hx => ?_) (fun x hx _ => ?_)
  · unfold lnS
    rw [va_up_ne _ _ (by omega)]
    unfold xP
    rw [if_pos (by omega)]
    decide
  · unfold lnS
    rw [va_up_ne _ _ (by omega)]
    unfold xP
    rw [if_neg (by omega)]
theorem prd_dgle {pr : Int} {A B : Nat → Int} {n1 n2 : Nat} (hp : 0 < pr) (h13 : pr ≤ 13) (hA : okp pr n1 A) (hB : okp pr n2 B) (h2 : n2 ≤ 300) (h0 : -1 ≤ dg 300 A + dg 300 B) : dg 300 (prd pr A B) ≤ dg 300 A + dg 300 B := by
  have := ((prd_ok (N := (dg 300 A + dg 300 B + 1).toNat) hp h13 hA hB h2 (by omega)).ok h13).dlt 300
  omega
section MLI
variable {p : Program} {l : Launch} {e : Env} {s : State} {m : MethodId} {args : Array Value} {below : List Frame} {meth : Method} {c : Code} {H : Heap} {locs : List Loc} {Q : State → Prop} {D : va_G} {cs : Nat → ClassId} {A : Nat → Prop} {ad : Nat → Nat} {T : Nat} {B : Nat → va_E} {th pr fc : Int}
variable {M : Nat → Nat → Int} {inv : Nat → Int} {t : Int}
theorem l_Mo_lin_106 (X : Cx p s m args c b_Mo_linear RMo) (hml : c.maxLocals = 4) (hT : 213 ≤ T) (hB : moO cs ad th pr fc B) (hI : invP pr inv) {v : Nat} {Z : P2}
    (K : ∀ (M1 : Nat → Nat → Int) (H : Heap) (locs : List Loc) (ls : Array Slot), Wd D cs A ad T s (mkR cs M1 B) H locs → M1 46 = Z.1 → M1 49 = Z.2 → WR M1 → okp pr 25 Z.1 → okp pr 25 Z.2 → dg 300 Z.2 + dg 300 Z.1 ≤ 24 → (∀ r, r < 41 → M1 r = M r) → lv_has ls 4 [(0, .ref (ad (132))), (1, .int (iI (t))), (3, .int (iI (v)))] → W p l e { frames := 3, cells := 0, slots := 0, locals := 71 } s m args below meth c H locs 0 0 Q (F0 m 168 ls [])) :
    ∀ (f : Nat) (S : P2) (M1 : Nat → Nat → Int) (H : Heap) (locs : List Loc) (ls : Array Slot), Wd D cs A ad T s (mkR cs M1 B) H locs → lnI pr inv (lnS pr v) f S = Z → dg 300 S.1 < f → M1 46 = S.1 → M1 49 = S.2 → M1 47 = lnS pr v → WR M1 → okp pr 25 S.1 → okp pr 25 S.2 → dg 300 S.2 + dg 300 S.1 ≤ 24 → (∀ r, r < 41 → M1 r = M r) → lv_has ls 4 [(0, .ref (ad (132))), (1, .int (iI (t))), (3, .int (iI (v)))] → W p l e { frames := 3, cells := 0, slots := 0, locals := 71 } s m args below meth c H locs 0 0 Q (F0 m 106 ls []) := by
  have hpr := hI.1
  have hcd := lnS_okR (show 2 ≤ pr by omega) v
  have hde := lnS_dgR pr v
  intro f
  induction f with
  | zero =>
    intro S M1 H locs ls w hz hf h46 h49 h47 hW i1 i2 i3 hF hl
    have hz : S = Z := hz
    subst hz
    have hds := dg_ge 300 S.1
    have hdl := (i1.ok hpr.2).dlt 300
    refine lv_aload_n X.1 X.2.1 d_Mo_linear_106 rfl (lv_at hl 0 rfl) ?_
    refine m_get X hT w hB 11 (by decide) k_f_Mo_46 rfl d_Mo_linear_107 ?_
    refine w_cSi (n := 1) (As := [.ref (ad (138 + 46))]) (rest := []) X w hml hl.1 (c_Mo_degree hT (M := M1) (B := B) (a := 46) (by omega) (by rw [h46]; exact (i1.mono (by omega)).ok hpr.2)) k_m_Mo_80 k_st_Mo_degree k_i_Mo k_co_Mo_degree (by decide +kernel) rfl ⟨Nat.le_of_ble_eq_true rfl, Nat.le_of_ble_eq_true rfl⟩ ⟨rfl, rfl⟩ ⟨Nat.zero_le _, Nat.zero_le _⟩ rfl (Nat.le_of_ble_eq_true rfl) d_Mo_linear_110 (fun r' C' H locs hp w => ?_)
    obtain ⟨rfl, rfl⟩ := hp
    rw [h46]
    refine z_le (a := dg 300 S.1) (tgt := 168) X (by omega) d_Mo_linear_113 (by decide) (fun h_113 => ?_) (fun h_113 => ?_)
    · exact K M1 H locs ls w h46 h49 hW i1 i2 i3 hF (lv_sub hl [0, 1, 2] rfl)
    · exact absurd h_113 (by omega)
  | succ f ih =>
    intro S M1 H locs ls w hz hf h46 h49 h47 hW i1 i2 i3 hF hl
    have hz : (if 0 < dg 300 S.1 then (if dg 300 (dvm pr inv S.1 (lnS pr v)).1 < 0 then lnI pr inv (lnS pr v) f ((dvm pr inv S.1 (lnS pr v)).2, prd pr S.2 (lnS pr v)) else S) else S) = Z := hz
    have hds := dg_ge 300 S.1
    have hdl := (i1.ok hpr.2).dlt 300
    have hq9 := dvm_ok (inv := inv) (M := 25) (by omega) i1 hcd (by omega) (by omega) hpr.2 (by omega)
    refine lv_aload_n X.1 X.2.1 d_Mo_linear_106 rfl (lv_at hl 0 rfl) ?_
    refine m_get X hT w hB 11 (by decide) k_f_Mo_46 rfl d_Mo_linear_107 ?_
    refine w_cSi (n := 1) (As := [.ref (ad (138 + 46))]) (rest := []) X w hml hl.1 (c_Mo_degree hT (M := M1) (B := B) (a := 46) (by omega) (by rw [h46]; exact (i1.mono (by omega)).ok hpr.2)) k_m_Mo_80 k_st_Mo_degree k_i_Mo k_co_Mo_degree (by decide +kernel) rfl ⟨Nat.le_of_ble_eq_true rfl, Nat.le_of_ble_eq_true rfl⟩ ⟨rfl, rfl⟩ ⟨Nat.zero_le _, Nat.zero_le _⟩ rfl (Nat.le_of_ble_eq_true rfl) d_Mo_linear_110 (fun r' C' H locs hp w => ?_)
    obtain ⟨rfl, rfl⟩ := hp
    rw [h46]
    refine z_le (a := dg 300 S.1) (tgt := 168) X (by omega) d_Mo_linear_113 (by decide) (fun h_113 => ?_) (fun h_113 => ?_)
    · rw [if_neg (by omega)] at hz
      subst hz
      exact K M1 H locs ls w h46 h49 hW i1 i2 i3 hF (lv_sub hl [0, 1, 2] rfl)
    · refine lv_aload_n X.1 X.2.1 d_Mo_linear_116 rfl (lv_at hl 0 rfl) ?_
      refine lv_aload_n X.1 X.2.1 d_Mo_linear_117 rfl (lv_at hl 0 rfl) ?_
      refine m_get X hT w hB 11 (by decide) k_f_Mo_46 rfl d_Mo_linear_118 ?_
      refine lv_aload_n X.1 X.2.1 d_Mo_linear_121 rfl (lv_at hl 0 rfl) ?_
      refine m_get X hT w hB 12 (by decide) k_f_Mo_49 rfl d_Mo_linear_122 ?_
      refine w_cVi (n := 2) (i := 132) (ci := 5) (As := [.ref (ad (138 + 46)), .ref (ad (138 + 47))]) (rest := []) X w hml hl.1 (c_Mo_divides hT (M := M1) (B := B) hB hI (a := 46) (b := 47) (by omega) (by omega) hW (by rw [h46]; exact i1.mono (by omega)) (by rw [h47]; exact hcd.mono (by omega)) (by rw [h47]; omega)) (by omega) (by rw [mkR_B (by decide)]; exact hB.1) rfl k_m_Mo_126 k_im_Mo_divides k_se_Mo_divides k_i_Mo k_co_Mo_divides (by decide +kernel) rfl ⟨Nat.le_of_ble_eq_true rfl, Nat.le_of_ble_eq_true rfl⟩ ⟨rfl, rfl⟩ ⟨Nat.zero_le _, Nat.zero_le _⟩ rfl (Nat.le_of_ble_eq_true rfl) d_Mo_linear_125 (fun r' C' H locs hp w => ?_)
      obtain ⟨rfl, rfl⟩ := hp
      obtain ⟨Mw1, eMw1⟩ : ∃ mm : Nat → Nat → Int, mm = va_up (va_up M1 41 (dvm pr inv (M1 46) (M1 47)).2) 42 (dvm pr inv (M1 46) (M1 47)).1 := ⟨_, rfl⟩
      rw [← eMw1] at w
      rw [h46, h47] at eMw1
      rw [h46, h47, ite_iI]
      have hW1 : WR Mw1 := by rw [eMw1]; exact (hW.up ((hq9.2.mono (by omega)).ok hpr.2)).up ((hq9.1.mono (by omega)).ok hpr.2)
      have aF : ∀ r, r ≠ 41 → r ≠ 42 → Mw1 r = M1 r := fun r r1 r2 => by rw [eMw1, va_up_ne _ _ r2, va_up_ne _ _ r1]
      have a41 : Mw1 41 = (dvm pr inv S.1 (lnS pr v)).2 := by rw [eMw1, va_up_ne _ _ (by decide), va_up_self]
      refine z_eq (a := if dg 300 (dvm pr inv S.1 (lnS pr v)).1 < 0 then 1 else 0) (tgt := 168) X (by split <;> omega) d_Mo_linear_128 (by decide) (fun h_128 => ?_) (fun h_128 => ?_)
      · rw [if_pos (by omega)] at hz
        have hn9 : ¬ dg 300 (dvm pr inv S.1 (lnS pr v)).1 < 0 := fun h => by rw [if_pos h] at h_128; exact absurd h_128 (by decide)
        rw [if_neg hn9] at hz
        subst hz
        exact K Mw1 H locs ls w (by rw [aF 46 (by decide) (by decide), h46]) (by rw [aF 49 (by decide) (by decide), h49]) hW1 i1 i2 i3 (fun r h => by rw [aF r (by omega) (by omega)]; exact hF r h) (lv_sub hl [0, 1, 2] rfl)
      · refine lv_aload_n X.1 X.2.1 d_Mo_linear_131 rfl (lv_at hl 0 rfl) ?_
        refine m_get X hT w hB 6 (by decide) k_f_Mo_31 rfl d_Mo_linear_132 ?_
        refine lv_aload_n X.1 X.2.1 d_Mo_linear_135 rfl (lv_at hl 0 rfl) ?_
        refine m_get X hT w hB 11 (by decide) k_f_Mo_46 rfl d_Mo_linear_136 ?_
        refine w_cSv (n := 2) (As := [.ref (ad (138 + 41)), .ref (ad (138 + 46))]) (rest := []) X w hml hl.1 (c_Mo_copy hT (M := Mw1) (B := B) (a := 41) (b := 46) (by omega) (by omega) hW1) k_m_Mo_84 k_st_Mo_copy k_i_Mo k_co_Mo_copy (by decide +kernel) rfl ⟨Nat.le_of_ble_eq_true rfl, Nat.le_of_ble_eq_true rfl⟩ ⟨rfl, rfl⟩ ⟨Nat.zero_le _, Nat.zero_le _⟩ rfl (Nat.le_of_ble_eq_true rfl) d_Mo_linear_139 (fun C' H locs hp w => ?_)
        subst hp
        obtain ⟨Mw2, eMw2⟩ : ∃ mm : Nat → Nat → Int, mm = va_up Mw1 46 (Mw1 41) := ⟨_, rfl⟩
        rw [← eMw2] at w
        rw [a41] at eMw2
        have hW2 : WR Mw2 := by rw [eMw2]; exact hW1.up ((hq9.2.mono (by omega)).ok hpr.2)
        have bF : ∀ r, r ≠ 41 → r ≠ 42 → r ≠ 46 → Mw2 r = M1 r := fun r r1 r2 r3 => by rw [eMw2, va_up_ne _ _ r3, aF r r1 r2]
        have b49 : Mw2 49 = S.2 := by rw [bF 49 (by decide) (by decide) (by decide), h49]
        have b47 : Mw2 47 = lnS pr v := by rw [bF 47 (by decide) (by decide) (by decide), h47]
        have hd2 := dg_ge 300 S.2
        have hpk : okp pr 25 (prd pr S.2 (lnS pr v)) := prd_ok (by omega) hpr.2 i2 hcd (by omega) (by omega)
        refine lv_aload_n X.1 X.2.1 d_Mo_linear_142 rfl (lv_at hl 0 rfl) ?_
        refine lv_aload_n X.1 X.2.1 d_Mo_linear_143 rfl (lv_at hl 0 rfl) ?_
        refine m_get X hT w hB 14 (by decide) k_f_Mo_55 rfl d_Mo_linear_144 ?_
        refine lv_aload_n X.1 X.2.1 d_Mo_linear_147 rfl (lv_at hl 0 rfl) ?_
        refine m_get X hT w hB 12 (by decide) k_f_Mo_49 rfl d_Mo_linear_148 ?_
        refine w_cVv (n := 2) (i := 132) (ci := 5) (As := [.ref (ad (138 + 49)), .ref (ad (138 + 47))]) (rest := []) X w hml hl.1 (c_Mo_times hT (M := Mw2) hB (a := 49) (b := 47) hpr (by omega) (by omega) hW2 (by rw [b49]; exact i2.mono (by omega)) (by rw [b47]; exact hcd.mono (by omega)) (by rw [b49, b47]; omega)) (by omega) (by rw [mkR_B (by decide)]; exact hB.1) rfl k_m_Mo_97 k_im_Mo_times k_se_Mo_times k_i_Mo k_co_Mo_times (by decide +kernel) rfl ⟨Nat.le_of_ble_eq_true rfl, Nat.le_of_ble_eq_true rfl⟩ ⟨rfl, rfl⟩ ⟨Nat.zero_le _, Nat.zero_le _⟩ rfl (Nat.le_of_ble_eq_true rfl) d_Mo_linear_151 (fun C' H locs hp w => ?_)
        subst hp
        obtain ⟨Mw3, eMw3⟩ : ∃ mm : Nat → Nat → Int, mm = va_up Mw2 43 (prd pr (Mw2 49) (Mw2 47)) := ⟨_, rfl⟩
        rw [← eMw3] at w
        rw [b49, b47] at eMw3
        have hW3 : WR Mw3 := by rw [eMw3]; exact hW2.up ((hpk.mono (by omega)).ok hpr.2)
        have c43 : Mw3 43 = prd pr S.2 (lnS pr v) := by rw [eMw3, va_up_self]
        refine lv_aload_n X.1 X.2.1 d_Mo_linear_154 rfl (lv_at hl 0 rfl) ?_
        refine m_get X hT w hB 8 (by decide) k_f_Mo_37 rfl d_Mo_linear_155 ?_
        refine lv_aload_n X.1 X.2.1 d_Mo_linear_158 rfl (lv_at hl 0 rfl) ?_
        refine m_get X hT w hB 14 (by decide) k_f_Mo_55 rfl d_Mo_linear_159 ?_
        refine w_cSv (n := 2) (As := [.ref (ad (138 + 43)), .ref (ad (138 + 49))]) (rest := []) X w hml hl.1 (c_Mo_copy hT (M := Mw3) (B := B) (a := 43) (b := 49) (by omega) (by omega) hW3) k_m_Mo_84 k_st_Mo_copy k_i_Mo k_co_Mo_copy (by decide +kernel) rfl ⟨Nat.le_of_ble_eq_true rfl, Nat.le_of_ble_eq_true rfl⟩ ⟨rfl, rfl⟩ ⟨Nat.zero_le _, Nat.zero_le _⟩ rfl (Nat.le_of_ble_eq_true rfl) d_Mo_linear_162 (fun C' H locs hp w => ?_)
        subst hp
        obtain ⟨Mw4, eMw4⟩ : ∃ mm : Nat → Nat → Int, mm = va_up Mw3 49 (Mw3 43) := ⟨_, rfl⟩
        rw [← eMw4] at w
        rw [c43] at eMw4
        refine lv_goto (tgt := 106) X.1 X.2.1 d_Mo_linear_165 (by decide) ?_
        rw [if_pos (by omega)] at hz
        have hn9 : dg 300 (dvm pr inv S.1 (lnS pr v)).1 < 0 := by
          by_cases h : dg 300 (dvm pr inv S.1 (lnS pr v)).1 < 0
          · exact h
          · rw [if_neg h] at h_128; exact absurd rfl h_128
        rw [if_pos hn9] at hz
        have hqd := dvq_dg hI i1 hcd (by omega) (by omega) (show dg 300 (lnS pr v) ≤ dg 300 S.1 by omega)
        rw [hde] at hqd
        have hpd := prd_dgle (show 0 < pr by omega) hpr.2 i2 hcd (by omega) (by omega)
        rw [hde] at hpd
        obtain ⟨Qv, eQ⟩ : ∃ F : Nat → Int, F = (dvm pr inv S.1 (lnS pr v)).2 := ⟨_, rfl⟩
        obtain ⟨Pv, eP⟩ : ∃ F : Nat → Int, F = prd pr S.2 (lnS pr v) := ⟨_, rfl⟩
        rw [← eQ] at hz hqd hq9 eMw2
        rw [← eP] at hz hpd hpk eMw4
        refine ih (Qv, Pv) Mw4 H locs ls w hz ?_ (by rw [eMw4, va_up_ne _ _ (by decide), eMw3, va_up_ne _ _ (by decide), eMw2, va_up_self]) (by rw [eMw4, va_up_self]) (by rw [eMw4, va_up_ne _ _ (by decide), eMw3, va_up_ne _ _ (by decide), b47]) (by rw [eMw4]; exact hW3.up ((hpk.mono (by omega)).ok hpr.2)) ?_ ?_ ?_ (fun r h => by rw [eMw4, va_up_ne _ _ (by omega), eMw3, va_up_ne _ _ (by omega), bF r (by omega) (by omega) (by omega)]; exact hF r h) (lv_sub hl [0, 1, 2] rfl)
        · show dg 300 Qv < f; omega
        · exact hq9.2
        · exact hpk
        · show dg 300 Pv + dg 300 Qv ≤ 24; omega
theorem l_Mo_lin_72 (X : Cx p s m args c b_Mo_linear RMo) (hml : c.maxLocals = 4) (hT : 213 ≤ T) (hB : moO cs ad th pr fc B) (hI : invP pr inv) {Z : P2}
    (K : ∀ (M1 : Nat → Nat → Int) (H : Heap) (locs : List Loc) (ls : Array Slot), Wd D cs A ad T s (mkR cs M1 B) H locs → M1 49 = Z.2 → WR M1 → okp pr 25 Z.2 → (∀ r, r < 41 → M1 r = M r) → lv_has ls 4 [(0, .ref (ad (132))), (1, .int (iI (t)))] → W p l e { frames := 3, cells := 0, slots := 0, locals := 71 } s m args below meth c H locs 0 0 Q (F0 m 174 ls [])) :
    ∀ (k v : Nat) (S : P2) (M1 : Nat → Nat → Int) (H : Heap) (locs : List Loc) (ls : Array Slot), (v : Int) + k = pr → Wd D cs A ad T s (mkR cs M1 B) H locs → lrL pr inv k v S = Z → M1 46 = S.1 → M1 49 = S.2 → WR M1 → okp pr 25 S.1 → okp pr 25 S.2 → dg 300 S.2 + dg 300 S.1 ≤ 24 → (∀ r, r < 41 → M1 r = M r) → lv_has ls 4 [(0, .ref (ad (132))), (1, .int (iI (t))), (3, .int (iI (v)))] → W p l e { frames := 3, cells := 0, slots := 0, locals := 71 } s m args below meth c H locs 0 0 Q (F0 m 72 ls []) := by
  have hpr := hI.1
  intro k
  induction k with
  | zero =>
    intro v S M1 H locs ls h1 w hz h46 h49 hW i1 i2 i3 hF hl
    have hz : S = Z := hz
    subst hz
    refine lv_iload_n X.1 X.2.1 d_Mo_linear_72 rfl (lv_at hl 2 rfl) ?_
    refine lv_aload_n X.1 X.2.1 d_Mo_linear_73 rfl (lv_at hl 0 rfl) ?_
    refine m_get X hT w hB 1 (by decide) k_f_Mo_13 rfl d_Mo_linear_74 ?_
    refine i_ge (a := v) (b := pr) (tgt := 174) X (by omega) (by omega) d_Mo_linear_77 (by decide) (fun h_77 => ?_) (fun h_77 => ?_)
    · exact K M1 H locs ls w h49 hW i2 hF (lv_sub hl [0, 1] rfl)
    · exact absurd h_77 (by omega)
  | succ k ih =>
    intro v S M1 H locs ls h1 w hz h46 h49 hW i1 i2 i3 hF hl
    have hz : lrL pr inv k (v + 1) (lnI pr inv (lnS pr v) 25 S) = Z := hz
    refine lv_iload_n X.1 X.2.1 d_Mo_linear_72 rfl (lv_at hl 2 rfl) ?_
    refine lv_aload_n X.1 X.2.1 d_Mo_linear_73 rfl (lv_at hl 0 rfl) ?_
    refine m_get X hT w hB 1 (by decide) k_f_Mo_13 rfl d_Mo_linear_74 ?_
    refine i_ge (a := v) (b := pr) (tgt := 174) X (by omega) (by omega) d_Mo_linear_77 (by decide) (fun h_77 => ?_) (fun h_77 => ?_)
    · exact absurd h_77 (by omega)
    · refine lv_aload_n X.1 X.2.1 d_Mo_linear_80 rfl (lv_at hl 0 rfl) ?_
      refine m_get X hT w hB 12 (by decide) k_f_Mo_49 rfl d_Mo_linear_81 ?_
      refine w_cSv (n := 1) (As := [.ref (ad (138 + 47))]) (rest := []) X w hml hl.1 (c_Mo_clear hT (M := M1) (B := B) (a := 47) (by omega) hW) k_m_Mo_69 k_st_Mo_clear k_i_Mo k_co_Mo_clear (by decide +kernel) rfl ⟨Nat.le_of_ble_eq_true rfl, Nat.le_of_ble_eq_true rfl⟩ ⟨rfl, rfl⟩ ⟨Nat.zero_le _, Nat.zero_le _⟩ rfl (Nat.le_of_ble_eq_true rfl) d_Mo_linear_84 (fun C' H locs hp w => ?_)
      subst hp
      obtain ⟨Mw1, eMw1⟩ : ∃ mm : Nat → Nat → Int, mm = va_up M1 47 (fun _ => 0) := ⟨_, rfl⟩
      rw [← eMw1] at w
      refine lv_aload_n X.1 X.2.1 d_Mo_linear_87 rfl (lv_at hl 0 rfl) ?_
      refine m_get X hT w hB 12 (by decide) k_f_Mo_49 rfl d_Mo_linear_88 ?_
      refine lv_iconst (v := iI (1)) X.1 X.2.1 d_Mo_linear_91 (by decide) ?_
      refine lv_iconst (v := iI (1)) X.1 X.2.1 d_Mo_linear_92 (by decide) ?_
      refine m_st (r := 47) (z := 1) (v := 1) X hT w (by omega) (1) (by omega) (by omega) d_Mo_linear_93 (fun H locs w => ?_)
      obtain ⟨Mw2, eMw2⟩ : ∃ mm : Nat → Nat → Int, mm = va_up Mw1 47 (va_up (Mw1 47) 1 (1)) := ⟨_, rfl⟩
      rw [← eMw2] at w
      refine lv_aload_n X.1 X.2.1 d_Mo_linear_94 rfl (lv_at hl 0 rfl) ?_
      refine m_get X hT w hB 12 (by decide) k_f_Mo_49 rfl d_Mo_linear_95 ?_
      refine lv_iconst (v := iI (0)) X.1 X.2.1 d_Mo_linear_98 (by decide) ?_
      refine lv_aload_n X.1 X.2.1 d_Mo_linear_99 rfl (lv_at hl 0 rfl) ?_
      refine lv_iload_n X.1 X.2.1 d_Mo_linear_100 rfl (lv_at hl 2 rfl) ?_
      refine i_neg (a := v) X d_Mo_linear_101 ?_
      refine w_cVi (n := 1) (i := 132) (ci := 5) (As := [.int (iI (- v))]) (rest := [.int (iI (0)), .ref (ad (138 + 47))]) X w hml hl.1 (c_Mo_inField hT (M := Mw2) hB (v := - v) (by omega) hpr) (by omega) (by rw [mkR_B (by decide)]; exact hB.1) rfl k_m_Mo_77 k_im_Mo_inField k_se_Mo_inField k_i_Mo k_co_Mo_inField (by decide +kernel) rfl ⟨Nat.le_of_ble_eq_true rfl, Nat.le_of_ble_eq_true rfl⟩ ⟨rfl, rfl⟩ ⟨Nat.zero_le _, Nat.zero_le _⟩ rfl (Nat.le_of_ble_eq_true rfl) d_Mo_linear_102 (fun r' C' H locs hp w => ?_)
      obtain ⟨rfl, rfl⟩ := hp
      refine m_st (r := 47) (z := 0) (v := (- (v : Int)) % pr) X hT w (by omega) (0) (by omega) (by omega) d_Mo_linear_105 (fun H locs w => ?_)
      obtain ⟨Mw3, eMw3⟩ : ∃ mm : Nat → Nat → Int, mm = va_up Mw2 47 (va_up (Mw2 47) 0 ((- (v : Int)) % pr)) := ⟨_, rfl⟩
      rw [← eMw3] at w
      have e47 : Mw3 47 = lnS pr v := by
        rw [eMw3, va_up_self, eMw2, va_up_self, eMw1, va_up_self]
        have e9 : (- (v : Int)) % pr = (pr - v) % pr := by rw [show pr - (v : Int) = - (v : Int) + pr by omega, Int.add_emod_right]
        rw [e9]
        unfold lnS
        congr 1
      have eF : ∀ r, r ≠ 47 → Mw3 r = M1 r := fun r h => by rw [eMw3, va_up_ne _ _ h, eMw2, va_up_ne _ _ h, eMw1, va_up_ne _ _ h]
      have hW3 : WR Mw3 := by
        have e9 : Mw3 = va_up M1 47 (lnS pr v) := by
          funext r
          by_cases e9 : r = 47
          · rw [e9, va_up_self, e47]
          · rw [va_up_ne _ _ e9, eF r e9]
        rw [e9]
        exact hW.up (((lnS_okR (by omega) v).mono (by omega)).ok hpr.2)
      have hds := (i1.ok hpr.2).dlt 300
      refine l_Mo_lin_106 (M := M) (t := t) (v := v) (Z := lnI pr inv (lnS pr v) 25 S) X hml hT hB hI (fun M4 H locs ls w g1 g2 hW4 j1 j2 j3 gF hl => ?_) 25 S Mw3 H locs ls w rfl (by omega) (by rw [eF 46 (by decide), h46]) (by rw [eF 49 (by decide), h49]) e47 hW3 i1 i2 i3 (fun r h => by rw [eF r (by omega)]; exact hF r h) (lv_sub hl [0, 1, 2] rfl)
      refine i_inc (k := 2) (x := v) (lv' := [(3, .int (iI (v + 1))), (0, .ref (ad (132))), (1, .int (iI (t)))]) X d_Mo_linear_168 hl rfl (by decide) rfl (fun ls hl => ?_)
      refine lv_goto (tgt := 72) X.1 X.2.1 d_Mo_linear_171 (by decide) ?_
      exact ih (v + 1) _ M4 H locs ls (by omega) w hz g1 g2 hW4 j1 j2 j3 gF (lv_sub hl [1, 2, 0] rfl)
end MLI
theorem c_Mo_linear {l : Launch} {D : va_G} {cs : Nat → ClassId} {A : Nat → Prop} {ad : Nat → Nat} {T : Nat} (hT : 213 ≤ T) {M : Nat → Nat → Int} {B : Nat → va_E} {th pr fc : Int} (hB : moO cs ad th pr fc B) {inv : Nat → Int} (hI : invP pr inv) {t a : Int} (ht : rg t) (ha : rg a) (hW : WR M) (hok : ∀ r, r < 16 → okp pr 25 (M r)) : Ci l y_Mo_linear ws_Mo_linear { frames := 3, cells := 0, slots := 0, locals := 71 } D cs A ad T [.ref (ad (132)), .int (iI (t)), .int (iI (a))] (mkR cs M B) (fun x C' => ((outF t 0 15 = 1 ∨ outF a 0 15 = 1) ∧ x = iI 0 ∧ C' = mkR cs M (mB ad B 1 pr fc)) ∨ (((0 ≤ t ∧ t ≤ 15) ∧ (0 ≤ a ∧ a ≤ 15)) ∧ dg 300 (M a.toNat) < 0 ∧ x = iI 0 ∧ C' = mkR cs M (mB ad B 2 pr fc)) ∨ (((0 ≤ t ∧ t ≤ 15) ∧ (0 ≤ a ∧ a ≤ 15)) ∧ 0 ≤ dg 300 (M a.toNat) ∧ x = iI (dg 300 (lrL pr inv pr.toNat 0 (M a.toNat, oneP)).2) ∧ okp pr 25 (lrL pr inv pr.toNat 0 (M a.toNat, oneP)).2 ∧ ∃ M1, C' = mkR cs M1 (mB ad B 0 pr fc) ∧ WR M1 ∧ ∀ r, r < 41 → M1 r = va_up M t.toNat (lrL pr inv pr.toNat 0 (M a.toNat, oneP)).2 r)) := by
  refine w_bodyI (by decide) (Nat.le_of_ble_eq_true rfl) ?_
  intro p e s m below meth c X hr hlk hml w ls hl
  have hl : lv_has ls 4 [(0, .ref (ad (132))), (1, .int (iI (t))), (2, .int (iI (a)))] := hl
  have hpr := hI.1
  have hB0 := hB
  refine lv_aload_n X.1 X.2.1 d_Mo_linear_0 rfl (lv_at hl 0 rfl) ?_
  refine lv_iload_n X.1 X.2.1 d_Mo_linear_1 rfl (lv_at hl 1 rfl) ?_
  refine w_cVi (n := 1) (i := 132) (ci := 5) (As := [.int (iI (t))]) (rest := []) X w hml hl.1 (c_Mo_none hT (M := M) hB (x := t) (by omega)) (by omega) (by rw [mkR_B (by decide)]; exact hB.1) rfl k_m_Mo_73 k_im_Mo_none k_se_Mo_none k_i_Mo k_co_Mo_none (by decide +kernel) rfl ⟨Nat.le_of_ble_eq_true rfl, Nat.le_of_ble_eq_true rfl⟩ ⟨rfl, rfl⟩ ⟨Nat.zero_le _, Nat.zero_le _⟩ rfl (Nat.le_of_ble_eq_true rfl) d_Mo_linear_2 (fun r' C' H locs hp w => ?_)
  obtain ⟨rfl, rfl⟩ := hp
  have hB := hB0.set (outF (t) 0 15) pr fc
  refine z_ne (a := outF (t) 0 15) (tgt := 41) X (outF_rg _ _ _) d_Mo_linear_5 (by decide) (fun h_5 => ?_) (fun h_5 => ?_)
  · refine lv_iconst (v := iI (0)) X.1 X.2.1 d_Mo_linear_41 (by decide) ?_
    obtain ⟨k1, k2⟩ := outF_1 h_5
    exact w_iret X hr hlk w (Or.inl ⟨Or.inl k1, rfl, by rw [k1]⟩) d_Mo_linear_42
  · have k0 := outF_0 h_5
    refine lv_aload_n X.1 X.2.1 d_Mo_linear_8 rfl (lv_at hl 0 rfl) ?_
    refine lv_iload_n X.1 X.2.1 d_Mo_linear_9 rfl (lv_at hl 2 rfl) ?_
    refine w_cVi (n := 1) (i := 132) (ci := 5) (As := [.int (iI (a))]) (rest := []) X w hml hl.1 (c_Mo_none hT (M := M) hB (x := a) (by omega)) (by omega) (by rw [mkR_B (by decide)]; exact hB.1) rfl k_m_Mo_73 k_im_Mo_none k_se_Mo_none k_i_Mo k_co_Mo_none (by decide +kernel) rfl ⟨Nat.le_of_ble_eq_true rfl, Nat.le_of_ble_eq_true rfl⟩ ⟨rfl, rfl⟩ ⟨Nat.zero_le _, Nat.zero_le _⟩ rfl (Nat.le_of_ble_eq_true rfl) d_Mo_linear_10 (fun r' C' H locs hp w => ?_)
    obtain ⟨rfl, rfl⟩ := hp
    rw [mB_mB] at w
    have hB := hB0.set (outF (a) 0 15) pr fc
    refine z_ne (a := outF (a) 0 15) (tgt := 41) X (outF_rg _ _ _) d_Mo_linear_13 (by decide) (fun h_13 => ?_) (fun h_13 => ?_)
    · refine lv_iconst (v := iI (0)) X.1 X.2.1 d_Mo_linear_41 (by decide) ?_
      obtain ⟨k1, k2⟩ := outF_1 h_13
      exact w_iret X hr hlk w (Or.inl ⟨Or.inr k1, rfl, by rw [k1]⟩) d_Mo_linear_42
    · have k0a := outF_0 h_13
      have ha9 := hok a.toNat (by omega)
      have hda := (ha9.ok hpr.2).dlt 300
      have hda0 := dg_ge 300 (M a.toNat)
      refine lv_aload_n X.1 X.2.1 d_Mo_linear_16 rfl (lv_at hl 0 rfl) ?_
      refine lv_iconst (v := iI (2)) X.1 X.2.1 d_Mo_linear_17 (by decide) ?_
      refine lv_aload_n X.1 X.2.1 d_Mo_linear_18 rfl (lv_at hl 0 rfl) ?_
      refine m_get X hT w hB 2 (by decide) k_f_Mo_18 rfl d_Mo_linear_19 ?_
      refine lv_iload_n X.1 X.2.1 d_Mo_linear_22 rfl (lv_at hl 2 rfl) ?_
      refine m_aal (i := 133) (n := 16) (pl := fun i => 138 + i) (z := a) X w (by omega) (by rw [mkR_B (by decide)]; exact hB.2.1) (a.toNat) (by omega) (by omega) (by decide) d_Mo_linear_23 ?_
      refine w_cSi (n := 1) (As := [.ref (ad (138 + a.toNat))]) (rest := [.int (iI (2)), .ref (ad (132))]) X w hml hl.1 (c_Mo_degree hT (M := M) (a := a.toNat) (by omega) (hW _ (by omega))) k_m_Mo_80 k_st_Mo_degree k_i_Mo k_co_Mo_degree (by decide +kernel) rfl ⟨Nat.le_of_ble_eq_true rfl, Nat.le_of_ble_eq_true rfl⟩ ⟨rfl, rfl⟩ ⟨Nat.zero_le _, Nat.zero_le _⟩ rfl (Nat.le_of_ble_eq_true rfl) d_Mo_linear_24 (fun r' C' H locs hp w => ?_)
      obtain ⟨rfl, rfl⟩ := hp
      refine z_ge (a := dg 300 (M a.toNat)) (tgt := 34) X (by omega) d_Mo_linear_27 (by decide) (fun h_27 => ?_) (fun h_27 => ?_)
      · refine lv_iconst (v := iI (0)) X.1 X.2.1 d_Mo_linear_34 (by decide) ?_
        refine w_cVi (n := 2) (i := 132) (ci := 5) (As := [.int (iI (2)), .int (iI (0))]) (rest := []) X w hml hl.1 (c_Mo_refuse hT (M := M) hB (k := 2) (b := 0) (by omega)) (by omega) (by rw [mkR_B (by decide)]; exact hB.1) rfl k_m_Mo_61 k_im_Mo_refuse k_se_Mo_refuse k_i_Mo k_co_Mo_refuse (by decide +kernel) rfl ⟨Nat.le_of_ble_eq_true rfl, Nat.le_of_ble_eq_true rfl⟩ ⟨rfl, rfl⟩ ⟨Nat.zero_le _, Nat.zero_le _⟩ rfl (Nat.le_of_ble_eq_true rfl) d_Mo_linear_35 (fun r' C' H locs hp w => ?_)
        obtain ⟨rfl, rfl⟩ := hp
        rw [mB_mB] at w
        have hB := hB0.set (if (0 : Int) = 0 then (outF a 0 15) else 2) pr fc
        have hth : (if (0 : Int) = 0 then (outF a 0 15) else 2) = 0 := by rw [if_pos rfl]; exact h_13
        rw [hth] at w hB
        refine z_eq (a := 0) (tgt := 43) X (by omega) d_Mo_linear_38 (by decide) (fun h_38 => ?_) (fun h_38 => ?_)
        · refine lv_aload_n X.1 X.2.1 d_Mo_linear_43 rfl (lv_at hl 0 rfl) ?_
          refine m_get X hT w hB 2 (by decide) k_f_Mo_18 rfl d_Mo_linear_44 ?_
          refine lv_iload_n X.1 X.2.1 d_Mo_linear_47 rfl (lv_at hl 2 rfl) ?_
          refine m_aal (i := 133) (n := 16) (pl := fun i => 138 + i) (z := a) X w (by omega) (by rw [mkR_B (by decide)]; exact hB.2.1) (a.toNat) (by omega) (by omega) (by decide) d_Mo_linear_48 ?_
          refine lv_aload_n X.1 X.2.1 d_Mo_linear_49 rfl (lv_at hl 0 rfl) ?_
          refine m_get X hT w hB 11 (by decide) k_f_Mo_46 rfl d_Mo_linear_50 ?_
          refine w_cSv (n := 2) (As := [.ref (ad (138 + a.toNat)), .ref (ad (138 + 46))]) (rest := []) X w hml hl.1 (c_Mo_copy hT (M := M) (a := a.toNat) (b := 46) (by omega) (by omega) hW) k_m_Mo_84 k_st_Mo_copy k_i_Mo k_co_Mo_copy (by decide +kernel) rfl ⟨Nat.le_of_ble_eq_true rfl, Nat.le_of_ble_eq_true rfl⟩ ⟨rfl, rfl⟩ ⟨Nat.zero_le _, Nat.zero_le _⟩ rfl (Nat.le_of_ble_eq_true rfl) d_Mo_linear_53 (fun C' H locs hp w => ?_)
          subst hp
          obtain ⟨Mw1, eMw1⟩ : ∃ mm : Nat → Nat → Int, mm = va_up M 46 (M a.toNat) := ⟨_, rfl⟩
          rw [← eMw1] at w
          have hW1 : WR Mw1 := by rw [eMw1]; exact hW.up (hW _ (by omega))
          refine lv_aload_n X.1 X.2.1 d_Mo_linear_56 rfl (lv_at hl 0 rfl) ?_
          refine m_get X hT w hB 14 (by decide) k_f_Mo_55 rfl d_Mo_linear_57 ?_
          refine w_cSv (n := 1) (As := [.ref (ad (138 + 49))]) (rest := []) X w hml hl.1 (c_Mo_clear hT (M := Mw1) (a := 49) (by omega) hW1) k_m_Mo_69 k_st_Mo_clear k_i_Mo k_co_Mo_clear (by decide +kernel) rfl ⟨Nat.le_of_ble_eq_true rfl, Nat.le_of_ble_eq_true rfl⟩ ⟨rfl, rfl⟩ ⟨Nat.zero_le _, Nat.zero_le _⟩ rfl (Nat.le_of_ble_eq_true rfl) d_Mo_linear_60 (fun C' H locs hp w => ?_)
          subst hp
          obtain ⟨Mw2, eMw2⟩ : ∃ mm : Nat → Nat → Int, mm = va_up Mw1 49 (fun _ => 0) := ⟨_, rfl⟩
          rw [← eMw2] at w
          refine lv_aload_n X.1 X.2.1 d_Mo_linear_63 rfl (lv_at hl 0 rfl) ?_
          refine m_get X hT w hB 14 (by decide) k_f_Mo_55 rfl d_Mo_linear_64 ?_
          refine lv_iconst (v := iI (0)) X.1 X.2.1 d_Mo_linear_67 (by decide) ?_
          refine lv_iconst (v := iI (1)) X.1 X.2.1 d_Mo_linear_68 (by decide) ?_
          refine m_st (r := 49) (z := 0) (v := 1) X hT w (by omega) (0) (by omega) (by omega) d_Mo_linear_69 (fun H locs w => ?_)
          obtain ⟨Mw3, eMw3⟩ : ∃ mm : Nat → Nat → Int, mm = va_up Mw2 49 (va_up (Mw2 49) 0 (1)) := ⟨_, rfl⟩
          rw [← eMw3] at w
          refine lv_iconst (v := iI (0)) X.1 X.2.1 d_Mo_linear_70 (by decide) ?_
          refine lv_istore_n (lv' := [(3, .int (iI (0))), (0, .ref (ad (132))), (1, .int (iI (t))), (2, .int (iI (a)))]) X.1 X.2.1 d_Mo_linear_71 rfl hl (by decide) rfl (fun ls hl => ?_)
          have k49 : Mw3 49 = oneP := by
            rw [eMw3, va_up_self, eMw2, va_up_self]
            funext x
            unfold va_up oneP
            rfl
          have eF : ∀ r, r ≠ 46 → r ≠ 49 → Mw3 r = M r := fun r r1 r2 => by rw [eMw3, va_up_ne _ _ r2, eMw2, va_up_ne _ _ r2, eMw1, va_up_ne _ _ r1]
          have hone : okp pr 25 oneP := oneP_ok (by omega) (by omega)
          have hone0 : dg 300 oneP = 0 := dg_eq (by omega) (by omega) (fun x hx => by unfold oneP; rw [if_pos (by omega)]; decide) (fun x hx _ => by unfold oneP; rw [if_neg (by omega)])
          have k46 : Mw3 46 = M a.toNat := by rw [eMw3, va_up_ne _ _ (by decide), eMw2, va_up_ne _ _ (by decide), eMw1, va_up_self]
          have hW3 : WR Mw3 := by
            have hW2 : WR Mw2 := by rw [eMw2]; exact hW1.up (ok_0 _)
            have e4 : Mw3 = va_up Mw2 49 oneP := by
              funext r
              by_cases e9 : r = 49
              · rw [e9, k49, va_up_self]
              · rw [eMw3, va_up_ne _ _ e9, va_up_ne _ _ e9]
            rw [e4]
            exact hW2.up ((hone.mono (by omega)).ok hpr.2)
          refine l_Mo_lin_72 (M := M) (t := t) (Z := lrL pr inv pr.toNat 0 (M a.toNat, oneP)) X hml hT hB hI (fun M4 H locs ls w g1 hW4 g2 gF hl => ?_) pr.toNat 0 (M a.toNat, oneP) Mw3 H locs ls (by omega) w rfl k46 k49 hW3 ha9 hone (by show dg 300 oneP + dg 300 (M a.toNat) ≤ 24; omega) (fun r h => eF r (by omega) (by omega)) (lv_sub hl [1, 2, 0] rfl)
          refine lv_aload_n X.1 X.2.1 d_Mo_linear_174 rfl (lv_at hl 0 rfl) ?_
          refine m_get X hT w hB 14 (by decide) k_f_Mo_55 rfl d_Mo_linear_175 ?_
          refine lv_aload_n X.1 X.2.1 d_Mo_linear_178 rfl (lv_at hl 0 rfl) ?_
          refine m_get X hT w hB 2 (by decide) k_f_Mo_18 rfl d_Mo_linear_179 ?_
          refine lv_iload_n X.1 X.2.1 d_Mo_linear_182 rfl (lv_at hl 1 rfl) ?_
          refine m_aal (i := 133) (n := 16) (pl := fun i => 138 + i) (z := t) X w (by omega) (by rw [mkR_B (by decide)]; exact hB.2.1) (t.toNat) (by omega) (by omega) (by decide) d_Mo_linear_183 ?_
          refine w_cSv (n := 2) (As := [.ref (ad (138 + 49)), .ref (ad (138 + t.toNat))]) (rest := []) X w hml hl.1 (c_Mo_copy hT (M := M4) (a := 49) (b := t.toNat) (by omega) (by omega) hW4) k_m_Mo_84 k_st_Mo_copy k_i_Mo k_co_Mo_copy (by decide +kernel) rfl ⟨Nat.le_of_ble_eq_true rfl, Nat.le_of_ble_eq_true rfl⟩ ⟨rfl, rfl⟩ ⟨Nat.zero_le _, Nat.zero_le _⟩ rfl (Nat.le_of_ble_eq_true rfl) d_Mo_linear_184 (fun C' H locs hp w => ?_)
          subst hp
          obtain ⟨Mx1, eMx1⟩ : ∃ mm : Nat → Nat → Int, mm = va_up M4 t.toNat (M4 49) := ⟨_, rfl⟩
          rw [← eMx1] at w
          rw [g1] at eMx1
          have k49 : Mx1 49 = (lrL pr inv pr.toNat 0 (M a.toNat, oneP)).2 := by rw [eMx1, va_up_ne _ _ (by omega)]; exact g1
          refine lv_aload_n X.1 X.2.1 d_Mo_linear_187 rfl (lv_at hl 0 rfl) ?_
          refine m_get X hT w hB 14 (by decide) k_f_Mo_55 rfl d_Mo_linear_188 ?_
          refine w_cSi (n := 1) (As := [.ref (ad (138 + 49))]) (rest := []) X w hml hl.1 (c_Mo_degree hT (M := Mx1) (a := 49) (by omega) (by rw [k49]; exact (g2.mono (by omega)).ok hpr.2)) k_m_Mo_80 k_st_Mo_degree k_i_Mo k_co_Mo_degree (by decide +kernel) rfl ⟨Nat.le_of_ble_eq_true rfl, Nat.le_of_ble_eq_true rfl⟩ ⟨rfl, rfl⟩ ⟨Nat.zero_le _, Nat.zero_le _⟩ rfl (Nat.le_of_ble_eq_true rfl) d_Mo_linear_191 (fun r' C' H locs hp w => ?_)
          obtain ⟨rfl, rfl⟩ := hp
          rw [k49]
          refine w_iret X hr hlk w (Or.inr (Or.inr ⟨⟨k0, k0a⟩, by omega, rfl, g2, Mx1, rfl, by rw [eMx1]; exact hW4.up ((g2.mono (by omega)).ok hpr.2), fun r hr9 => ?_⟩)) d_Mo_linear_194
          rw [eMx1]
          by_cases e9 : r = t.toNat
          · rw [e9, va_up_self, va_up_self]
          · rw [va_up_ne _ _ e9, va_up_ne _ _ e9]; exact gF r hr9
        · exact absurd h_38 (by omega)
      · refine lv_iconst (v := iI (1)) X.1 X.2.1 d_Mo_linear_30 (by decide) ?_
        refine lv_goto (tgt := 35) X.1 X.2.1 d_Mo_linear_31 (by decide) ?_
        refine w_cVi (n := 2) (i := 132) (ci := 5) (As := [.int (iI (2)), .int (iI (1))]) (rest := []) X w hml hl.1 (c_Mo_refuse hT (M := M) hB (k := 2) (b := 1) (by omega)) (by omega) (by rw [mkR_B (by decide)]; exact hB.1) rfl k_m_Mo_61 k_im_Mo_refuse k_se_Mo_refuse k_i_Mo k_co_Mo_refuse (by decide +kernel) rfl ⟨Nat.le_of_ble_eq_true rfl, Nat.le_of_ble_eq_true rfl⟩ ⟨rfl, rfl⟩ ⟨Nat.zero_le _, Nat.zero_le _⟩ rfl (Nat.le_of_ble_eq_true rfl) d_Mo_linear_35 (fun r' C' H locs hp w => ?_)
        obtain ⟨rfl, rfl⟩ := hp
        rw [mB_mB] at w
        have hB := hB0.set (if (1 : Int) = 0 then (outF a 0 15) else 2) pr fc
        refine z_eq (a := 1) (tgt := 43) X (by omega) d_Mo_linear_38 (by decide) (fun h_38 => ?_) (fun h_38 => ?_)
        · exact absurd h_38 (by omega)
        · refine lv_iconst (v := iI (0)) X.1 X.2.1 d_Mo_linear_41 (by decide) ?_
          exact w_iret X hr hlk w (Or.inr (Or.inl ⟨⟨k0, k0a⟩, by omega, rfl, by rw [if_neg (by decide)]⟩)) d_Mo_linear_42
