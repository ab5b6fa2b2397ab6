def facL (pr : Int) (inv : Nat → Int) : Nat → Nat → WK → WK
  | 0, _, s => s
  | n + 1, e, s => if 2 * (e : Int) ≤ dg 300 s.1 then facL pr inv n (e + 1) (allL pr inv e (pr.toNat ^ e) 0 s) else s
def facE (s : WK) : KS := if 0 < dg 300 s.1 then noteK s.2 s.1 1 else s.2
def facR (pr : Int) (inv : Nat → Int) (K : KS) (A : Nat → Int) : KS := facE (facL pr inv 12 1 (mon pr inv A, (0, K.2)))
theorem limF_rg (q : Int) : -1 ≤ limF q ∧ limF q ≤ 24 := by unfold limF; repeat' (first | omega | split)
theorem mB_5 {ad : Nat → Nat} {B : Nat → va_E} {t q f : Int} {x : va_E} (h : B 135 = x) : mB ad B t q f 135 = x := by show va_up B 132 _ 135 = _; rw [va_up_ne _ _ (show (135 : Nat) ≠ 132 by decide)]; exact h
theorem mon_dgI {pr : Int} {inv : Nat → Int} (hI : invP pr inv) {n : Nat} {F : Nat → Int} (hF : okp pr n F) (hn : n ≤ 300) : dg 300 (mon pr inv F) = dg 300 F := by
  unfold mon
  split
  · rfl
  · next h => exact mon_dg hF hn (fun h0 => by have := (hI.inv (hF.lead h0)).2; rw [this]; decide)
section MFA
variable {p : Program} {l : Launch} {e : Env} {s : State} {m : MethodId} {args : Array Value} {below : List Frame} {meth : Method} {c : Code} {H : Heap} {locs : List Loc} {Q : State → Prop} {D : va_G} {cs : Nat → ClassId} {A : Nat → Prop} {ad : Nat → Nat} {T : Nat} {B : Nat → va_E} {th pr fc : Int}
variable {M : Nat → Nat → Int} {inv : Nat → Int}
theorem l_Mo_factor {post : Int32 → (Nat → va_E) → Prop} (X : Cx p s m args c b_Mo_factor RMo) (hr : meth.sig.returnType = some .int) (hlk : meth.locks = false) (hml : c.maxLocals = 3) (hT : 213 ≤ T) (hI : invP pr inv) {Z : KS} (hp : ∀ (x : Int32) (C' : Nat → va_E), (∃ M1 B1, x = iI ((Z.1 : Nat) : Int) ∧ C' = mkR cs M1 B1 ∧ moK cs ad th pr Z M1 B1 ∧ WR M1 ∧ (∀ r, r < 16 → M1 r = M r) ∧ (∀ i, i ≠ 132 → i ≠ 135 → B1 i = B i)) → post x C') :
    ∀ (n e0 : Nat) (S : WK) (M1 : Nat → Nat → Int) (B1 : Nat → va_E) (H : Heap) (locs : List Loc) (ls : Array Slot), e0 + n = 13 → 1 ≤ e0 → Wd D cs A ad T s (mkR cs M1 B1) H locs → facE (facL pr inv n e0 S) = Z → M1 46 = S.1 → moK cs ad th pr S.2 M1 B1 → WR M1 → okp pr 25 S.1 → (S.2.1 : Int) + dg 300 S.1 ≤ 24 → (∀ r, r < 16 → M1 r = M r) → (∀ i, i ≠ 132 → i ≠ 135 → B1 i = B i) → lv_has ls 3 [(0, .ref (ad (132))), (2, .int (iI (e0)))] → W p l e { frames := 4, cells := 0, slots := 0, locals := 94 } s m args below meth c H locs 0 0 (MQ below (va_Qi post (QW D cs ad T) A) args s 0 0 A) (F0 m 82 ls []) := by
  have hpr := hI.1
  have kk : ∀ (S : WK) (M1 : Nat → Nat → Int) (B1 : Nat → va_E) (H : Heap) (locs : List Loc) (ls : Array Slot), Wd D cs A ad T s (mkR cs M1 B1) H locs → facE S = Z → M1 46 = S.1 → moK cs ad th pr S.2 M1 B1 → WR M1 → okp pr 25 S.1 → (S.2.1 : Int) + dg 300 S.1 ≤ 24 → (∀ r, r < 16 → M1 r = M r) → (∀ i, i ≠ 132 → i ≠ 135 → B1 i = B i) → lv_has ls 3 [(0, .ref (ad 132))] → W p l e { frames := 4, cells := 0, slots := 0, locals := 94 } s m args below meth c H locs 0 0 (MQ below (va_Qi post (QW D cs ad T) A) args s 0 0 A) (F0 m 106 ls []) := by
    intro S M1 B1 H locs ls w hz h46 hK hW hS hs f1 f2 hl
    have hB := hK.1
    have hds := dg_ge 300 S.1
    have hdl := (hS.ok hpr.2).dlt 300
    refine lv_aload_n X.1 X.2.1 d_Mo_factor_106 rfl (lv_at hl 0 rfl) ?_
    refine m_get X hT w hB 11 (by decide) k_f_Mo_46 rfl d_Mo_factor_107 ?_
    refine w_cSi (n := 1) (As := [.ref (ad (138 + 46))]) (rest := []) X w hml hl.1 (c_Mo_degree hT (M := M1) (B := B1) (a := 46) (by omega) (by rw [h46]; exact (hS.mono (by omega)).ok hpr.2)) k_m_Mo_80 k_st_Mo_degree k_i_Mo k_co_Mo_degree (by decide +kernel) rfl ⟨Nat.le_of_ble_eq_true rfl, Nat.le_of_ble_eq_true rfl⟩ ⟨rfl, rfl⟩ ⟨Nat.zero_le _, Nat.zero_le _⟩ rfl (Nat.le_of_ble_eq_true rfl) d_Mo_factor_110 (fun r' C' H locs hp1 w => ?_)
    obtain ⟨rfl, rfl⟩ := hp1
    rw [h46]
    refine z_le (a := dg 300 S.1) (tgt := 125) X (by omega) d_Mo_factor_113 (by decide) (fun h_113 => ?_) (fun h_113 => ?_)
    · refine lv_aload_n X.1 X.2.1 d_Mo_factor_125 rfl (lv_at hl 0 rfl) ?_
      refine m_get X hT w hB 5 (by decide) k_f_Mo_28 rfl d_Mo_factor_126 ?_
      have hz : S.2 = Z := by rw [← hz]; unfold facE; rw [if_neg (by omega)]
      subst hz
      exact w_iret X hr hlk w (hp _ _ ⟨M1, B1, rfl, rfl, hK, hW, f1, f2⟩) d_Mo_factor_129
    · refine lv_aload_n X.1 X.2.1 d_Mo_factor_116 rfl (lv_at hl 0 rfl) ?_
      refine lv_aload_n X.1 X.2.1 d_Mo_factor_117 rfl (lv_at hl 0 rfl) ?_
      refine m_get X hT w hB 11 (by decide) k_f_Mo_46 rfl d_Mo_factor_118 ?_
      refine lv_iconst (v := iI (1)) X.1 X.2.1 d_Mo_factor_121 (by decide) ?_
      refine w_cVv (n := 2) (i := 132) (ci := 5) (As := [.ref (ad (138 + 46)), .int (iI (1))]) (rest := []) X w hml hl.1 (c_Mo_note hT (M := M1) (B := B1) hK (a := 46) (n := 1) (by omega) (by omega) hW) (by omega) (by rw [mkR_B (by decide)]; exact hB.1) rfl k_m_Mo_115 k_im_Mo_note k_se_Mo_note k_i_Mo k_co_Mo_note (by decide +kernel) rfl ⟨Nat.le_of_ble_eq_true rfl, Nat.le_of_ble_eq_true rfl⟩ ⟨rfl, rfl⟩ ⟨Nat.zero_le _, Nat.zero_le _⟩ rfl (Nat.le_of_ble_eq_true rfl) d_Mo_factor_122 (fun C' H locs hp1 w => ?_)
      obtain ⟨M3, B3, rfl, hK3, hW3, g1, g2⟩ := hp1
      rw [h46] at hK3
      have hB := hK3.1
      refine lv_aload_n X.1 X.2.1 d_Mo_factor_125 rfl (lv_at hl 0 rfl) ?_
      refine m_get X hT w hB 5 (by decide) k_f_Mo_28 rfl d_Mo_factor_126 ?_
      have hz : noteK S.2 S.1 1 = Z := by rw [← hz]; unfold facE; rw [if_pos (by omega)]
      subst hz
      exact w_iret X hr hlk w (hp _ _ ⟨M3, B3, rfl, rfl, hK3, hW3, fun r hr9 => by rw [g1 r (by omega)]; exact f1 r hr9, fun i i1 i2 => by rw [g2 i i1 i2]; exact f2 i i1 i2⟩) d_Mo_factor_129
  intro n
  induction n with
  | zero =>
    intro e0 S M1 B1 H locs ls h1 h0 w hz h46 hK hW hS hs f1 f2 hl
    have hz : facE S = Z := hz
    have hB := hK.1
    have hds := dg_ge 300 S.1
    have hdl := (hS.ok hpr.2).dlt 300
    refine lv_iconst (v := iI (2)) X.1 X.2.1 d_Mo_factor_82 (by decide) ?_
    refine lv_iload_n X.1 X.2.1 d_Mo_factor_83 rfl (lv_at hl 1 rfl) ?_
    refine i_mul (a := 2) (b := e0) X d_Mo_factor_84 ?_
    refine lv_aload_n X.1 X.2.1 d_Mo_factor_85 rfl (lv_at hl 0 rfl) ?_
    refine m_get X hT w hB 11 (by decide) k_f_Mo_46 rfl d_Mo_factor_86 ?_
    refine w_cSi (n := 1) (As := [.ref (ad (138 + 46))]) (rest := [.int (iI (2 * e0))]) X w hml hl.1 (c_Mo_degree hT (M := M1) (B := B1) (a := 46) (by omega) (by rw [h46]; exact (hS.mono (by omega)).ok hpr.2)) k_m_Mo_80 k_st_Mo_degree k_i_Mo k_co_Mo_degree (by decide +kernel) rfl ⟨Nat.le_of_ble_eq_true rfl, Nat.le_of_ble_eq_true rfl⟩ ⟨rfl, rfl⟩ ⟨Nat.zero_le _, Nat.zero_le _⟩ rfl (Nat.le_of_ble_eq_true rfl) d_Mo_factor_89 (fun r' C' H locs hp1 w => ?_)
    obtain ⟨rfl, rfl⟩ := hp1
    rw [h46]
    refine i_gt (a := 2 * e0) (b := dg 300 S.1) (tgt := 106) X (by omega) (by omega) d_Mo_factor_92 (by decide) (fun h_92 => ?_) (fun h_92 => ?_)
    · exact kk S M1 B1 H locs ls w hz h46 hK hW hS hs f1 f2 (lv_sub hl [0] rfl)
    · exact absurd h_92 (by omega)
  | succ n ih =>
    intro e0 S M1 B1 H locs ls h1 h0 w hz h46 hK hW hS hs f1 f2 hl
    have hz : facE (if 2 * (e0 : Int) ≤ dg 300 S.1 then facL pr inv n (e0 + 1) (allL pr inv e0 (pr.toNat ^ e0) 0 S) else S) = Z := hz
    have hB := hK.1
    have hds := dg_ge 300 S.1
    have hdl := (hS.ok hpr.2).dlt 300
    refine lv_iconst (v := iI (2)) X.1 X.2.1 d_Mo_factor_82 (by decide) ?_
    refine lv_iload_n X.1 X.2.1 d_Mo_factor_83 rfl (lv_at hl 1 rfl) ?_
    refine i_mul (a := 2) (b := e0) X d_Mo_factor_84 ?_
    refine lv_aload_n X.1 X.2.1 d_Mo_factor_85 rfl (lv_at hl 0 rfl) ?_
    refine m_get X hT w hB 11 (by decide) k_f_Mo_46 rfl d_Mo_factor_86 ?_
    refine w_cSi (n := 1) (As := [.ref (ad (138 + 46))]) (rest := [.int (iI (2 * e0))]) X w hml hl.1 (c_Mo_degree hT (M := M1) (B := B1) (a := 46) (by omega) (by rw [h46]; exact (hS.mono (by omega)).ok hpr.2)) k_m_Mo_80 k_st_Mo_degree k_i_Mo k_co_Mo_degree (by decide +kernel) rfl ⟨Nat.le_of_ble_eq_true rfl, Nat.le_of_ble_eq_true rfl⟩ ⟨rfl, rfl⟩ ⟨Nat.zero_le _, Nat.zero_le _⟩ rfl (Nat.le_of_ble_eq_true rfl) d_Mo_factor_89 (fun r' C' H locs hp1 w => ?_)
    obtain ⟨rfl, rfl⟩ := hp1
    rw [h46]
    refine i_gt (a := 2 * e0) (b := dg 300 S.1) (tgt := 106) X (by omega) (by omega) d_Mo_factor_92 (by decide) (fun h_92 => ?_) (fun h_92 => ?_)
    · rw [if_neg (by omega)] at hz
      exact kk S M1 B1 H locs ls w hz h46 hK hW hS hs f1 f2 (lv_sub hl [0] rfl)
    · refine lv_aload_n X.1 X.2.1 d_Mo_factor_95 rfl (lv_at hl 0 rfl) ?_
      refine lv_iload_n X.1 X.2.1 d_Mo_factor_96 rfl (lv_at hl 1 rfl) ?_
      refine w_cVv (n := 1) (i := 132) (ci := 5) (As := [.int (iI (e0))]) (rest := []) X w hml hl.1 (c_Mo_all hT (M := M1) (B := B1) hK hI (e0 := e0) (by omega) hW (by rw [h46]; exact hS) (by rw [h46]; exact hs) (Z := allL pr inv e0 (pr.toNat ^ e0) 0 S) (by rw [h46])) (by omega) (by rw [mkR_B (by decide)]; exact hB.1) rfl k_m_Mo_111 k_im_Mo_all k_se_Mo_all k_i_Mo k_co_Mo_all (by decide +kernel) rfl ⟨Nat.le_of_ble_eq_true rfl, Nat.le_of_ble_eq_true rfl⟩ ⟨rfl, rfl⟩ ⟨Nat.zero_le _, Nat.zero_le _⟩ rfl (Nat.le_of_ble_eq_true rfl) d_Mo_factor_97 (fun C' H locs hp1 w => ?_)
      obtain ⟨M3, B3, rfl, g1, hK3, hW3, g5, g6, g7, g8⟩ := hp1
      refine i_inc (k := 1) (x := e0) (lv' := [(2, .int (iI (e0 + 1))), (0, .ref (ad (132)))]) X d_Mo_factor_100 hl rfl (by decide) rfl (fun ls hl => ?_)
      refine lv_goto (tgt := 82) X.1 X.2.1 d_Mo_factor_103 (by decide) ?_
      rw [if_pos (by omega)] at hz
      exact ih (e0 + 1) _ M3 B3 H locs ls (by omega) (by omega) w hz g1 hK3 hW3 g5 g6 (fun r hr9 => by rw [g7 r (by omega) (by omega) (by omega)]; exact f1 r hr9) (fun i i1 i2 => by rw [g8 i i1 i2]; exact f2 i i1 i2) (lv_sub hl [1, 0] rfl)
end MFA
theorem c_Mo_factor {l : Launch} {D : va_G} {cs : Nat → ClassId} {A : Nat → Prop} {ad : Nat → Nat} {T : Nat} (hT : 213 ≤ T) {M : Nat → Nat → Int} {B : Nat → va_E} {th pr : Int} {K : KS} (hK : moK cs ad th pr K M B) {inv : Nat → Int} (hI : invP pr inv) {a : Int} (ha : rg a) (hW : WR M) (hok : ∀ r, r < 16 → okp pr 25 (M r)) : Ci l y_Mo_factor ws_Mo_factor { frames := 4, cells := 0, slots := 0, locals := 94 } D cs A ad T [.ref (ad (132)), .int (iI (a))] (mkR cs M B) (fun x C' => (outF a 0 15 = 1 ∧ x = iI 0 ∧ C' = mkR cs M (mB ad B 1 pr (K.1 : Nat))) ∨ ((0 ≤ a ∧ a ≤ 15) ∧ (dg 300 (M a.toNat) < 0 ∨ limF pr < dg 300 (M a.toNat)) ∧ x = iI 0 ∧ C' = mkR cs M (mB ad B 2 pr (K.1 : Nat))) ∨ ((0 ≤ a ∧ a ≤ 15) ∧ (0 ≤ dg 300 (M a.toNat) ∧ dg 300 (M a.toNat) ≤ limF pr) ∧ (∃ M1 B1, x = iI (((facR pr inv K (M a.toNat)).1 : Nat) : Int) ∧ C' = mkR cs M1 B1 ∧ moK cs ad 0 pr (facR pr inv K (M a.toNat)) M1 B1 ∧ WR M1 ∧ (∀ r, r < 16 → M1 r = M r) ∧ (∀ i, i ≠ 132 → i ≠ 135 → B1 i = B i)))) := by
  refine w_bodyI (by decide) (Nat.le_of_ble_eq_true rfl) ?_
  intro p e s m below meth c X hr hlk hml w ls hl
  have hl : lv_has ls 3 [(0, .ref (ad (132))), (1, .int (iI (a)))] := hl
  have hpr := hI.1
  have hB := hK.1
  have hB0 := hB
  have hlim := limF_rg pr
  obtain ⟨fc, efc⟩ : ∃ fc : Int, fc = ((K.1 : Nat) : Int) := ⟨_, rfl⟩
  rw [← efc] at hB hB0 ⊢
  refine lv_aload_n X.1 X.2.1 d_Mo_factor_0 rfl (lv_at hl 0 rfl) ?_
  refine lv_iload_n X.1 X.2.1 d_Mo_factor_1 rfl (lv_at hl 1 rfl) ?_
  refine w_cVi (n := 1) (i := 132) (ci := 5) (As := [.int (iI (a))]) (rest := []) X w hml hl.1 (c_Mo_none hT (M := M) hB (x := a) (by omega)) (by omega) (by rw [mkR_B (by decide)]; exact hB.1) rfl k_m_Mo_73 k_im_Mo_none k_se_Mo_none k_i_Mo k_co_Mo_none (by decide +kernel) rfl ⟨Nat.le_of_ble_eq_true rfl, Nat.le_of_ble_eq_true rfl⟩ ⟨rfl, rfl⟩ ⟨Nat.zero_le _, Nat.zero_le _⟩ rfl (Nat.le_of_ble_eq_true rfl) d_Mo_factor_2 (fun r' C' H locs hp w => ?_)
  obtain ⟨rfl, rfl⟩ := hp
  have hB := hB0.set (outF (a) 0 15) pr fc
  refine z_ne (a := outF (a) 0 15) (tgt := 52) X (outF_rg _ _ _) d_Mo_factor_5 (by decide) (fun h_5 => ?_) (fun h_5 => ?_)
  · refine lv_iconst (v := iI (0)) X.1 X.2.1 d_Mo_factor_52 (by decide) ?_
    obtain ⟨k1, k2⟩ := outF_1 h_5
    exact w_iret X hr hlk w (Or.inl ⟨k1, rfl, by rw [k1]⟩) d_Mo_factor_53
  · have k0 := outF_0 h_5
    have hok9 := hok a.toNat (by omega)
    have hda := ((hok9.mono (show 25 ≤ 50 by omega)).ok hpr.2).dlt 300
    have hda0 := dg_ge 300 (M a.toNat)
    refine lv_aload_n X.1 X.2.1 d_Mo_factor_8 rfl (lv_at hl 0 rfl) ?_
    refine lv_iconst (v := iI (2)) X.1 X.2.1 d_Mo_factor_9 (by decide) ?_
    refine lv_aload_n X.1 X.2.1 d_Mo_factor_10 rfl (lv_at hl 0 rfl) ?_
    refine m_get X hT w hB 2 (by decide) k_f_Mo_18 rfl d_Mo_factor_11 ?_
    refine lv_iload_n X.1 X.2.1 d_Mo_factor_14 rfl (lv_at hl 1 rfl) ?_
    refine m_aal (i := 133) (n := 16) (pl := fun i => 138 + i) (z := a) X w (by omega) (by rw [mkR_B (by decide)]; exact hB.2.1) (a.toNat) (by omega) (by omega) (by decide) d_Mo_factor_15 ?_
    refine w_cSi (n := 1) (As := [.ref (ad (138 + a.toNat))]) (rest := [.int (iI (2)), .ref (ad (132))]) X w hml hl.1 (c_Mo_degree hT (M := M) (a := a.toNat) (by omega) (hW _ (by omega))) k_m_Mo_80 k_st_Mo_degree k_i_Mo k_co_Mo_degree (by decide +kernel) rfl ⟨Nat.le_of_ble_eq_true rfl, Nat.le_of_ble_eq_true rfl⟩ ⟨rfl, rfl⟩ ⟨Nat.zero_le _, Nat.zero_le _⟩ rfl (Nat.le_of_ble_eq_true rfl) d_Mo_factor_16 (fun r' C' H locs hp w => ?_)
    obtain ⟨rfl, rfl⟩ := hp
    refine z_lt (a := dg 300 (M a.toNat)) (tgt := 41) X (by omega) d_Mo_factor_19 (by decide) (fun h_19 => ?_) (fun h_19 => ?_)
    · refine lv_iconst (v := iI (1)) X.1 X.2.1 d_Mo_factor_41 (by decide) ?_
      refine lv_goto (tgt := 46) X.1 X.2.1 d_Mo_factor_42 (by decide) ?_
      refine w_cVi (n := 2) (i := 132) (ci := 5) (As := [.int (iI (2)), .int (iI (1))]) (rest := []) X w hml hl.1 (c_Mo_refuse hT (M := M) hB (k := 2) (b := 1) (by omega)) (by omega) (by rw [mkR_B (by decide)]; exact hB.1) rfl k_m_Mo_61 k_im_Mo_refuse k_se_Mo_refuse k_i_Mo k_co_Mo_refuse (by decide +kernel) rfl ⟨Nat.le_of_ble_eq_true rfl, Nat.le_of_ble_eq_true rfl⟩ ⟨rfl, rfl⟩ ⟨Nat.zero_le _, Nat.zero_le _⟩ rfl (Nat.le_of_ble_eq_true rfl) d_Mo_factor_46 (fun r' C' H locs hp w => ?_)
      obtain ⟨rfl, rfl⟩ := hp
      rw [mB_mB] at w
      have hB := hB0.set (if (1 : Int) = 0 then (outF a 0 15) else 2) pr fc
      refine z_eq (a := 1) (tgt := 54) X (by omega) d_Mo_factor_49 (by decide) (fun h_49 => ?_) (fun h_49 => ?_)
      · exact absurd h_49 (by omega)
      · refine lv_iconst (v := iI (0)) X.1 X.2.1 d_Mo_factor_52 (by decide) ?_
        exact w_iret X hr hlk w (Or.inr (Or.inl ⟨k0, by omega, rfl, by rw [if_neg (by decide)]⟩)) d_Mo_factor_53
    · refine lv_aload_n X.1 X.2.1 d_Mo_factor_22 rfl (lv_at hl 0 rfl) ?_
      refine m_get X hT w hB 2 (by decide) k_f_Mo_18 rfl d_Mo_factor_23 ?_
      refine lv_iload_n X.1 X.2.1 d_Mo_factor_26 rfl (lv_at hl 1 rfl) ?_
      refine m_aal (i := 133) (n := 16) (pl := fun i => 138 + i) (z := a) X w (by omega) (by rw [mkR_B (by decide)]; exact hB.2.1) (a.toNat) (by omega) (by omega) (by decide) d_Mo_factor_27 ?_
      refine w_cSi (n := 1) (As := [.ref (ad (138 + a.toNat))]) (rest := [.int (iI (2)), .ref (ad (132))]) X w hml hl.1 (c_Mo_degree hT (M := M) (a := a.toNat) (by omega) (hW _ (by omega))) k_m_Mo_80 k_st_Mo_degree k_i_Mo k_co_Mo_degree (by decide +kernel) rfl ⟨Nat.le_of_ble_eq_true rfl, Nat.le_of_ble_eq_true rfl⟩ ⟨rfl, rfl⟩ ⟨Nat.zero_le _, Nat.zero_le _⟩ rfl (Nat.le_of_ble_eq_true rfl) d_Mo_factor_28 (fun r' C' H locs hp w => ?_)
      obtain ⟨rfl, rfl⟩ := hp
      refine lv_aload_n X.1 X.2.1 d_Mo_factor_31 rfl (lv_at hl 0 rfl) ?_
      refine m_get X hT w hB 1 (by decide) k_f_Mo_13 rfl d_Mo_factor_32 ?_
      refine w_cSi (n := 1) (As := [.int (iI (pr))]) (rest := [.int (iI (dg 300 (M a.toNat))), .int (iI (2)), .ref (ad (132))]) X w hml hl.1 (c_Mo_limit hT (M := M) (q := pr) (by omega)) k_m_Mo_65 k_st_Mo_limit k_i_Mo k_co_Mo_limit (by decide +kernel) rfl ⟨Nat.le_of_ble_eq_true rfl, Nat.le_of_ble_eq_true rfl⟩ ⟨rfl, rfl⟩ ⟨Nat.zero_le _, Nat.zero_le _⟩ rfl (Nat.le_of_ble_eq_true rfl) d_Mo_factor_35 (fun r' C' H locs hp w => ?_)
      obtain ⟨rfl, rfl⟩ := hp
      refine i_le (a := dg 300 (M a.toNat)) (b := limF pr) (tgt := 45) X (by omega) (by omega) d_Mo_factor_38 (by decide) (fun h_38 => ?_) (fun h_38 => ?_)
      · refine lv_iconst (v := iI (0)) X.1 X.2.1 d_Mo_factor_45 (by decide) ?_
        refine w_cVi (n := 2) (i := 132) (ci := 5) (As := [.int (iI (2)), .int (iI (0))]) (rest := []) X w hml hl.1 (c_Mo_refuse hT (M := M) hB (k := 2) (b := 0) (by omega)) (by omega) (by rw [mkR_B (by decide)]; exact hB.1) rfl k_m_Mo_61 k_im_Mo_refuse k_se_Mo_refuse k_i_Mo k_co_Mo_refuse (by decide +kernel) rfl ⟨Nat.le_of_ble_eq_true rfl, Nat.le_of_ble_eq_true rfl⟩ ⟨rfl, rfl⟩ ⟨Nat.zero_le _, Nat.zero_le _⟩ rfl (Nat.le_of_ble_eq_true rfl) d_Mo_factor_46 (fun r' C' H locs hp w => ?_)
        obtain ⟨rfl, rfl⟩ := hp
        rw [mB_mB] at w
        have hB := hB0.set (if (0 : Int) = 0 then (outF a 0 15) else 2) pr fc
        have hth : (if (0 : Int) = 0 then (outF a 0 15) else 2) = 0 := by rw [if_pos rfl]; exact h_5
        rw [hth] at w hB
        refine z_eq (a := 0) (tgt := 54) X (by omega) d_Mo_factor_49 (by decide) (fun h_49 => ?_) (fun h_49 => ?_)
        · refine lv_aload_n X.1 X.2.1 d_Mo_factor_54 rfl (lv_at hl 0 rfl) ?_
          refine m_get X hT w hB 2 (by decide) k_f_Mo_18 rfl d_Mo_factor_55 ?_
          refine lv_iload_n X.1 X.2.1 d_Mo_factor_58 rfl (lv_at hl 1 rfl) ?_
          refine m_aal (i := 133) (n := 16) (pl := fun i => 138 + i) (z := a) X w (by omega) (by rw [mkR_B (by decide)]; exact hB.2.1) (a.toNat) (by omega) (by omega) (by decide) d_Mo_factor_59 ?_
          refine lv_aload_n X.1 X.2.1 d_Mo_factor_60 rfl (lv_at hl 0 rfl) ?_
          refine m_get X hT w hB 11 (by decide) k_f_Mo_46 rfl d_Mo_factor_61 ?_
          refine w_cSv (n := 2) (As := [.ref (ad (138 + a.toNat)), .ref (ad (138 + 46))]) (rest := []) X w hml hl.1 (c_Mo_copy hT (M := M) (a := a.toNat) (b := 46) (by omega) (by omega) hW) k_m_Mo_84 k_st_Mo_copy k_i_Mo k_co_Mo_copy (by decide +kernel) rfl ⟨Nat.le_of_ble_eq_true rfl, Nat.le_of_ble_eq_true rfl⟩ ⟨rfl, rfl⟩ ⟨Nat.zero_le _, Nat.zero_le _⟩ rfl (Nat.le_of_ble_eq_true rfl) d_Mo_factor_64 (fun C' H locs hp w => ?_)
          subst hp
          obtain ⟨Mw1, eMw1⟩ : ∃ mm : Nat → Nat → Int, mm = va_up M 46 (M a.toNat) := ⟨_, rfl⟩
          rw [← eMw1] at w
          have hW1 : WR Mw1 := by rw [eMw1]; exact hW.up (hW _ (by omega))
          have a46 : Mw1 46 = M a.toNat := by rw [eMw1, va_up_self]
          refine lv_aload_n X.1 X.2.1 d_Mo_factor_67 rfl (lv_at hl 0 rfl) ?_
          refine lv_aload_n X.1 X.2.1 d_Mo_factor_68 rfl (lv_at hl 0 rfl) ?_
          refine m_get X hT w hB 11 (by decide) k_f_Mo_46 rfl d_Mo_factor_69 ?_
          refine w_cVv (n := 1) (i := 132) (ci := 5) (As := [.ref (ad (138 + 46))]) (rest := []) X w hml hl.1 (c_Mo_monic hT (M := Mw1) hB hI (a := 46) (by omega) (by rw [a46]; exact hok9.mono (by omega))) (by omega) (by rw [mkR_B (by decide)]; exact hB.1) rfl k_m_Mo_94 k_im_Mo_monic k_se_Mo_monic k_i_Mo k_co_Mo_monic (by decide +kernel) rfl ⟨Nat.le_of_ble_eq_true rfl, Nat.le_of_ble_eq_true rfl⟩ ⟨rfl, rfl⟩ ⟨Nat.zero_le _, Nat.zero_le _⟩ rfl (Nat.le_of_ble_eq_true rfl) d_Mo_factor_72 (fun C' H locs hp w => ?_)
          subst hp
          obtain ⟨Mw2, eMw2⟩ : ∃ mm : Nat → Nat → Int, mm = va_up Mw1 46 (mon pr inv (Mw1 46)) := ⟨_, rfl⟩
          rw [← eMw2] at w
          rw [a46] at eMw2
          refine lv_aload_n X.1 X.2.1 d_Mo_factor_75 rfl (lv_at hl 0 rfl) ?_
          refine lv_iconst (v := iI (0)) X.1 X.2.1 d_Mo_factor_76 (by decide) ?_
          refine m_pfc (z := 0) X hT w hB k_f_Mo_28 d_Mo_factor_77 (fun H locs w => ?_)
          have hB := hB.set (0) (pr) (0)
          rw [va_uu] at w hB
          refine lv_iconst (v := iI (1)) X.1 X.2.1 d_Mo_factor_80 (by decide) ?_
          refine lv_istore_n (lv' := [(2, .int (iI (1))), (0, .ref (ad (132))), (1, .int (iI (a)))]) X.1 X.2.1 d_Mo_factor_81 rfl hl (by decide) rfl (fun ls hl => ?_)
          have hmo := mon_ok (inv := inv) (by omega) hok9
          have hdm := mon_dgI hI hok9 (by omega)
          have hdl := (hok9.ok hpr.2).dlt 300
          refine l_Mo_factor (M := M) (B := B) (th := 0) X hr hlk hml hT hI (Z := facR pr inv K (M a.toNat)) (fun x C' hg => Or.inr (Or.inr ⟨k0, by omega, hg⟩)) 12 1 (mon pr inv (M a.toNat), (0, K.2)) Mw2 (mB ad B 0 pr 0) H locs ls (by omega) (by omega) w rfl (by rw [eMw2, va_up_self]) ⟨hB, mB_5 hK.2.1, fun i hi => by rw [eMw2, va_up_ne _ _ (by omega), eMw1, va_up_ne _ _ (by omega)]; exact hK.2.2 i hi⟩ (by rw [eMw2]; exact hW1.up ((hmo.mono (by omega)).ok hpr.2)) hmo (by show ((0 : Nat) : Int) + dg 300 (mon pr inv (M a.toNat)) ≤ 24; omega) (fun r hr9 => by rw [eMw2, va_up_ne _ _ (by omega), eMw1, va_up_ne _ _ (by omega)]) (fun i i1 _ => va_up_ne _ _ i1) (lv_sub hl [1, 0] rfl)
        · exact absurd h_49 (by omega)
      · refine lv_iconst (v := iI (1)) X.1 X.2.1 d_Mo_factor_41 (by decide) ?_
        refine lv_goto (tgt := 46) X.1 X.2.1 d_Mo_factor_42 (by decide) ?_
        refine w_cVi (n := 2) (i := 132) (ci := 5) (As := [.int (iI (2)), .int (iI (1))]) (rest := []) X w hml hl.1 (c_Mo_refuse hT (M := M) hB (k := 2) (b := 1) (by omega)) (by omega) (by rw [mkR_B (by decide)]; exact hB.1) rfl k_m_Mo_61 k_im_Mo_refuse k_se_Mo_refuse k_i_Mo k_co_Mo_refuse (by decide +kernel) rfl ⟨Nat.le_of_ble_eq_true rfl, Nat.le_of_ble_eq_true rfl⟩ ⟨rfl, rfl⟩ ⟨Nat.zero_le _, Nat.zero_le _⟩ rfl (Nat.le_of_ble_eq_true rfl) d_Mo_factor_46 (fun r' C' H locs hp w => ?_)
        obtain ⟨rfl, rfl⟩ := hp
        rw [mB_mB] at w
        have hB := hB0.set (if (1 : Int) = 0 then (outF a 0 15) else 2) pr fc
        refine z_eq (a := 1) (tgt := 54) X (by omega) d_Mo_factor_49 (by decide) (fun h_49 => ?_) (fun h_49 => ?_)
        · exact absurd h_49 (by omega)
        · refine lv_iconst (v := iI (0)) X.1 X.2.1 d_Mo_factor_52 (by decide) ?_
          exact w_iret X hr hlk w (Or.inr (Or.inl ⟨k0, by omega, rfl, by rw [if_neg (by decide)]⟩)) d_Mo_factor_53
theorem c_Mo_piece {l : Launch} {D : va_G} {cs : Nat → ClassId} {A : Nat → Prop} {ad : Nat → Nat} {T : Nat} (hT : 213 ≤ T) {M : Nat → Nat → Int} {B : Nat → va_E} {th pr : Int} {K : KS} (hK : moK cs ad th pr K M B) {r i : Int} (hr9 : rg r) (hi : rg i) (hn : K.1 ≤ 25) (hW : WR M) : Ci l y_Mo_piece ws_Mo_piece { frames := 2, cells := 0, slots := 0, locals := 43 } D cs A ad T [.ref (ad (132)), .int (iI (r)), .int (iI (i))] (mkR cs M B) (fun x C' => (outF r 0 15 = 1 ∧ x = iI 0 ∧ C' = mkR cs M (mB ad B 1 pr (K.1 : Nat))) ∨ ((0 ≤ r ∧ r ≤ 15) ∧ (i < 0 ∨ (K.1 : Int) ≤ i) ∧ x = iI 0 ∧ C' = mkR cs M (mB ad B 1 pr (K.1 : Nat))) ∨ ((0 ≤ r ∧ r ≤ 15) ∧ (0 ≤ i ∧ i < (K.1 : Int)) ∧ x = iI (K.2.2 i.toNat) ∧ C' = mkR cs (va_up M r.toNat (K.2.1 i.toNat)) (mB ad B 0 pr (K.1 : Nat)))) := by
  refine w_bodyI (by decide) (Nat.le_of_ble_eq_true rfl) ?_
  intro p e s m below meth c X hr hlk hml w ls hl
  have hl : lv_has ls 3 [(0, .ref (ad (132))), (1, .int (iI (r))), (2, .int (iI (i)))] := hl
  have hB := hK.1
  have hB0 := hB
  obtain ⟨fc, efc⟩ : ∃ fc : Int, fc = ((K.1 : Nat) : Int) := ⟨_, rfl⟩
  rw [← efc] at hB hB0 ⊢
  refine lv_aload_n X.1 X.2.1 d_Mo_piece_0 rfl (lv_at hl 0 rfl) ?_
  refine lv_iload_n X.1 X.2.1 d_Mo_piece_1 rfl (lv_at hl 1 rfl) ?_
  refine w_cVi (n := 1) (i := 132) (ci := 5) (As := [.int (iI (r))]) (rest := []) X w hml hl.1 (c_Mo_none hT (M := M) hB (x := r) (by omega)) (by omega) (by rw [mkR_B (by decide)]; exact hB.1) rfl k_m_Mo_73 k_im_Mo_none k_se_Mo_none k_i_Mo k_co_Mo_none (by decide +kernel) rfl ⟨Nat.le_of_ble_eq_true rfl, Nat.le_of_ble_eq_true rfl⟩ ⟨rfl, rfl⟩ ⟨Nat.zero_le _, Nat.zero_le _⟩ rfl (Nat.le_of_ble_eq_true rfl) d_Mo_piece_2 (fun r' C' H locs hp w => ?_)
  obtain ⟨rfl, rfl⟩ := hp
  have hB := hB0.set (outF (r) 0 15) pr fc
  refine z_ne (a := outF (r) 0 15) (tgt := 33) X (outF_rg _ _ _) d_Mo_piece_5 (by decide) (fun h_5 => ?_) (fun h_5 => ?_)
  · refine lv_iconst (v := iI (0)) X.1 X.2.1 d_Mo_piece_33 (by decide) ?_
    obtain ⟨k1, k2⟩ := outF_1 h_5
    exact w_iret X hr hlk w (Or.inl ⟨k1, rfl, by rw [k1]⟩) d_Mo_piece_34
  · refine lv_aload_n X.1 X.2.1 d_Mo_piece_8 rfl (lv_at hl 0 rfl) ?_
    refine lv_iconst (v := iI (1)) X.1 X.2.1 d_Mo_piece_9 (by decide) ?_
    refine lv_iload_n X.1 X.2.1 d_Mo_piece_10 rfl (lv_at hl 2 rfl) ?_
    refine z_lt (a := i) (tgt := 22) X (by omega) d_Mo_piece_11 (by decide) (fun h_11 => ?_) (fun h_11 => ?_)
    · refine lv_iconst (v := iI (1)) X.1 X.2.1 d_Mo_piece_22 (by decide) ?_
      refine lv_goto (tgt := 27) X.1 X.2.1 d_Mo_piece_23 (by decide) ?_
      refine w_cVi (n := 2) (i := 132) (ci := 5) (As := [.int (iI (1)), .int (iI (1))]) (rest := []) X w hml hl.1 (c_Mo_refuse hT (M := M) hB (k := 1) (b := 1) (by omega)) (by omega) (by rw [mkR_B (by decide)]; exact hB.1) rfl k_m_Mo_61 k_im_Mo_refuse k_se_Mo_refuse k_i_Mo k_co_Mo_refuse (by decide +kernel) rfl ⟨Nat.le_of_ble_eq_true rfl, Nat.le_of_ble_eq_true rfl⟩ ⟨rfl, rfl⟩ ⟨Nat.zero_le _, Nat.zero_le _⟩ rfl (Nat.le_of_ble_eq_true rfl) d_Mo_piece_27 (fun r' C' H locs hp w => ?_)
      obtain ⟨rfl, rfl⟩ := hp
      rw [mB_mB] at w
      have hB := hB0.set (if (1 : Int) = 0 then (outF r 0 15) else 1) pr fc
      refine z_eq (a := 1) (tgt := 35) X (by omega) d_Mo_piece_30 (by decide) (fun h_30 => ?_) (fun h_30 => ?_)
      · exact absurd h_30 (by omega)
      · refine lv_iconst (v := iI (0)) X.1 X.2.1 d_Mo_piece_33 (by decide) ?_
        exact w_iret X hr hlk w (Or.inr (Or.inl ⟨outF_0 h_5, by omega, rfl, by rw [if_neg (by decide)]⟩)) d_Mo_piece_34
    · refine lv_iload_n X.1 X.2.1 d_Mo_piece_14 rfl (lv_at hl 2 rfl) ?_
      refine lv_aload_n X.1 X.2.1 d_Mo_piece_15 rfl (lv_at hl 0 rfl) ?_
      refine m_get X hT w hB 5 (by decide) k_f_Mo_28 rfl d_Mo_piece_16 ?_
      refine i_lt (a := i) (b := fc) (tgt := 26) X (by omega) (by omega) d_Mo_piece_19 (by decide) (fun h_19 => ?_) (fun h_19 => ?_)
      · refine lv_iconst (v := iI (0)) X.1 X.2.1 d_Mo_piece_26 (by decide) ?_
        refine w_cVi (n := 2) (i := 132) (ci := 5) (As := [.int (iI (1)), .int (iI (0))]) (rest := []) X w hml hl.1 (c_Mo_refuse hT (M := M) hB (k := 1) (b := 0) (by omega)) (by omega) (by rw [mkR_B (by decide)]; exact hB.1) rfl k_m_Mo_61 k_im_Mo_refuse k_se_Mo_refuse k_i_Mo k_co_Mo_refuse (by decide +kernel) rfl ⟨Nat.le_of_ble_eq_true rfl, Nat.le_of_ble_eq_true rfl⟩ ⟨rfl, rfl⟩ ⟨Nat.zero_le _, Nat.zero_le _⟩ rfl (Nat.le_of_ble_eq_true rfl) d_Mo_piece_27 (fun r' C' H locs hp w => ?_)
        obtain ⟨rfl, rfl⟩ := hp
        rw [mB_mB] at w
        have hB := hB0.set (if (0 : Int) = 0 then (outF r 0 15) else 1) pr fc
        have hth : (if (0 : Int) = 0 then (outF r 0 15) else 1) = 0 := by rw [if_pos rfl]; exact h_5
        rw [hth] at w hB
        have h5 : mB ad B 0 pr fc 135 = aI cs 25 K.2.2 := mB_5 hK.2.1
        refine z_eq (a := 0) (tgt := 35) X (by omega) d_Mo_piece_30 (by decide) (fun h_30 => ?_) (fun h_30 => ?_)
        · refine lv_aload_n X.1 X.2.1 d_Mo_piece_35 rfl (lv_at hl 0 rfl) ?_
          refine m_get X hT w hB 3 (by decide) k_f_Mo_21 rfl d_Mo_piece_36 ?_
          refine lv_iload_n X.1 X.2.1 d_Mo_piece_39 rfl (lv_at hl 2 rfl) ?_
          refine m_aal (i := 134) (n := 25) (pl := fun i => 138 + (16 + i)) (z := i) X w (by omega) (by rw [mkR_B (by decide)]; exact hB.2.2) (i.toNat) (by omega) (by omega) (by decide) d_Mo_piece_40 ?_
          refine lv_aload_n X.1 X.2.1 d_Mo_piece_41 rfl (lv_at hl 0 rfl) ?_
          refine m_get X hT w hB 2 (by decide) k_f_Mo_18 rfl d_Mo_piece_42 ?_
          refine lv_iload_n X.1 X.2.1 d_Mo_piece_45 rfl (lv_at hl 1 rfl) ?_
          refine m_aal (i := 133) (n := 16) (pl := fun i => 138 + i) (z := r) X w (by omega) (by rw [mkR_B (by decide)]; exact hB.2.1) (r.toNat) (by have := outF_0 h_5; omega) (by have := outF_0 h_5; omega) (by decide) d_Mo_piece_46 ?_
          refine w_cSv (n := 2) (As := [.ref (ad (138 + ((16 + i.toNat)))), .ref (ad (138 + r.toNat))]) (rest := []) X w hml hl.1 (c_Mo_copy hT (M := M) (a := 16 + i.toNat) (b := r.toNat) (by omega) (by have := outF_0 h_5; omega) hW) k_m_Mo_84 k_st_Mo_copy k_i_Mo k_co_Mo_copy (by decide +kernel) rfl ⟨Nat.le_of_ble_eq_true rfl, Nat.le_of_ble_eq_true rfl⟩ ⟨rfl, rfl⟩ ⟨Nat.zero_le _, Nat.zero_le _⟩ rfl (Nat.le_of_ble_eq_true rfl) d_Mo_piece_47 (fun C' H locs hp w => ?_)
          subst hp
          obtain ⟨Mw1, eMw1⟩ : ∃ mm : Nat → Nat → Int, mm = va_up M r.toNat (M (16 + i.toNat)) := ⟨_, rfl⟩
          rw [← eMw1] at w
          rw [hK.2.2 _ (by omega)] at eMw1
          refine lv_aload_n X.1 X.2.1 d_Mo_piece_50 rfl (lv_at hl 0 rfl) ?_
          refine m_get X hT w hB 4 (by decide) k_f_Mo_24 rfl d_Mo_piece_51 ?_
          refine lv_iload_n X.1 X.2.1 d_Mo_piece_54 rfl (lv_at hl 2 rfl) ?_
          refine m_old (z := i) X hT w h5 (i.toNat) (by omega) (by omega) d_Mo_piece_55 ?_
          have k0 := outF_0 h_5
          exact w_iret X hr hlk w (Or.inr (Or.inr ⟨k0, by omega, rfl, by rw [eMw1]⟩)) d_Mo_piece_56
        · exact absurd h_30 (by omega)
      · refine lv_iconst (v := iI (1)) X.1 X.2.1 d_Mo_piece_22 (by decide) ?_
        refine lv_goto (tgt := 27) X.1 X.2.1 d_Mo_piece_23 (by decide) ?_
        refine w_cVi (n := 2) (i := 132) (ci := 5) (As := [.int (iI (1)), .int (iI (1))]) (rest := []) X w hml hl.1 (c_Mo_refuse hT (M := M) hB (k := 1) (b := 1) (by omega)) (by omega) (by rw [mkR_B (by decide)]; exact hB.1) rfl k_m_Mo_61 k_im_Mo_refuse k_se_Mo_refuse k_i_Mo k_co_Mo_refuse (by decide +kernel) rfl ⟨Nat.le_of_ble_eq_true rfl, Nat.le_of_ble_eq_true rfl⟩ ⟨rfl, rfl⟩ ⟨Nat.zero_le _, Nat.zero_le _⟩ rfl (Nat.le_of_ble_eq_true rfl) d_Mo_piece_27 (fun r' C' H locs hp w => ?_)
        obtain ⟨rfl, rfl⟩ := hp
        rw [mB_mB] at w
        have hB := hB0.set (if (1 : Int) = 0 then (outF r 0 15) else 1) pr fc
        refine z_eq (a := 1) (tgt := 35) X (by omega) d_Mo_piece_30 (by decide) (fun h_30 => ?_) (fun h_30 => ?_)
        · exact absurd h_30 (by omega)
        · refine lv_iconst (v := iI (0)) X.1 X.2.1 d_Mo_piece_33 (by decide) ?_
          exact w_iret X hr hlk w (Or.inr (Or.inl ⟨outF_0 h_5, by omega, rfl, by rw [if_neg (by decide)]⟩)) d_Mo_piece_34
