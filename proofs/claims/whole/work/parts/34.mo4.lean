section PB2
variable {p : Program} {l : Launch} {e : Env} {R : Room} {s : State} {m : MethodId} {args : Array Value} {below : List Frame} {meth : Method} {c : Code} {H : Heap} {locs : List Loc} {cells slots : Nat} {Q : State → Prop} {D : va_G} {cs : Nat → ClassId} {A : Nat → Prop} {ad : Nat → Nat} {T : Nat}
variable {cc : ByteArray} {own : String} {pc : Nat} {ls : Array Slot} {rest : List Value}
theorem s_l2 : ∀ n : Nat, n < 32 → ((iI (n : Int) &&& 31).toBitVec.smod 32).toNat = n := by decide +kernel
theorem i_shrN (X : Cx p s m args c cc own) {a : Int} {k : Nat} (ha : 0 ≤ a ∧ a < 2147483648) (hk : k < 32) (hdg : decode cc pc = .ok (.ishr, 1)) (kk : W p l e R s m args below meth c H locs cells slots Q (F0 m (pc + 1) ls (.int (iI (a / 2 ^ k)) :: rest))) : W p l e R s m args below meth c H locs cells slots Q (F0 m pc ls (.int (iI (k : Int)) :: .int (iI a) :: rest)) := by
  obtain ⟨n, rfl⟩ := Int.eq_ofNat_of_zero_le ha.1
  refine lv_ishr X.1 X.2.1 hdg ?_
  have h := pk_shrN (n := n) (by omega) (iI (k : Int) &&& 31) k (s_l2 k hk)
  rw [iI_nI, iI_nI] at h
  rw [h]
  have e2 : ((n / 2 ^ k : Nat) : Int) = (n : Int) / 2 ^ k := by rw [Int.natCast_ediv, Int.natCast_pow]; rfl
  rw [e2]
  exact kk
end PB2
theorem mulm_ok2 {pr : Int} {inv : Nat → Int} (hI : invP pr inv) {A B M : Nat → Int} {N : Nat} (hA : okp pr N A) (hB : okp pr N B) (hM : okp pr 50 M) (hN : N ≤ 25) (hd : 0 ≤ dg 300 M) (hd2 : dg 300 M ≤ 25) : okp pr 50 (prd pr A B) ∧ okp pr 25 (mulm pr inv A B M) ∧ okp pr (dg 300 M).toNat (mulm pr inv A B M) ∧ okp pr 50 (dvm pr inv (prd pr A B) M).2 := by
  have hpr := hI.1
  have hda := (hA.ok hpr.2).dlt 300
  have hdb := (hB.ok hpr.2).dlt 300
  have hP : okp pr 50 (prd pr A B) := prd_ok (by omega) hpr.2 hA hB (by omega) (by omega)
  have hdp := (hP.ok hpr.2).dlt 300
  have h := dvm_ok (inv := inv) (M := 50) (by omega) hP hM (by omega) (by omega) hpr.2 (by omega)
  exact ⟨hP, dvm_ok2 hI hP hM (by omega) (by omega) hd (by omega), dvm_ok2 hI hP hM (by omega) (by omega) hd (by omega), h.2⟩
/-- powers from the top bit down -/
def rsL (pr : Int) (inv : Nat → Int) (Bm M : Nat → Int) (n : Nat) : Nat → (Nat → Int) → Nat → Int
  | 0, S => S
  | k + 1, S => rsL pr inv Bm M n k (if n / 2 ^ k % 2 = 1 then mulm pr inv (mulm pr inv S S M) Bm M else mulm pr inv S S M)
def rsd (pr : Int) (inv : Nat → Int) (A : Nat → Int) (n : Nat) (M : Nat → Int) : Nat → Int := rsL pr inv (dvm pr inv A M).1 M n 31 oneP
section MRS
variable {p : Program} {l : Launch} {e : Env} {s : State} {m : MethodId} {args : Array Value} {below : List Frame} {meth : Method} {c : Code} {H : Heap} {locs : List Loc} {Q : State → Prop} {D : va_G} {cs : Nat → ClassId} {A : Nat → Prop} {ad : Nat → Nat} {T : Nat} {B : Nat → va_E} {th pr fc : Int}
variable {d q : Nat} {M : Nat → Nat → Int} {inv : Nat → Int}
theorem l_Mo_raised (X : Cx p s m args c b_Mo_raised RMo) (hml : c.maxLocals = 4) (hT : 213 ≤ T) (hB : moO cs ad th pr fc B) (hI : invP pr inv) (hd : d < 41) (hq : q < 2147483648) (hMo : okp pr 50 (M d)) (hdd : 1 ≤ dg 300 (M d) ∧ dg 300 (M d) ≤ 24) (h48 : okp pr 25 (M 48)) {Z : Nat → Int}
    (K : ∀ (M1 : Nat → Nat → Int) (H : Heap) (locs : List Loc) (ls : Array Slot), Wd D cs A ad T s (mkR cs M1 B) H locs → M1 49 = Z → okp pr 25 Z → WR M1 → (∀ r, r ≠ 41 → r ≠ 42 → r ≠ 43 → r ≠ 49 → M1 r = M r) → W p l e { frames := 2, cells := 0, slots := 0, locals := 49 } s m args below meth c H locs 0 0 Q (F0 m 122 ls [])) :
    ∀ (k : Nat) (M1 : Nat → Nat → Int) (H : Heap) (locs : List Loc) (ls : Array Slot), k ≤ 31 → Wd D cs A ad T s (mkR cs M1 B) H locs → okp pr 25 (M1 49) → rsL pr inv (M 48) (M d) q k (M1 49) = Z → WR M1 → (∀ r, r ≠ 41 → r ≠ 42 → r ≠ 43 → r ≠ 49 → M1 r = M r) → lv_has ls 4 [(0, .ref (ad (132))), (1, .int (iI (q))), (2, .ref (ad (138 + d))), (3, .int (iI ((k : Int) - 1)))] → W p l e { frames := 2, cells := 0, slots := 0, locals := 49 } s m args below meth c H locs 0 0 Q (F0 m 37 ls []) := by
  have hpr := hI.1
  intro k
  induction k with
  | zero =>
    intro M1 H locs ls h1 w h49 hz hW hF hl
    have hz : M1 49 = Z := hz
    refine lv_iload_n X.1 X.2.1 d_Mo_raised_37 rfl (lv_at hl 3 rfl) ?_
    refine z_lt (a := ((0 : Nat) : Int) - 1) (tgt := 122) X (by omega) d_Mo_raised_38 (by decide) (fun h_38 => ?_) (fun h_38 => ?_)
    · exact K M1 H locs ls w hz (by rw [← hz]; exact h49) hW hF
    · exact absurd h_38 (by omega)
  | succ k ih =>
    intro M1 H locs ls h1 w h49 hz hW hF hl
    have fd : M1 d = M d := hF d (by omega) (by omega) (by omega) (by omega)
    have f48 : M1 48 = M 48 := hF 48 (by omega) (by omega) (by omega) (by omega)
    obtain ⟨m1, m2, m3, m4⟩ := mulm_ok2 hI h49 h49 hMo (by omega) (by omega) (by omega)
    obtain ⟨n1, n2, n3, n4⟩ := mulm_ok2 hI m2 h48 hMo (by omega) (by omega) (by omega)
    have hd49 := (h49.ok hpr.2).dlt 300
    have hd48 := (h48.ok hpr.2).dlt 300
    have hdm := (m2.ok hpr.2).dlt 300
    have hdvk : 0 ≤ (q : Int) / 2 ^ k ∧ (q : Int) / 2 ^ k < 2147483648 := by
      have e2 : ((q / 2 ^ k : Nat) : Int) = (q : Int) / 2 ^ k := by rw [Int.natCast_ediv, Int.natCast_pow]; rfl
      have h3 := Nat.div_le_self q (2 ^ k)
      rw [← e2]
      obtain ⟨t, ht⟩ : ∃ t : Nat, t = q / 2 ^ k := ⟨_, rfl⟩
      rw [← ht] at h3 ⊢
      omega
    have hbit : (q : Int) / 2 ^ k % 2 = ((q / 2 ^ k % 2 : Nat) : Int) := by
      have e2 : ((q / 2 ^ k : Nat) : Int) = (q : Int) / 2 ^ k := by rw [Int.natCast_ediv, Int.natCast_pow]; rfl
      rw [← e2]
      obtain ⟨t, ht⟩ : ∃ t : Nat, t = q / 2 ^ k := ⟨_, rfl⟩
      rw [← ht]
      omega
    have hz : rsL pr inv (M 48) (M d) q k (if q / 2 ^ k % 2 = 1 then mulm pr inv (mulm pr inv (M1 49) (M1 49) (M d)) (M 48) (M d) else mulm pr inv (M1 49) (M1 49) (M d)) = Z := hz
    refine lv_iload_n X.1 X.2.1 d_Mo_raised_37 rfl (lv_at hl 3 rfl) ?_
    refine z_lt (a := ((k + 1 : Nat) : Int) - 1) (tgt := 122) X (by omega) d_Mo_raised_38 (by decide) (fun h_38 => ?_) (fun h_38 => ?_)
    · exact absurd h_38 (by omega)
    · refine lv_aload_n X.1 X.2.1 d_Mo_raised_41 rfl (lv_at hl 0 rfl) ?_
      refine lv_aload_n X.1 X.2.1 d_Mo_raised_42 rfl (lv_at hl 0 rfl) ?_
      refine m_get X hT w hB 14 (by decide) k_f_Mo_55 rfl d_Mo_raised_43 ?_
      refine lv_aload_n X.1 X.2.1 d_Mo_raised_46 rfl (lv_at hl 0 rfl) ?_
      refine m_get X hT w hB 14 (by decide) k_f_Mo_55 rfl d_Mo_raised_47 ?_
      refine w_cVv (n := 2) (i := 132) (ci := 5) (As := [.ref (ad (138 + 49)), .ref (ad (138 + 49))]) (rest := []) X w hml hl.1 (c_Mo_times hT (M := M1) hB (a := 49) (b := 49) hpr (by omega) (by omega) hW (h49.mono (by omega)) (h49.mono (by omega)) (by omega)) (by omega) (by rw [mkR_B (by decide)]; exact hB.1) rfl k_m_Mo_97 k_im_Mo_times k_se_Mo_times k_i_Mo k_co_Mo_times (by decide +kernel) rfl ⟨Nat.le_of_ble_eq_true rfl, Nat.le_of_ble_eq_true rfl⟩ ⟨rfl, rfl⟩ ⟨Nat.zero_le _, Nat.zero_le _⟩ rfl (Nat.le_of_ble_eq_true rfl) d_Mo_raised_50 (fun C' H locs hp w => ?_)
      subst hp
      obtain ⟨Mw1, eMw1⟩ : ∃ mm : Nat → Nat → Int, mm = va_up M1 43 (prd pr (M1 49) (M1 49)) := ⟨_, rfl⟩
      rw [← eMw1] at w
      have hW1 : WR Mw1 := by rw [eMw1]; exact hW.up (m1.ok hpr.2)
      have a43 : Mw1 43 = prd pr (M1 49) (M1 49) := by rw [eMw1, va_up_self]
      have ad9 : Mw1 d = M d := by rw [eMw1, va_up_ne _ _ (by omega), fd]
      refine lv_aload_n X.1 X.2.1 d_Mo_raised_53 rfl (lv_at hl 0 rfl) ?_
      refine lv_aload_n X.1 X.2.1 d_Mo_raised_54 rfl (lv_at hl 0 rfl) ?_
      refine m_get X hT w hB 8 (by decide) k_f_Mo_37 rfl d_Mo_raised_55 ?_
      refine lv_aload_n X.1 X.2.1 d_Mo_raised_58 rfl (lv_at hl 2 rfl) ?_
      refine w_cVv (n := 2) (i := 132) (ci := 5) (As := [.ref (ad (138 + 43)), .ref (ad (138 + d))]) (rest := []) X w hml hl.1 (c_Mo_divided hT (M := Mw1) hB hI (a := 43) (b := d) (by omega) (by omega) hW1 (by rw [a43]; exact m1) (by rw [ad9]; exact hMo) (by rw [ad9]; omega)) (by omega) (by rw [mkR_B (by decide)]; exact hB.1) rfl k_m_Mo_91 k_im_Mo_divided k_se_Mo_divided k_i_Mo k_co_Mo_divided (by decide +kernel) rfl ⟨Nat.le_of_ble_eq_true rfl, Nat.le_of_ble_eq_true rfl⟩ ⟨rfl, rfl⟩ ⟨Nat.zero_le _, Nat.zero_le _⟩ rfl (Nat.le_of_ble_eq_true rfl) d_Mo_raised_59 (fun C' H locs hp w => ?_)
      subst hp
      obtain ⟨Mw2, eMw2⟩ : ∃ mm : Nat → Nat → Int, mm = va_up (va_up Mw1 41 (dvm pr inv (Mw1 43) (Mw1 d)).2) 42 (dvm pr inv (Mw1 43) (Mw1 d)).1 := ⟨_, rfl⟩
      rw [← eMw2] at w
      rw [a43, ad9] at eMw2
      have hW2 : WR Mw2 := by rw [eMw2]; exact (hW1.up (m4.ok hpr.2)).up ((m2.mono (by omega)).ok hpr.2)
      have b42 : Mw2 42 = mulm pr inv (M1 49) (M1 49) (M d) := by rw [eMw2, va_up_self]; rfl
      refine lv_aload_n X.1 X.2.1 d_Mo_raised_62 rfl (lv_at hl 0 rfl) ?_
      refine m_get X hT w hB 7 (by decide) k_f_Mo_34 rfl d_Mo_raised_63 ?_
      refine lv_aload_n X.1 X.2.1 d_Mo_raised_66 rfl (lv_at hl 0 rfl) ?_
      refine m_get X hT w hB 14 (by decide) k_f_Mo_55 rfl d_Mo_raised_67 ?_
      refine w_cSv (n := 2) (As := [.ref (ad (138 + 42)), .ref (ad (138 + 49))]) (rest := []) X w hml hl.1 (c_Mo_copy hT (M := Mw2) (B := B) (a := 42) (b := 49) (by omega) (by omega) hW2) k_m_Mo_84 k_st_Mo_copy k_i_Mo k_co_Mo_copy (by decide +kernel) rfl ⟨Nat.le_of_ble_eq_true rfl, Nat.le_of_ble_eq_true rfl⟩ ⟨rfl, rfl⟩ ⟨Nat.zero_le _, Nat.zero_le _⟩ rfl (Nat.le_of_ble_eq_true rfl) d_Mo_raised_70 (fun C' H locs hp w => ?_)
      subst hp
      obtain ⟨Mw3, eMw3⟩ : ∃ mm : Nat → Nat → Int, mm = va_up Mw2 49 (Mw2 42) := ⟨_, rfl⟩
      rw [← eMw3] at w
      rw [b42] at eMw3
      have hW3 : WR Mw3 := by rw [eMw3]; exact hW2.up ((m2.mono (by omega)).ok hpr.2)
      have c49 : Mw3 49 = mulm pr inv (M1 49) (M1 49) (M d) := by rw [eMw3, va_up_self]
      have hF3 : ∀ r, r ≠ 41 → r ≠ 42 → r ≠ 43 → r ≠ 49 → Mw3 r = M r := fun r r1 r2 r3 r9 => by rw [eMw3, va_up_ne _ _ r9, eMw2, va_up_ne _ _ r2, va_up_ne _ _ r1, eMw1, va_up_ne _ _ r3]; exact hF r r1 r2 r3 r9
      have c48 : Mw3 48 = M 48 := hF3 48 (by omega) (by omega) (by omega) (by omega)
      refine lv_iload_n X.1 X.2.1 d_Mo_raised_73 rfl (lv_at hl 1 rfl) ?_
      refine lv_iload_n X.1 X.2.1 d_Mo_raised_74 rfl (lv_at hl 3 rfl) ?_
      refine W.eq (g2 := F0 m 75 ls [.int (iI (k : Int)), .int (iI (q))]) (by rw [show ((k + 1 : Nat) : Int) - 1 = (k : Int) by omega]) ?_
      refine i_shrN (a := q) (k := k) X (by omega) (by omega) d_Mo_raised_75 ?_
      refine lv_iconst (v := iI (1)) X.1 X.2.1 d_Mo_raised_76 (by decide) ?_
      refine i_and1 (a := q / 2 ^ k) X (by omega) d_Mo_raised_77 ?_
      refine z_ne (a := (q / 2 ^ k) % 2) (tgt := 84) X (by omega) d_Mo_raised_78 (by decide) (fun h_78 => ?_) (fun h_78 => ?_)
      · refine lv_aload_n X.1 X.2.1 d_Mo_raised_84 rfl (lv_at hl 0 rfl) ?_
        refine lv_aload_n X.1 X.2.1 d_Mo_raised_85 rfl (lv_at hl 0 rfl) ?_
        refine m_get X hT w hB 14 (by decide) k_f_Mo_55 rfl d_Mo_raised_86 ?_
        refine lv_aload_n X.1 X.2.1 d_Mo_raised_89 rfl (lv_at hl 0 rfl) ?_
        refine m_get X hT w hB 13 (by decide) k_f_Mo_52 rfl d_Mo_raised_90 ?_
        refine w_cVv (n := 2) (i := 132) (ci := 5) (As := [.ref (ad (138 + 49)), .ref (ad (138 + 48))]) (rest := []) X w hml hl.1 (c_Mo_times hT (M := Mw3) hB (a := 49) (b := 48) hpr (by omega) (by omega) hW3 (by rw [c49]; exact m2.mono (by omega)) (by rw [c48]; exact h48.mono (by omega)) (by rw [c49, c48]; omega)) (by omega) (by rw [mkR_B (by decide)]; exact hB.1) rfl k_m_Mo_97 k_im_Mo_times k_se_Mo_times k_i_Mo k_co_Mo_times (by decide +kernel) rfl ⟨Nat.le_of_ble_eq_true rfl, Nat.le_of_ble_eq_true rfl⟩ ⟨rfl, rfl⟩ ⟨Nat.zero_le _, Nat.zero_le _⟩ rfl (Nat.le_of_ble_eq_true rfl) d_Mo_raised_93 (fun C' H locs hp w => ?_)
        subst hp
        obtain ⟨Mw4, eMw4⟩ : ∃ mm : Nat → Nat → Int, mm = va_up Mw3 43 (prd pr (Mw3 49) (Mw3 48)) := ⟨_, rfl⟩
        rw [← eMw4] at w
        rw [c49, c48] at eMw4
        have hW4 : WR Mw4 := by rw [eMw4]; exact hW3.up (n1.ok hpr.2)
        have d43 : Mw4 43 = prd pr (mulm pr inv (M1 49) (M1 49) (M d)) (M 48) := by rw [eMw4, va_up_self]
        have dd9 : Mw4 d = M d := by rw [eMw4, va_up_ne _ _ (by omega)]; exact hF3 d (by omega) (by omega) (by omega) (by omega)
        refine lv_aload_n X.1 X.2.1 d_Mo_raised_96 rfl (lv_at hl 0 rfl) ?_
        refine lv_aload_n X.1 X.2.1 d_Mo_raised_97 rfl (lv_at hl 0 rfl) ?_
        refine m_get X hT w hB 8 (by decide) k_f_Mo_37 rfl d_Mo_raised_98 ?_
        refine lv_aload_n X.1 X.2.1 d_Mo_raised_101 rfl (lv_at hl 2 rfl) ?_
        refine w_cVv (n := 2) (i := 132) (ci := 5) (As := [.ref (ad (138 + 43)), .ref (ad (138 + d))]) (rest := []) X w hml hl.1 (c_Mo_divided hT (M := Mw4) hB hI (a := 43) (b := d) (by omega) (by omega) hW4 (by rw [d43]; exact n1) (by rw [dd9]; exact hMo) (by rw [dd9]; omega)) (by omega) (by rw [mkR_B (by decide)]; exact hB.1) rfl k_m_Mo_91 k_im_Mo_divided k_se_Mo_divided k_i_Mo k_co_Mo_divided (by decide +kernel) rfl ⟨Nat.le_of_ble_eq_true rfl, Nat.le_of_ble_eq_true rfl⟩ ⟨rfl, rfl⟩ ⟨Nat.zero_le _, Nat.zero_le _⟩ rfl (Nat.le_of_ble_eq_true rfl) d_Mo_raised_102 (fun C' H locs hp w => ?_)
        subst hp
        obtain ⟨Mw5, eMw5⟩ : ∃ mm : Nat → Nat → Int, mm = va_up (va_up Mw4 41 (dvm pr inv (Mw4 43) (Mw4 d)).2) 42 (dvm pr inv (Mw4 43) (Mw4 d)).1 := ⟨_, rfl⟩
        rw [← eMw5] at w
        rw [d43, dd9] at eMw5
        have hW5 : WR Mw5 := by rw [eMw5]; exact (hW4.up (n4.ok hpr.2)).up ((n2.mono (by omega)).ok hpr.2)
        have e42 : Mw5 42 = mulm pr inv (mulm pr inv (M1 49) (M1 49) (M d)) (M 48) (M d) := by rw [eMw5, va_up_self]; rfl
        refine lv_aload_n X.1 X.2.1 d_Mo_raised_105 rfl (lv_at hl 0 rfl) ?_
        refine m_get X hT w hB 7 (by decide) k_f_Mo_34 rfl d_Mo_raised_106 ?_
        refine lv_aload_n X.1 X.2.1 d_Mo_raised_109 rfl (lv_at hl 0 rfl) ?_
        refine m_get X hT w hB 14 (by decide) k_f_Mo_55 rfl d_Mo_raised_110 ?_
        refine w_cSv (n := 2) (As := [.ref (ad (138 + 42)), .ref (ad (138 + 49))]) (rest := []) X w hml hl.1 (c_Mo_copy hT (M := Mw5) (B := B) (a := 42) (b := 49) (by omega) (by omega) hW5) k_m_Mo_84 k_st_Mo_copy k_i_Mo k_co_Mo_copy (by decide +kernel) rfl ⟨Nat.le_of_ble_eq_true rfl, Nat.le_of_ble_eq_true rfl⟩ ⟨rfl, rfl⟩ ⟨Nat.zero_le _, Nat.zero_le _⟩ rfl (Nat.le_of_ble_eq_true rfl) d_Mo_raised_113 (fun C' H locs hp w => ?_)
        subst hp
        obtain ⟨Mw6, eMw6⟩ : ∃ mm : Nat → Nat → Int, mm = va_up Mw5 49 (Mw5 42) := ⟨_, rfl⟩
        rw [← eMw6] at w
        rw [e42] at eMw6
        have g49 : Mw6 49 = mulm pr inv (mulm pr inv (M1 49) (M1 49) (M d)) (M 48) (M d) := by rw [eMw6, va_up_self]
        refine i_inc (k := 3) (x := ((k + 1 : Nat) : Int) - 1) (lv' := [(3, .int (iI ((((k + 1 : Nat) : Int) - 1) + (-1)))), (0, .ref (ad (132))), (1, .int (iI (q))), (2, .ref (ad (138 + d)))]) X d_Mo_raised_116 hl rfl (by decide) rfl (fun ls hl => ?_)
        refine lv_goto (tgt := 37) X.1 X.2.1 d_Mo_raised_119 (by decide) ?_
        rw [if_pos (by omega)] at hz
        refine ih Mw6 H locs ls (by omega) w (by rw [g49]; exact n2) (by rw [g49]; exact hz) (by rw [eMw6]; exact hW5.up ((n2.mono (by omega)).ok hpr.2)) (fun r r1 r2 r3 r9 => by rw [eMw6, va_up_ne _ _ r9, eMw5, va_up_ne _ _ r2, va_up_ne _ _ r1, eMw4, va_up_ne _ _ r3]; exact hF3 r r1 r2 r3 r9) ?_
        rw [show (k : Int) - 1 = ((k + 1 : Nat) : Int) - 1 + (-1) by omega]; exact (lv_sub hl [1, 2, 3, 0] rfl)
      · refine lv_goto (tgt := 116) X.1 X.2.1 d_Mo_raised_81 (by decide) ?_
        refine i_inc (k := 3) (x := ((k + 1 : Nat) : Int) - 1) (lv' := [(3, .int (iI ((((k + 1 : Nat) : Int) - 1) + (-1)))), (0, .ref (ad (132))), (1, .int (iI (q))), (2, .ref (ad (138 + d)))]) X d_Mo_raised_116 hl rfl (by decide) rfl (fun ls hl => ?_)
        refine lv_goto (tgt := 37) X.1 X.2.1 d_Mo_raised_119 (by decide) ?_
        rw [if_neg (by omega)] at hz
        refine ih Mw3 H locs ls (by omega) w (by rw [c49]; exact m2) (by rw [c49]; exact hz) hW3 hF3 ?_
        rw [show (k : Int) - 1 = ((k + 1 : Nat) : Int) - 1 + (-1) by omega]; exact (lv_sub hl [1, 2, 3, 0] rfl)
end MRS
theorem c_Mo_raised {l : Launch} {D : va_G} {cs : Nat → ClassId} {A : Nat → Prop} {ad : Nat → Nat} {T : Nat} (hT : 213 ≤ T) {M : Nat → Nat → Int} {B : Nat → va_E} {th pr fc : Int} (hB : moO cs ad th pr fc B) {inv : Nat → Int} (hI : invP pr inv) {d q : Nat} (hd : d < 41) (hq : q < 2147483648) (hW : WR M) (h48 : okp pr 50 (M 48)) (hMo : okp pr 50 (M d)) (hdd : 1 ≤ dg 300 (M d) ∧ dg 300 (M d) ≤ 24) : Cv l y_Mo_raised ws_Mo_raised { frames := 2, cells := 0, slots := 0, locals := 49 } D cs A ad T [.ref (ad (132)), .int (iI (q)), .ref (ad (138 + d))] (mkR cs M B) (fun C' => ∃ M', C' = mkR cs M' B ∧ WR M' ∧ M' 49 = (rsd pr inv (M 48) q (M d)) ∧ okp pr 25 (M' 49) ∧ ∀ r, r ≠ 41 → r ≠ 42 → r ≠ 43 → r ≠ 48 → r ≠ 49 → M' r = M r) := by
  refine w_bodyV (by decide) (Nat.le_of_ble_eq_true rfl) ?_
  intro p e s m below meth c X hr hlk hml w ls hl
  have hl : lv_has ls 4 [(0, .ref (ad (132))), (1, .int (iI (q))), (2, .ref (ad (138 + d)))] := hl
  have hpr := hI.1
  have hq9 := dvm_ok (inv := inv) (M := 50) (by omega) h48 hMo (by omega) (by omega) hpr.2 (by have := (h48.ok hpr.2).dlt 300; omega)
  have hb25 : okp pr 25 (dvm pr inv (M 48) (M d)).1 := dvm_ok2 hI h48 hMo (by omega) (by omega) (by omega) (by omega)
  have hone : okp pr 25 oneP := oneP_ok (by omega) (by omega)
  refine lv_aload_n X.1 X.2.1 d_Mo_raised_0 rfl (lv_at hl 0 rfl) ?_
  refine lv_aload_n X.1 X.2.1 d_Mo_raised_1 rfl (lv_at hl 0 rfl) ?_
  refine m_get X hT w hB 13 (by decide) k_f_Mo_52 rfl d_Mo_raised_2 ?_
  refine lv_aload_n X.1 X.2.1 d_Mo_raised_5 rfl (lv_at hl 2 rfl) ?_
  refine w_cVv (n := 2) (i := 132) (ci := 5) (As := [.ref (ad (138 + 48)), .ref (ad (138 + d))]) (rest := []) X w hml hl.1 (c_Mo_divided hT (M := M) hB hI (a := 48) (b := d) (by omega) (by omega) hW h48 hMo (by omega)) (by omega) (by rw [mkR_B (by decide)]; exact hB.1) rfl k_m_Mo_91 k_im_Mo_divided k_se_Mo_divided k_i_Mo k_co_Mo_divided (by decide +kernel) rfl ⟨Nat.le_of_ble_eq_true rfl, Nat.le_of_ble_eq_true rfl⟩ ⟨rfl, rfl⟩ ⟨Nat.zero_le _, Nat.zero_le _⟩ rfl (Nat.le_of_ble_eq_true rfl) d_Mo_raised_6 (fun C' H locs hp w => ?_)
  subst hp
  obtain ⟨Mw1, eMw1⟩ : ∃ mm : Nat → Nat → Int, mm = va_up (va_up M 41 (dvm pr inv (M 48) (M d)).2) 42 (dvm pr inv (M 48) (M d)).1 := ⟨_, rfl⟩
  rw [← eMw1] at w
  have hW1 : WR Mw1 := by rw [eMw1]; exact (hW.up (hq9.2.ok hpr.2)).up (hq9.1.ok hpr.2)
  have a42 : Mw1 42 = (dvm pr inv (M 48) (M d)).1 := by rw [eMw1, va_up_self]
  refine lv_aload_n X.1 X.2.1 d_Mo_raised_9 rfl (lv_at hl 0 rfl) ?_
  refine m_get X hT w hB 7 (by decide) k_f_Mo_34 rfl d_Mo_raised_10 ?_
  refine lv_aload_n X.1 X.2.1 d_Mo_raised_13 rfl (lv_at hl 0 rfl) ?_
  refine m_get X hT w hB 13 (by decide) k_f_Mo_52 rfl d_Mo_raised_14 ?_
  refine w_cSv (n := 2) (As := [.ref (ad (138 + 42)), .ref (ad (138 + 48))]) (rest := []) X w hml hl.1 (c_Mo_copy hT (M := Mw1) (B := B) (a := 42) (b := 48) (by omega) (by omega) hW1) k_m_Mo_84 k_st_Mo_copy k_i_Mo k_co_Mo_copy (by decide +kernel) rfl ⟨Nat.le_of_ble_eq_true rfl, Nat.le_of_ble_eq_true rfl⟩ ⟨rfl, rfl⟩ ⟨Nat.zero_le _, Nat.zero_le _⟩ rfl (Nat.le_of_ble_eq_true rfl) d_Mo_raised_17 (fun C' H locs hp w => ?_)
  subst hp
  obtain ⟨Mw2, eMw2⟩ : ∃ mm : Nat → Nat → Int, mm = va_up Mw1 48 (Mw1 42) := ⟨_, rfl⟩
  rw [← eMw2] at w
  rw [a42] at eMw2
  have hW2 : WR Mw2 := by rw [eMw2]; exact hW1.up (hq9.1.ok hpr.2)
  refine lv_aload_n X.1 X.2.1 d_Mo_raised_20 rfl (lv_at hl 0 rfl) ?_
  refine m_get X hT w hB 14 (by decide) k_f_Mo_55 rfl d_Mo_raised_21 ?_
  refine w_cSv (n := 1) (As := [.ref (ad (138 + 49))]) (rest := []) X w hml hl.1 (c_Mo_clear hT (M := Mw2) (B := B) (a := 49) (by omega) hW2) k_m_Mo_69 k_st_Mo_clear k_i_Mo k_co_Mo_clear (by decide +kernel) rfl ⟨Nat.le_of_ble_eq_true rfl, Nat.le_of_ble_eq_true rfl⟩ ⟨rfl, rfl⟩ ⟨Nat.zero_le _, Nat.zero_le _⟩ rfl (Nat.le_of_ble_eq_true rfl) d_Mo_raised_24 (fun C' H locs hp w => ?_)
  subst hp
  obtain ⟨Mw3, eMw3⟩ : ∃ mm : Nat → Nat → Int, mm = va_up Mw2 49 (fun _ => 0) := ⟨_, rfl⟩
  rw [← eMw3] at w
  refine lv_aload_n X.1 X.2.1 d_Mo_raised_27 rfl (lv_at hl 0 rfl) ?_
  refine m_get X hT w hB 14 (by decide) k_f_Mo_55 rfl d_Mo_raised_28 ?_
  refine lv_iconst (v := iI (0)) X.1 X.2.1 d_Mo_raised_31 (by decide) ?_
  refine lv_iconst (v := iI (1)) X.1 X.2.1 d_Mo_raised_32 (by decide) ?_
  refine m_st (r := 49) (z := 0) (v := 1) X hT w (by omega) (0) (by omega) (by omega) d_Mo_raised_33 (fun H locs w => ?_)
  obtain ⟨Mw4, eMw4⟩ : ∃ mm : Nat → Nat → Int, mm = va_up Mw3 49 (va_up (Mw3 49) 0 (1)) := ⟨_, rfl⟩
  rw [← eMw4] at w
  refine lv_bipush (v := iI (30)) X.1 X.2.1 d_Mo_raised_34 (by decide) ?_
  refine lv_istore_n (lv' := [(3, .int (iI (30))), (0, .ref (ad (132))), (1, .int (iI (q))), (2, .ref (ad (138 + d)))]) X.1 X.2.1 d_Mo_raised_36 rfl hl (by decide) rfl (fun ls hl => ?_)
  have k49 : Mw4 49 = oneP := by
    rw [eMw4, va_up_self, eMw3, va_up_self]
    funext x
    unfold va_up oneP
    rfl
  have k48 : Mw4 48 = (dvm pr inv (M 48) (M d)).1 := by rw [eMw4, va_up_ne _ _ (by omega), eMw3, va_up_ne _ _ (by omega), eMw2, va_up_self]
  have hFw : ∀ r, r ≠ 41 → r ≠ 42 → r ≠ 43 → r ≠ 48 → r ≠ 49 → Mw4 r = M r := fun r r1 r2 r3 r8 r9 => by rw [eMw4, va_up_ne _ _ r9, eMw3, va_up_ne _ _ r9, eMw2, va_up_ne _ _ r8, eMw1, va_up_ne _ _ r2, va_up_ne _ _ r1]
  have kd : Mw4 d = M d := hFw d (by omega) (by omega) (by omega) (by omega) (by omega)
  have hW4 : WR Mw4 := by
    have hW3 : WR Mw3 := by rw [eMw3]; exact hW2.up (ok_0 _)
    have e4 : Mw4 = va_up Mw3 49 oneP := by
      funext r
      by_cases e9 : r = 49
      · rw [e9, k49, va_up_self]
      · rw [eMw4, va_up_ne _ _ e9, va_up_ne _ _ e9]
    rw [e4]
    exact hW3.up ((hone.mono (by omega)).ok hpr.2)
  exact l_Mo_raised (M := Mw4) (d := d) (q := q) (Z := (rsd pr inv (M 48) q (M d))) X hml hT hB hI hd hq (by rw [kd]; exact hMo) (by rw [kd]; exact hdd) (by rw [k48]; exact hb25) (fun M2 H locs ls w g1 g2 g3 g4 => w_vret X hr hlk w ⟨M2, rfl, g3, g1, by rw [g1]; exact g2, fun r r1 r2 r3 r8 r9 => by rw [g4 r r1 r2 r3 r9, hFw r r1 r2 r3 r8 r9]⟩ d_Mo_raised_122) 31 Mw4 _ _ _ (by omega) w (by rw [k49]; exact hone) (by rw [k49, k48, kd]; rfl) hW4 (fun _ _ _ _ _ => rfl) (lv_sub hl [1, 2, 3, 0] rfl)
